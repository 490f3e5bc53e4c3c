/-! signatures: the list of faces, in the model; finding one, in the class -/
def sgn (A : Mem) (f w : Nat) (sq : Nat → Nat) (i : Nat) : List Ft := fcs (sq i) (LLf A f (sq i)) 0 (if w = 0 then 2 * (LLf A f (sq i)).length else (LLf A f (sq i)).length)
def fwS (A : Mem) (f w : Nat) (sq : Nat → Nat) : Nat → Nat → List Ft
  | _, 0 => []
  | i, r + 1 => sgn A f w sq i ++ fwS A f w sq (i + 1) r
def bwS (A : Mem) (f : Nat) (sq : Nat → Nat) : Nat → List Ft
  | 0 => []
  | r + 1 => fcs (sq r) (LLf A f (sq r)) (LLf A f (sq r)).length (LLf A f (sq r)).length ++ bwS A f sq r
def tlS (A : Mem) (f w : Nat) (sq : Nat → Nat) (r : Nat) : List Ft := if w = 1 then bwS A f sq r else []
def sgT (A : Mem) (f w c : Nat) (sq : Nat → Nat) : List Ft := fwS A f w sq 0 c ++ tlS A f w sq c
theorem fwS_len {A : Mem} {f w : Nat} {sq : Nat → Nat} (hw : w ≤ 1) : ∀ (r i : Nat), tot A f sq i + (if w = 0 then (fwS A f w sq i r).length else 2 * (fwS A f w sq i r).length) = tot A f sq (i + r)
  | 0, i => by
    unfold fwS
    rw [List.length_nil]
    split <;> rfl
  | r + 1, i => by
    have ih := fwS_len (A := A) (f := f) (sq := sq) hw r (i + 1)
    have e : tot A f sq (i + 1) = tot A f sq i + 2 * (LLf A f (sq i)).length := rfl
    unfold fwS sgn
    rw [List.length_append, fcs_len, show i + (r + 1) = i + 1 + r by omega, ← ih, e]
    by_cases q : w = 0
    · rw [if_pos q, if_pos q, if_pos q]
      omega
    · rw [if_neg q, if_neg q, if_neg q]
      omega
theorem bwS_len {A : Mem} {f : Nat} {sq : Nat → Nat} : ∀ r, 2 * (bwS A f sq r).length = tot A f sq r
  | 0 => rfl
  | r + 1 => by
    have ih := bwS_len (A := A) (f := f) (sq := sq) r
    have e : tot A f sq (r + 1) = tot A f sq r + 2 * (LLf A f (sq r)).length := rfl
    unfold bwS
    rw [List.length_append, fcs_len, e, ← ih]
    omega
theorem sgT_len {A : Mem} {f w c : Nat} {sq : Nat → Nat} (hw : w ≤ 1) : (sgT A f w c sq).length = tot A f sq c := by
  have h1 := fwS_len (A := A) (f := f) (sq := sq) hw c 0
  have h2 := bwS_len (A := A) (f := f) (sq := sq) c
  have e : tot A f sq 0 = 0 := rfl
  rw [e, Nat.zero_add, Nat.zero_add] at h1
  unfold sgT tlS
  rw [List.length_append]
  rcases (show w = 0 ∨ w = 1 by omega) with rfl | rfl
  · rw [if_pos rfl] at h1
    rw [if_neg (by decide), List.length_nil]
    omega
  · rw [if_neg (by decide)] at h1
    rw [if_pos rfl]
    omega
theorem fwS_mem {A : Mem} {f w : Nat} {sq : Nat → Nat} {P : Ft → Prop} : ∀ (r i : Nat), (∀ j, i ≤ j → j < i + r → ∀ t, t ∈ sgn A f w sq j → P t) → ∀ t, t ∈ fwS A f w sq i r → P t
  | 0, i, _, t, ht => absurd ht (by unfold fwS; simp)
  | r + 1, i, h, t, ht => by
    unfold fwS at ht
    rcases List.mem_append.mp ht with ht | ht
    · exact h i (by omega) (by omega) t ht
    · exact fwS_mem r (i + 1) (fun j j1 j2 => h j (by omega) (by omega)) t ht
theorem bwS_mem {A : Mem} {f : Nat} {sq : Nat → Nat} {P : Ft → Prop} : ∀ (r : Nat), (∀ j, j < r → ∀ t, t ∈ fcs (sq j) (LLf A f (sq j)) (LLf A f (sq j)).length (LLf A f (sq j)).length → P t) → ∀ t, t ∈ bwS A f sq r → P t
  | 0, _, t, ht => absurd ht (by unfold bwS; simp)
  | r + 1, h, t, ht => by
    unfold bwS at ht
    rcases List.mem_append.mp ht with ht | ht
    · exact h r (by omega) t ht
    · exact bwS_mem r (fun j j1 => h j (by omega)) t ht
theorem sgT_ok {A I : Mem} {f w c ns : Nat} {sq : Nat → Nat} (h52 : I 52 = A 52) (h54 : I 54 = A 54) (hsq : ∀ j, j < c → sq j < ns) (hg : ∀ j, j < c → goodS A f I (sq j)) : ∀ t, t ∈ sgT A f w c sq → okt I ns t := by
  have key : ∀ j, j < c → ∀ a n, a + n ≤ 2 * (LLf A f (sq j)).length → ∀ t, t ∈ fcs (sq j) (LLf A f (sq j)) a n → okt I ns t := fun j hj a n han => by
    obtain ⟨h1, R, C, hR, hC, e52, e54, hlen, hP⟩ := hg j hj
    exact fcs_ok (hsq j hj) hR hC (by rw [h52, e52]) (by rw [h54, e54]) hP h1 han
  intro t ht
  unfold sgT tlS at ht
  rcases List.mem_append.mp ht with ht | ht
  · refine fwS_mem c 0 (fun j j1 j2 => ?_) t ht
    unfold sgn
    exact key j (by omega) _ _ (by split <;> omega)
  · by_cases q : w = 1
    · rw [if_pos q] at ht
      exact bwS_mem c (fun j j1 => key j j1 _ _ (by omega)) t ht
    · rw [if_neg q] at ht
      exact absurd ht (by simp)
-- the model's lists
theorem ROW_x {m m' : Mem} {j : Nat} {L : List Lf} (h : FX m m') (hr : ROW m j L) : ROW m' j L := by
  unfold ROW
  rw [h.1 132 (by decide) (by decide) (by decide) (by decide), h.1 133 (by decide) (by decide) (by decide) (by decide)]
  exact hr
theorem lp_155 {F : Nat} {S1 : AmT} {W m0 mB : Mem} {g i s n : Nat} {L : List Lf} {T : List Ft} {k114 : Int32 → Int32 → AmT → Option (Int32 × AmT)} {Q : Int32 → Mem → Prop} (hg : g < 4) (hi : i < 4) (hL : L.length ≤ 64) (hn : n ≤ 2 * L.length) (hT : T.length + n ≤ 2048) (e121 : m0 121 (4 * g + i) = nI s) (hB : ∀ o, 96 ≤ o → o ≤ 124 → mB o = m0 o) (hR : ROW mB i L) (H : ∀ S' m', My S1 S' m' W → FX mB m' → FA m' (T ++ fcs s L 0 n) → MG S1 W (k114 (nI g) (nI (i + 1)) S') Q) :
    ∀ (r k N : Nat) (S : AmT) (m : Mem), k + r = n → r < N → My S1 S m W → FX mB m → FA m (T ++ fcs s L 0 k) → MG S1 W (g261_155 F k114 N (nI g) (nI i) (nI n) (nI k) S) Q
  | r, k, 0, S, m, h1, h2, h3, h4, h5 => absurd h2 (by omega)
  | 0, k, N + 1, S, m, h1, h2, h3, h4, h5 => by
    have hk : k = n := by omega
    subst hk
    unfold g261_155
    rw [if_pos (Int32.le_refl _), nI_1]
    exact H S m h3 h4 h5
  | r + 1, k, N + 1, S, m, h1, h2, h3, h4, h5 => by
    obtain ⟨y, hy, hyL⟩ := L_at (L := L) (k := k) (by omega)
    have x121 : S.1 121 (4 * g + i) = nI s := by rw [My_rd h3 (mi_h (show 4 * g + i < 16 by omega)), h4.1 121 (by decide) (by decide) (by decide) (by decide), hB 121 (by omega) (by omega), e121]
    have x132 : S.1 132 (128 * i + k) = nI (fen y (k % 2)) := by rw [My_rd h3 (Or.inr (Or.inl (by omega))), (ROW_x h4 hR).2 k y (by omega) hy]
    unfold g261_155
    rw [if_neg (nI_ge (by omega) (by omega)), show (4 : Int32) * nI g + nI i = nI (4 * g + i) from by rw [show (4 : Int32) * nI g = nI (4 * g) from nI_mul 4 g, nI_add], show (128 : Int32) * nI i + nI k = nI (128 * i + k) from by rw [show (128 : Int32) * nI i = nI (128 * i) from nI_mul 128 i, nI_add], ck_at (by omega) (by omega), ck_at (by omega) (by omega), nI_clamp (by omega), nI_clamp (by omega), x121, x132]
    refine MG_259 h3 h5 (by rw [List.length_append, fcs_len]; omega) fun S' m' h' hx hFA => ?_
    rw [nI_1]
    refine lp_155 hg hi hL hn hT e121 hB hR H r (k + 1) N S' m' (by omega) (by omega) h' (FX_trans h4 hx) ?_
    rw [fcs_succ, Nat.zero_add, getD_of hy, ← List.append_assoc]
    exact hFA
theorem lp_236x {F : Nat} {S1 : AmT} {W m0 mB : Mem} {g i s : Nat} {L : List Lf} {T : List Ft} {k212 : Int32 → Int32 → AmT → Option (Int32 × AmT)} {Q : Int32 → Mem → Prop} (hg : g < 4) (hi : i < 4) (hL : L.length ≤ 64) (hT : T.length + L.length ≤ 2048) (e121 : m0 121 (4 * g + i) = nI s) (hB : ∀ o, 96 ≤ o → o ≤ 124 → mB o = m0 o) (hR : ROW mB i L) (H : ∀ S' m', My S1 S' m' W → FX mB m' → FA m' (T ++ fcs s L L.length L.length) → MG S1 W (k212 (nI g) (nI i - 1) S') Q) :
    ∀ (r k N : Nat) (S : AmT) (m : Mem), k + r = L.length → r < N → My S1 S m W → FX mB m → FA m (T ++ fcs s L L.length k) → MG S1 W (g261_236 F k212 N (nI g) (nI i) (nI (L.length + k)) S) Q
  | r, k, 0, S, m, h1, h2, h3, h4, h5 => absurd h2 (by omega)
  | 0, k, N + 1, S, m, h1, h2, h3, h4, h5 => by
    have hk : k = L.length := by omega
    subst hk
    have x133 : S.1 133 i = nI (2 * L.length) := by rw [My_rd h3 (Or.inr (Or.inl (by omega))), (ROW_x h4 hR).1]
    unfold g261_236
    rw [ck_at hi (by omega), nI_clamp (by omega), x133, if_pos (nI_le (by omega) (by omega)), show nI i + (-1) = nI i - 1 from (Int32.sub_eq_add_neg _ _).symm]
    exact H S m h3 h4 h5
  | r + 1, k, N + 1, S, m, h1, h2, h3, h4, h5 => by
    obtain ⟨y, hy, hyL⟩ := L_at (L := L) (k := L.length + k) (by omega)
    have x133 : S.1 133 i = nI (2 * L.length) := by rw [My_rd h3 (Or.inr (Or.inl (by omega))), (ROW_x h4 hR).1]
    have x121 : S.1 121 (4 * g + i) = nI s := by rw [My_rd h3 (mi_h (show 4 * g + i < 16 by omega)), h4.1 121 (by decide) (by decide) (by decide) (by decide), hB 121 (by omega) (by omega), e121]
    have x132 : S.1 132 (128 * i + (L.length + k)) = nI (fen y ((L.length + k) % 2)) := by rw [My_rd h3 (Or.inr (Or.inl (by omega))), (ROW_x h4 hR).2 (L.length + k) y (by omega) hy]
    unfold g261_236
    rw [ck_at hi (by omega), nI_clamp (n := i) (by omega), x133, if_neg (nI_ge (by omega) (by omega)), show (4 : Int32) * nI g + nI i = nI (4 * g + i) from by rw [show (4 : Int32) * nI g = nI (4 * g) from nI_mul 4 g, nI_add], show (128 : Int32) * nI i + nI (L.length + k) = nI (128 * i + (L.length + k)) from by rw [show (128 : Int32) * nI i = nI (128 * i) from nI_mul 128 i, nI_add], ck_at (by omega) (by omega), ck_at (by omega) (by omega), nI_clamp (by omega), nI_clamp (by omega), x121, x132]
    refine MG_259 h3 h5 (by rw [List.length_append, fcs_len]; omega) fun S' m' h' hx hFA => ?_
    rw [nI_1, Nat.add_assoc]
    refine lp_236x hg hi hL hT e121 hB hR H r (k + 1) N S' m' (by omega) (by omega) h' (FX_trans h4 hx) ?_
    rw [fcs_succ, getD_of hy, ← List.append_assoc]
    exact hFA
theorem nI_hlf {n : Nat} (h : n < 1000) : nI (2 * n) / 2 = nI n := by
  rw [(nI_dv2 (k := 2 * n) (by omega)).1]
  congr 1
  omega
theorem lp_212 {F : Nat} (hF : 6000 ≤ F) {S1 : AmT} {A W m0 : Mem} {ns g w c f : Nat} {sq : Nat → Nat} (hg : SGN A m0 ns g w c sq) (hl : ∀ j, j < c → (LLf A f (sq j)).length ≤ 64) :
    ∀ (r N : Nat) (S : AmT) (m : Mem) (T : List Ft), r ≤ c → r < N → My S1 S m W → (∀ o, 96 ≤ o → o ≤ 124 → m o = m0 o) → (∀ j, j < c → ROW m j (LLf A f (sq j))) → FA m T → T.length + (tlS A f w sq r).length ≤ 2048 → MG S1 W (g261_212 F N (nI g) (nI r - 1) S) (fun v m' => v = 0 ∧ FX m m' ∧ FA m' (T ++ tlS A f w sq r))
  | r, 0, S, m, T, h1, h2, h3, h4, h5, h6, h7 => absurd h2 (by omega)
  | 0, N + 1, S, m, T, h1, h2, h3, h4, h5, h6, h7 => by
    unfold g261_212
    rw [if_pos (by decide)]
    refine MG_ret h3 ⟨rfl, FX_refl m, ?_⟩
    have : tlS A f w sq 0 = [] := by
      unfold tlS bwS
      split <;> rfl
    rw [this, List.append_nil]
    exact h6
  | r + 1, N + 1, S, m, T, h1, h2, h3, h4, h5, h6, h7 => by
    obtain ⟨g4, w1, c4, e73, e119, e75, e120, hsq⟩ := id hg
    have x119 : S.1 119 g = nI w := by rw [My_rd h3 (mi_h (show g < 4 by omega)), h4 119 (by omega) (by omega), e119]
    have hlr := hl r (by omega)
    unfold g261_212
    rw [show nI (r + 1) - 1 = nI r from nI_sub (a := r + 1) (b := 1) (by omega), if_neg (nI_pos (by omega)), ck_at (by omega) (by omega), nI_clamp (n := g) (by omega), x119]
    by_cases q : w = 1
    · subst q
      have e : tlS A f 1 sq (r + 1) = fcs (sq r) (LLf A f (sq r)) (LLf A f (sq r)).length (LLf A f (sq r)).length ++ tlS A f 1 sq r := by
        unfold tlS
        rw [if_pos rfl, if_pos rfl]
        rfl
      rw [e, List.length_append, fcs_len] at h7
      rw [if_pos (show nI 1 = 1 from rfl), ck_at (by omega) (by omega), nI_clamp (by omega), My_rd h3 (Or.inr (Or.inl (by omega))), (h5 r (by omega)).1, nI_hlf (by omega), e]
      refine lp_236x (T := T) g4 (by omega) hlr (by omega) (hsq r (by omega)).2.2 h4 (h5 r (by omega)) (fun S' m' h' hx hFA => ?_) (LLf A f (sq r)).length 0 F S m (by omega) (by omega) h3 (FX_refl m) (by rw [show fcs (sq r) (LLf A f (sq r)) (LLf A f (sq r)).length 0 = [] from rfl, List.append_nil]; exact h6)
      obtain ⟨v, S2, m2, z1, z2, z3, z4, z5⟩ := lp_212 hF hg hl r N S' m' _ (by omega) (by omega) h' (fun o o1 o2 => by rw [hx.1 o (by omega) (by omega) (by omega) (by omega), h4 o o1 o2]) (fun j hj => ROW_x hx (h5 j hj)) hFA (by rw [List.length_append, fcs_len]; omega)
      exact ⟨v, S2, m2, z1, z2, z3, FX_trans hx z4, by rw [← List.append_assoc]; exact z5⟩
    · rw [if_neg (nI_ne1 q (by omega))]
      refine MG_ret h3 ⟨rfl, FX_refl m, ?_⟩
      have : tlS A f w sq (r + 1) = [] := by
        unfold tlS
        rw [if_neg q]
      rw [this, List.append_nil]
      exact h6
theorem lp_114 {F : Nat} (hF : 6000 ≤ F) {S1 : AmT} {A W m0 : Mem} {ns g w c f : Nat} {sq : Nat → Nat} (hg : SGN A m0 ns g w c sq) (hl : ∀ j, j < c → (LLf A f (sq j)).length ≤ 64) :
    ∀ (r i N : Nat) (S : AmT) (m : Mem) (T : List Ft), i + r = c → r < N → My S1 S m W → (∀ o, 96 ≤ o → o ≤ 124 → m o = m0 o) → (∀ j, j < c → ROW m j (LLf A f (sq j))) → FA m T → T.length + (fwS A f w sq i r).length + (tlS A f w sq c).length ≤ 2048 → MG S1 W (g261_114 F N (nI g) (nI i) S) (fun v m' => v = 0 ∧ FX m m' ∧ FA m' (T ++ (fwS A f w sq i r ++ tlS A f w sq c)))
  | r, i, 0, S, m, T, h1, h2, h3, h4, h5, h6, h7 => absurd h2 (by omega)
  | 0, i, N + 1, S, m, T, h1, h2, h3, h4, h5, h6, h7 => by
    obtain ⟨g4, w1, c4, e73, e119, e75, e120, hsq⟩ := id hg
    have x120 : S.1 120 g = nI c := by rw [My_rd h3 (mi_h (show g < 4 by omega)), h4 120 (by omega) (by omega), e120]
    have hi : i = c := by omega
    subst hi
    unfold g261_114
    rw [ck_at (by omega) (by omega), nI_clamp (by omega), x120, if_pos (Int32.le_refl _), ck_at (by omega) (by omega)]
    unfold fwS at h7 ⊢
    rw [List.length_nil] at h7
    rw [List.nil_append]
    exact lp_212 hF hg hl i F S m T (by omega) (by omega) h3 h4 h5 h6 (by omega)
  | r + 1, i, N + 1, S, m, T, h1, h2, h3, h4, h5, h6, h7 => by
    obtain ⟨g4, w1, c4, e73, e119, e75, e120, hsq⟩ := id hg
    have x120 : S.1 120 g = nI c := by rw [My_rd h3 (mi_h (show g < 4 by omega)), h4 120 (by omega) (by omega), e120]
    have x119 : S.1 119 g = nI w := by rw [My_rd h3 (mi_h (show g < 4 by omega)), h4 119 (by omega) (by omega), e119]
    have x133 : S.1 133 i = nI (2 * (LLf A f (sq i)).length) := by rw [My_rd h3 (Or.inr (Or.inl (by omega))), (h5 i (by omega)).1]
    have hli := hl i (by omega)
    have e : fwS A f w sq i (r + 1) = sgn A f w sq i ++ fwS A f w sq (i + 1) r := rfl
    have esl : (sgn A f w sq i).length = if w = 0 then 2 * (LLf A f (sq i)).length else (LLf A f (sq i)).length := fcs_len
    rw [e, List.length_append, esl] at h7
    have key : ∀ n, n = (if w = 0 then 2 * (LLf A f (sq i)).length else (LLf A f (sq i)).length) → MG S1 W (g261_150 F (fun x1 x3 S => g261_114 F N x1 x3 S) (nI g) (nI i) (nI n) S) (fun v m' => v = 0 ∧ FX m m' ∧ FA m' (T ++ (fwS A f w sq i (r + 1) ++ tlS A f w sq c))) := by
      intro n hn
      rw [← hn] at h7
      have hn2 : n ≤ 2 * (LLf A f (sq i)).length := by
        rw [hn]
        split <;> omega
      unfold g261_150
      refine lp_155 (T := T) g4 (by omega) hli hn2 (by omega) (hsq i (by omega)).2.2 h4 (h5 i (by omega)) (fun S' m' h' hx hFA => ?_) n 0 F S m (by omega) (by omega) h3 (FX_refl m) (by rw [show fcs (sq i) (LLf A f (sq i)) 0 0 = [] from rfl, List.append_nil]; exact h6)
      obtain ⟨v, S2, m2, z1, z2, z3, z4, z5⟩ := lp_114 hF hg hl r (i + 1) N S' m' _ (by omega) (by omega) h' (fun o o1 o2 => by rw [hx.1 o (by omega) (by omega) (by omega) (by omega), h4 o o1 o2]) (fun j hj => ROW_x hx (h5 j hj)) hFA (by rw [List.length_append, fcs_len]; omega)
      refine ⟨v, S2, m2, z1, z2, z3, FX_trans hx z4, ?_⟩
      rw [e, List.append_assoc (sgn A f w sq i), ← List.append_assoc T]
      unfold sgn
      rw [← hn]
      exact z5
    unfold g261_114
    rw [ck_at (by omega) (by omega), nI_clamp (n := g) (by omega), x120, if_neg (nI_ge (by omega) (by omega)), ck_at (by omega) (by omega), x119]
    by_cases q : w = 0
    · rw [if_pos (show nI w = 0 from by rw [q]; rfl), ck_at (by omega) (by omega), nI_clamp (by omega), x133]
      exact key _ (by rw [if_pos q])
    · rw [if_neg (nI_ne0 (by omega) (by omega)), ck_at (by omega) (by omega), nI_clamp (by omega), x133, nI_hlf (by omega)]
      exact key _ (by rw [if_neg q])
/-- foldSheets() and listSignature() -/
theorem sg {F : Nat} (hF : 6000 ≤ F) {A m0 : Mem} {nj nf ns ng nb f g w c tc : Nat} {sq : Nat → Nat} {S : AmT} (hC : Cur A m0 nj nf ns ng nb) (hf : f < nf) (hg : SGN A m0 ns g w c sq) (hA : ∀ o, kc o → S.1 o = A o) (h51 : S.1 5 1 = nI tc) (htc : tc + 128 ≤ 1900000) :
    ∃ v S' tc', f8 F (nI g) (nI f) S = some (v, S') ∧ Sh S S' ∧ S'.1 5 1 = nI tc' ∧ tc' ≤ tc + 128 ∧
      ((∃ e, (e = 7 ∨ e = 8) ∧ v = -10 - nI e ∧ ∀ (S1 : AmT) (W : Mem) (Sm : AmT) (m : Mem), My S1 Sm m W → (∀ o, 96 ≤ o → o ≤ 124 → m o = m0 o) → TR S m tc → MG S1 W (f261 F (nI g) (nI f) Sm) (fun v' m2 => (∀ o, 96 ≤ o → o ≤ 124 → m2 o = m0 o) ∧ (∀ j, 29 ≤ j → j ≤ 35 → m2 95 j = m 95 j) ∧ TR S' m2 tc' ∧ v' = nI e)) ∨
       (v = nI (sgT A f w c sq).length ∧ (sgT A f w c sq).length ≤ 512 ∧ (∀ j, j < c → goodS A f S'.1 (sq j)) ∧ (∀ s, goodS A f S.1 s → goodS A f S'.1 s) ∧ ∀ (S1 : AmT) (W : Mem) (Sm : AmT) (m : Mem) (T : List Ft), My S1 Sm m W → (∀ o, 96 ≤ o → o ≤ 124 → m o = m0 o) → FA m T → T.length + (sgT A f w c sq).length ≤ 2048 → TR S m tc → MG S1 W (f261 F (nI g) (nI f) Sm) (fun v' m2 => (∀ o, 96 ≤ o → o ≤ 124 → m2 o = m0 o) ∧ (∀ j, 29 ≤ j → j ≤ 35 → m2 95 j = m 95 j) ∧ TR S' m2 tc' ∧ v' = 0 ∧ FA m2 (T ++ sgT A f w c sq)))) := by
  obtain ⟨g4, w1, c4, -⟩ := id hg
  obtain ⟨v, S', tc', e1, e2, e3, e4, e5⟩ := fs hF hC hf hg c 0 F tc S (by omega) (by omega) hA h51 (by omega) (fun j hj => absurd hj (by omega))
  refine ⟨v, S', tc', e1, e2, e3, by omega, ?_⟩
  rcases e5 with ⟨e, he, hv, e6⟩ | ⟨hv, hgood, hkp, e6⟩
  · refine Or.inl ⟨e, he, hv, fun S1 W Sm m hy hm htr => ?_⟩
    unfold f261
    obtain ⟨v', S2, m2, x1, x2, x3, x4, x5⟩ := e6 S1 W Sm m F (by omega) hy hm htr
    exact ⟨v', S2, m2, x1, x2, fun o o1 o2 => by rw [x3.1 o (by omega) (by omega) (by omega) (by omega) (by omega) (by omega) (by omega), hm o o1 o2], fun j j1 j2 => x3.2 j (by omega) (by omega) (by omega) (by omega), x4, x5⟩
  · have hl : ∀ j, j < c → (LLf A f (sq j)).length ≤ 64 := fun j hj => (hgood j hj).1.1
    have hlen := sgT_len (A := A) (f := f) (c := c) (sq := sq) w1
    have htl := tot_le hl
    refine Or.inr ⟨by rw [hlen]; exact hv, by omega, hgood, hkp, fun S1 W Sm m T hy hm hFA hT htr => ?_⟩
    unfold f261
    refine e6 S1 W Sm m F _ (by omega) hy hm htr (fun j hj => absurd hj (by omega)) fun S2 m2 h2 x1 x2 x3 => ?_
    have hm2 : ∀ o, 96 ≤ o → o ≤ 124 → m2 o = m0 o := fun o o1 o2 => by rw [x1.1 o (by omega) (by omega) (by omega) (by omega) (by omega) (by omega) (by omega), hm o o1 o2]
    unfold sgT at hT
    rw [List.length_append] at hT
    obtain ⟨v', S3, m3, z1, z2, rfl, z4, z5⟩ := lp_114 hF hg hl c 0 F S2 m2 T (by omega) (by omega) h2 hm2 x3 (FA_congr (x1.2 47 (by omega) (by omega) (by omega) (by omega)) (x1.1 129 (by omega) (by omega) (by omega) (by omega) (by omega) (by omega) (by omega)) (x1.1 130 (by omega) (by omega) (by omega) (by omega) (by omega) (by omega) (by omega)) (x1.1 131 (by omega) (by omega) (by omega) (by omega) (by omega) (by omega) (by omega)) hFA) (by omega)
    refine ⟨0, S3, m3, z1, z2, fun o o1 o2 => by rw [z4.1 o (by omega) (by omega) (by omega) (by omega), hm2 o o1 o2], fun j j1 j2 => by rw [z4.2 j (by omega), x1.2 j (by omega) (by omega) (by omega) (by omega)], TR_m x2 (z4.2 36 (by omega)) (z4.1 125 (by omega) (by omega) (by omega) (by omega)), rfl, z5⟩
-- finding a face, in the class
def fndN (T : List Ft) (k : Nat) : Int32 := match T[k]? with
  | some t => nI (128 * t.1 + t.2.1)
  | none => -12
theorem fndN_app {a b : List Ft} {k : Nat} : fndN (a ++ b) k = if k < a.length then fndN a k else fndN b (k - a.length) := by
  unfold fndN
  by_cases q : k < a.length
  · rw [if_pos q, List.getElem?_append_left q]
  · rw [if_neg q, List.getElem?_append_right (by omega)]
theorem fndN_fcs {s a n k : Nat} {L : List Lf} (h : k < n) : fndN (fcs s L a n) k = nI (128 * s + (a + k)) := by
  obtain ⟨t, ht⟩ := at_ex (T := fcs s L a n) (k := k) (by rw [fcs_len]; exact h)
  obtain ⟨-, et⟩ := fcs_at ht
  unfold fndN
  rw [ht, et]
theorem f99_eq {F R C s : Nat} {S : AmT} (hs : s < 8) (e52 : S.1 52 s = nI R) (e54 : S.1 54 s = nI C) : f99 F (nI s) S = some (nI (R * C), S) := by
  unfold f99
  rw [kg_at (by omega) (by omega), kg_at (by omega) (by omega), e52, e54, nI_mul]
theorem f7_eq {F g i s : Nat} {S : AmT} (hg : g < 4) (hi : i < 4) (e : S.1 77 (4 * g + i) = nI s) : f7 F (nI g) (nI i) S = some (nI s, S) := by
  unfold f7
  rw [show nI g * 4 + nI i = nI (4 * g + i) from by rw [show nI g * 4 = nI (g * 4) from nI_mul _ 4, nI_add, Nat.mul_comm], kg_at (by omega) (by omega), e]
theorem lp_9b {F : Nat} (hF : 6000 ≤ F) {A m0 : Mem} {ns g w c f : Nat} {sq : Nat → Nat} {S : AmT} (hns : ns ≤ 8) (hg : SGN A m0 ns g w c sq) (hA : ∀ o, kc o → o ≠ 58 → S.1 o = A o) (hgd : ∀ j, j < c → goodS A f S.1 (sq j)) :
    ∀ (r N k : Nat), r ≤ c → r < N → k < 2147483648 → g9_110 F N (nI g) (nI w) (nI k) (nI r - 1) S = some (fndN (tlS A f w sq r) k, S)
  | r, 0, k, h1, h2, h3 => absurd h2 (by omega)
  | r, N + 1, k, h1, h2, h3 => by
    obtain ⟨g4, w1, c4, e73, e119, e75, e120, hsq⟩ := id hg
    by_cases q : w = 0
    · have e : tlS A f w sq r = [] := by
        unfold tlS
        rw [if_neg (by omega)]
      unfold g9_110
      rw [if_pos (show nI w = 0 from by rw [q]; rfl), e]
      rfl
    · have hw : w = 1 := by omega
      subst hw
      unfold g9_110
      rw [if_neg (by decide)]
      cases r with
      | zero =>
        rw [if_pos (by decide)]
        rfl
      | succ r =>
        obtain ⟨hs, e77, -⟩ := hsq r (by omega)
        obtain ⟨g1, R, C, hR, hC, e52, e54, hlen, -⟩ := hgd r (by omega)
        have hl := g1.1
        rw [show nI (r + 1) - 1 = nI r from nI_sub (a := r + 1) (b := 1) (by omega), if_neg (nI_pos (by omega)), f7_eq g4 (by omega) (by rw [hA 77 (by omega) (by omega), e77]), b2_at, f99_eq (by omega) (by rw [hA 52 (by omega) (by omega), e52]) (by rw [hA 54 (by omega) (by omega), e54]), b2_at, ← hlen]
        have e : tlS A f 1 sq (r + 1) = fcs (sq r) (LLf A f (sq r)) (LLf A f (sq r)).length (LLf A f (sq r)).length ++ tlS A f 1 sq r := by
          unfold tlS
          rw [if_pos rfl, if_pos rfl]
          rfl
        rw [e, fndN_app, fcs_len]
        by_cases c1 : k < (LLf A f (sq r)).length
        · rw [if_neg (nI_ge c1 (by omega)), if_pos c1, fndN_fcs c1]
          rw [show nI (sq r) * 128 = nI (sq r * 128) from nI_mul _ 128, nI_add, nI_add, Nat.mul_comm, Nat.add_assoc]
        · rw [if_pos (nI_le (by omega) h3), if_neg c1, nI_sub (by omega), show nI r + (-1) = nI r - 1 from (Int32.sub_eq_add_neg _ _).symm]
          exact lp_9b hF hns hg hA hgd r N (k - (LLf A f (sq r)).length) (by omega) (by omega) (by omega)
theorem lp_9a {F : Nat} (hF : 6000 ≤ F) {A m0 : Mem} {ns g w c f : Nat} {sq : Nat → Nat} {S : AmT} (hns : ns ≤ 8) (hg : SGN A m0 ns g w c sq) (hA : ∀ o, kc o → o ≠ 58 → S.1 o = A o) (hgd : ∀ j, j < c → goodS A f S.1 (sq j)) :
    ∀ (r i N k : Nat), i + r = c → r < N → k < 2147483648 → g9_29 F N (nI g) (nI w) (nI c) (nI k) (nI i) S = some (fndN (fwS A f w sq i r ++ tlS A f w sq c) k, S)
  | r, i, 0, k, h1, h2, h3 => absurd h2 (by omega)
  | 0, i, N + 1, k, h1, h2, h3 => by
    obtain ⟨g4, w1, c4, -⟩ := id hg
    have hi : i = c := by omega
    subst hi
    unfold g9_29
    rw [if_pos (Int32.le_refl _)]
    exact lp_9b hF hns hg hA hgd i F k (by omega) (by omega) h3
  | r + 1, i, N + 1, k, h1, h2, h3 => by
    obtain ⟨g4, w1, c4, e73, e119, e75, e120, hsq⟩ := id hg
    obtain ⟨hs, e77, -⟩ := hsq i (by omega)
    obtain ⟨g1, R, C, hR, hC, e52, e54, hlen, -⟩ := hgd i (by omega)
    have hl := g1.1
    have e99 := f99_eq (F := F) (S := S) (s := sq i) (by omega) (by rw [hA 52 (by omega) (by omega), e52]) (by rw [hA 54 (by omega) (by omega), e54])
    rw [← hlen] at e99
    have e : fwS A f w sq i (r + 1) = sgn A f w sq i ++ fwS A f w sq (i + 1) r := rfl
    have key : ∀ n, n = (if w = 0 then 2 * (LLf A f (sq i)).length else (LLf A f (sq i)).length) → g9_72 F (fun x1 x3 x4 x5 x6 S => g9_29 F N x1 x3 x4 x5 x6 S) (nI g) (nI w) (nI c) (nI k) (nI i) (nI (sq i)) (nI n) S = some (fndN (fwS A f w sq i (r + 1) ++ tlS A f w sq c) k, S) := by
      intro n hn
      have hn2 : n ≤ 128 := by
        rw [hn]
        split <;> omega
      unfold g9_72
      rw [e, List.append_assoc, fndN_app]
      unfold sgn
      rw [fcs_len, ← hn]
      by_cases c1 : k < n
      · rw [if_neg (nI_ge c1 (by omega)), if_pos c1, fndN_fcs c1]
        rw [show nI (sq i) * 128 = nI (sq i * 128) from nI_mul _ 128, nI_add, Nat.mul_comm, Nat.zero_add]
      · rw [if_pos (nI_le (by omega) h3), if_neg c1, nI_sub (by omega), nI_1]
        exact lp_9a hF hns hg hA hgd r (i + 1) N (k - n) (by omega) (by omega) (by omega)
    unfold g9_29
    rw [if_neg (nI_ge (by omega) (by omega)), f7_eq g4 (by omega) (by rw [hA 77 (by omega) (by omega), e77]), b2_at, e99, b2_at, b2_at]
    by_cases q : w = 0
    · rw [if_pos (show nI w = 0 from by rw [q]; rfl), show (2 : Int32) * nI (LLf A f (sq i)).length = nI (2 * (LLf A f (sq i)).length) from nI_mul 2 _]
      exact key _ (by rw [if_pos q])
    · rw [if_neg (nI_ne0 (by omega) (by omega))]
      exact key _ (by rw [if_neg q])
/-- findFace() -/
def fnd (T : List Ft) (x : Int32) : Int32 := if x < 0 then -12 else fndN T x.toNatClampNeg
theorem f9_eq {F : Nat} (hF : 6000 ≤ F) {A m0 : Mem} {ns g w c f : Nat} {sq : Nat → Nat} {S : AmT} {x : Int32} (hns : ns ≤ 8) (hg : SGN A m0 ns g w c sq) (hA : ∀ o, kc o → o ≠ 58 → S.1 o = A o) (hgd : ∀ j, j < c → goodS A f S.1 (sq j)) : f9 F (nI g) x S = some (fnd (sgT A f w c sq) x, S) := by
  obtain ⟨g4, w1, c4, e73, e119, e75, e120, hsq⟩ := id hg
  unfold f9 fnd
  by_cases q : x < 0
  · rw [if_neg (Int32.not_le.mpr q), if_pos q]
  · rw [if_pos (Int32.not_lt.mp q), if_neg q]
    obtain ⟨k, hk, rfl⟩ := nI_of q
    rw [nI_clamp hk]
    unfold f5
    have e5 : (if kg S.1 73 4 (nI g) = 1 then (some ((1 : Int32), S)) else some (0, S)) = some (nI w, S) := by
      rw [kg_at (by omega) (by omega), hA 73 (by omega) (by omega), e73]
      rcases (show w = 0 ∨ w = 1 by omega) with rfl | rfl
      · rw [if_neg (by decide)]
        rfl
      · rw [if_pos (show nI 1 = 1 from rfl)]
        rfl
    rw [e5, b2_at, kg_at (by omega) (by omega), hA 75 (by omega) (by omega), e75]
    exact lp_9a hF hns hg hA hgd c 0 F k (by omega) (by omega) hk
