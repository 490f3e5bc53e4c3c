/-! folding: a plain fold, in the class -/
theorem pigeon : ∀ (n : Nat) (L : List Nat), L.Nodup → (∀ x, x ∈ L → x < n) → L.length ≤ n
  | 0, L, _, h => by
    cases L with
    | nil => simp
    | cons a r => exact absurd (h a List.mem_cons_self) (by omega)
  | n + 1, L, h1, h2 => by
    by_cases q : n ∈ L
    · have := pigeon n (L.erase n) (h1.erase n) (fun x hx => by
        have e := (List.Nodup.mem_erase_iff h1).mp hx
        have := h2 x e.2
        have := e.1
        omega)
      rw [List.length_erase_of_mem q] at this
      omega
    · have := pigeon n L h1 (fun x hx => by
        have h3 := h2 x hx
        have h4 : x ≠ n := fun z => q (z ▸ hx)
        omega)
      omega
theorem chn_mem {b l : Nat → Int32} {y : Lf} : ∀ (L : List Lf) (x : Int32), chn b l x L → y ∈ L → y.1 < 64 ∧ y.2 < 4
  | [], _, _, h => absurd h (by simp)
  | z :: r, x, h, hy => by
    obtain ⟨h1, h2, h3, h4, h5⟩ := h
    rcases List.mem_cons.mp hy with hy | hy
    · subst hy
      exact ⟨h2, h3⟩
    · exact chn_mem r _ h5 hy
theorem CV_len {I : Mem} {ax sr sc lines n l t : Nat} {liv : Nat → Nat → Prop} {V : Nat → Nat → List Lf} (h : CV I ax sr sc lines n liv V) (hl : l < lines) (ht : t < n) (hlt : liv l t) : (V l t).length ≤ 64 ∧ ∀ y, y ∈ V l t → y.1 < 64 ∧ y.2 < 4 := by
  obtain ⟨live, pl, own, hLV, hV⟩ := h
  obtain ⟨a1, a2⟩ := hV l t hl ht hlt
  obtain ⟨-, b2, -, b4⟩ := hLV _ a1
  rw [a2] at b2 b4
  refine ⟨?_, fun y hy => chn_mem _ _ b2 hy⟩
  have := pigeon 64 _ b4 (fun x hx => by
    obtain ⟨y, hy, hy2⟩ := List.mem_map.mp hx
    rw [← hy2]
    exact (chn_mem _ _ b2 hy).1)
  rwa [List.length_map] at this
theorem CV_mono {I : Mem} {ax sr sc lines n : Nat} {liv liv' : Nat → Nat → Prop} {V : Nat → Nat → List Lf} (h : CV I ax sr sc lines n liv V) (hl : ∀ l t, liv' l t → liv l t) : CV I ax sr sc lines n liv' V := by
  obtain ⟨live, pl, own, hLV, hV⟩ := h
  exact ⟨live, pl, own, hLV, fun l t h1 h2 h3 => hV l t h1 h2 (hl l t h3)⟩
-- the piles that come over, one after another
def Vs (fl : Nat) (src dst : Nat → Nat) (V : Nat → Nat → List Lf) : Nat → Nat → Nat → List Lf
  | 0 => V
  | j + 1 => trn fl (src j) (dst j) (Vs fl src dst V j)
theorem Vs_mono {fl : Nat} {src dst : Nat → Nat} {V : Nat → Nat → List Lf} {l t j : Nat} : ∀ d, (Vs fl src dst V j l t).length ≤ (Vs fl src dst V (j + d) l t).length
  | 0 => Nat.le_refl _
  | d + 1 => by
    refine Nat.le_trans (Vs_mono d) ?_
    show _ ≤ (trn fl (src (j + d)) (dst (j + d)) (Vs fl src dst V (j + d)) l t).length
    unfold trn
    by_cases q : t = dst (j + d)
    · rw [if_pos q, mvl_len, q]
      omega
    · rw [if_neg q]
      exact Nat.le_refl _
def osr (k w j : Nat) : Nat := if k = 1 then w + j else if k = 2 then (if j < w then 2 * w + j else w - 1 - (j - w)) else (if j % 2 = 0 then w - 1 - j / 2 else 3 * w + j / 2)
def ods (k w j : Nat) : Nat := if k = 1 then w - 1 - j else if k = 2 then (if j < w then 2 * w - 1 - j else w + (j - w)) else (if j % 2 = 0 then w + j / 2 else 3 * w - 1 - j / 2)
def ocn (k w : Nat) : Nat := if k = 1 then w else 2 * w
def osk (k w : Nat) : Nat := if k = 1 then 0 else w
def olf (k w : Nat) : Nat := if k = 3 then 2 * w else w
theorem o_ok {k w j : Nat} (hk : 1 ≤ k ∧ k ≤ 3) (hj : j < ocn k w) : osr k w j < (k + 1) * w ∧ ods k w j < (k + 1) * w ∧ osr k w j ≠ ods k w j ∧ ∀ i, i < j → osr k w j ≠ osr k w i ∧ ods k w j ≠ osr k w i := by
  unfold ocn at hj
  unfold osr ods
  rcases (show k = 1 ∨ k = 2 ∨ k = 3 by omega) with rfl | rfl | rfl
  · simp only [if_true] at hj ⊢
    refine ⟨by omega, by omega, by omega, fun i hi => ⟨by omega, by omega⟩⟩
  · simp only [show ¬ (2 : Nat) = 1 by omega, if_false, if_true] at hj ⊢
    refine ⟨?_, ?_, ?_, fun i hi => ⟨?_, ?_⟩⟩ <;> (repeat' split) <;> omega
  · simp only [show ¬ (3 : Nat) = 1 by omega, show ¬ (3 : Nat) = 2 by omega, if_false] at hj ⊢
    refine ⟨?_, ?_, ?_, fun i hi => ⟨?_, ?_⟩⟩ <;> (repeat' split) <;> omega
theorem o_win {k w t : Nat} (hk : 1 ≤ k ∧ k ≤ 3) (ht : t < olf k w) : osk k w + t < (k + 1) * w ∧ ∀ i, i < ocn k w → osk k w + t ≠ osr k w i := by
  unfold olf at ht
  unfold osk ocn osr
  rcases (show k = 1 ∨ k = 2 ∨ k = 3 by omega) with rfl | rfl | rfl
  · simp only [show ¬ (1 : Nat) = 3 by omega, if_false, if_true] at ht ⊢
    refine ⟨by omega, fun i hi => by omega⟩
  · simp only [show ¬ (2 : Nat) = 3 by omega, show ¬ (2 : Nat) = 1 by omega, if_false, if_true] at ht ⊢
    refine ⟨by omega, fun i hi => ?_⟩
    split <;> omega
  · simp only [show ¬ (3 : Nat) = 1 by omega, show ¬ (3 : Nat) = 2 by omega, if_false, if_true] at ht ⊢
    refine ⟨by omega, fun i hi => ?_⟩
    split <;> omega
theorem o_sl {k w : Nat} (hk : 1 ≤ k ∧ k ≤ 3) : osk k w + olf k w ≤ (k + 1) * w := by
  unfold osk olf
  rcases (show k = 1 ∨ k = 2 ∨ k = 3 by omega) with rfl | rfl | rfl
  · simp only [show ¬ (1 : Nat) = 3 by omega, if_false, if_true]
    omega
  · simp only [show ¬ (2 : Nat) = 3 by omega, show ¬ (2 : Nat) = 1 by omega, if_false]
    omega
  · simp only [show ¬ (3 : Nat) = 1 by omega, if_false, if_true]
    omega
def CB (S0 S : AmT) (ax sr sc lines n : Nat) (src dst : Nat → Nat) (V : Nat → Nat → List Lf) (j : Nat) : Prop := F3 S0 S ∧ CV S.1 ax sr sc lines n (fun _ t => ∀ i, i < j → t ≠ src i) (Vs (flx ax) src dst V j)
theorem cb_step {F : Nat} (hF : 6000 ≤ F) {ax sr sc lines n k w : Nat} {V : Nat → Nat → List Lf} {S0 S : AmT} {j : Nat} (hax : ax ≤ 1) (hb : bnd ax sr sc lines n) (hlines : lines ≤ 8) (hk : 1 ≤ k ∧ k ≤ 3) (hn : n = (k + 1) * w) (hj : j < ocn k w) (g0 : S0.1 25 0 = nI sr) (g1 : S0.1 25 1 = nI sc) (g2 : S0.1 26 (if ax = 0 then 1 else 0) = nI lines) (h : CB S0 S ax sr sc lines n (osr k w) (ods k w) V j) {x y : Int32} (hx : x = nI (osr k w j)) (hy : y = nI (ods k w j)) :
    ∃ S', f77 F (nI ax) x y S = some S' ∧ CB S0 S' ax sr sc lines n (osr k w) (ods k w) V (j + 1) := by
  subst hx hy
  obtain ⟨o1, o2, o3, o4⟩ := o_ok hk hj
  rw [← hn] at o1 o2
  obtain ⟨h1, h2⟩ := h
  obtain ⟨S', e1, e2, e3⟩ := f77_ok hF (S := S) hax hb hlines o1 o2 o3 (fun l hl => ⟨fun i hi => (o4 i hi).1, fun i hi => (o4 i hi).2⟩) (fun l hl => (CV_len h2 hl o1 (fun i hi => (o4 i hi).1)).1) (by rw [h1.2 25 (by decide) (by decide) (by decide)]; exact g0) (by rw [h1.2 25 (by decide) (by decide) (by decide)]; exact g1) (by rw [h1.2 26 (by decide) (by decide) (by decide)]; exact g2) h2
  refine ⟨S', e1, F3_trans h1 e2, CV_mono e3 fun l t ht => ⟨fun i hi => ht i (by omega), ht j (by omega)⟩⟩
theorem lp_72 {F : Nat} (hF : 6000 ≤ F) {ax sr sc lines n w : Nat} {V : Nat → Nat → List Lf} {S0 : AmT} (hax : ax ≤ 1) (hb : bnd ax sr sc lines n) (hlines : lines ≤ 8) (hn : n = 2 * w) (hn8 : n ≤ 8) (g0 : S0.1 25 0 = nI sr) (g1 : S0.1 25 1 = nI sc) (g2 : S0.1 26 (if ax = 0 then 1 else 0) = nI lines) :
    ∀ (m j : Nat) (S : AmT), j ≤ w → w < m + j → CB S0 S ax sr sc lines n (osr 1 w) (ods 1 w) V j → ∃ S1, CB S0 S1 ax sr sc lines n (osr 1 w) (ods 1 w) V (ocn 1 w) ∧ g72_24 F m (nI ax) (nI w) (nI j) S = f76 F (nI ax) (nI (osk 1 w)) (nI (olf 1 w)) S1
  | 0, j, S, h1, h2, h3 => absurd h2 (by omega)
  | m + 1, j, S, h1, h2, h3 => by
    unfold g72_24
    by_cases q : j = w
    · subst q
      rw [if_pos (nI_le (Nat.le_refl _) (by omega)), b2_id]
      exact ⟨S, h3, rfl⟩
    · rw [if_neg (nI_ge (by omega) (by omega)), nI_add, show nI w - 1 = nI (w - 1) from nI_sub (b := 1) (by omega), nI_sub (by omega)]
      obtain ⟨S', e1, e2⟩ := cb_step hF (k := 1) hax hb hlines (by omega) hn (show j < w by omega) g0 g1 g2 h3 rfl rfl
      rw [show nI (w + j) = nI (osr 1 w j) from rfl, show nI (w - 1 - j) = nI (ods 1 w j) from rfl, e1, bind_at, nI_1]
      exact lp_72 hF hax hb hlines hn hn8 g0 g1 g2 m (j + 1) S' (by omega) (by omega) e2
theorem lp_73b {F : Nat} (hF : 6000 ≤ F) {ax sr sc lines n w : Nat} {V : Nat → Nat → List Lf} {S0 : AmT} (hax : ax ≤ 1) (hb : bnd ax sr sc lines n) (hlines : lines ≤ 8) (hn : n = 3 * w) (hn8 : n ≤ 8) (g0 : S0.1 25 0 = nI sr) (g1 : S0.1 25 1 = nI sc) (g2 : S0.1 26 (if ax = 0 then 1 else 0) = nI lines) :
    ∀ (m j : Nat) (S : AmT), j ≤ w → w < m + j → CB S0 S ax sr sc lines n (osr 2 w) (ods 2 w) V (w + j) → ∃ S1, CB S0 S1 ax sr sc lines n (osr 2 w) (ods 2 w) V (ocn 2 w) ∧ g73_54 F m (nI ax) (nI w) (nI j) S = f76 F (nI ax) (nI (osk 2 w)) (nI (olf 2 w)) S1
  | 0, j, S, h1, h2, h3 => absurd h2 (by omega)
  | m + 1, j, S, h1, h2, h3 => by
    unfold g73_54
    by_cases q : j = w
    · subst q
      rw [if_pos (nI_le (Nat.le_refl _) (by omega)), b2_id]
      rw [show j + j = ocn 2 j from (Nat.two_mul j).symm] at h3
      exact ⟨S, h3, rfl⟩
    · rw [if_neg (nI_ge (by omega) (by omega)), nI_add, show nI w - 1 = nI (w - 1) from nI_sub (b := 1) (by omega), nI_sub (by omega)]
      have eo : w - 1 - j = osr 2 w (w + j) := by
        unfold osr
        rw [if_neg (by omega), if_pos rfl, if_neg (by omega), Nat.add_sub_cancel_left]
      have ed : w + j = ods 2 w (w + j) := by
        unfold ods
        rw [if_neg (by omega), if_pos rfl, if_neg (by omega), Nat.add_sub_cancel_left]
      obtain ⟨S', e1, e2⟩ := cb_step hF (k := 2) (j := w + j) hax hb hlines (by omega) hn (show w + j < 2 * w by omega) g0 g1 g2 h3 (congrArg nI eo) (congrArg nI ed)
      rw [e1, bind_at, nI_1]
      exact lp_73b hF hax hb hlines hn hn8 g0 g1 g2 m (j + 1) S' (by omega) (by omega) e2
theorem lp_73 {F : Nat} (hF : 6000 ≤ F) {ax sr sc lines n w : Nat} {V : Nat → Nat → List Lf} {S0 : AmT} (hax : ax ≤ 1) (hb : bnd ax sr sc lines n) (hlines : lines ≤ 8) (hn : n = 3 * w) (hn8 : n ≤ 8) (g0 : S0.1 25 0 = nI sr) (g1 : S0.1 25 1 = nI sc) (g2 : S0.1 26 (if ax = 0 then 1 else 0) = nI lines) :
    ∀ (m j : Nat) (S : AmT), j ≤ w → w < m + j → CB S0 S ax sr sc lines n (osr 2 w) (ods 2 w) V j → ∃ S1, CB S0 S1 ax sr sc lines n (osr 2 w) (ods 2 w) V (ocn 2 w) ∧ g73_24 F m (nI ax) (nI w) (nI j) S = f76 F (nI ax) (nI (osk 2 w)) (nI (olf 2 w)) S1
  | 0, j, S, h1, h2, h3 => absurd h2 (by omega)
  | m + 1, j, S, h1, h2, h3 => by
    unfold g73_24
    by_cases q : j = w
    · subst q
      rw [if_pos (nI_le (Nat.le_refl _) (by omega))]
      exact lp_73b hF hax hb hlines hn hn8 g0 g1 g2 F 0 S (by omega) (by omega) h3
    · rw [if_neg (nI_ge (by omega) (by omega)), show (2 : Int32) * nI w = nI (2 * w) from nI_mul 2 w, nI_add, show nI (2 * w) - 1 = nI (2 * w - 1) from nI_sub (b := 1) (by omega), nI_sub (by omega)]
      obtain ⟨S', e1, e2⟩ := cb_step hF (k := 2) hax hb hlines (by omega) hn (show j < 2 * w by omega) g0 g1 g2 h3 rfl rfl
      rw [show 2 * w + j = osr 2 w j from by
        unfold osr
        rw [if_neg (by omega), if_pos rfl, if_pos (by omega)], show 2 * w - 1 - j = ods 2 w j from by
        unfold ods
        rw [if_neg (by omega), if_pos rfl, if_pos (by omega)], e1, bind_at, nI_1]
      exact lp_73 hF hax hb hlines hn hn8 g0 g1 g2 m (j + 1) S' (by omega) (by omega) e2
theorem lp_74 {F : Nat} (hF : 6000 ≤ F) {ax sr sc lines n w : Nat} {V : Nat → Nat → List Lf} {S0 : AmT} (hax : ax ≤ 1) (hb : bnd ax sr sc lines n) (hlines : lines ≤ 8) (hn : n = 4 * w) (hn8 : n ≤ 8) (g0 : S0.1 25 0 = nI sr) (g1 : S0.1 25 1 = nI sc) (g2 : S0.1 26 (if ax = 0 then 1 else 0) = nI lines) :
    ∀ (m j : Nat) (S : AmT), j ≤ w → w < m + j → CB S0 S ax sr sc lines n (osr 3 w) (ods 3 w) V (2 * j) → ∃ S1, CB S0 S1 ax sr sc lines n (osr 3 w) (ods 3 w) V (ocn 3 w) ∧ g74_24 F m (nI ax) (nI w) (nI j) S = f76 F (nI ax) (nI (osk 3 w)) (nI (olf 3 w)) S1
  | 0, j, S, h1, h2, h3 => absurd h2 (by omega)
  | m + 1, j, S, h1, h2, h3 => by
    unfold g74_24
    by_cases q : j = w
    · subst q
      rw [if_pos (nI_le (Nat.le_refl _) (by omega)), b2_id, show (2 : Int32) * nI j = nI (2 * j) from nI_mul 2 j]
      exact ⟨S, h3, rfl⟩
    · rw [if_neg (nI_ge (by omega) (by omega)), nI_add, show nI w - 1 = nI (w - 1) from nI_sub (b := 1) (by omega), nI_sub (by omega), show (3 : Int32) * nI w = nI (3 * w) from nI_mul 3 w, nI_add, show nI (3 * w) - 1 = nI (3 * w - 1) from nI_sub (b := 1) (by omega), nI_sub (by omega)]
      obtain ⟨S', e1, e2⟩ := cb_step hF (k := 3) (j := 2 * j) hax hb hlines (by omega) hn (show 2 * j < 2 * w by omega) g0 g1 g2 h3 rfl rfl
      obtain ⟨S'', e3, e4⟩ := cb_step hF (k := 3) (j := 2 * j + 1) hax hb hlines (by omega) hn (show 2 * j + 1 < 2 * w by omega) g0 g1 g2 e2 rfl rfl
      rw [show w - 1 - j = osr 3 w (2 * j) from by
        unfold osr
        rw [if_neg (by omega), if_neg (by omega), if_pos (by omega), show 2 * j / 2 = j by omega], show w + j = ods 3 w (2 * j) from by
        unfold ods
        rw [if_neg (by omega), if_neg (by omega), if_pos (by omega), show 2 * j / 2 = j by omega], show 3 * w + j = osr 3 w (2 * j + 1) from by
        unfold osr
        rw [if_neg (by omega), if_neg (by omega), if_neg (by omega), show (2 * j + 1) / 2 = j by omega], show 3 * w - 1 - j = ods 3 w (2 * j + 1) from by
        unfold ods
        rw [if_neg (by omega), if_neg (by omega), if_neg (by omega), show (2 * j + 1) / 2 = j by omega], e1, bind_at, e3, bind_at, nI_1]
      exact lp_74 hF hax hb hlines hn hn8 g0 g1 g2 m (j + 1) S'' (by omega) (by omega) (by rw [show 2 * (j + 1) = 2 * j + 1 + 1 by omega]; exact e4)
-- the grid, and what a plain fold makes of it
def vw (ax : Nat) (G : Nat → Nat → List Lf) : Nat → Nat → List Lf := fun l t => if ax = 0 then G t l else G l t
def an (ax R C : Nat) : Nat := if ax = 0 then R else C
def al (ax R C : Nat) : Nat := if ax = 0 then C else R
def bV (ax k w : Nat) (V : Nat → Nat → List Lf) : Nat → Nat → List Lf := fun l t => Vs (flx ax) (osr k w) (ods k w) V (ocn k w) l (osk k w + t)
def bG (ax k w : Nat) (G : Nat → Nat → List Lf) : Nat → Nat → List Lf := vw ax (bV ax k w (vw ax G))
def bR (ax k w R : Nat) : Nat := if ax = 0 then olf k w else R
def bC (ax k w C : Nat) : Nat := if ax = 0 then C else olf k w
-- how high the piles are
def cnt (k w : Nat) : Nat → Nat → Nat
  | 0, _ => 0
  | j + 1, t => cnt k w j t + if t = ods k w j then 1 else 0
def kpp (k : Nat) : Nat := if k = 2 then 2 else 1
theorem cnt_all {k w t : Nat} (hk : 1 ≤ k ∧ k ≤ 3) (hn : (k + 1) * w ≤ 8) (ht : t < olf k w) : cnt k w (ocn k w) (osk k w + t) = kpp k := by
  have h1 : ∀ w : Fin 5, ∀ t : Fin 5, t.val < olf 1 w → cnt 1 w (ocn 1 w) (osk 1 w + t) = 1 := by decide
  have h2 : ∀ w : Fin 3, ∀ t : Fin 3, t.val < olf 2 w → cnt 2 w (ocn 2 w) (osk 2 w + t) = 2 := by decide
  have h3 : ∀ w : Fin 3, ∀ t : Fin 5, t.val < olf 3 w → cnt 3 w (ocn 3 w) (osk 3 w + t) = 1 := by decide
  rcases (show k = 1 ∨ k = 2 ∨ k = 3 by omega) with rfl | rfl | rfl
  · have ht' : t < w := ht
    exact h1 ⟨w, by omega⟩ ⟨t, by omega⟩ ht
  · have ht' : t < w := ht
    exact h2 ⟨w, by omega⟩ ⟨t, by omega⟩ ht
  · have ht' : t < 2 * w := ht
    exact h3 ⟨w, by omega⟩ ⟨t, by omega⟩ ht
theorem o_dst {k w i : Nat} (hk : 1 ≤ k ∧ k ≤ 3) (hi : i < ocn k w) : osk k w ≤ ods k w i ∧ ods k w i < osk k w + olf k w := by
  unfold ocn at hi
  unfold osk olf ods
  rcases (show k = 1 ∨ k = 2 ∨ k = 3 by omega) with rfl | rfl | rfl
  · simp only [show ¬ (1 : Nat) = 3 by omega, if_false, if_true] at hi ⊢
    omega
  · simp only [show ¬ (2 : Nat) = 3 by omega, show ¬ (2 : Nat) = 1 by omega, if_false, if_true] at hi ⊢
    split <;> omega
  · simp only [show ¬ (3 : Nat) = 1 by omega, show ¬ (3 : Nat) = 2 by omega, if_false, if_true] at hi ⊢
    split <;> omega
theorem cnt_0 {k w t : Nat} : ∀ j, (∀ i, i < j → t ≠ ods k w i) → cnt k w j t = 0
  | 0, _ => rfl
  | j + 1, h => by
    unfold cnt
    rw [cnt_0 j (fun i hi => h i (by omega)), if_neg (h j (by omega))]
theorem Vs_len {fl k w lines n z : Nat} {V : Nat → Nat → List Lf} (hk : 1 ≤ k ∧ k ≤ 3) (hn : n = (k + 1) * w) (h : ∀ l t, l < lines → t < n → (V l t).length = z) : ∀ j, j ≤ ocn k w → ∀ l t, l < lines → t < n → (Vs fl (osr k w) (ods k w) V j l t).length = z * (1 + cnt k w j t)
  | 0, _, l, t, hl, ht => by
    show (V l t).length = z * (1 + 0)
    rw [h l t hl ht, Nat.add_zero, Nat.mul_one]
  | j + 1, hj, l, t, hl, ht => by
    have ih := Vs_len (fl := fl) hk hn h j (by omega) l
    obtain ⟨o1, o2, -, -⟩ := o_ok (w := w) hk (show j < ocn k w by omega)
    have h0 : cnt k w j (osr k w j) = 0 := cnt_0 j (fun i hi z => by
      have a := o_dst (w := w) hk (show i < ocn k w by omega)
      have b := (o_win (w := w) (t := ods k w i - osk k w) hk (by omega)).2 j (by omega)
      omega)
    show (trn fl (osr k w j) (ods k w j) (Vs fl (osr k w) (ods k w) V j) l t).length = z * (1 + (cnt k w j t + if t = ods k w j then 1 else 0))
    unfold trn
    by_cases q : t = ods k w j
    · rw [if_pos q, if_pos q, mvl_len, ih _ hl (by omega), ih _ hl (by omega), h0, q, Nat.add_zero, Nat.mul_one, ← Nat.add_assoc, Nat.mul_add z (1 + cnt k w j (ods k w j)) 1, Nat.mul_one, Nat.add_comm]
    · rw [if_neg q, if_neg q, Nat.add_zero]
      exact ih t hl ht
def UL (R C : Nat) (G : Nat → Nat → List Lf) (z : Nat) : Prop := ∀ r c, r < R → c < C → (G r c).length = z
theorem UL_bend {ax k w R C z N : Nat} {G : Nat → Nat → List Lf} (hk : 1 ≤ k ∧ k ≤ 3) (hn : an ax R C = (k + 1) * w) (hn8 : an ax R C ≤ 8) (h : UL R C G z) (hz : z * (R * C) = N) : ∃ z', UL (bR ax k w R) (bC ax k w C) (bG ax k w G) z' ∧ z' * (bR ax k w R * bC ax k w C) = N := by
  have hV : ∀ l t, l < al ax R C → t < an ax R C → (vw ax G l t).length = z := by
    intro l t hl ht
    unfold al at hl
    unfold an at ht
    unfold vw
    by_cases q : ax = 0
    · rw [if_pos q] at hl ht ⊢
      exact h t l ht hl
    · rw [if_neg q] at hl ht ⊢
      exact h l t hl ht
  have hb : ∀ l t, l < al ax R C → t < olf k w → (bV ax k w (vw ax G) l t).length = z * (1 + kpp k) := by
    intro l t hl ht
    have := (o_win (w := w) hk ht).1
    unfold bV
    rw [Vs_len hk hn hV (ocn k w) (Nat.le_refl _) l _ hl (by omega), cnt_all hk (by omega) ht]
  have hm : (1 + kpp k) * olf k w = (k + 1) * w := by
    unfold kpp olf
    rcases (show k = 1 ∨ k = 2 ∨ k = 3 by omega) with rfl | rfl | rfl
    · simp only [show ¬ (1 : Nat) = 2 by omega, show ¬ (1 : Nat) = 3 by omega, if_false]
    · simp only [show ¬ (2 : Nat) = 3 by omega, if_false, if_true]
    · simp only [show ¬ (3 : Nat) = 2 by omega, if_false, if_true]
      omega
  refine ⟨z * (1 + kpp k), fun r c hr hc => ?_, ?_⟩
  · unfold bR at hr
    unfold bC at hc
    unfold bG
    unfold al at hb
    show (if ax = 0 then bV ax k w (vw ax G) c r else bV ax k w (vw ax G) r c).length = _
    by_cases q : ax = 0
    · rw [if_pos q] at hr hc hb ⊢
      exact hb c r hc hr
    · rw [if_neg q] at hr hc hb ⊢
      exact hb r c hr hc
  · unfold an at hn
    unfold bR bC
    by_cases q : ax = 0
    · rw [if_pos q] at hn ⊢
      rw [if_pos q, Nat.mul_assoc, ← Nat.mul_assoc (1 + kpp k), hm, ← hn]
      exact hz
    · rw [if_neg q] at hn ⊢
      rw [if_neg q, Nat.mul_assoc, Nat.mul_left_comm (1 + kpp k), hm, ← hn]
      exact hz
theorem Vs_P {fl k w lines n : Nat} {V : Nat → Nat → List Lf} {P : Nat → Prop} (hk : 1 ≤ k ∧ k ≤ 3) (hn : n = (k + 1) * w) (h : ∀ l t, l < lines → t < n → ∀ y, y ∈ V l t → P y.1) : ∀ (j : Nat), j ≤ ocn k w → ∀ l t, l < lines → t < n → ∀ y, y ∈ Vs fl (osr k w) (ods k w) V j l t → P y.1
  | 0, _, l, t, hl, ht, y, hy => h l t hl ht y hy
  | j + 1, hj, l, t, hl, ht, y, hy => by
    obtain ⟨o1, o2, -, -⟩ := o_ok (w := w) hk (show j < ocn k w by omega)
    have ih := Vs_P (fl := fl) hk hn h j (by omega) l
    have hy : y ∈ trn fl (osr k w j) (ods k w j) (Vs fl (osr k w) (ods k w) V j) l t := hy
    unfold trn at hy
    by_cases q : t = ods k w j
    · rw [if_pos q] at hy
      rcases mvl_mem _ _ hy with hy | ⟨x, hx, rfl⟩
      · exact ih _ hl (by omega) y hy
      · exact ih _ hl (by omega) x hx
    · rw [if_neg q] at hy
      exact ih t hl ht y hy
def PL (N : Nat × Nat) (R C : Nat) (G : Nat → Nat → List Lf) : Prop := ∀ r c, r < R → c < C → ∀ y, y ∈ G r c → y.1 / 8 < N.1 ∧ y.1 % 8 < N.2
theorem PL_bend {ax k w R C : Nat} {N : Nat × Nat} {G : Nat → Nat → List Lf} (hk : 1 ≤ k ∧ k ≤ 3) (hn : an ax R C = (k + 1) * w) (h : PL N R C G) : PL N (bR ax k w R) (bC ax k w C) (bG ax k w G) := by
  have hV : ∀ l t, l < al ax R C → t < an ax R C → ∀ y, y ∈ vw ax G l t → y.1 / 8 < N.1 ∧ y.1 % 8 < N.2 := by
    intro l t hl ht
    unfold al at hl
    unfold an at ht
    unfold vw
    by_cases q : ax = 0
    · rw [if_pos q] at hl ht ⊢
      exact h t l ht hl
    · rw [if_neg q] at hl ht ⊢
      exact h l t hl ht
  have hb : ∀ l t, l < al ax R C → t < olf k w → ∀ y, y ∈ bV ax k w (vw ax G) l t → y.1 / 8 < N.1 ∧ y.1 % 8 < N.2 := by
    intro l t hl ht
    have := (o_win (w := w) hk ht).1
    exact Vs_P (P := fun p => p / 8 < N.1 ∧ p % 8 < N.2) hk hn hV (ocn k w) (Nat.le_refl _) l _ hl (by omega)
  intro r c hr hc
  unfold bR at hr
  unfold bC at hc
  unfold al at hb
  show ∀ y, y ∈ (if ax = 0 then bV ax k w (vw ax G) c r else bV ax k w (vw ax G) r c) → _
  by_cases q : ax = 0
  · rw [if_pos q] at hr hc hb ⊢
    exact hb c r hc hr
  · rw [if_neg q] at hr hc hb ⊢
    exact hb r c hr hc
def CS (N : Nat × Nat) (S : AmT) (sr sc R C : Nat) (G : Nat → Nat → List Lf) : Prop := S.1 25 0 = nI sr ∧ S.1 25 1 = nI sc ∧ S.1 26 0 = nI R ∧ S.1 26 1 = nI C ∧ sr + R ≤ 8 ∧ sc + C ≤ 8 ∧ (∃ z, UL R C G z ∧ z * (R * C) = N.1 * N.2 ∧ PL N R C G) ∧ CV S.1 1 sr sc R C (fun _ _ => True) G
def Sf (S S' : AmT) : Prop := S'.2 = S.2 ∧ (∀ o, o ≠ 5 → o ≠ 6 → (o < 25 ∨ 29 < o) → S'.1 o = S.1 o) ∧ ∀ j, j ≠ 1 → S'.1 5 j = S.1 5 j
theorem Sf_refl (S : AmT) : Sf S S := ⟨rfl, fun _ _ _ _ => rfl, fun _ _ => rfl⟩
theorem Sf_trans {S S' S'' : AmT} (h : Sf S S') (h' : Sf S' S'') : Sf S S'' := ⟨h'.1.trans h.1, fun o a b c => (h'.2.1 o a b c).trans (h.2.1 o a b c), fun j hj => (h'.2.2 j hj).trans (h.2.2 j hj)⟩
def NT (S S' : AmT) (tc : Nat) (x : Int32) : Prop := S'.1 6 = upd (S.1 6) (tc % 40) x ∧ S'.1 5 = upd (S.1 5) 1 (nI (tc + 1))
theorem f131_eq {F tc : Nat} {x : Int32} {S : AmT} (h : S.1 5 1 = nI tc) (ht : tc < 2000000) : f131 F x S = some (am_upI (am_upI S.1 6 (tc % 40) x) 5 1 (nI (tc + 1)), S.2) := by
  unfold f131
  rw [h, f295_eq (by omega), b2_at, ck_at (by omega) (by omega), nI_clamp (by omega)]
  show some ((am_upI (am_upI S.1 6 (tc % 40) x) 5 1 ((am_upI S.1 6 (tc % 40) x) 5 1 + 1), S.2) : AmT) = _
  rw [am_upI_ne (by decide), h, nI_1]
theorem nt_ok {S : AmT} {tc : Nat} {x : Int32} : Sf S (am_upI (am_upI S.1 6 (tc % 40) x) 5 1 (nI (tc + 1)), S.2) ∧ NT S (am_upI (am_upI S.1 6 (tc % 40) x) 5 1 (nI (tc + 1)), S.2) tc x ∧ ∀ o, o ≠ 5 → o ≠ 6 → ((am_upI (am_upI S.1 6 (tc % 40) x) 5 1 (nI (tc + 1)), S.2) : AmT).1 o = S.1 o := by
  have e : ∀ o, o ≠ 5 → o ≠ 6 → am_upI (am_upI S.1 6 (tc % 40) x) 5 1 (nI (tc + 1)) o = S.1 o := fun o o1 o2 => by rw [am_upI_ne o1, am_upI_ne o2]
  refine ⟨⟨rfl, fun o o1 o2 _ => e o o1 o2, fun j hj => ?_⟩, ⟨?_, ?_⟩, e⟩
  · show am_upI (am_upI S.1 6 (tc % 40) x) 5 1 (nI (tc + 1)) 5 j = _
    rw [am_upI_at, pk_un hj, am_upI_ne (by decide)]
  · show am_upI (am_upI S.1 6 (tc % 40) x) 5 1 (nI (tc + 1)) 6 = _
    rw [am_upI_ne (by decide), am_upI_at]
  · show am_upI (am_upI S.1 6 (tc % 40) x) 5 1 (nI (tc + 1)) 5 = _
    rw [am_upI_at, am_upI_ne (by decide)]
theorem nI_div {a d : Nat} (ha : a ≤ 8) (hd : d = 2 ∨ d = 3 ∨ d = 4) : nI a / nI d = nI (a / d) := by
  have : ∀ a : Fin 9, nI a / nI 2 = nI (a / 2) ∧ nI a / nI 3 = nI (a / 3) ∧ nI a / nI 4 = nI (a / 4) := by decide
  have := this ⟨a, by omega⟩
  rcases hd with rfl | rfl | rfl
  · exact this.1
  · exact this.2.1
  · exact this.2.2
theorem f75_eq {F k ax n : Nat} {S : AmT} (hk : 1 ≤ k ∧ k ≤ 3) (hax : ax ≤ 1) (hn : n ≤ 8) (h : S.1 26 ax = nI n) : f75 F (nI ax) (nI (k + 1)) S = some (if n % (k + 1) = 0 then nI (n / (k + 1)) else -17, S) := by
  have key : g75_13 F (nI (k + 1)) (nI ax) S = some (if n % (k + 1) = 0 then nI (n / (k + 1)) else -17, S) := by
    have nz : ∀ K : Option (Int32 × AmT), am_nz (nI (k + 1)) K = K := fun K => by
      unfold am_nz
      rw [if_neg (fun z => by
        have := (nI_eq (a := k + 1) (b := 0) (by omega) (by omega)).mp z
        omega)]
    unfold g75_13
    rw [ck_at (by omega) (by omega), nI_clamp (by omega), h, if_neg (show ¬ nI (k + 1) < (1 : Int32) from fun z => by
      rw [show (1 : Int32) = nI 1 from rfl, Int32.lt_iff_toInt_lt, nI_toInt (by omega), nI_toInt (by omega)] at z
      omega), nz, nI_rem (by omega) (by omega) (by omega)]
    by_cases q : n % (k + 1) = 0
    · rw [if_pos q, if_pos (by rw [q]; rfl), nz, nI_div hn (by omega)]
    · rw [if_neg q, if_neg (nI_ne0 (Nat.pos_of_ne_zero q) (by have := Nat.mod_lt n (show 0 < k + 1 by omega); omega))]
      rfl
  unfold f75
  rcases (show ax = 0 ∨ ax = 1 by omega) with rfl | rfl
  · rw [if_pos (show nI 0 = 0 from rfl)]
    exact key
  · rw [if_neg (by decide)]
    exact key
theorem f76_eq {F ax a sk lf : Nat} {S : AmT} (hax : ax ≤ 1) (h : S.1 25 ax = nI a) : f76 F (nI ax) (nI sk) (nI lf) S = some (1, (am_upI (am_upI S.1 25 ax (nI (a + sk))) 26 ax (nI lf), S.2)) := by
  have key : g76_9 F (nI sk) (nI lf) (nI ax) S = some (1, (am_upI (am_upI S.1 25 ax (nI (a + sk))) 26 ax (nI lf), S.2)) := by
    unfold g76_9
    rw [ck_at (by omega) (by omega), ck_at (by omega) (by omega), nI_clamp (by omega), h, nI_add]
    dsimp only [am_lt]
    rw [ck_at (by omega) (by omega)]
  unfold f76
  rcases (show ax = 0 ∨ ax = 1 by omega) with rfl | rfl
  · rw [if_pos (show nI 0 = 0 from rfl)]
    exact key
  · rw [if_neg (by decide)]
    exact key
