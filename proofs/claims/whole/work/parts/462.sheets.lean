/-! signatures: their sheets folded one after another, their faces listed -/
def Sh (S S' : AmT) : Prop := S'.2 = S.2 ∧ (∀ o, o ≠ 5 → o ≠ 6 → o ≠ 23 → (o < 25 ∨ 29 < o) → S'.1 o = S.1 o) ∧ ∀ j, j ≠ 1 → S'.1 5 j = S.1 5 j
theorem Sh_refl (S : AmT) : Sh S S := ⟨rfl, fun _ _ _ _ _ => rfl, fun _ _ => rfl⟩
theorem Sh_trans {S S' S'' : AmT} (h : Sh S S') (h' : Sh S' S'') : Sh S S'' := ⟨h'.1.trans h.1, fun o a b c d => (h'.2.1 o a b c d).trans (h.2.1 o a b c d), fun j a => (h'.2.2 j a).trans (h.2.2 j a)⟩
theorem Sh_g {S S' : AmT} {sh : Nat} (h : Sg S S' sh) : Sh S S' := ⟨h.1, h.2.1, h.2.2.1⟩
theorem Kq_Sh {S S' : AmT} (h : Sh S S') : Kq S S' S'.1 := ⟨h.1, fun o ho => h.2.1 o (by omega) (by omega) (by omega) (by omega), fun _ _ _ => rfl, fun o ho => h.2.1 o (by omega) (by omega) (by omega) (by omega)⟩
theorem Ky_Sh {S0 S S' : AmT} {A : Mem} {k : Nat} (h : Ky S0 S A k) (hs : Sh S S') : Ky S0 S' S'.1 k := by
  refine ⟨J_keep h.1 hs.1 (hs.2.1 1 (by omega) (by omega) (by omega) (by omega)) (hs.2.1 3 (by omega) (by omega) (by omega) (by omega)) (hs.2.1 4 (by omega) (by omega) (by omega) (by omega)) (fun o ho => hs.2.1 o (by omega) (by omega) (by omega) (by omega)), fun _ _ _ => rfl, fun o ho => ?_⟩
  rw [hs.2.1 o (by omega) (by omega) (by omega) (by omega)]
  exact h.2.2 o ho
-- the leaves of a sheet under a fold
def LLf (A : Mem) (f s : Nat) : List Lf := match absF A 10 f ((A 52 s).toNatClampNeg, (A 54 s).toNatClampNeg, gr0) with
  | some X => X.2.2 0 0
  | none => []
def goodS (A : Mem) (f : Nat) (I : Mem) (s : Nat) : Prop := CLm I s (LLf A f s) ∧ ∃ R C, R ≤ 8 ∧ C ≤ 8 ∧ A 52 s = nI R ∧ A 54 s = nI C ∧ (LLf A f s).length = R * C ∧ ∀ y, y ∈ LLf A f s → y.1 / 8 < R ∧ y.1 % 8 < C
theorem goodS_g {A : Mem} {f s sh : Nat} {S S' : AmT} (h : Sg S S' sh) (hne : s ≠ sh) (hg : goodS A f S.1 s) : goodS A f S'.1 s := by
  obtain ⟨⟨g1, g2, g3⟩, h2⟩ := hg
  refine ⟨⟨g1, g2, fun d y hy => ?_⟩, h2⟩
  have hd : d < (LLf A f s).length := by
    rcases Nat.lt_or_ge d (LLf A f s).length with z | z
    · exact z
    · rw [List.getElem?_eq_none z] at hy
      exact absurd hy (by simp)
  rw [h.2.2.2 _ (by omega)]
  exact g3 d y hy
/-- one sheet -/
theorem fs1 {F : Nat} (hF : 6000 ≤ F) {A m0 : Mem} {nj nf ns ng nb f s tc : Nat} {S : AmT} (hC : Cur A m0 nj nf ns ng nb) (hf : f < nf) (hs : s < ns) (hA : ∀ o, kc o → S.1 o = A o) (h51 : S.1 5 1 = nI tc) (htc : tc + 32 ≤ 1900000) :
    ∃ R C v S' tc', A 52 s = nI R ∧ A 54 s = nI C ∧ m0 109 s = nI R ∧ m0 110 s = nI C ∧ f29 F (nI f) (nI R) (nI C) (nI s) S = some (v, S') ∧ Sg S S' s ∧ S'.1 5 1 = nI tc' ∧ tc' ≤ tc + 32 ∧
      ((∃ e, (e = 7 ∨ e = 8) ∧ v = -10 - nI e ∧ fgM F f R C m0 S S' tc tc' (fun v' _ => v' = nI e)) ∨ (v = nI (2 * (LLf A f s).length) ∧ goodS A f S'.1 s ∧ fgM F f R C m0 S S' tc tc' (fun v' m2 => v' = 0 ∧ MP m2 0 (LLf A f s)))) := by
  have hns := hC.2.2.1.1
  obtain ⟨-, ⟨a1, a2, a3, -⟩, -, ⟨R, hR, e52⟩, ⟨C, hCC, e54⟩, -⟩ := Cur_sheet hC hs
  obtain ⟨v, S', tc', L, e1, e2, e3, e4, e5⟩ := fg hF hC hf (sh := s) (S := S) (by omega) hR hCC (fun o o1 o2 => hA o (by omega)) h51 htc
  refine ⟨R, C, v, S', tc', e52, e54, by rw [← a2, e52], by rw [← a3, e54], e1, e2, e3, e4, ?_⟩
  rcases e5 with e5 | ⟨hv, hlen, hP, ⟨G', hab, hL⟩, hCL, e6⟩
  · exact Or.inl e5
  · have eL : LLf A f s = L := by
      unfold LLf
      rw [e52, e54, nI_clamp (by omega), nI_clamp (by omega), hab, hL]
    rw [eL]
    refine Or.inr ⟨hv, ⟨?_, R, C, hR, hCC, e52, e54, ?_, ?_⟩, e6⟩
    · rw [eL]
      exact hCL
    · rw [eL]
      exact hlen
    · rw [eL]
      exact hP
-- rows of the model that keep the faces of each sheet
def ROW (m : Mem) (j : Nat) (L : List Lf) : Prop := m 133 j = nI (2 * L.length) ∧ ∀ k y, k < 2 * L.length → L[k / 2]? = some y → m 132 (128 * j + k) = nI (fen y (k % 2))
def Wy (m m' : Mem) : Prop := (∀ o, o ≠ 95 → o ≠ 125 → o ≠ 126 → o ≠ 127 → o ≠ 128 → o ≠ 132 → o ≠ 133 → m' o = m o) ∧ ∀ j, j ≠ 36 → j ≠ 39 → j ≠ 40 → j ≠ 41 → m' 95 j = m 95 j
theorem Wy_refl (m : Mem) : Wy m m := ⟨fun _ _ _ _ _ _ _ _ => rfl, fun _ _ _ _ _ => rfl⟩
theorem Wy_trans {m m' m'' : Mem} (h : Wy m m') (h' : Wy m' m'') : Wy m m'' := ⟨fun o a b c d e f g => (h'.1 o a b c d e f g).trans (h.1 o a b c d e f g), fun j a b c d => (h'.2 j a b c d).trans (h.2 j a b c d)⟩
theorem lp_261a {F : Nat} {S1 : AmT} {W mB : Mem} {g f i : Nat} {L : List Lf} {k2 : Int32 → Int32 → Int32 → AmT → Option (Int32 × AmT)} {Q : Int32 → Mem → Prop} (hi : i < 4) (hL : L.length ≤ 64) (H : ∀ S' m', My S1 S' m' W → (∀ o, o ≠ 132 → m' o = mB o) → (∀ q, (q < 128 * i ∨ 128 * i + 128 ≤ q) → m' 132 q = mB 132 q) → ROW m' i L → MG S1 W (k2 (nI g) (nI f) (nI (i + 1)) S') Q) :
    ∀ (r k N : Nat) (S : AmT) (m : Mem), k + r = 2 * L.length → r < N → My S1 S m W → (∀ o, o ≠ 132 → m o = mB o) → (∀ q, (q < 128 * i ∨ 128 * i + 128 ≤ q) → m 132 q = mB 132 q) → MP m 0 L → m 133 i = nI (2 * L.length) → (∀ k' y, k' < k → L[k' / 2]? = some y → m 132 (128 * i + k') = nI (fen y (k' % 2))) → MG S1 W (g261_70 F k2 N (nI g) (nI f) (nI i) (nI k) S) Q
  | r, k, 0, S, m, h1, h2, h3, h4, h5, h6, h7, h8 => absurd h2 (by omega)
  | 0, k, N + 1, S, m, h1, h2, h3, h4, h5, h6, h7, h8 => by
    unfold g261_70
    rw [ck_at hi (by omega), nI_clamp (by omega), My_rd h3 (Or.inr (Or.inl (by omega))), h7, if_pos (nI_le (by omega) (by omega)), nI_1]
    exact H S m h3 h4 h5 ⟨h7, fun k' y hk' hy => h8 k' y (by omega) hy⟩
  | r + 1, k, N + 1, S, m, h1, h2, h3, h4, h5, h6, h7, h8 => by
    obtain ⟨y, hy, hyL⟩ := L_at (L := L) (k := k) (by omega)
    unfold g261_70
    rw [ck_at hi (by omega), nI_clamp (by omega), My_rd h3 (Or.inr (Or.inl (by omega))), h7, if_neg (nI_ge (by omega) (by omega)), f241_eq h6 (fun j => My_rd h3 (Or.inr (Or.inl (by omega)))) (by omega) hL hy, b2_at, show (128 : Int32) * nI i + nI k = nI (128 * i + k) from by rw [show (128 : Int32) * nI i = nI (128 * i) from nI_mul 128 i, nI_add], ck_at (by omega) (by omega), nI_clamp (by omega)]
    refine MG_up h3 (Or.inr (Or.inl (by omega))) fun S' h' => ?_
    rw [nI_1]
    refine lp_261a hi hL H r (k + 1) N S' _ (by omega) (by omega) h' (fun o ho => by rw [am_upI_ne ho, h4 o ho]) (fun q hq => by rw [am_upI_at, pk_un (by omega), h5 q hq]) ?_ ?_ (fun k' y' hk' hy' => ?_)
    · unfold MP
      rw [am_upI_ne (by decide), am_upI_ne (by decide)]
      exact h6
    · rw [am_upI_ne (by decide)]
      exact h7
    · by_cases c : k' = k
      · subst c
        rw [hy] at hy'
        have : y = y' := by simpa using hy'
        subst this
        rw [am_upI_at, pk_us]
      · rw [am_upI_at, pk_un (by omega)]
        exact h8 k' y' (by omega) hy'
def tot (A : Mem) (f : Nat) (sq : Nat → Nat) : Nat → Nat
  | 0 => 0
  | i + 1 => tot A f sq i + 2 * (LLf A f (sq i)).length
theorem tot_le {A : Mem} {f c : Nat} {sq : Nat → Nat} (h : ∀ j, j < c → (LLf A f (sq j)).length ≤ 64) : tot A f sq c ≤ 128 * c := by
  induction c with
  | zero => exact Nat.le_refl _
  | succ c ih =>
    have := ih (fun j hj => h j (by omega))
    have := h c (by omega)
    unfold tot
    omega
-- a signature: its way, its sheets
def SGN (A m0 : Mem) (ns g w c : Nat) (sq : Nat → Nat) : Prop := g < 4 ∧ w ≤ 1 ∧ c ≤ 4 ∧ A 73 g = nI w ∧ m0 119 g = nI w ∧ A 75 g = nI c ∧ m0 120 g = nI c ∧ ∀ i, i < c → sq i < ns ∧ A 77 (4 * g + i) = nI (sq i) ∧ m0 121 (4 * g + i) = nI (sq i)
theorem Cur_sgn {A m0 : Mem} {nj nf ns ng nb g : Nat} (hC : Cur A m0 nj nf ns ng nb) (hg : g < ng) : ∃ w c sq, SGN A m0 ns g w c sq := by
  obtain ⟨b1, b2, b3, b4, b5, b6, b7, b8, b9, b10, b11, b12⟩ := hC.2.2.2.1
  obtain ⟨h1, c, h2, h3, h4⟩ := b10 g hg
  obtain ⟨k1, k2, -⟩ := b8 g (by omega)
  have hns := hC.2.2.1.1
  have key : ∀ w, A 73 g = nI w → w ≤ 1 → ∃ w c sq, SGN A m0 ns g w c sq := fun w hw hw1 => by
    refine ⟨w, c, fun i => (A 77 (4 * g + i)).toNatClampNeg, by omega, hw1, h2, hw, by rw [← k1, hw], h3, by rw [← k2, h3], fun i hi => ?_⟩
    obtain ⟨s, hs, e⟩ := h4 i hi
    have : (A 77 (4 * g + i)).toNatClampNeg = s := by rw [e, nI_clamp (by omega)]
    dsimp only
    rw [this]
    exact ⟨hs, e, by rw [← b9 _ (by omega), e]⟩
  rcases h1 with h1 | h1
  · exact key 0 h1 (by omega)
  · exact key 1 h1 (by omega)
/-- foldSheets(), and the model's first loop -/
theorem fs {F : Nat} (hF : 6000 ≤ F) {A m0 : Mem} {nj nf ns ng nb f g w c : Nat} {sq : Nat → Nat} (hC : Cur A m0 nj nf ns ng nb) (hf : f < nf) (hg : SGN A m0 ns g w c sq) :
    ∀ (r i N tc : Nat) (S : AmT), i + r = c → r < N → (∀ o, kc o → S.1 o = A o) → S.1 5 1 = nI tc → tc + 32 * r ≤ 1900000 → (∀ j, j < i → goodS A f S.1 (sq j)) →
      ∃ v S' tc', g8_5 F N (nI g) (nI f) (nI (tot A f sq i)) (nI i) S = some (v, S') ∧ Sh S S' ∧ S'.1 5 1 = nI tc' ∧ tc' ≤ tc + 32 * r ∧
        ((∃ e, (e = 7 ∨ e = 8) ∧ v = -10 - nI e ∧ ∀ (S1 : AmT) (W : Mem) (Sm : AmT) (m : Mem) (N' : Nat), r < N' → My S1 Sm m W → (∀ o, 96 ≤ o → o ≤ 124 → m o = m0 o) → TR S m tc → MG S1 W (g261_2 F N' (nI g) (nI f) (nI i) Sm) (fun v' m2 => Wy m m2 ∧ TR S' m2 tc' ∧ v' = nI e)) ∨
         (v = nI (tot A f sq c) ∧ (∀ j, j < c → goodS A f S'.1 (sq j)) ∧ (∀ s, goodS A f S.1 s → goodS A f S'.1 s) ∧ ∀ (S1 : AmT) (W : Mem) (Sm : AmT) (m : Mem) (N' : Nat) (Q : Int32 → Mem → Prop), r < N' → My S1 Sm m W → (∀ o, 96 ≤ o → o ≤ 124 → m o = m0 o) → TR S m tc → (∀ j, j < i → ROW m j (LLf A f (sq j))) → (∀ S2 m2, My S1 S2 m2 W → Wy m m2 → TR S' m2 tc' → (∀ j, j < c → ROW m2 j (LLf A f (sq j))) → MG S1 W (g261_114 F F (nI g) 0 S2) Q) → MG S1 W (g261_2 F N' (nI g) (nI f) (nI i) Sm) Q))
  | r, i, 0, tc, S, h1, h2, h3, h4, h5, h6 => absurd h2 (by omega)
  | 0, i, N + 1, tc, S, h1, h2, h3, h4, h5, h6 => by
    obtain ⟨g4, w1, c4, e73, e119, e75, e120, hsq⟩ := hg
    have hi : i = c := by omega
    subst hi
    refine ⟨_, S, tc, ?_, Sh_refl S, h4, by omega, Or.inr ⟨rfl, h6, fun _ h => h, fun S1 W Sm m N' Q hN hy hm htr hrow H => ?_⟩⟩
    · unfold g8_5
      rw [kg_at (by omega) (by omega), h3 75 (by omega), e75, if_pos (Int32.le_refl _)]
    · obtain ⟨N', rfl⟩ : ∃ n, N' = n + 1 := ⟨N' - 1, by omega⟩
      unfold g261_2
      rw [ck_at (by omega) (by omega), nI_clamp (by omega), My_rd hy (mi_h (show g < 4 by omega)), hm 120 (by omega) (by omega), e120, if_pos (Int32.le_refl _)]
      exact H Sm m hy (Wy_refl m) htr hrow
  | r + 1, i, N + 1, tc, S, h1, h2, h3, h4, h5, h6 => by
    obtain ⟨g4, w1, c4, e73, e119, e75, e120, hsq⟩ := id hg
    obtain ⟨hs, e77, e121⟩ := hsq i (by omega)
    have hns := hC.2.2.1.1
    obtain ⟨R, C, v, S', tc', e52, e54, e109, e110, e1, e2, e3, e4, e5⟩ := fs1 hF hC hf hs h3 h4 (by omega)
    have hcl : g8_5 F (N + 1) (nI g) (nI f) (nI (tot A f sq i)) (nI i) S = if 0 ≤ v then g8_5 F N (nI g) (nI f) (nI (tot A f sq i) + v) (nI (i + 1)) S' else some (v, S') := by
      rw [g8_5]
      unfold f7 f97 f98
      rw [kg_at (by omega) (by omega), h3 75 (by omega), e75, if_neg (nI_ge (by omega) (by omega)), b2_at, b2_at, b2_at, show nI g * 4 + nI i = nI (4 * g + i) from by rw [show nI g * 4 = nI (g * 4) from nI_mul _ 4, nI_add, Nat.mul_comm], kg_at (by omega) (by omega), h3 77 (by omega), e77, kg_at (by omega) (by omega), h3 52 (by omega), e52, kg_at (by omega) (by omega), h3 54 (by omega), e54, e1, b2_at, nI_1]
    -- the model's step
    have hmod : ∀ (S1 : AmT) (W : Mem) (Sm : AmT) (m : Mem) (N' : Nat), My S1 Sm m W → (∀ o, 96 ≤ o → o ≤ 124 → m o = m0 o) → g261_2 F (N' + 1) (nI g) (nI f) (nI i) Sm = am_b2 (f240 F (nI f) (nI R) (nI C) Sm) fun v10 S11 => if v10 ≤ 0 then (am_ck (nI i) 4 (am_lt ((am_upI S11.1 133 (nI i).toNatClampNeg (2 * (S11.1 127 0)), S11.2) : AmT) fun S13 => g261_70 F (fun x1 x2 x3 S => g261_2 F N' x1 x2 x3 S) F (nI g) (nI f) (nI i) 0 S13)) else (some (v10, S11)) := by
      intro S1 W Sm m N' hy hm
      have x120 : Sm.1 120 g = nI c := by rw [My_rd hy (mi_h (show g < 4 by omega)), hm 120 (by omega) (by omega), e120]
      have x121 : Sm.1 121 (4 * g + i) = nI (sq i) := by rw [My_rd hy (mi_h (show 4 * g + i < 16 by omega)), hm 121 (by omega) (by omega), e121]
      have x109 : Sm.1 109 (sq i) = nI R := by rw [My_rd hy (mi_h (show sq i < 8 by omega)), hm 109 (by omega) (by omega), e109]
      have x110 : Sm.1 110 (sq i) = nI C := by rw [My_rd hy (mi_h (show sq i < 8 by omega)), hm 110 (by omega) (by omega), e110]
      rw [g261_2]
      rw [ck_at (by omega) (by omega), nI_clamp (n := g) (by omega), x120, if_neg (nI_ge (by omega) (by omega)), show (4 : Int32) * nI g + nI i = nI (4 * g + i) from by rw [show (4 : Int32) * nI g = nI (4 * g) from nI_mul 4 g, nI_add], ck_at (by omega) (by omega), nI_clamp (n := 4 * g + i) (by omega), x121, ck_at (by omega) (by omega), ck_at (by omega) (by omega), nI_clamp (n := sq i) (by omega), x109, x110]
    rcases e5 with ⟨e, he, rfl, e6⟩ | ⟨rfl, hgood, e6⟩
    · refine ⟨_, S', tc', by rw [hcl, if_neg (neg10 (by omega)).1], Sh_g e2, e3, by omega, Or.inl ⟨e, he, rfl, fun S1 W Sm m N' hN hy hm htr => ?_⟩⟩
      obtain ⟨N', rfl⟩ : ∃ n, N' = n + 1 := ⟨N' - 1, by omega⟩
      rw [hmod S1 W Sm m N' hy hm]
      refine MG_b2 (e6 S1 W Sm m hy hm htr) fun v' S2 m2 h2 hq => ?_
      obtain ⟨q1, q2, rfl⟩ := hq
      rw [if_neg (neg10 (by omega)).2]
      exact MG_ret h2 ⟨⟨fun o a b c d e _ _ => q1.1 o a b c d e, q1.2⟩, q2, rfl⟩
    · have h3' : ∀ o, kc o → S'.1 o = A o := fun o ho => by rw [e2.2.1 o (by omega) (by omega) (by omega) (by omega), h3 o ho]
      have h6' : ∀ j, j < i + 1 → goodS A f S'.1 (sq j) := fun j hj => by
        by_cases c' : sq j = sq i
        · rw [c']
          exact hgood
        · exact goodS_g e2 c' (h6 j (by
            rcases Nat.lt_or_ge j i with z | z
            · exact z
            · exact absurd (show sq j = sq i by rw [show j = i by omega]) c'))
      have hl := hgood.1.1
      obtain ⟨v2, S2, tc2, z1, z2, z3, z4, z5⟩ := fs hF hC hf hg r (i + 1) N tc' S' (by omega) (by omega) h3' e3 (by omega) h6'
      have htot : nI (tot A f sq i) + nI (2 * (LLf A f (sq i)).length) = nI (tot A f sq (i + 1)) := by
        rw [nI_add]
        rfl
      have hm2 : ∀ (S1 : AmT) (W : Mem) (Sm : AmT) (m : Mem) (N' : Nat) (Q : Int32 → Mem → Prop), My S1 Sm m W → (∀ o, 96 ≤ o → o ≤ 124 → m o = m0 o) → TR S m tc → (∀ S2 m2, My S1 S2 m2 W → Wy m m2 → TR S' m2 tc' → ROW m2 i (LLf A f (sq i)) → (∀ q, (q < 128 * i ∨ 128 * i + 128 ≤ q) → m2 132 q = m 132 q) → (∀ q, q ≠ i → m2 133 q = m 133 q) → MG S1 W (g261_2 F N' (nI g) (nI f) (nI (i + 1)) S2) Q) → MG S1 W (g261_2 F (N' + 1) (nI g) (nI f) (nI i) Sm) Q := by
        intro S1 W Sm m N' Q hy hm htr H
        rw [hmod S1 W Sm m N' hy hm]
        refine MG_b2 (e6 S1 W Sm m hy hm htr) fun v' S3 m3 h3 hq => ?_
        obtain ⟨q1, q2, rfl, q3⟩ := hq
        rw [if_pos (Int32.le_refl _), ck_at (by omega) (by omega), nI_clamp (by omega), My_rd h3 (Or.inr (Or.inl (by omega))), q3.1, show (2 : Int32) * nI (LLf A f (sq i)).length = nI (2 * (LLf A f (sq i)).length) from nI_mul 2 _]
        refine MG_up h3 (Or.inr (Or.inl (by omega))) fun S4 h4 => ?_
        refine lp_261a (by omega) hl (fun S5 m5 h5 x1 x2 x3 => ?_) (2 * (LLf A f (sq i)).length) 0 F S4 _ (by omega) (by omega) h4 (fun _ _ => rfl) (fun _ _ => rfl) ?_ (by rw [am_upI_at, pk_us]) (fun k' y hk' _ => absurd hk' (by omega))
        · refine H S5 m5 h5 ⟨fun o a b c d e f' g' => ?_, fun j a b c d => ?_⟩ (TR_m q2 (by rw [x1 95 (by decide), am_upI_ne (by decide)]) (by rw [x1 125 (by decide), am_upI_ne (by decide)])) x3 (fun q hq => ?_) (fun q hq => ?_)
          · rw [x1 o f', am_upI_ne g', q1.1 o a b c d e]
          · rw [x1 95 (by decide), am_upI_ne (by decide), q1.2 j a b c d]
          · rw [x2 q hq, am_upI_ne (by decide), q1.1 132 (by decide) (by decide) (by decide) (by decide) (by decide)]
          · rw [x1 133 (by decide), am_upI_at, pk_un hq, q1.1 133 (by decide) (by decide) (by decide) (by decide) (by decide)]
        · unfold MP
          rw [am_upI_ne (by decide), am_upI_ne (by decide)]
          exact q3
      refine ⟨v2, S2, tc2, by rw [hcl, if_pos (nI_le0 (by omega)), htot, z1], Sh_trans (Sh_g e2) z2, z3, by omega, ?_⟩
      rcases z5 with ⟨e, he, hv, z6⟩ | ⟨hv, z6, zk, z7⟩
      · refine Or.inl ⟨e, he, hv, fun S1 W Sm m N' hN hy hm htr => ?_⟩
        obtain ⟨N', rfl⟩ : ∃ n, N' = n + 1 := ⟨N' - 1, by omega⟩
        refine hm2 S1 W Sm m N' _ hy hm htr fun S3 m3 h3 q1 q2 q3 q4 q5 => ?_
        obtain ⟨v', S4, m4, x1, x2, x3, x4, x5⟩ := z6 S1 W S3 m3 N' (by omega) h3 (fun o o1 o2 => by rw [q1.1 o (by omega) (by omega) (by omega) (by omega) (by omega) (by omega) (by omega), hm o o1 o2]) q2
        exact ⟨v', S4, m4, x1, x2, Wy_trans q1 x3, x4, x5⟩
      · refine Or.inr ⟨hv, z6, fun s hs => zk s (by
          by_cases c' : s = sq i
          · rw [c']
            exact hgood
          · exact goodS_g e2 c' hs), fun S1 W Sm m N' Q hN hy hm htr hrow H => ?_⟩
        obtain ⟨N', rfl⟩ : ∃ n, N' = n + 1 := ⟨N' - 1, by omega⟩
        refine hm2 S1 W Sm m N' Q hy hm htr fun S3 m3 h3 q1 q2 q3 q4 q5 => ?_
        refine z7 S1 W S3 m3 N' Q (by omega) h3 (fun o o1 o2 => by rw [q1.1 o (by omega) (by omega) (by omega) (by omega) (by omega) (by omega) (by omega), hm o o1 o2]) q2 (fun j hj => ?_) (fun S4 m4 x1 x2 x3 x4 => H S4 m4 x1 (Wy_trans q1 x2) x3 x4)
        by_cases c' : j = i
        · subst c'
          exact q3
        · obtain ⟨r1, r2⟩ := hrow j (by omega)
          have hl' := (h6 j (by omega)).1.1
          refine ⟨by rw [q5 j c', r1], fun k y hk hy => ?_⟩
          rw [q4 _ (by omega)]
          exact r2 k y hk hy
