/-! calls: feed, good, seen -/
-- the first sheet at a station
def fa (a : Nat → Int32) (x : Int32) : Nat → Nat → Int32
  | 0, _ => -1
  | d + 1, i => if a i = x then nI i else fa a x d (i + 1)
theorem fa_congr {a b : Nat → Int32} {x : Int32} : ∀ (d i : Nat), (∀ s, s < i + d → a s = b s) → fa a x d i = fa b x d i
  | 0, _, _ => rfl
  | d + 1, i, h => by
    unfold fa
    rw [h i (by omega), fa_congr d (i + 1) (fun s hs => h s (by omega))]
theorem fa_or {a : Nat → Int32} {x : Int32} : ∀ (d i : Nat), fa a x d i = -1 ∨ ∃ s, s < i + d ∧ fa a x d i = nI s ∧ a s = x
  | 0, _ => Or.inl rfl
  | d + 1, i => by
    unfold fa
    by_cases h : a i = x
    · rw [if_pos h]
      exact Or.inr ⟨i, by omega, rfl, h⟩
    · rw [if_neg h]
      rcases fa_or (a := a) (x := x) d (i + 1) with q | ⟨s, q1, q2⟩
      · exact Or.inl q
      · exact Or.inr ⟨s, by omega, q2⟩
theorem lp_123 {F : Nat} {S : AmT} {x : Int32} {ns : Nat} (hns : ns ≤ 8) (h48 : S.1 48 0 = nI ns) : ∀ (n d i : Nat), i + d = ns → d < n → g123_2 F n x (nI i) S = some (fa (S.1 64) x d i, S)
  | 0, d, i, h1, h2 => absurd h2 (by omega)
  | n + 1, d, i, h1, h2 => by
    unfold g123_2
    rw [kg_0 (by decide) (by decide), h48]
    cases d with
    | zero =>
      rw [if_pos (nI_le (by omega) (by omega))]
      rfl
    | succ d =>
      rw [if_neg (nI_ge (by omega) (by omega)), kg_at (by omega) (by omega), nI_1]
      unfold fa
      by_cases h : S.1 64 i = x
      · rw [if_pos h, if_pos h]
      · rw [if_neg h, if_neg h]
        exact lp_123 hns h48 n d (i + 1) (by omega) (by omega)
theorem lp_280 {F : Nat} {S : AmT} {x : Int32} {ns : Nat} (hns : ns ≤ 8) (h48 : S.1 96 2 = nI ns) : ∀ (n d i : Nat), i + d = ns → d < n → g280_2 F n x (nI i) S = some (fa (S.1 112) x d i, S)
  | 0, d, i, h1, h2 => absurd h2 (by omega)
  | n + 1, d, i, h1, h2 => by
    unfold g280_2
    rw [h48]
    cases d with
    | zero =>
      rw [if_pos (nI_le (by omega) (by omega))]
      rfl
    | succ d =>
      rw [if_neg (nI_ge (by omega) (by omega)), ck_at (by omega) (by omega), nI_clamp (by omega), nI_1]
      unfold fa
      by_cases h : S.1 112 i = x
      · rw [if_pos h, if_pos h]
      · rw [if_neg h, if_neg h]
        exact lp_280 hns h48 n d (i + 1) (by omega) (by omega)
theorem f123_eq {F : Nat} (hF : 6000 ≤ F) {S : AmT} {x : Int32} {ns : Nat} (hns : ns ≤ 8) (h48 : S.1 48 0 = nI ns) : f123 F x S = some (fa (S.1 64) x ns 0, S) := lp_123 hns h48 F ns 0 (by omega) (by omega)
theorem f280_eq {F : Nat} (hF : 6000 ≤ F) {S : AmT} {x : Int32} {ns : Nat} (hns : ns ≤ 8) (h48 : S.1 96 2 = nI ns) : f280 F x S = some (fa (S.1 112) x ns 0, S) := lp_280 hns h48 F ns 0 (by omega) (by omega)
theorem st_feed {F : Nat} (hF : 6000 ≤ F) (x1 : Int32) : FpStep (f182 F x1) (f281 F x1) := by
  refine Fp_of fun S t ht hR => ?_
  obtain ⟨nj, nf, ns, ng, nb, hC⟩ := Rel_z hR
  have hn := hC.2.2.1.1
  have e48 := hC.2.2.1.2.1
  have e96 : S.1 96 2 = nI ns := (mz_at (mi_h (by decide))).symm.trans hC.2.2.1.2.2.1
  unfold f182 f281
  refine RG_jam hR ?_
  refine RG_g1 (Gd_sheet hC) hR ?_
  rintro ⟨s, hs, rfl⟩
  have a5 : ∀ s, s < 8 → S.1 112 s = S.1 64 s := fun s hs => by
    rw [← mz_at (I := S.1) (k := 112) (mi_h hs)]
    exact (hC.2.2.1.2.2.2.1 s hs).2.2.2.2.1.symm
  unfold f120
  simp only [b2_at, ck_at (show s < 16 by omega) (show 16 < 2147483648 by omega), nI_clamp (show s < 2 ^ 31 by omega)]
  rw [kg_at (by omega) (by omega), f123_eq hF hn e48, b2_at]
  refine RG_ite (fun S1 hf => ?_) (fun h => ?_) (fun _ => RG_ret hR)
  · rw [hf 112 (by omega), a5 s (by omega)]
  have efa : fa (S.1 112) 0 ns 0 = fa (S.1 64) 0 ns 0 := fa_congr ns 0 fun s hs => a5 s (by omega)
  refine RG_m (M' := fun S1 => if fa (S.1 64) 0 ns 0 < 0 then ((f201 F S1).bind fun S11 => am_lt ((am_upI S11.1 95 34 ((S11.1 95 34) + 1), S11.2) : AmT) fun S12 => am_lt ((am_upI S12.1 112 s 0, S12.2) : AmT) fun S13 => am_lt ((am_upI S13.1 113 s ((S13.1 95 34) - 1), S13.2) : AmT) fun S14 => some (((S14.1 95 34) - 1), S14)) else (some ((-5), S1))) (fun S1 hf => ?_) ?_
  · rw [f280_eq hF hn (by rw [hf 96 (by omega)]; exact e96), b2_at, hf 112 (by omega), efa]
  refine RG_ite (fun S1 _ => Iff.rfl) (fun h => ?_) (fun _ => RG_ret hR)
  refine RG_chg hF hR hC fun m0 hm hT h29 hz S' hK => ?_
  unfold f136
  rw [b2_at]
  have h3 := Ky_up (o := 5) (i := 6) (x := S'.1 5 6 + 1) hK (Or.inl rfl)
  rw [Ky_rd hK (by omega) (by omega)] at h3
  rw [Ky_rd hK (by omega) (by omega)]
  generalize hS3 : ((am_upI S'.1 5 6 (S.1 5 6 + 1), S'.2) : AmT) = S3 at h3
  have e3 : S3.1 5 6 = S.1 5 6 + 1 := (Ky_rd h3 (by omega) (by omega)).trans (by simp only [am_upI_at, am_upI_ne, pk_us, pk_un, ne_eq, Nat.reduceEqDiff, not_false_eq_true])
  rw [e3]
  have e5 : S.1 5 6 + 1 - 1 = S.1 5 6 := Int32.add_sub_cancel _ _
  rw [e5, b2_id]
  unfold f124
  refine KG_ks h3 (by omega) rfl rfl (by omega) fun S4 h4 => ?_
  refine KG_ks h4 (by omega) rfl rfl (by omega) fun S5 h5 => ?_
  refine KG_ret h5 (by omega) fun S2 hM => ?_
  have q0 : m0 95 34 = S.1 5 6 := hT.2.2.2.2.1.symm
  rw [My_rd hM (Or.inl rfl), q0]
  refine MG_up hM (Or.inl rfl) fun S6 h6 => ?_
  refine MG_up h6 (mi_h (by show s < 8; omega)) fun S7 h7 => ?_
  have q7 : S7.1 95 34 = S.1 5 6 + 1 := (My_rd h7 (Or.inl rfl)).trans (by simp only [am_upI_at, am_upI_ne, pk_us, pk_un, ne_eq, Nat.reduceEqDiff, not_false_eq_true])
  rw [q7, e5]
  refine MG_up h7 (mi_h (by show s < 8; omega)) fun S8 h8 => ?_
  have q8 : S8.1 95 34 = S.1 5 6 + 1 := (My_rd h8 (Or.inl rfl)).trans (by simp only [am_upI_at, am_upI_ne, pk_us, pk_un, ne_eq, Nat.reduceEqDiff, not_false_eq_true])
  rw [q8, e5]
  refine MG_ret h8 ⟨rfl, ⟨nj, nf, ns, ng, nb, ?_⟩, ?_, ?_⟩
  · obtain ⟨c1, c2, c3, c4, c5⟩ := hm
    unfold Cur
    simp only [am_upI_at, am_upI_ne, pk_us, pk_un, ne_eq, Nat.reduceEqDiff, not_false_eq_true]
    refine ⟨c1, c2, GS_st c3 (fun s hs h => h) (fun s hs h => upd2 h) (fun s hs h => upd2 h) (fun s hs h => h) (fun s hs h => h) (fun s' hs' h => ?_) (fun s' hs' h => h), c4, c5⟩
    by_cases q : s' = s
    · subst q
      rw [pk_us]
      exact Or.inr ⟨0, by omega, nI_0.symm⟩
    · rw [pk_un q]
      exact h
  · obtain ⟨d1, d2, d3, d4, d5, d6, ⟨tc, d7, d8, d9⟩, d10⟩ := hT
    unfold Tl
    simp only [am_upI_at, am_upI_ne, pk_us, pk_un, ne_eq, Nat.reduceEqDiff, not_false_eq_true]
    exact ⟨d1, d2, d3, d4, trivial, d6, ⟨tc, by omega, d8, d9⟩, d10⟩
  · simp only [am_upI_at, am_upI_ne, pk_us, pk_un, ne_eq, Nat.reduceEqDiff, not_false_eq_true]
    exact h29
-- how many sheets in order are GOOD
def gq (h : Nat → Int32) : Nat → Nat → Int32
  | 0, i => nI i
  | d + 1, i => if h i = 5 then gq h d (i + 1) else nI i
theorem lp_18 {F : Nat} {S : AmT} {g c : Nat} {h : Nat → Int32} (hg : g < 4) (hc : c ≤ 4) (hh : ∀ i, i < c → ∃ s, s < 8 ∧ S.1 77 (4 * g + i) = nI s ∧ S.1 64 s = h i) : ∀ (n d i : Nat), i + d = c → d < n → g18_11 F n (nI g) (nI c) (nI i) S = some (gq h d i, S)
  | 0, d, i, h1, h2 => absurd h2 (by omega)
  | n + 1, d, i, h1, h2 => by
    unfold g18_11
    cases d with
    | zero =>
      rw [if_pos (nI_le (by omega) (by omega))]
      rfl
    | succ d =>
      obtain ⟨s, hs, e1, e2⟩ := hh i (by omega)
      have e4 : nI g * 4 + nI i = nI (4 * g + i) := by
        show nI g * nI 4 + nI i = _
        rw [nI_mul, nI_add, Nat.mul_comm]
      unfold f7 f120
      rw [if_neg (nI_ge (by omega) (by omega)), b2_at, e4, kg_at (by omega) (by omega), e1, b2_at, kg_at (by omega) (by omega), e2, nI_1]
      unfold gq
      by_cases q : h i = 5
      · rw [if_pos q, if_pos q]
        exact lp_18 hg hc hh n d (i + 1) (by omega) (by omega)
      · rw [if_neg q, if_neg q]
theorem lp_291 {F : Nat} {S : AmT} {g c : Nat} {h : Nat → Int32} (hg : g < 4) (hc : c ≤ 4) (h120 : S.1 120 g = nI c) (hh : ∀ i, i < c → ∃ s, s < 8 ∧ S.1 121 (4 * g + i) = nI s ∧ S.1 112 s = h i) : ∀ (n d i : Nat), i + d = c → d < n → g291_13 F n (nI g) (nI i) S = some (gq h d i, S)
  | 0, d, i, h1, h2 => absurd h2 (by omega)
  | n + 1, d, i, h1, h2 => by
    unfold g291_13
    rw [ck_at (by omega) (by omega), nI_clamp (by omega), h120]
    cases d with
    | zero =>
      rw [if_pos (nI_le (by omega) (by omega))]
      rfl
    | succ d =>
      obtain ⟨s, hs, e1, e2⟩ := hh i (by omega)
      have e4 : 4 * nI g + nI i = nI (4 * g + i) := by
        show nI 4 * nI g + nI i = _
        rw [nI_mul, nI_add]
      rw [if_neg (nI_ge (by omega) (by omega)), e4, ck_at (by omega) (by omega), nI_clamp (by omega), e1, ck_at (by omega) (by omega), nI_clamp (by omega), e2, nI_1]
      unfold gq
      by_cases q : h i = 5
      · rw [if_pos q, if_pos q]
        exact lp_291 hg hc h120 hh n d (i + 1) (by omega) (by omega)
      · rw [if_neg q, if_neg q]
theorem st_good {F : Nat} (hF : 6000 ≤ F) (x1 : Int32) : FpStep (f189 F x1) (f291 F x1) := by
  refine Fp_of fun S t ht hR => ?_
  obtain ⟨nj, nf, ns, ng, nb, hC⟩ := Rel_z hR
  have hn := hC.2.2.1.1
  unfold f189 f291
  refine RG_g1 (Gd_sig hC) hR ?_
  rintro ⟨g, hg, rfl⟩
  obtain ⟨-, -, ⟨-, -, -, b4, -⟩, ⟨g1, -, -, -, -, -, -, g8, g9, g10, g11, g12⟩, -⟩ := id hC
  obtain ⟨-, c, hc, e75, hmem⟩ := g10 g hg
  refine RG_q (v := gq (fun i => S.1 64 (S.1 77 (4 * g + i)).toNatClampNeg) c 0) hR ?_ fun S1 hf => ?_
  · unfold f18
    rw [b2_id, kg_at (by omega) (by omega), e75]
    refine lp_18 (by omega) hc (fun i hi => ?_) F c 0 (by omega) (by omega)
    obtain ⟨s, hs, e⟩ := hmem i hi
    exact ⟨s, by omega, e, by rw [e, nI_clamp (by omega)]⟩
  · refine lp_291 (by omega) hc ?_ (fun i hi => ?_) F c 0 (by omega) (by omega)
    · rw [hf 120 (by omega), ← mz_at (I := S.1) (k := 120) (mi_h (by show g < 4; omega)), ← (g8 g (by omega)).2.1, e75]
    · obtain ⟨s, hs, e⟩ := hmem i hi
      refine ⟨s, by omega, ?_, ?_⟩
      · rw [hf 121 (by omega), ← mz_at (I := S.1) (k := 121) (mi_h (by show 4 * g + i < 16; omega)), ← g9 _ (by omega), e]
      · rw [hf 112 (by omega), ← mz_at (I := S.1) (k := 112) (mi_h (by show s < 8; omega)), ← (b4 s (by omega)).2.2.2.2.1, e, nI_clamp (by omega)]
-- what is asked, where both may use their own places
def Kq (S0 S : AmT) (A : Mem) : Prop := S.2 = S0.2 ∧ (∀ o, o ≤ 4 ∨ kc o → S.1 o = S0.1 o) ∧ (∀ o, 5 ≤ o → o ≤ 94 → S.1 o = A o) ∧ ∀ o, 95 ≤ o → S.1 o = S0.1 o
theorem Kq_0 (S : AmT) : Kq S S S.1 := ⟨rfl, fun _ _ => rfl, fun _ _ _ => rfl, fun _ _ => rfl⟩
theorem mvw_at {I I0 : Mem} (hv : mv I = mv I0) (hw : mw I = mw I0) {k j : Nat} (h : j < hf k + hf k) : I k j = I0 k j := by
  by_cases hj : j < hf k
  · have h1 := congrFun (congrFun hv k) j
    unfold mv at h1
    rwa [if_pos hj, if_pos hj] at h1
  · have h1 := congrFun (congrFun hw k) (j - hf k)
    unfold mw at h1
    rw [if_pos (by omega), if_pos (by omega)] at h1
    rwa [show hf k + (j - hf k) = j by omega] at h1
theorem Rel_tal2 {S S2 : AmT} {t : Nat} (h : Rel S t) (h2 : S2.2 = S.2) (hc : ∀ o, o ≤ 4 ∨ kc o → S2.1 o = S.1 o) (e1 : mv S2.1 = mv S.1) (e2 : mw S2.1 = mw S.1) (h29 : S2.1 95 29 = S.1 95 29) (hT : Tal S2.1 (t + 1)) : Rel S2 (t + 1) := by
  obtain ⟨⟨nj, nf, ns, ng, nb, hC⟩, -, hb, g1, g2, g3⟩ := h
  refine ⟨⟨nj, nf, ns, ng, nb, ?_⟩, hT, ?_, ?_, ?_, ?_⟩
  · rw [e1]
    exact Cur_congr (fun o ho => hc o (Or.inr ho)) hC
  · obtain ⟨b1, b2, b3⟩ := hb
    refine ⟨fun j hj => ?_, fun j hj => ?_, fun j hj => ?_⟩
    · rw [mvw_at e1 e2 (show j < hf 116 + hf 116 from hj)]
      exact b1 j hj
    · rw [mvw_at e1 e2 (show j < hf 122 + hf 122 from hj)]
      exact b2 j hj
    · rw [mvw_at e1 e2 (show j < hf 124 + hf 124 from hj)]
      exact b3 j hj
  · rw [hc 1 (Or.inl (by omega))]
    exact g1
  · rw [h29, hc 1 (Or.inl (by omega))]
    exact g2
  · rw [hc 1 (Or.inl (by omega))]
    intro h14
    obtain ⟨B, hJ, nj', nf', ns', ng', nb', hC'⟩ := g3 h14
    exact ⟨B, J_keep hJ h2 (hc 1 (Or.inl (by omega))) (hc 3 (Or.inl (by omega))) (hc 4 (Or.inl (by omega))) (fun o ho => hc o (Or.inr ho)), nj', nf', ns', ng', nb', by rw [e2]; exact hC'⟩
theorem RG_qq {S : AmT} {t : Nat} {C : Option (Int32 × AmT)} {M : AmT → Option (Int32 × AmT)} (hR : Rel S t)
    (H : ∃ v S1 A, C = some (v, S1) ∧ Kq S S1 A ∧ (My S1 S1 (mz S.1) (mw S.1) → MG S1 (mw S.1) (M S1) (fun v' m => v' = v ∧ (∀ o, 96 ≤ o → o ≤ 124 → m o = mz S.1 o) ∧ Tl A m (t + 1) ∧ m 95 29 = mz S.1 95 29))) : RG S t C M := by
  obtain ⟨v, S1, A, hC, hK, hM⟩ := H
  have h0 : My S1 S1 (mz S.1) (mw S.1) := by
    refine ⟨rfl, fun _ _ => rfl, ?_, (mv_cells (I := S.1) (I' := S1.1) (fun o o1 _ => hK.2.2.2 o (by omega))).2⟩
    funext k j
    unfold mz
    by_cases h : k < 95
    · rw [if_pos h, if_pos h]
    · rw [if_neg h, if_neg h, hK.2.2.2 k (by omega)]
  obtain ⟨v', S2, m, e1, e2, rfl, hc, htl, h29⟩ := hM h0
  refine ⟨v', S1, hC, fun o ho => hK.2.2.2 o ho, S2, e1, ?_⟩
  obtain ⟨a1, a2, a3, a4⟩ := e2
  have hv : mv S2.1 = mv S.1 := by
    funext o j
    by_cases ho : 96 ≤ o ∧ o ≤ 124
    · rw [← mz_mv ho.1 ho.2, ← mz_mv ho.1 ho.2, a3, hc o ho.1 ho.2]
    · have h0 : hf o = 0 := Classical.byContradiction fun z => ho (hf_in z)
      unfold mv
      rw [h0, if_neg (by omega), if_neg (by omega)]
  refine Rel_tal2 hR (a1.trans hK.1) (fun o ho => ?_) hv a4 ?_ ?_
  · rw [a2 o (by omega)]
    exact hK.2.1 o ho
  · rw [← a3, mz_at (Or.inl rfl), mz_at (Or.inl rfl)] at h29
    exact h29
  · refine Tl_to (A := A) ((a2 5 (by omega)).trans (hK.2.2.1 5 (by omega) (by omega))) ((a2 6 (by omega)).trans (hK.2.2.1 6 (by omega) (by omega))) ?_
    rw [a3]
    exact htl
