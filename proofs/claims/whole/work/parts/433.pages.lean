/-! calls: pages, rows, letters -/
theorem PG_mono {a17 a19 a21 m100 m101 m102 a17' a19' a21' m100' m101' m102' : Nat → Int32} {s : Nat} (h : PG a17 a19 a21 m100 m101 m102 s) (h1 : a17' s = a17 s) (h2 : m100' s = m100 s) (H : ∀ i, i < 8 → RW a19 a21 m101 m102 (8 * s + i) → RW a19' a21' m101' m102' (8 * s + i)) : PG a17' a19' a21' m100' m101' m102' s := by
  rcases h with ⟨a, b⟩ | ⟨r, a, b, c, d⟩
  · exact Or.inl ⟨h1.trans a, h2.trans b⟩
  · exact Or.inr ⟨r, a, h1.trans b, h2.trans c, fun i hi => H i (by omega) (d i hi)⟩
theorem RW_mono {a19 a21 m101 m102 a19' a21' m101' m102' : Nat → Int32} {r : Nat} (h : RW a19 a21 m101 m102 r) (h1 : a19' r = a19 r) (h2 : m101' r = m101 r) (H : ∀ k, k < 10 → LT a21 m102 (10 * r + k) → LT a21' m102' (10 * r + k)) : RW a19' a21' m101' m102' r := by
  rcases h with ⟨a, b⟩ | ⟨c, a, b, d, e⟩
  · exact Or.inl ⟨h1.trans a, h2.trans b⟩
  · exact Or.inr ⟨c, a, h1.trans b, h2.trans d, fun k hk => H k (by omega) (e k hk)⟩
theorem GJ_pg {a9 : Int32} {a11 a13 a15 a17 a19 a21 : Nat → Int32} {m0 : Int32} {m97 m98 m99 m100 m101 m102 a17' a19' a21' m100' m101' m102' : Nat → Int32} {nj : Nat} (h : GJ a9 a11 a13 a15 a17 a19 a21 m0 m97 m98 m99 m100 m101 m102 nj) (H : ∀ s, s < 72 → PG a17 a19 a21 m100 m101 m102 s → PG a17' a19' a21' m100' m101' m102' s) : GJ a9 a11 a13 a15 a17' a19' a21' m0 m97 m98 m99 m100' m101' m102' nj := by
  obtain ⟨h1, h2, h3, h4⟩ := h
  refine ⟨h1, h2, h3, fun j hj => ?_⟩
  obtain ⟨a1, a2, a3, l, v, p, b1, b2, b3, b4, b5, b6, b7, b8⟩ := h4 j hj
  exact ⟨a1, a2, a3, l, v, p, b1, b2, b3, b4, b5, b6, b7, fun s s1 s2 => H s (by omega) (b8 s s1 s2)⟩
theorem spc {j i : Nat} : nI j * 24 + nI (i + 1) - 1 = nI (24 * j + i) := by
  show nI j * nI 24 + nI (i + 1) - nI 1 = _
  rw [nI_mul, nI_add, nI_sub (by omega)]
  congr 1
  omega
theorem spm {j i : Nat} : 24 * nI j + nI (i + 1) - 1 = nI (24 * j + i) := by
  show nI 24 * nI j + nI (i + 1) - nI 1 = _
  rw [nI_mul, nI_add, nI_sub (by omega)]
  congr 1
theorem f39_eq {F : Nat} {S : AmT} {j i : Nat} : f39 F (nI j) (nI (i + 1)) S = some (nI (24 * j + i), S) := by
  unfold f39
  rw [spc]
theorem f207_eq {F : Nat} {S : AmT} {j i : Nat} : f207 F (nI j) (nI (i + 1)) S = some (nI (24 * j + i), S) := by
  unfold f207
  rw [spm]
theorem Gd_page {F : Nat} {S : AmT} {x y : Int32} {nj nf ns ng nb : Nat} (hC : Cur S.1 (mz S.1) nj nf ns ng nb) : Gd S (f35 F x y) (f206 F x y) (∃ j i q, j < nj ∧ i < q ∧ q ≤ 24 ∧ x = nI j ∧ y = nI (i + 1) ∧ S.1 15 j = nI q) := by
  have hn := hC.1.1
  unfold Gd f35 f206
  rcases Gd_job (F := F) (x := x) hC with ⟨⟨j, hj, rfl⟩, h1, h2⟩ | ⟨h1, h2⟩
  · obtain ⟨l, w, p, b1, b2, b3, b4, b5, b6, b7, b8, b9, b10, b11⟩ := Cur_job hC (j := j) (by omega)
    have e97 : S.1 97 j = nI p := (mz_at (mi_h (by show j < 3; omega))).symm.trans b9
    have hm : ∀ S1, fr S S1 → am_b2 (f205 F (nI j) S1) (fun v1 S2 => if v1 = 0 then (some (0, S2)) else (am_ck (nI j) 6 (am_b2 (f197 F y 1 (S2.1 97 (nI j).toNatClampNeg) S2) fun v4 S5 => if v4 = 0 then (some (0, S5)) else (some (1, S5))))) = am_b2 (some ((if y < 1 then 0 else if nI p < y then 0 else 1 : Int32), S1)) (fun v4 S5 => if v4 = 0 then (some ((0 : Int32), S5)) else (some (1, S5))) := by
      intro S1 hf
      rw [h2 S1 hf, b2_at, if_neg (by decide), ck_at (by omega) (by omega), f197_eq, nI_clamp (by omega), hf 97 (by omega), e97]
    rw [h1, b2_at, if_neg (by decide), kg_at (by omega) (by omega), b6]
    by_cases c1 : y < 1
    · refine Or.inr ⟨if_pos c1, fun S1 hf => ?_⟩
      rw [hm S1 hf, if_pos c1]
      rfl
    by_cases c2 : nI p < y
    · refine Or.inr ⟨by rw [if_neg c1, if_pos c2], fun S1 hf => ?_⟩
      rw [hm S1 hf, if_neg c1, if_pos c2]
      rfl
    refine Or.inl ⟨?_, by rw [if_neg c1, if_neg c2], fun S1 hf => ?_⟩
    · have hp : 1 ≤ p := by
        refine Classical.byContradiction fun q => ?_
        have : p = 0 := by omega
        subst this
        rw [nI_0, Int32.lt_iff_toInt_lt] at c2
        rw [Int32.lt_iff_toInt_lt] at c1
        have e1 : (1 : Int32).toInt = 1 := by decide
        rw [e1] at c1
        rw [Int32.toInt_zero] at c2
        omega
      obtain ⟨i, hi1, hi2, rfl⟩ := i32_btw (a := 1) (b := p) (by omega) hp c1 c2
      exact ⟨j, i - 1, p, hj, by omega, b3, rfl, by congr 1; omega, b6⟩
    · rw [hm S1 hf, if_neg c1, if_neg c2]
      rfl
  · refine Or.inr ⟨?_, fun S1 hf => ?_⟩
    · rw [h1]
      rfl
    · rw [h2 S1 hf]
      rfl
theorem m1ne {n : Nat} (h : n < 2147483648) : ¬ nI n = -1 := by
  intro q
  have := nI_pos h
  rw [q] at this
  exact this (by decide)
/-- a row of a page: what both say of it -/
theorem row_c {F : Nat} {S : AmT} {s : Nat} {x : Int32} {a17 a19 a21 m100 m101 m102 : Nat → Int32} (hs : s < 72) (hA : S.1 17 s = a17 s) (hP : PG a17 a19 a21 m100 m101 m102 s) :
    (f50 F (nI s) x S = some (-11, S) ∧ ∀ S2 : AmT, S2.1 100 s = m100 s → f212 F (nI s) x S2 = some (1, S2)) ∨
    (f50 F (nI s) x S = some (-12, S) ∧ ∀ S2 : AmT, S2.1 100 s = m100 s → f212 F (nI s) x S2 = some (2, S2)) ∨
    ∃ i, i < 8 ∧ x = nI i ∧ f50 F (nI s) x S = some (nI (8 * s + i), S) ∧ (∀ S2 : AmT, S2.1 100 s = m100 s → f212 F (nI s) x S2 = some (0, S2)) ∧ RW a19 a21 m101 m102 (8 * s + i) := by
  have em : ∀ (S2 : AmT) (v : Int32), S2.1 100 s = m100 s → m100 s = v → f212 F (nI s) x S2 = if 0 ≤ v then (am_b2 (some ((if x < 0 then 0 else if v - 1 < x then 0 else 1 : Int32), S2)) fun v2 S3 => if v2 = 0 then (some ((2 : Int32), S3)) else (some (0, S3))) else (some (1, S2)) := by
    intro S2 v h1 h2
    unfold f212
    rw [ck_at (by omega) (by omega), ck_at (by omega) (by omega), nI_clamp (by omega), h1, h2, f197_eq]
  unfold f50
  rw [kg_at hs (by omega), hA]
  rcases hP with ⟨h1, h2⟩ | ⟨r, hr, h1, h2, h3⟩
  · refine Or.inl ⟨by rw [h1, if_pos rfl], fun S2 hS => ?_⟩
    rw [em S2 _ hS h2]
    rfl
  · rw [h1, if_neg (m1ne (by omega))]
    have h0 : (0 : Int32) ≤ nI r := by
      have := nI_le (a := 0) (b := r) (by omega) (by omega)
      rwa [nI_0] at this
    by_cases c1 : x < 0
    · refine Or.inr (Or.inl ⟨by rw [if_pos c1]; rfl, fun S2 hS => ?_⟩)
      rw [em S2 _ hS h2, if_pos h0, if_pos c1]
      rfl
    by_cases c2 : x < nI r
    · obtain ⟨i, hi, rfl⟩ := nI_of c1
      have hir := (nI_ltI hi (by omega)).mp c2
      refine Or.inr (Or.inr ⟨i, by omega, rfl, ?_, fun S2 hS => ?_, h3 i hir⟩)
      · rw [if_neg c1, if_pos c2]
        show some (nI s * nI 8 + nI i, S) = _
        rw [nI_mul, nI_add, Nat.mul_comm]
      · rw [em S2 _ hS h2, if_pos h0, if_neg c1, if_neg (fun z => nI_ge hir (by omega) ((i32_m1 (by omega)).mp z))]
        rfl
    · refine Or.inr (Or.inl ⟨by rw [if_neg c1, if_neg c2]; rfl, fun S2 hS => ?_⟩)
      rw [em S2 _ hS h2, if_pos h0, if_neg c1, if_pos ((i32_m1 (by omega)).mpr (Int32.not_lt.mp c2))]
      rfl
/-- a letter of a row: what both say of it -/
theorem let_c {F : Nat} {S : AmT} {s : Nat} {x y : Int32} {a17 a19 a21 m100 m101 m102 : Nat → Int32} (hs : s < 72) (hA : S.1 17 s = a17 s) (hA2 : S.1 19 = a19) (hP : PG a17 a19 a21 m100 m101 m102 s) :
    (∃ e : Nat, (e = 1 ∨ e = 2) ∧ (am_b2 (f50 F (nI s) x S) fun v1 S2 => f51 F v1 y S2) = some (-10 - nI e, S) ∧ ∀ S2 : AmT, S2.1 100 s = m100 s → (∀ r, r < 576 → S2.1 101 r = m101 r) → f213 F (nI s) x y S2 = some (nI e, S2)) ∨
    ∃ i k, i < 8 ∧ k < 10 ∧ x = nI i ∧ y = nI k ∧ (am_b2 (f50 F (nI s) x S) fun v1 S2 => f51 F v1 y S2) = some (nI (10 * (8 * s + i) + k), S) ∧ (∀ S2 : AmT, S2.1 100 s = m100 s → (∀ r, r < 576 → S2.1 101 r = m101 r) → f213 F (nI s) x y S2 = some (0, S2)) ∧ LT a21 m102 (10 * (8 * s + i) + k) := by
  rcases row_c (F := F) (x := x) hs hA hP with ⟨h1, h2⟩ | ⟨h1, h2⟩ | ⟨i, hi, rfl, h1, h2, hw⟩
  · refine Or.inl ⟨1, Or.inl rfl, ?_, fun S2 q1 q2 => ?_⟩
    · rw [h1]
      rfl
    · unfold f213
      rw [h2 S2 q1]
      rfl
  · refine Or.inl ⟨2, Or.inr rfl, ?_, fun S2 q1 q2 => ?_⟩
    · rw [h1]
      rfl
    · unfold f213
      rw [h2 S2 q1]
      rfl
  · have em : ∀ (S2 : AmT) (v : Int32), S2.1 100 s = m100 s → (∀ r, r < 576 → S2.1 101 r = m101 r) → m101 (8 * s + i) = v → f213 F (nI s) (nI i) y S2 = if 0 ≤ v then (am_b2 (some ((if y < 0 then 0 else if v - 1 < y then 0 else 1 : Int32), S2)) fun v5 S6 => if v5 = 0 then (some ((2 : Int32), S6)) else (some (0, S6))) else (some (1, S2)) := by
      intro S2 v q1 q2 q3
      have e8 : 8 * nI s + nI i = nI (8 * s + i) := by
        show nI 8 * nI s + nI i = _
        rw [nI_mul, nI_add]
      unfold f213
      rw [h2 S2 q1, b2_at, if_pos (Int32.le_refl _), e8, ck_at (by omega) (by omega), nI_clamp (by omega), q2 _ (by omega), q3, f197_eq]
    have ec : (am_b2 (f50 F (nI s) (nI i) S) fun v1 S2 => f51 F v1 y S2) = if a19 (8 * s + i) = (-1) then (some ((-11), S)) else (if y < 0 then (some ((-12), S)) else (if y < a19 (8 * s + i) then (some (((nI (8 * s + i) * 10) + y), S)) else (some ((-12), S)))) := by
      rw [h1, b2_at]
      unfold f51
      rw [if_pos (by have := nI_le (a := 0) (b := 8 * s + i) (by omega) (by omega); rwa [nI_0] at this), kg_at (by omega) (by omega), hA2]
      rfl
    rw [ec]
    rcases hw with ⟨w1, w2⟩ | ⟨c, hc, w1, w2, w3⟩
    · refine Or.inl ⟨1, Or.inl rfl, ?_, fun S2 q1 q2 => ?_⟩
      · rw [w1, if_pos rfl]
        rfl
      · rw [em S2 _ q1 q2 w2]
        rfl
    · rw [w1, if_neg (m1ne (by omega))]
      have h0 : (0 : Int32) ≤ nI c := by
        have := nI_le (a := 0) (b := c) (by omega) (by omega)
        rwa [nI_0] at this
      by_cases c1 : y < 0
      · refine Or.inl ⟨2, Or.inr rfl, by rw [if_pos c1]; rfl, fun S2 q1 q2 => ?_⟩
        rw [em S2 _ q1 q2 w2, if_pos h0, if_pos c1]
        rfl
      by_cases c2 : y < nI c
      · obtain ⟨k, hk, rfl⟩ := nI_of c1
        have hkc := (nI_ltI hk (by omega)).mp c2
        refine Or.inr ⟨i, k, hi, by omega, rfl, rfl, ?_, fun S2 q1 q2 => ?_, w3 k hkc⟩
        · rw [if_neg c1, if_pos c2]
          show some (nI (8 * s + i) * nI 10 + nI k, S) = _
          rw [nI_mul, nI_add, Nat.mul_comm]
        · rw [em S2 _ q1 q2 w2, if_pos h0, if_neg c1, if_neg (fun z => nI_ge hkc (by omega) ((i32_m1 (by omega)).mp z))]
          rfl
      · refine Or.inl ⟨2, Or.inr rfl, by rw [if_neg c1, if_neg c2]; rfl, fun S2 q1 q2 => ?_⟩
        rw [em S2 _ q1 q2 w2, if_pos h0, if_neg c1, if_pos ((i32_m1 (by omega)).mpr (Int32.not_lt.mp c2))]
        rfl
theorem st_page {F : Nat} (hF : 6000 ≤ F) (x1 : Int32) : FpStep (f142 F x1) (f209 F x1) := by
  refine Fp_of fun S t ht hR => ?_
  obtain ⟨nj, nf, ns, ng, nb, hC⟩ := Rel_z hR
  have hn := hC.1.1
  unfold f142 f209
  refine RG_jam hR ?_
  refine RG_g1 (Gd_job hC) hR ?_
  rintro ⟨j, hj, rfl⟩
  obtain ⟨l, w, p, b1, b2, b3, b4, b5, b6, b7, b8, b9, b10, b11⟩ := Cur_job hC (j := j) (by omega)
  have e97 : S.1 97 j = nI p := (mz_at (mi_h (by show j < 3; omega))).symm.trans b9
  unfold f36
  simp only [b2_at, ck_at (show j < 6 by omega) (show 6 < 2147483648 by omega), nI_clamp (show j < 2 ^ 31 by omega)]
  rw [kg_at (by omega) (by omega), b6]
  refine RG_itn (fun S1 hf => ?_) (fun hlt => ?_) (fun _ => RG_ret hR)
  · rw [hf 97 (by omega), e97]
    exact nI_full (k := 24) (by omega) (by omega)
  have hlt : p < 24 := (nI_ltI (b := 24) (by omega) (by omega)).mp hlt
  refine RG_chg hF hR hC fun m0 hm hT h29 hz S' hK => ?_
  rw [b2_id]
  unfold f41
  rw [Ky_kg hK (by omega) (by omega) (by omega), b6, nI_1, f39_eq, b2_at]
  refine KG_ks hK (by omega) rfl rfl (by omega) fun S3 h3 => ?_
  refine KG_ks h3 (by omega) rfl rfl (by omega) fun S4 h4 => ?_
  refine KG_ret h4 (by omega) fun S2 hM => ?_
  have e0 : S2.1 97 j = nI p := (My_rd hM (mi_h (by show j < 3; omega))).trans ((hz 97 j (mi_h (by show j < 3; omega)) (by omega)).trans e97)
  rw [e0, nI_1]
  refine MG_up hM (mi_h (by show j < 3; omega)) fun S5 h5 => ?_
  have e5 : S5.1 97 j = nI (p + 1) := (My_rd h5 (mi_h (by show j < 3; omega))).trans (by simp only [am_upI_at, am_upI_ne, pk_us, pk_un, ne_eq, Nat.reduceEqDiff, not_false_eq_true])
  rw [e5, f207_eq, b2_at]
  refine MG_cu h5 rfl (by show 24 * j + p < 72; omega) (by omega) (by omega) fun S6 h6 => ?_
  have e6 : S6.1 97 j = nI (p + 1) := (My_rd h6 (mi_h (by show j < 3; omega))).trans (by simp only [am_upI_at, am_upI_ne, pk_us, pk_un, ne_eq, Nat.reduceEqDiff, not_false_eq_true])
  rw [e6]
  refine MG_ret h6 ⟨rfl, ⟨nj, nf, ns, ng, nb, ?_⟩, ?_, ?_⟩
  · obtain ⟨⟨g1, g2, g3, g4⟩, c2, c3, c4, c5⟩ := hm
    unfold Cur
    simp only [am_upI_at, am_upI_ne, pk_us, pk_un, ne_eq, Nat.reduceEqDiff, not_false_eq_true]
    refine ⟨⟨g1, g2, g3, fun j' hj' => ?_⟩, c2, c3, c4, c5⟩
    obtain ⟨a1, a2, a3, l', w', p', d1, d2, d3, d4, d5, d6, d7, d8⟩ := g4 j' hj'
    have hpg : ∀ s, s ≠ 24 * j + p → PG (S.1 17) (S.1 19) (S.1 21) (m0 100) (m0 101) (m0 102) s → PG (upd (S.1 17) (24 * j + p) (-1)) (S.1 19) (S.1 21) (upd (m0 100) (24 * j + p) (-1)) (m0 101) (m0 102) s := fun s hs h => PG_mono h (pk_un hs) (pk_un hs) (fun i _ z => z)
    by_cases hjj : j' = j
    · subst hjj
      have hpp : p' = p := by
        rw [b6] at d6
        exact ((nI_eq (by omega) (by omega)).mp d6).symm
      subst hpp
      rw [pk_us, pk_us]
      refine ⟨a1, a2, rfl, l', w', p' + 1, d1, d2, by omega, d4, d5, rfl, fun q => absurd hj (by omega), fun s s1 s2 => ?_⟩
      by_cases hs : s = 24 * j' + p'
      · subst hs
        exact Or.inl ⟨pk_us, pk_us⟩
      · exact hpg s hs (d8 s s1 (by omega))
    · rw [pk_un hjj, pk_un hjj]
      exact ⟨a1, a2, a3, l', w', p', d1, d2, d3, d4, d5, d6, d7, fun s s1 s2 => hpg s (by omega) (d8 s s1 s2)⟩
  · refine Tl_mono (Tl_congr hT ?_ ?_ (fun j _ _ => ?_) ?_) (by omega) <;> simp only [am_upI_at, am_upI_ne, pk_us, pk_un, ne_eq, Nat.reduceEqDiff, not_false_eq_true]
  · simp only [am_upI_at, am_upI_ne, pk_us, pk_un, ne_eq, Nat.reduceEqDiff, not_false_eq_true]
    exact h29
theorem st_blank {F : Nat} (hF : 6000 ≤ F) (x1 x2 : Int32) : FpStep (f143 F x1 x2) (f210 F x1 x2) := by
  refine Fp_of fun S t ht hR => ?_
  obtain ⟨nj, nf, ns, ng, nb, hC⟩ := Rel_z hR
  have hn := hC.1.1
  unfold f143 f210
  refine RG_jam hR ?_
  refine RG_g1 (Gd_page hC) hR ?_
  rintro ⟨j, i, q, hj, hi, hq, rfl, rfl, -⟩
  refine RG_chg hF hR hC fun m0 hm hT h29 hz S' hK => ?_
  rw [f39_eq, b2_at, b2_id]
  unfold f42
  refine KG_ks hK (by omega) rfl rfl (by omega) fun S3 h3 => ?_
  refine KG_ret h3 (by omega) fun S2 hM => ?_
  rw [f207_eq, b2_at]
  refine MG_cu hM rfl (by show 24 * j + i < 72; omega) (by omega) (by omega) fun S4 h4 => ?_
  refine MG_ret h4 ⟨rfl, ⟨nj, nf, ns, ng, nb, ?_⟩, ?_, ?_⟩
  · obtain ⟨c1, c2, c3, c4, c5⟩ := hm
    unfold Cur
    simp only [am_upI_at, am_upI_ne, pk_us, pk_un, ne_eq, Nat.reduceEqDiff, not_false_eq_true]
    refine ⟨GJ_pg c1 fun s hs h => ?_, c2, c3, c4, c5⟩
    by_cases hss : s = 24 * j + i
    · subst hss
      exact Or.inl ⟨pk_us, pk_us⟩
    · exact PG_mono h (pk_un hss) (pk_un hss) (fun i _ z => z)
  · refine Tl_mono (Tl_congr hT ?_ ?_ (fun j _ _ => ?_) ?_) (by omega) <;> simp only [am_upI_at, am_upI_ne, pk_us, pk_un, ne_eq, Nat.reduceEqDiff, not_false_eq_true]
  · simp only [am_upI_at, am_upI_ne, pk_us, pk_un, ne_eq, Nat.reduceEqDiff, not_false_eq_true]
    exact h29
