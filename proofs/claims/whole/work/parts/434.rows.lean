/-! calls: rows, row, miss, letter; what can be asked of a page -/
def cst (A : Mem) (o : Nat) (f : Nat → Int32) : Mem := fun k => if k = o then f else A k
theorem cst_at {A : Mem} {o : Nat} {f : Nat → Int32} : cst A o f o = f := by simp [cst]
theorem cst_ne {A : Mem} {o k : Nat} {f : Nat → Int32} (h : k ≠ o) : cst A o f k = A k := by simp [cst, h]
theorem cst_id {A : Mem} {o : Nat} : cst A o (A o) = A := by
  funext k
  by_cases h : k = o
  · subst h
    exact cst_at
  · exact cst_ne h
theorem cst_up {A : Mem} {o i : Nat} {f : Nat → Int32} {x : Int32} : am_upI (cst A o f) o i x = cst A o (upd f i x) := by
  funext k
  by_cases h : k = o
  · subst h
    rw [am_upI_at, cst_at, cst_at]
  · rw [am_upI_ne h, cst_ne h, cst_ne h]
def fil (f : Nat → Int32) (b n : Nat) (x : Int32) : Nat → Int32 := fun j => if b ≤ j ∧ j < b + n then x else f j
theorem fil_0 {f : Nat → Int32} {b : Nat} {x : Int32} : fil f b 0 x = f := by
  funext j
  unfold fil
  rw [if_neg (by omega)]
theorem fil_s {f : Nat → Int32} {b n : Nat} {x : Int32} : upd (fil f b n x) (b + n) x = fil f b (n + 1) x := by
  funext j
  unfold fil upd
  by_cases h : j = b + n
  · rw [if_pos h, if_pos (by omega)]
  · rw [if_neg h]
    show (if b ≤ j ∧ j < b + n then x else f j) = _
    by_cases h2 : b ≤ j ∧ j < b + n
    · rw [if_pos h2, if_pos (by omega)]
    · rw [if_neg h2, if_neg (by omega)]
theorem fil_in {f : Nat → Int32} {b n j : Nat} {x : Int32} (h : b ≤ j ∧ j < b + n) : fil f b n x j = x := by
  unfold fil
  rw [if_pos h]
theorem fil_out {f : Nat → Int32} {b n j : Nat} {x : Int32} (h : ¬ (b ≤ j ∧ j < b + n)) : fil f b n x j = f j := by
  unfold fil
  rw [if_neg h]
theorem lp_43 {F : Nat} {S0 : AmT} {A : Mem} {s N k0 nn : Nat} {Q : Int32 → AmT → Mem → Prop} (hs : s < 72) (hN : N ≤ 8) (hk : k0 ≤ 600) (H : ∀ S', Ky S0 S' (cst A 19 (fil (A 19) (8 * s) N (-1))) (k0 + N) → KG S0 nn (some (1, S')) Q) :
    ∀ (n i : Nat) (S : AmT), i ≤ N → N < n + i → Ky S0 S (cst A 19 (fil (A 19) (8 * s) i (-1))) (k0 + i) → KG S0 nn (g43_27 F n (nI s) (nI N) (nI i) S) Q
  | 0, i, S, h1, h2, h3 => absurd h2 (by omega)
  | n + 1, i, S, h1, h2, h3 => by
    unfold g43_27
    by_cases hi : i = N
    · subst hi
      rw [if_pos (nI_le (Nat.le_refl _) (by omega))]
      exact H S h3
    · rw [if_neg (nI_ge (by omega) (by omega)), nI_1]
      refine KG_ks (p := 8 * s + i) h3 (by omega) rfl ?_ (by omega) fun S' h' => ?_
      · show nI s * nI 8 + nI i = _
        rw [nI_mul, nI_add, Nat.mul_comm]
      · rw [cst_up, fil_s] at h'
        exact lp_43 hs hN hk H n (i + 1) S' (by omega) (by omega) h'
theorem lp_44 {F : Nat} {S0 : AmT} {A : Mem} {r N k0 nn : Nat} {Q : Int32 → AmT → Mem → Prop} (hs : r < 576) (hN : N ≤ 10) (hk : k0 ≤ 600) (H : ∀ S', Ky S0 S' (cst A 21 (fil (A 21) (10 * r) N 32)) (k0 + N) → KG S0 nn (some (1, S')) Q) :
    ∀ (n i : Nat) (S : AmT), i ≤ N → N < n + i → Ky S0 S (cst A 21 (fil (A 21) (10 * r) i 32)) (k0 + i) → KG S0 nn (g44_45 F n (nI N) (nI r) (nI i) S) Q
  | 0, i, S, h1, h2, h3 => absurd h2 (by omega)
  | n + 1, i, S, h1, h2, h3 => by
    unfold g44_45
    by_cases hi : i = N
    · subst hi
      rw [if_pos (nI_le (Nat.le_refl _) (by omega))]
      exact H S h3
    · rw [if_neg (nI_ge (by omega) (by omega)), nI_1]
      refine KG_ks (p := 10 * r + i) h3 (by omega) rfl ?_ (by omega) fun S' h' => ?_
      · show nI r * nI 10 + nI i = _
        rw [nI_mul, nI_add, Nat.mul_comm]
      · rw [cst_up, fil_s] at h'
        exact lp_44 hs hN hk H n (i + 1) S' (by omega) (by omega) h'
theorem lp_211 {F : Nat} {S0 : AmT} {A W : Mem} {s N : Nat} {Q : Int32 → Mem → Prop} (hs : s < 72) (hN : N ≤ 8) (H : ∀ S', My S0 S' (cst A 101 (fil (A 101) (8 * s) N (-1))) W → MG S0 W (some (1, S')) Q) :
    ∀ (n i : Nat) (S : AmT), i ≤ N → N < n + i → My S0 S (cst A 101 (fil (A 101) (8 * s) i (-1))) W → MG S0 W (g211_66 F n (nI N) (nI s) (nI i) S) Q
  | 0, i, S, h1, h2, h3 => absurd h2 (by omega)
  | n + 1, i, S, h1, h2, h3 => by
    unfold g211_66
    by_cases hi : i = N
    · subst hi
      rw [if_pos (nI_le (Nat.le_refl _) (by omega))]
      exact H S h3
    · rw [if_neg (nI_ge (by omega) (by omega)), nI_1]
      refine MG_cu (p := 8 * s + i) h3 ?_ (by show 8 * s + i < 576; omega) (by omega) (by omega) fun S' h' => ?_
      · show nI 8 * nI s + nI i = _
        rw [nI_mul, nI_add]
      · rw [cst_up, fil_s] at h'
        exact lp_211 hs hN H n (i + 1) S' (by omega) (by omega) h'
theorem lp_214 {F : Nat} {S0 : AmT} {A W : Mem} {s i0 N : Nat} {Q : Int32 → Mem → Prop} (hs : s < 72) (hi0 : i0 < 8) (hN : N ≤ 10) (H : ∀ S', My S0 S' (cst A 102 (fil (A 102) (10 * (8 * s + i0)) N 32)) W → MG S0 W (some (1, S')) Q) :
    ∀ (n i : Nat) (S : AmT), i ≤ N → N < n + i → My S0 S (cst A 102 (fil (A 102) (10 * (8 * s + i0)) i 32)) W → MG S0 W (g214_95 F n (nI i0) (nI N) (nI s) (nI i) S) Q
  | 0, i, S, h1, h2, h3 => absurd h2 (by omega)
  | n + 1, i, S, h1, h2, h3 => by
    unfold g214_95
    by_cases hi : i = N
    · subst hi
      rw [if_pos (nI_le (Nat.le_refl _) (by omega))]
      exact H S h3
    · rw [if_neg (nI_ge (by omega) (by omega)), nI_1]
      refine MG_cu (p := 10 * (8 * s + i0) + i) h3 ?_ (by show 10 * (8 * s + i0) + i < 5760; omega) (by omega) (by omega) fun S' h' => ?_
      · show nI 10 * (nI 8 * nI s + nI i0) + nI i = _
        rw [nI_mul, nI_add, nI_mul, nI_add]
      · rw [cst_up, fil_s] at h'
        exact lp_214 hs hi0 hN H n (i + 1) S' (by omega) (by omega) h'
theorem lit_lt {x : Int32} {k : Nat} (hk : k < 2147483648) (h : ¬ x ≤ nI k) : nI k < x := by
  rw [Int32.lt_iff_toInt_lt]
  rw [Int32.le_iff_toInt_le] at h
  omega
theorem i32_n0 {x : Int32} : ¬ 0 ≤ x ↔ x < 0 := Int32.not_le
theorem st_rows {F : Nat} (hF : 6000 ≤ F) (x1 x2 x3 : Int32) : FpStep (f144 F x1 x2 x3) (f211 F x1 x2 x3) := by
  refine Fp_of fun S t ht hR => ?_
  obtain ⟨nj, nf, ns, ng, nb, hC⟩ := Rel_z hR
  have hn := hC.1.1
  unfold f144 f211
  refine RG_jam hR ?_
  refine RG_g1 (Gd_page hC) hR ?_
  rintro ⟨j, i, q, hj, hi, hq, rfl, rfl, -⟩
  refine RG_chg hF hR hC fun m0 hm hT h29 hz S' hK => ?_
  rw [f39_eq, b2_at]
  unfold f43
  by_cases c1 : x3 ≤ 8
  case neg =>
    rw [if_neg c1, b2_at]
    refine KG_f hK (by omega) (by decide) fun S1 h1 S2 hM => ?_
    rw [if_neg c1]
    exact MG_f hM (fin_f hm hT h29 rfl rfl)
  rw [if_pos c1]
  by_cases c2 : 0 ≤ x3
  case neg =>
    rw [if_neg c2, b2_at]
    refine KG_f hK (by omega) (by decide) fun S1 h1 S2 hM => ?_
    rw [if_pos c1, if_neg c2]
    exact MG_f hM (fin_f hm hT h29 rfl rfl)
  rw [if_pos c2]
  obtain ⟨n, hn8, rfl⟩ := i32_le_nI (x := x3) (n := 8) (by omega) (fun z => absurd c2 (i32_n0.mpr z)) (fun z => absurd c1 (Int32.not_le.mpr z))
  refine KG_b2 (n1 := 9) (Q1 := fun v S1 A => v = 1 ∧ A = cst (am_upI S.1 17 (24 * j + i) (nI n)) 19 (fil (S.1 19) (8 * (24 * j + i)) n (-1))) ?_ ?_
  · refine KG_ks hK (by omega) rfl rfl (by omega) fun S3 h3 => ?_
    refine lp_43 (A := am_upI S.1 17 (24 * j + i) (nI n)) (k0 := 1) (by omega) hn8 (by omega) (fun S4 h4 => KG_ret h4 (by omega) ⟨rfl, ?_⟩) F 0 S3 (by omega) (by omega) ?_
    · rw [fil_0, cst_id]
      exact h3
    · simp only [am_upI_at, am_upI_ne, pk_us, pk_un, ne_eq, Nat.reduceEqDiff, not_false_eq_true]
  rintro v S1 A hA ⟨rfl, rfl⟩
  refine KG_a hA (by omega) (by decide) fun S2 hM => ?_
  rw [if_pos c1, if_pos c2, f207_eq, b2_at]
  refine MG_cu hM rfl (by show 24 * j + i < 72; omega) (by omega) (by omega) fun S4 h4 => ?_
  refine lp_211 (A := am_upI m0 100 (24 * j + i) (nI n)) (by omega) hn8 (fun S5 h5 => MG_ret h5 ⟨rfl, ⟨nj, nf, ns, ng, nb, ?_⟩, ?_, ?_⟩) F 0 S4 (by omega) (by omega) ?_
  · rw [fil_0, cst_id]
    exact h4
  · obtain ⟨c1, c2, c3, c4, c5⟩ := hm
    unfold Cur
    simp only [cst_at, cst_ne, am_upI_at, am_upI_ne, pk_us, pk_un, ne_eq, Nat.reduceEqDiff, not_false_eq_true]
    refine ⟨GJ_pg c1 fun s hs h => ?_, c2, c3, c4, c5⟩
    by_cases hss : s = 24 * j + i
    · subst hss
      exact Or.inr ⟨n, hn8, pk_us, pk_us, fun r hr => Or.inl ⟨fil_in (by omega), fil_in (by omega)⟩⟩
    · exact PG_mono h (pk_un hss) (pk_un hss) (fun r hr z => RW_mono z (fil_out (by omega)) (fil_out (by omega)) (fun k hk z => z))
  · refine Tl_mono (Tl_congr hT ?_ ?_ (fun j _ _ => ?_) ?_) (by omega) <;> simp only [cst_at, cst_ne, am_upI_at, am_upI_ne, pk_us, pk_un, ne_eq, Nat.reduceEqDiff, not_false_eq_true]
  · simp only [cst_at, cst_ne, am_upI_at, am_upI_ne, pk_us, pk_un, ne_eq, Nat.reduceEqDiff, not_false_eq_true]
    exact h29
theorem st_row {F : Nat} (hF : 6000 ≤ F) (x1 x2 x3 x4 : Int32) : FpStep (f145 F x1 x2 x3 x4) (f214 F x1 x2 x3 x4) := by
  refine Fp_of fun S t ht hR => ?_
  obtain ⟨nj, nf, ns, ng, nb, hC⟩ := Rel_z hR
  have hn := hC.1.1
  unfold f145 f214
  refine RG_jam hR ?_
  refine RG_g1 (Gd_page hC) hR ?_
  rintro ⟨j, i, q, hj, hi, hq, rfl, rfl, eq⟩
  refine RG_chg hF hR hC fun m0 hm hT h29 hz S' hK => ?_
  rw [f39_eq, b2_at]
  unfold f44
  by_cases c1 : x4 ≤ 10
  case neg =>
    rw [if_neg c1, b2_at]
    refine KG_f hK (by omega) (by decide) fun S1 h1 S2 hM => ?_
    rw [if_neg c1]
    exact MG_f hM (fin_f hm hT h29 rfl rfl)
  rw [if_pos c1]
  by_cases c2 : 0 ≤ x4
  case neg =>
    rw [if_neg c2, b2_at]
    refine KG_f hK (by omega) (by decide) fun S1 h1 S2 hM => ?_
    rw [if_pos c1, if_neg c2]
    exact MG_f hM (fin_f hm hT h29 rfl rfl)
  rw [if_pos c2]
  obtain ⟨n, hn8, rfl⟩ := i32_le_nI (x := x4) (n := 10) (by omega) (fun z => absurd c2 (i32_n0.mpr z)) (fun z => absurd c1 (Int32.not_le.mpr z))
  obtain ⟨l, w, p, b1, b2, b3, b4, b5, b6, b7, b8, b9, b10, b11⟩ := Cur_job hm (j := j) (by omega)
  have hqp : q = p := by
    rw [eq] at b6
    exact (nI_eq (by omega) (by omega)).mp b6
  subst hqp
  have hP := b11 (24 * j + i) (by omega) (by omega)
  rcases row_c (F := F) (S := S') (x := x3) (by omega) (Ky_rd hK (by omega) (by omega)) hP with ⟨r1, r2⟩ | ⟨r1, r2⟩ | ⟨r, hr, rfl, r1, r2, hw⟩
  · rw [r1, b2_at, if_neg (by decide), b2_at]
    refine KG_f hK (by omega) (by decide) fun S1 h1 S2 hM => ?_
    rw [if_pos c1, if_pos c2, f207_eq, b2_at, r2 S2 (My_rd hM (mi_h (by show 24 * j + i < 72; omega))), b2_at, if_neg (by decide)]
    exact MG_f hM (fin_f hm hT h29 rfl rfl)
  · rw [r1, b2_at, if_neg (by decide), b2_at]
    refine KG_f hK (by omega) (by decide) fun S1 h1 S2 hM => ?_
    rw [if_pos c1, if_pos c2, f207_eq, b2_at, r2 S2 (My_rd hM (mi_h (by show 24 * j + i < 72; omega))), b2_at, if_neg (by decide)]
    exact MG_f hM (fin_f hm hT h29 rfl rfl)
  rw [r1, b2_at, if_pos (by have := nI_le (a := 0) (b := 8 * (24 * j + i) + r) (by omega) (by omega); rwa [nI_0] at this)]
  refine KG_b2 (n1 := 11) (Q1 := fun v S1 A => v = 1 ∧ A = cst (am_upI S.1 19 (8 * (24 * j + i) + r) (nI n)) 21 (fil (S.1 21) (10 * (8 * (24 * j + i) + r)) n 32)) ?_ ?_
  · refine KG_ks hK (by omega) rfl rfl (by omega) fun S3 h3 => ?_
    refine lp_44 (A := am_upI S.1 19 (8 * (24 * j + i) + r) (nI n)) (k0 := 1) (by omega) hn8 (by omega) (fun S4 h4 => KG_ret h4 (by omega) ⟨rfl, ?_⟩) F 0 S3 (by omega) (by omega) ?_
    · rw [fil_0, cst_id]
      exact h3
    · simp only [am_upI_at, am_upI_ne, pk_us, pk_un, ne_eq, Nat.reduceEqDiff, not_false_eq_true]
  rintro v S1 A hA ⟨rfl, rfl⟩
  refine KG_a hA (by omega) (by decide) fun S2 hM => ?_
  rw [if_pos c1, if_pos c2, f207_eq, b2_at, r2 S2 (My_rd hM (mi_h (by show 24 * j + i < 72; omega))), b2_at, if_pos (Int32.le_refl _)]
  refine MG_cu (p := 8 * (24 * j + i) + r) hM ?_ (by show 8 * (24 * j + i) + r < 576; omega) (by omega) (by omega) fun S4 h4 => ?_
  · show nI 8 * nI (24 * j + i) + nI r = _
    rw [nI_mul, nI_add]
  refine lp_214 (A := am_upI m0 101 (8 * (24 * j + i) + r) (nI n)) (by omega) hr hn8 (fun S5 h5 => MG_ret h5 ⟨rfl, ⟨nj, nf, ns, ng, nb, ?_⟩, ?_, ?_⟩) F 0 S4 (by omega) (by omega) ?_
  · rw [fil_0, cst_id]
    exact h4
  · obtain ⟨c1, c2, c3, c4, c5⟩ := hm
    unfold Cur
    simp only [cst_at, cst_ne, am_upI_at, am_upI_ne, pk_us, pk_un, ne_eq, Nat.reduceEqDiff, not_false_eq_true]
    refine ⟨GJ_pg c1 fun s hs h => PG_mono h rfl rfl fun r' hr' hw' => ?_, c2, c3, c4, c5⟩
    by_cases hss : 8 * s + r' = 8 * (24 * j + i) + r
    · rw [hss]
      exact Or.inr ⟨n, hn8, pk_us, pk_us, fun k hk => ⟨(fil_in (by omega)).trans (fil_in (by omega)).symm, 32, by omega, by omega, fil_in (by omega)⟩⟩
    · exact RW_mono hw' (pk_un hss) (pk_un hss) (fun k hk z => by
        unfold LT at z ⊢
        rw [fil_out (by omega), fil_out (by omega)]
        exact z)
  · refine Tl_mono (Tl_congr hT ?_ ?_ (fun j _ _ => ?_) ?_) (by omega) <;> simp only [cst_at, cst_ne, am_upI_at, am_upI_ne, pk_us, pk_un, ne_eq, Nat.reduceEqDiff, not_false_eq_true]
  · simp only [cst_at, cst_ne, am_upI_at, am_upI_ne, pk_us, pk_un, ne_eq, Nat.reduceEqDiff, not_false_eq_true]
    exact h29
theorem st_miss {F : Nat} (hF : 6000 ≤ F) (x1 x2 x3 : Int32) : FpStep (f146 F x1 x2 x3) (f215 F x1 x2 x3) := by
  refine Fp_of fun S t ht hR => ?_
  obtain ⟨nj, nf, ns, ng, nb, hC⟩ := Rel_z hR
  have hn := hC.1.1
  unfold f146 f215
  refine RG_jam hR ?_
  refine RG_g1 (Gd_page hC) hR ?_
  rintro ⟨j, i, q, hj, hi, hq, rfl, rfl, eq⟩
  refine RG_chg hF hR hC fun m0 hm hT h29 hz S' hK => ?_
  rw [f39_eq, b2_at]
  unfold f45
  obtain ⟨l, w, p, b1, b2, b3, b4, b5, b6, b7, b8, b9, b10, b11⟩ := Cur_job hm (j := j) (by omega)
  have hqp : q = p := by
    rw [eq] at b6
    exact (nI_eq (by omega) (by omega)).mp b6
  subst hqp
  have hP := b11 (24 * j + i) (by omega) (by omega)
  rcases row_c (F := F) (S := S') (x := x3) (by omega) (Ky_rd hK (by omega) (by omega)) hP with ⟨r1, r2⟩ | ⟨r1, r2⟩ | ⟨r, hr, rfl, r1, r2, hw⟩
  · rw [r1, b2_at, if_neg (by decide), b2_at]
    refine KG_f hK (by omega) (by decide) fun S1 h1 S2 hM => ?_
    rw [f207_eq, b2_at, r2 S2 (My_rd hM (mi_h (by show 24 * j + i < 72; omega))), b2_at, if_neg (by decide)]
    exact MG_f hM (fin_f hm hT h29 rfl rfl)
  · rw [r1, b2_at, if_neg (by decide), b2_at]
    refine KG_f hK (by omega) (by decide) fun S1 h1 S2 hM => ?_
    rw [f207_eq, b2_at, r2 S2 (My_rd hM (mi_h (by show 24 * j + i < 72; omega))), b2_at, if_neg (by decide)]
    exact MG_f hM (fin_f hm hT h29 rfl rfl)
  rw [r1, b2_at, if_pos (by have := nI_le (a := 0) (b := 8 * (24 * j + i) + r) (by omega) (by omega); rwa [nI_0] at this)]
  refine KG_b2 (n1 := 1) (Q1 := fun v S1 A => v = 1 ∧ A = am_upI S.1 19 (8 * (24 * j + i) + r) (-1)) ?_ ?_
  · exact KG_ks hK (by omega) rfl rfl (by omega) fun S3 h3 => KG_ret h3 (by omega) ⟨rfl, rfl⟩
  rintro v S1 A hA ⟨rfl, rfl⟩
  refine KG_a hA (by omega) (by decide) fun S2 hM => ?_
  rw [f207_eq, b2_at, r2 S2 (My_rd hM (mi_h (by show 24 * j + i < 72; omega))), b2_at, if_pos (Int32.le_refl _)]
  refine MG_cu (p := 8 * (24 * j + i) + r) hM ?_ (by show 8 * (24 * j + i) + r < 576; omega) (by omega) (by omega) fun S4 h4 => ?_
  · show nI 8 * nI (24 * j + i) + nI r = _
    rw [nI_mul, nI_add]
  refine MG_ret h4 ⟨rfl, ⟨nj, nf, ns, ng, nb, ?_⟩, ?_, ?_⟩
  · obtain ⟨c1, c2, c3, c4, c5⟩ := hm
    unfold Cur
    simp only [am_upI_at, am_upI_ne, pk_us, pk_un, ne_eq, Nat.reduceEqDiff, not_false_eq_true]
    refine ⟨GJ_pg c1 fun s hs h => PG_mono h rfl rfl fun r' hr' hw' => ?_, c2, c3, c4, c5⟩
    by_cases hss : 8 * s + r' = 8 * (24 * j + i) + r
    · rw [hss]
      exact Or.inl ⟨pk_us, pk_us⟩
    · exact RW_mono hw' (pk_un hss) (pk_un hss) (fun k hk z => z)
  · refine Tl_mono (Tl_congr hT ?_ ?_ (fun j _ _ => ?_) ?_) (by omega) <;> simp only [am_upI_at, am_upI_ne, pk_us, pk_un, ne_eq, Nat.reduceEqDiff, not_false_eq_true]
  · simp only [am_upI_at, am_upI_ne, pk_us, pk_un, ne_eq, Nat.reduceEqDiff, not_false_eq_true]
    exact h29
theorem st_letter {F : Nat} (hF : 6000 ≤ F) (x1 x2 x3 x4 x5 : Int32) : FpStep (f147 F x1 x2 x3 x4 x5) (f216 F x1 x2 x3 x4 x5) := by
  refine Fp_of fun S t ht hR => ?_
  obtain ⟨nj, nf, ns, ng, nb, hC⟩ := Rel_z hR
  have hn := hC.1.1
  unfold f147 f216
  refine RG_jam hR ?_
  refine RG_g1 (Gd_page hC) hR ?_
  rintro ⟨j, i, q, hj, hi, hq, rfl, rfl, eq⟩
  refine RG_g1 (Gd_in 32 126 rfl rfl (by omega)) hR ?_
  rintro ⟨c, hc1, hc2, rfl⟩
  refine RG_chg hF hR hC fun m0 hm hT h29 hz S' hK => ?_
  rw [f39_eq, b2_at]
  obtain ⟨l, w, p, b1, b2, b3, b4, b5, b6, b7, b8, b9, b10, b11⟩ := Cur_job hm (j := j) (by omega)
  have hqp : q = p := by
    rw [eq] at b6
    exact (nI_eq (by omega) (by omega)).mp b6
  subst hqp
  have hP := b11 (24 * j + i) (by omega) (by omega)
  have e46 : f46 F (nI (24 * j + i)) x3 x4 (nI c) S' = am_b2 (am_b2 (f50 F (nI (24 * j + i)) x3 S') fun v1 S2 => f51 F v1 x4 S2) fun v3 S4 => if 0 ≤ v3 then (am_nn S4 (am_lt (ks S4 20 21 5760 v3 (nI c)) fun S6 => some (1, S6))) else (some (v3, S4)) := by
    unfold f46 am_b2
    rw [Option.bind_assoc]
  rw [e46]
  have hrd : ∀ S2 S1, My S1 S2 m0 (mv S.1) → S2.1 100 (24 * j + i) = m0 100 (24 * j + i) ∧ ∀ r, r < 576 → S2.1 101 r = m0 101 r := fun S2 S1 hM => ⟨My_rd hM (mi_h (by show 24 * j + i < 72; omega)), fun r hr => My_rd hM (mi_h hr)⟩
  rcases let_c (F := F) (S := S') (x := x3) (y := x4) (by omega) (Ky_rd hK (by omega) (by omega)) (hK.2.1 19 (by omega) (by omega)) hP with ⟨e, he, r1, r2⟩ | ⟨r, k, hr, hk, rfl, rfl, r1, r2, hw⟩
  · rw [r1]
    rcases he with rfl | rfl
    · rw [b2_at, if_neg (by decide), b2_at]
      refine KG_f hK (by omega) (by decide) fun S1 h1 S2 hM => ?_
      rw [f207_eq, b2_at, r2 S2 (hrd S2 S1 hM).1 (hrd S2 S1 hM).2, b2_at, if_neg (by decide)]
      exact MG_f hM (fin_f hm hT h29 rfl rfl)
    · rw [b2_at, if_neg (by decide), b2_at]
      refine KG_f hK (by omega) (by decide) fun S1 h1 S2 hM => ?_
      rw [f207_eq, b2_at, r2 S2 (hrd S2 S1 hM).1 (hrd S2 S1 hM).2, b2_at, if_neg (by decide)]
      exact MG_f hM (fin_f hm hT h29 rfl rfl)
  rw [r1, b2_at, if_pos (by have := nI_le (a := 0) (b := 10 * (8 * (24 * j + i) + r) + k) (by omega) (by omega); rwa [nI_0] at this)]
  refine KG_b2 (n1 := 1) (Q1 := fun v S1 A => v = 1 ∧ A = am_upI S.1 21 (10 * (8 * (24 * j + i) + r) + k) (nI c)) ?_ ?_
  · exact KG_ks hK (by omega) rfl rfl (by omega) fun S3 h3 => KG_ret h3 (by omega) ⟨rfl, rfl⟩
  rintro v S1 A hA ⟨rfl, rfl⟩
  refine KG_a hA (by omega) (by decide) fun S2 hM => ?_
  rw [f207_eq, b2_at, r2 S2 (hrd S2 _ hM).1 (hrd S2 _ hM).2, b2_at, if_pos (Int32.le_refl _)]
  refine MG_cu (p := 10 * (8 * (24 * j + i) + r) + k) hM ?_ (by show 10 * (8 * (24 * j + i) + r) + k < 5760; omega) (by omega) (by omega) fun S4 h4 => ?_
  · show nI 10 * (nI 8 * nI (24 * j + i) + nI r) + nI k = _
    rw [nI_mul, nI_add, nI_mul, nI_add]
  refine MG_ret h4 ⟨rfl, ⟨nj, nf, ns, ng, nb, ?_⟩, ?_, ?_⟩
  · obtain ⟨c1, c2, c3, c4, c5⟩ := hm
    unfold Cur
    simp only [am_upI_at, am_upI_ne, pk_us, pk_un, ne_eq, Nat.reduceEqDiff, not_false_eq_true]
    refine ⟨GJ_pg c1 fun s hs h => PG_mono h rfl rfl fun r' hr' hw' => RW_mono hw' rfl rfl fun k' hk' z => ?_, c2, c3, c4, c5⟩
    by_cases hss : 10 * (8 * s + r') + k' = 10 * (8 * (24 * j + i) + r) + k
    · rw [hss]
      exact ⟨pk_us.trans pk_us.symm, c, hc1, hc2, pk_us⟩
    · unfold LT at z ⊢
      rw [pk_un hss, pk_un hss]
      exact z
  · refine Tl_mono (Tl_congr hT ?_ ?_ (fun j _ _ => ?_) ?_) (by omega) <;> simp only [am_upI_at, am_upI_ne, pk_us, pk_un, ne_eq, Nat.reduceEqDiff, not_false_eq_true]
  · simp only [am_upI_at, am_upI_ne, pk_us, pk_un, ne_eq, Nat.reduceEqDiff, not_false_eq_true]
    exact h29
