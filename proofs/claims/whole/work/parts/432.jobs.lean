/-! calls: jobs -/
theorem tz0 : (0 : Int32).toNatClampNeg = 0 := by decide
theorem tz1 : (1 : Int32).toNatClampNeg = 1 := by decide
theorem tz2 : (2 : Int32).toNatClampNeg = 2 := by decide
theorem tz3 : (3 : Int32).toNatClampNeg = 3 := by decide
theorem tz4 : (4 : Int32).toNatClampNeg = 4 := by decide
theorem tz5 : (5 : Int32).toNatClampNeg = 5 := by decide
theorem tz6 : (6 : Int32).toNatClampNeg = 6 := by decide
theorem tz7 : (7 : Int32).toNatClampNeg = 7 := by decide
theorem tz8 : (8 : Int32).toNatClampNeg = 8 := by decide
theorem nI_full {n k : Nat} (hn : n ≤ k) (hk : k < 2147483648) : nI n = nI k ↔ ¬ nI n < nI k := by
  rw [nI_eq (by omega) (by omega), nI_ltI (by omega) (by omega)]
  omega
theorem mi_h {k j : Nat} (h : j < hf k) : mi k j := Or.inr (Or.inr h)
theorem Gd_job {F : Nat} {S : AmT} {x : Int32} {nj nf ns ng nb : Nat} (hC : Cur S.1 (mz S.1) nj nf ns ng nb) : Gd S (f34 F x) (f205 F x) (∃ j, j < nj ∧ x = nI j) :=
  Gd_has (F := F) (x := x) (ar := 9) (q := 0) hC.1.2.1 ((mz_at (mi_h (by decide))).symm.trans hC.1.2.2.1) (by have := hC.1.1; omega)
theorem Gd_fold {F : Nat} {S : AmT} {x : Int32} {nj nf ns ng nb : Nat} (hC : Cur S.1 (mz S.1) nj nf ns ng nb) : Gd S (f21 F x) (f224 F x) (∃ j, j < nf ∧ x = nI j) :=
  Gd_has (F := F) (x := x) (ar := 31) (q := 1) hC.2.1.2.1 ((mz_at (mi_h (by decide))).symm.trans hC.2.1.2.2.1) (by have := hC.2.1.1; omega)
theorem Gd_sheet {F : Nat} {S : AmT} {x : Int32} {nj nf ns ng nb : Nat} (hC : Cur S.1 (mz S.1) nj nf ns ng nb) : Gd S (f95 F x) (f249 F x) (∃ j, j < ns ∧ x = nI j) :=
  Gd_has (F := F) (x := x) (ar := 48) (q := 2) hC.2.2.1.2.1 ((mz_at (mi_h (by decide))).symm.trans hC.2.2.1.2.2.1) (by have := hC.2.2.1.1; omega)
theorem Gd_sig {F : Nat} {S : AmT} {x : Int32} {nj nf ns ng nb : Nat} (hC : Cur S.1 (mz S.1) nj nf ns ng nb) : Gd S (f2 F x) (f268 F x) (∃ j, j < ng ∧ x = nI j) :=
  Gd_has (F := F) (x := x) (ar := 71) (q := 3) hC.2.2.2.1.2.1 ((mz_at (mi_h (by decide))).symm.trans hC.2.2.2.1.2.2.1) (by have := hC.2.2.2.1.1; omega)
/-- what is known of a job -/
theorem Cur_job {A m : Mem} {nj nf ns ng nb j : Nat} (hC : Cur A m nj nf ns ng nb) (hj : j < 3) : ∃ l w p, l ≤ 8 ∧ w ≤ 10 ∧ p ≤ 24 ∧ A 11 j = nI l ∧ A 13 j = nI w ∧ A 15 j = nI p ∧ m 98 j = nI l ∧ m 99 j = nI w ∧ m 97 j = nI p ∧ (nj ≤ j → p = 0) ∧ ∀ s, 24 * j ≤ s → s < 24 * j + p → PG (A 17) (A 19) (A 21) (m 100) (m 101) (m 102) s := by
  obtain ⟨⟨h1, h2, h3, h4⟩, -⟩ := hC
  obtain ⟨a1, a2, a3, l, w, p, b1, b2, b3, b4, b5, b6, b7, b8⟩ := h4 j hj
  exact ⟨l, w, p, b1, b2, b3, b4, b5, b6, a1 ▸ b4, a2 ▸ b5, a3 ▸ b6, b7, b8⟩
theorem GS_nj {a48 : Int32} {a50 a52 a54 a56 a58 a60 a62 a64 a66 a68 : Nat → Int32} {m2 : Int32} {m108 m109 m110 m111 m112 m113 m114 m115 m116 m117 m118 : Nat → Int32} {nj nf ns nj' nf' : Nat} (h : GS a48 a50 a52 a54 a56 a58 a60 a62 a64 a66 a68 m2 m108 m109 m110 m111 m112 m113 m114 m115 m116 m117 m118 nj nf ns) (hj : nj ≤ nj') (hf : nf ≤ nf') : GS a48 a50 a52 a54 a56 a58 a60 a62 a64 a66 a68 m2 m108 m109 m110 m111 m112 m113 m114 m115 m116 m117 m118 nj' nf' ns := by
  obtain ⟨h1, h2, h3, h4, h5, h6, h7, h8⟩ := h
  refine ⟨h1, h2, h3, h4, h5, h6, fun s hs => ?_, h8⟩
  obtain ⟨⟨j, b1, b2⟩, c1, c2, c3, c4, c5⟩ := h7 s hs
  refine ⟨⟨j, by omega, b2⟩, c1, c2, c3, ?_, c5⟩
  rcases c4 with c4 | ⟨f, c4, c4'⟩
  · exact Or.inl c4
  · exact Or.inr ⟨f, by omega, c4'⟩
theorem st_job {F : Nat} (hF : 6000 ≤ F) (x1 x2 : Int32) : FpStep (f141 F x1 x2) (f208 F x1 x2) := by
  refine Fp_of fun S t ht hR => ?_
  obtain ⟨nj, nf, ns, ng, nb, hC⟩ := Rel_z hR
  have e9 := hC.1.2.1
  have e96 : S.1 96 0 = nI nj := (mz_at (mi_h (by decide))).symm.trans hC.1.2.2.1
  have hn := hC.1.1
  unfold f141 f208
  refine RG_jam hR ?_
  refine RG_g1 (Gd_in 1 8 rfl rfl (by omega)) hR ?_
  rintro ⟨w, hw1, hw2, rfl⟩
  refine RG_g1 (Gd_in 1 10 rfl rfl (by omega)) hR ?_
  rintro ⟨u, hu1, hu2, rfl⟩
  unfold f33
  rw [b2_at, kg_0 (by decide) (by decide), e9]
  refine RG_itn (fun S1 hf => ?_) (fun hlt => ?_) (fun _ => RG_ret hR)
  · rw [hf 96 (by omega), e96]
    exact nI_full (k := 3) (by omega) (by omega)
  have hlt : nj < 3 := (nI_ltI (b := 3) (by omega) (by omega)).mp hlt
  refine RG_chg hF hR hC fun m0 hm hT h29 hz S' hK => ?_
  rw [b2_id]
  unfold f40
  rw [Ky_k0 hK (by omega) (by decide) (by decide), e9]
  refine KG_ks hK (by omega) rfl rfl (by omega) fun S3 h3 => ?_
  refine KG_ks h3 (by omega) rfl rfl (by omega) fun S4 h4 => ?_
  refine KG_k0 h4 (by omega) rfl (by omega) fun S5 h5 => ?_
  refine KG_ret h5 (by omega) fun S2 hM => ?_
  have e0 : S2.1 96 0 = nI nj := (My_rd hM (mi_h (by decide))).trans hm.1.2.2.1
  rw [e0, tz0]
  refine MG_up hM (mi_h (by decide)) fun S6 h6 => ?_
  refine MG_cu h6 rfl (by show nj < 3; omega) (by omega) (by omega) fun S7 h7 => ?_
  refine MG_cu h7 rfl (by show nj < 3; omega) (by omega) (by omega) fun S8 h8 => ?_
  refine MG_cu h8 rfl (by show nj < 3; omega) (by omega) (by omega) fun S9 h9 => ?_
  refine MG_ret h9 ⟨rfl, ⟨nj + 1, nf, ns, ng, nb, ?_⟩, ?_, ?_⟩
  · obtain ⟨⟨g1, g2, g3, g4⟩, c2, c3, c4, c5⟩ := hm
    unfold Cur
    simp only [am_upI_at, am_upI_ne, pk_us, pk_un, ne_eq, Nat.reduceEqDiff, not_false_eq_true]
    refine ⟨⟨by omega, nI_1 nj, nI_1 nj, fun j hj => ?_⟩, c2, GS_nj c3 (by omega) (by omega), c4, c5⟩
    obtain ⟨a1, a2, a3, l, v, p, b1, b2, b3, b4, b5, b6, b7, b8⟩ := g4 j hj
    by_cases hjn : j = nj
    · subst hjn
      have hp : p = 0 := b7 (by omega)
      subst hp
      rw [pk_us, pk_us, pk_us, pk_us, pk_us]
      exact ⟨rfl, rfl, b6.trans nI_0, w, u, 0, by omega, by omega, by omega, rfl, rfl, b6, fun _ => rfl, fun s h1 h2 => absurd h2 (by omega)⟩
    · rw [pk_un hjn, pk_un hjn, pk_un hjn, pk_un hjn, pk_un hjn]
      exact ⟨a1, a2, a3, l, v, p, b1, b2, b3, b4, b5, b6, fun q => b7 (by omega), b8⟩
  · refine Tl_mono (Tl_congr hT ?_ ?_ (fun j _ _ => ?_) ?_) (by omega) <;> simp only [am_upI_at, am_upI_ne, pk_us, pk_un, ne_eq, Nat.reduceEqDiff, not_false_eq_true]
  · simp only [am_upI_at, am_upI_ne, pk_us, pk_un, ne_eq, Nat.reduceEqDiff, not_false_eq_true]
    exact h29
/-- a FINDING behind a change that changed nothing else -/
theorem fin_f {A m : Mem} {t nj nf ns ng nb : Nat} {n x : Int32} (hC : Cur A m nj nf ns ng nb) (hT : Tl A m t) (h29 : m 95 29 = 1) (h1 : -10 - n = x) (h2 : -10 - x = n) : -10 - n = x ∧ (∃ nj nf ns ng nb, Cur (am_upI (am_upI A 5 2 (A 5 2 + 1)) 5 3 (-10 - x)) (am_upI (am_upI m 95 30 (m 95 30 + 1)) 95 31 n) nj nf ns ng nb) ∧ Tl (am_upI (am_upI A 5 2 (A 5 2 + 1)) 5 3 (-10 - x)) (am_upI (am_upI m 95 30 (m 95 30 + 1)) 95 31 n) (t + 1) ∧ (am_upI (am_upI m 95 30 (m 95 30 + 1)) 95 31 n) 95 29 = 1 := by
  refine ⟨h1, ⟨nj, nf, ns, ng, nb, ?_⟩, ?_, ?_⟩
  · refine Cur_congr (A := A) (fun o ho => ?_) (Cur_congr_m (fun o o1 o2 => ?_) hC)
    · rw [am_upI_ne (by omega), am_upI_ne (by omega)]
    · rw [am_upI_ne (by omega), am_upI_ne (by omega)]
  · obtain ⟨a1, a2, a3, a4, a5, a6, ⟨tc, a7, a8, a9⟩, a10⟩ := hT
    unfold Tl
    simp only [am_upI_at, am_upI_ne, pk_us, pk_un, ne_eq, Nat.reduceEqDiff, not_false_eq_true]
    exact ⟨by rw [a1], h2, a3, a4, a5, a6, ⟨tc, by omega, a8, a9⟩, a10⟩
  · simp only [am_upI_at, am_upI_ne, pk_us, pk_un, ne_eq, Nat.reduceEqDiff, not_false_eq_true]
    exact h29
