/-! calls: cross, lips, inner, sheet, feed, good -/
theorem FD_many {a33 a35 a37 a39 a41 a43 a45 : Nat → Int32} {f : Nat} (h : FD a33 a35 a37 a39 a41 a43 a45 f) : ∃ u, 1 ≤ u ∧ u ≤ 8 ∧ a41 f = nI u := by
  rcases h with ⟨k, x, h1, h2, h3, h4, h5, h6, h7, h8, h9⟩ | ⟨p, q, u, v, h1, h2, h3, h3a, h3b, h4, h5, h6, h7, h8, h9, h10, h11, h12⟩
  · exact ⟨1, by omega, by omega, h7⟩
  · exact ⟨u + v, by omega, by omega, h10⟩
theorem FD_kind {a33 a35 a37 a39 a41 a43 a45 : Nat → Int32} {f : Nat} (h : FD a33 a35 a37 a39 a41 a43 a45 f) : ∃ k, k ≤ 5 ∧ a33 f = nI k := by
  rcases h with ⟨k, x, h1, h2, h3, h4, h5, h6, h7, h8, h9⟩ | ⟨p, q, u, v, h1, h2, h3, h3a, h3b, h4, h5, h6, h7, h8, h9, h10, h11, h12⟩
  · exact ⟨k, by omega, h3⟩
  · exact ⟨5, by omega, h4⟩
theorem st_cross {F : Nat} (hF : 6000 ≤ F) (x1 x2 : Int32) : FpStep (f155 F x1 x2) (f227 F x1 x2) := by
  refine Fp_of fun S t ht hR => ?_
  obtain ⟨nj, nf, ns, ng, nb, hC⟩ := Rel_z hR
  have hn := hC.2.1.1
  have e31 := hC.2.1.2.1
  have e96 : S.1 96 1 = nI nf := (mz_at (mi_h (by decide))).symm.trans hC.2.1.2.2.1
  unfold f155 f227
  refine RG_jam hR ?_
  refine RG_g1 (Gd_fold hC) hR ?_
  rintro ⟨a, ha, rfl⟩
  refine RG_g1 (Gd_fold hC) hR ?_
  rintro ⟨b, hb, rfl⟩
  obtain ⟨-, ⟨-, -, -, -, a41⟩, fa⟩ := Cur_fold hC ha
  obtain ⟨-, ⟨-, -, -, -, b41⟩, fb⟩ := Cur_fold hC hb
  obtain ⟨u, hu1, hu2, eu⟩ := FD_many fa
  obtain ⟨v, hv1, hv2, ev⟩ := FD_many fb
  rw [eu] at a41
  rw [ev] at b41
  have ma : S.1 107 a = nI u := by rw [← mz_at (I := S.1) (k := 107) (mi_h (by show a < 16; omega)), ← a41]
  have mb : S.1 107 b = nI v := by rw [← mz_at (I := S.1) (k := 107) (mi_h (by show b < 16; omega)), ← b41]
  unfold f20 f22
  simp only [b2_at, ck_at (show a < 32 by omega) (show 32 < 2147483648 by omega), ck_at (show b < 32 by omega) (show 32 < 2147483648 by omega), nI_clamp (show a < 2 ^ 31 by omega), nI_clamp (show b < 2 ^ 31 by omega)]
  rw [kg_0 (by decide) (by decide), e31, kg_at (by omega) (by omega), kg_at (by omega) (by omega), eu, ev, nI_add]
  refine RG_ite (fun S1 hf => ?_) (fun _ => RG_ret hR) (fun hlt => ?_)
  · rw [hf 96 (by omega), e96]
    show nI nf = nI 16 ↔ nI 16 ≤ nI nf
    rw [nI_eq (by omega) (by omega), nI_leI (by omega) (by omega)]
    omega
  have hlt : nf < 16 := by
    rcases Nat.lt_or_ge nf 16 with q | q
    · exact q
    · exact absurd (nI_le q (by omega)) hlt
  refine RG_ite (fun S1 hf => ?_) (fun hle => ?_) (fun _ => RG_ret hR)
  · rw [hf 107 (by omega), ma, mb, nI_add]
  have huv : u + v ≤ 8 := (nI_leI (b := 8) (by omega) (by omega)).mp hle
  refine RG_m (M' := fun S1 => (f201 F S1).bind fun S12 => am_b2 (f225 F 5 0 (nI a) (nI b) (nI (u + v)) S12) fun v13 S14 => some (v13, S14)) (fun S1 hf => ?_) ?_
  · rw [hf 107 (by omega), ma, mb, nI_add]
  refine RG_chg hF hR hC fun m0 hm hT h29 hz S' hK => ?_
  rw [b2_id]
  unfold f28
  rw [Ky_k0 hK (by omega) (by decide) (by decide), e31]
  refine KG_ks hK (by omega) rfl rfl (by omega) fun S3 h3 => ?_
  refine KG_ks h3 (by omega) rfl rfl (by omega) fun S4 h4 => ?_
  refine KG_ks h4 (by omega) rfl rfl (by omega) fun S5 h5 => ?_
  rw [Ky_kg h5 (by omega) (by omega) (by omega), Ky_kg h5 (by omega) (by omega) (by omega)]
  refine KG_ks h5 (by omega) rfl rfl (by omega) fun S6 h6 => ?_
  rw [Ky_kg h6 (by omega) (by omega) (by omega), Ky_kg h6 (by omega) (by omega) (by omega)]
  refine KG_ks h6 (by omega) rfl rfl (by omega) fun S7 h7 => ?_
  rw [Ky_kg h7 (by omega) (by omega) (by omega), Ky_kg h7 (by omega) (by omega) (by omega)]
  refine KG_ks h7 (by omega) rfl rfl (by omega) fun S8 h8 => ?_
  refine KG_k0 h8 (by omega) rfl (by omega) fun S9 h9 => ?_
  refine KG_ret h9 (by omega) fun S2 hM => ?_
  rw [b2_id]
  unfold f225
  have e0 : S2.1 96 1 = nI nf := (My_rd hM (mi_h (by decide))).trans hm.2.1.2.2.1
  rw [e0, tz1]
  refine MG_up hM (mi_h (by decide)) fun S10 h10 => ?_
  refine MG_cu h10 rfl (by show nf < 16; omega) (by omega) (by omega) fun S11 h11 => ?_
  refine MG_cu h11 rfl (by show nf < 16; omega) (by omega) (by omega) fun S12 h12 => ?_
  refine MG_cu h12 rfl (by show nf < 16; omega) (by omega) (by omega) fun S13 h13 => ?_
  refine MG_cu h13 rfl (by show nf < 16; omega) (by omega) (by omega) fun S14 h14 => ?_
  refine MG_cu h14 rfl (by show nf < 16; omega) (by omega) (by omega) fun S15 h15 => ?_
  refine MG_ret h15 ⟨rfl, ⟨nj, nf + 1, ns, ng, nb, ?_⟩, ?_, ?_⟩
  · obtain ⟨c1, ⟨b1, b2, b3, b4, b5⟩, c3, c4, c5⟩ := hm
    unfold Cur
    simp only [am_upI_at, am_upI_ne, pk_us, pk_un, ne_eq, Nat.reduceEqDiff, not_false_eq_true]
    rw [eu, ev, nI_add]
    refine ⟨c1, ⟨by omega, nI_1 nf, nI_1 nf, fun f hf => ?_, fun f hf => ?_⟩, GS_nj c3 (by omega) (by omega), c4, c5⟩
    · obtain ⟨a1, a2, a3, a4, a5, a6⟩ := b4 f hf
      by_cases q : f = nf
      · subst q
        have z := a6 (by omega)
        simp only [pk_us]
        exact ⟨trivial, z.1, trivial, trivial, trivial, fun q => absurd q (by omega)⟩
      · simp only [pk_un q]
        exact ⟨a1, a2, a3, a4, a5, fun q => a6 (by omega)⟩
    · by_cases q : f = nf
      · subst q
        have z := (b4 f (by omega)).2.2.2.2.2 (by omega)
        have na : a ≠ f := by omega
        have nb : b ≠ f := by omega
        refine Or.inr ⟨a, b, u, v, ha, hb, huv, hu1, hv1, pk_us, z.1, pk_us, pk_us, (pk_un na).trans eu, (pk_un nb).trans ev, pk_us, ?_, ?_⟩
        · rw [pk_us, pk_un na, pk_un nb]
        · rw [pk_us, pk_un na, pk_un nb]
      · refine FD_ext (n := nf) (b5 f (by omega)) (by omega) fun g hg => ?_
        have q : g ≠ nf := by omega
        simp only [pk_un q]
        exact ⟨trivial, trivial, trivial, trivial, trivial, trivial, trivial⟩
  · refine Tl_mono (Tl_congr hT ?_ ?_ (fun j _ _ => ?_) ?_) (by omega) <;> simp only [am_upI_at, am_upI_ne, pk_us, pk_un, ne_eq, Nat.reduceEqDiff, not_false_eq_true]
  · simp only [am_upI_at, am_upI_ne, pk_us, pk_un, ne_eq, Nat.reduceEqDiff, not_false_eq_true]
    exact h29
theorem st_lips {F : Nat} (x1 : Int32) : FpStep (f156 F x1) (f228 F x1) := by
  refine Fp_of fun S t ht hR => ?_
  obtain ⟨nj, nf, ns, ng, nb, hC⟩ := Rel_z hR
  have hn := hC.2.1.1
  unfold f156 f228
  refine RG_g1 (Gd_fold hC) hR ?_
  rintro ⟨f, hf, rfl⟩
  obtain ⟨-, ⟨a33, -⟩, -⟩ := Cur_fold hC hf
  have m103 : ∀ S1, fr S S1 → S1.1 103 f = S.1 33 f := fun S1 h => by rw [h 103 (by omega), ← mz_at (I := S.1) (k := 103) (mi_h (by show f < 16; omega)), ← a33]
  unfold f25
  rw [kg_at (by omega) (by omega)]
  simp only [ck_at (show f < 32 by omega) (show 32 < 2147483648 by omega), nI_clamp (show f < 2 ^ 31 by omega)]
  by_cases c1 : S.1 33 f = 3
  · refine RG_q (v := 2) hR ?_ fun S1 h => ?_
    · rw [if_pos c1, b2_at, f129_ok (by decide), b2_at]
    · rw [m103 S1 h, if_pos c1]
  by_cases c2 : S.1 33 f = 4
  · refine RG_q (v := 3) hR ?_ fun S1 h => ?_
    · rw [if_neg c1, if_pos c2, b2_at, f129_ok (by decide), b2_at]
    · rw [m103 S1 h, if_neg c1, if_pos c2]
  refine RG_qf (F := F) (n := 6) (x := -16) hR (by decide) (by decide) (by decide) ?_ fun S1 h => ?_
  · rw [if_neg c1, if_neg c2, b2_at]
  · rw [m103 S1 h, if_neg c1, if_neg c2]
theorem st_inner {F : Nat} (x1 x2 : Int32) : FpStep (f157 F x1 x2) (f229 F x1 x2) := by
  refine Fp_of fun S t ht hR => ?_
  obtain ⟨nj, nf, ns, ng, nb, hC⟩ := Rel_z hR
  have hn := hC.2.1.1
  unfold f157 f229
  refine RG_g1 (Gd_fold hC) hR ?_
  rintro ⟨f, hf, rfl⟩
  refine RG_g1 (Gd_in 0 1 rfl rfl (by omega)) hR ?_
  rintro ⟨w, -, hw, rfl⟩
  obtain ⟨-, ⟨a33, -, a37, a39, -⟩, fd⟩ := Cur_fold hC hf
  have m103 : ∀ S1, fr S S1 → S1.1 103 f = S.1 33 f := fun S1 h => by rw [h 103 (by omega), ← mz_at (I := S.1) (k := 103) (mi_h (by show f < 16; omega)), ← a33]
  have m105 : ∀ S1, fr S S1 → S1.1 105 f = S.1 37 f := fun S1 h => by rw [h 105 (by omega), ← mz_at (I := S.1) (k := 105) (mi_h (by show f < 16; omega)), ← a37]
  have m106 : ∀ S1, fr S S1 → S1.1 106 f = S.1 39 f := fun S1 h => by rw [h 106 (by omega), ← mz_at (I := S.1) (k := 106) (mi_h (by show f < 16; omega)), ← a39]
  unfold f26
  rw [kg_at (by omega) (by omega), kg_at (by omega) (by omega), kg_at (by omega) (by omega)]
  simp only [ck_at (show f < 32 by omega) (show 32 < 2147483648 by omega), nI_clamp (show f < 2 ^ 31 by omega)]
  by_cases c1 : S.1 33 f = 5
  case neg =>
    refine RG_qf (F := F) (n := 6) (x := -16) hR (by decide) (by decide) (by decide) ?_ fun S1 h => ?_
    · rw [if_neg c1, b2_at]
    · rw [m103 S1 h, if_neg c1]
  rcases fd with ⟨k, x, h1, h2, h3, h4, h5, h6, h7, h8, h9⟩ | ⟨p, q, u, v, h1, h2, h3, h3a, h3b, h4, h5, h6, h7, h8, h9, h10, h11, h12⟩
  · rw [h3] at c1
    have := (nI_eq (b := 5) (by omega) (by omega)).mp c1
    omega
  by_cases c2 : nI w = 0
  · refine RG_q (v := nI p) hR ?_ fun S1 h => ?_
    · rw [if_pos c1, if_pos c2, b2_at, h6, f129_ok (nI_gt (by omega)), b2_at]
    · rw [m103 S1 h, if_pos c1, if_pos c2, m105 S1 h, h6]
  · refine RG_q (v := nI q) hR ?_ fun S1 h => ?_
    · rw [if_pos c1, if_neg c2, b2_at, h7, f129_ok (nI_gt (by omega)), b2_at]
    · rw [m103 S1 h, if_pos c1, if_neg c2, m106 S1 h, h7]
/-- the wild sizes of a grid, on both sides -/
theorem grid_c {F : Nat} {S : AmT} {x y : Int32} :
    (∃ e : Nat, (e = 3 ∨ e = 4) ∧ f162 F x y S = some (-10 - nI e, S) ∧ ∀ S2 : AmT, f246 F x y S2 = some (nI e, S2)) ∨
    ∃ r c, r ≤ 8 ∧ c ≤ 8 ∧ x = nI r ∧ y = nI c ∧ f162 F x y S = some (1, S) ∧ ∀ S2 : AmT, f246 F x y S2 = some (0, S2) := by
  unfold f162 f246
  by_cases c1 : 8 < x
  · refine Or.inl ⟨4, Or.inr rfl, ?_, fun S2 => ?_⟩
    · rw [if_pos c1]; rfl
    · rw [if_pos c1]; rfl
  by_cases c2 : y ≤ 8
  case neg =>
    refine Or.inl ⟨4, Or.inr rfl, ?_, fun S2 => ?_⟩
    · rw [if_neg c1, if_neg c2]; rfl
    · rw [if_neg c1, if_neg c2]; rfl
  by_cases c3 : x < 0
  · refine Or.inl ⟨3, Or.inl rfl, ?_, fun S2 => ?_⟩
    · rw [if_neg c1, if_pos c2, if_pos c3]; rfl
    · rw [if_neg c1, if_pos c2, if_pos c3]; rfl
  by_cases c4 : 0 ≤ y
  case neg =>
    refine Or.inl ⟨3, Or.inl rfl, ?_, fun S2 => ?_⟩
    · rw [if_neg c1, if_pos c2, if_neg c3, if_neg c4]; rfl
    · rw [if_neg c1, if_pos c2, if_neg c3, if_neg c4]; rfl
  obtain ⟨r, hr, rfl⟩ := i32_le_nI (n := 8) (by omega) c3 c1
  obtain ⟨c, hc, rfl⟩ := i32_le_nI (x := y) (n := 8) (by omega) (fun z => absurd c4 (i32_n0.mpr z)) (fun z => absurd c2 (Int32.not_le.mpr z))
  refine Or.inr ⟨r, c, hr, hc, rfl, rfl, ?_, fun S2 => ?_⟩
  · rw [if_neg c1, if_pos c2, if_neg c3, if_pos c4]
  · rw [if_neg c1, if_pos c2, if_neg c3, if_pos c4]
theorem cst_up_ne {A : Mem} {o o' i : Nat} {f : Nat → Int32} {x : Int32} (h : o' ≠ o) : am_upI (cst A o f) o' i x = cst (am_upI A o' i x) o f := by
  funext k
  by_cases hk : k = o
  · subst hk
    rw [am_upI_ne (Ne.symm h), cst_at, cst_at]
  · rw [cst_ne hk]
    by_cases hk' : k = o'
    · subst hk'
      rw [am_upI_at, am_upI_at, cst_ne hk]
    · rw [am_upI_ne hk', am_upI_ne hk', cst_ne hk]
theorem lp_252a {F : Nat} {S0 : AmT} {A W : Mem} {s : Nat} {Q : Int32 → Mem → Prop} (hs : s < 8) (H : ∀ S', My S0 S' (cst A 116 (fil (A 116) (16 * s) 16 0)) W → MG S0 W (g252_173 F F (nI s) 0 S') Q) :
    ∀ (n i : Nat) (S : AmT), i ≤ 16 → 16 < n + i → My S0 S (cst A 116 (fil (A 116) (16 * s) i 0)) W → MG S0 W (g252_143 F n (nI s) (nI i) S) Q
  | 0, i, S, h1, h2, h3 => absurd h2 (by omega)
  | n + 1, i, S, h1, h2, h3 => by
    unfold g252_143
    by_cases hi : i = 16
    · subst hi
      rw [if_pos (show (16 : Int32) ≤ nI 16 from nI_le (a := 16) (Nat.le_refl _) (by omega))]
      exact H S h3
    · rw [if_neg (show ¬ (16 : Int32) ≤ nI i from nI_ge (b := 16) (by omega) (by omega)), nI_1]
      refine MG_cu (p := 16 * s + i) h3 ?_ (by show 16 * s + i < 128; omega) (by omega) (by omega) fun S' h' => ?_
      · show nI 16 * nI s + nI i = _
        rw [nI_mul, nI_add]
      · rw [cst_up, fil_s] at h'
        exact lp_252a hs H n (i + 1) S' (by omega) (by omega) h'
theorem lp_252b {F : Nat} {S0 : AmT} {A W : Mem} {s : Nat} {Q : Int32 → Mem → Prop} (hs : s < 8) (H : ∀ S', My S0 S' (cst (cst A 117 (fil (A 117) (128 * s) 128 0)) 118 (fil (A 118) (128 * s) 128 0)) W → MG S0 W (some (nI s, S')) Q) :
    ∀ (n i : Nat) (S : AmT), i ≤ 128 → 128 < n + i → My S0 S (cst (cst A 117 (fil (A 117) (128 * s) i 0)) 118 (fil (A 118) (128 * s) i 0)) W → MG S0 W (g252_173 F n (nI s) (nI i) S) Q
  | 0, i, S, h1, h2, h3 => absurd h2 (by omega)
  | n + 1, i, S, h1, h2, h3 => by
    unfold g252_173
    by_cases hi : i = 128
    · subst hi
      rw [if_pos (show (128 : Int32) ≤ nI 128 from nI_le (a := 128) (Nat.le_refl _) (by omega))]
      exact H S h3
    · rw [if_neg (show ¬ (128 : Int32) ≤ nI i from nI_ge (b := 128) (by omega) (by omega)), nI_1]
      have e : 128 * nI s + nI i = nI (128 * s + i) := by
        show nI 128 * nI s + nI i = _
        rw [nI_mul, nI_add]
      refine MG_cu (p := 128 * s + i) h3 e (by show 128 * s + i < 1024; omega) (by omega) (by omega) fun S' h' => ?_
      refine MG_cu (p := 128 * s + i) h' e (by show 128 * s + i < 1024; omega) (by omega) (by omega) fun S'' h'' => ?_
      rw [cst_up_ne (by decide), cst_up, cst_up, fil_s, fil_s] at h''
      exact lp_252b hs H n (i + 1) S'' (by omega) (by omega) h''
theorem lp_252c {F : Nat} (hF : 6000 ≤ F) {S0 S : AmT} {A W : Mem} {s : Nat} {Q : Int32 → Mem → Prop} (hs : s < 8) (h : My S0 S A W) (H : ∀ S', My S0 S' (cst (cst A 117 (fil (A 117) (128 * s) 128 0)) 118 (fil (A 118) (128 * s) 128 0)) W → MG S0 W (some (nI s, S')) Q) : MG S0 W (g252_173 F F (nI s) 0 S) Q := by
  refine lp_252b (A := A) hs H F 0 S (by omega) (by omega) ?_
  rw [fil_0, fil_0, cst_id, cst_id]
  exact h
theorem st_sheet {F : Nat} (hF : 6000 ≤ F) (x1 x2 x3 : Int32) : FpStep (f163 F x1 x2 x3) (f252 F x1 x2 x3) := by
  refine Fp_of fun S t ht hR => ?_
  obtain ⟨nj, nf, ns, ng, nb, hC⟩ := Rel_z hR
  have hn := hC.2.2.1.1
  have e48 := hC.2.2.1.2.1
  have e96 : S.1 96 2 = nI ns := (mz_at (mi_h (by decide))).symm.trans hC.2.2.1.2.2.1
  unfold f163 f252
  refine RG_jam hR ?_
  refine RG_g1 (Gd_job hC) hR ?_
  rintro ⟨j, hj, rfl⟩
  unfold f94
  rw [b2_at, kg_0 (by decide) (by decide), e48]
  refine RG_itn (fun S1 hf => ?_) (fun hlt => ?_) (fun _ => RG_ret hR)
  · rw [hf 96 (by omega), e96]
    exact nI_full (k := 8) (by omega) (by omega)
  have hlt : ns < 8 := (nI_ltI (b := 8) (by omega) (by omega)).mp hlt
  refine RG_chg hF hR hC fun m0 hm hT h29 hz S' hK => ?_
  rcases grid_c (F := F) (S := S') (x := x2) (y := x3) with ⟨e, he, r1, r2⟩ | ⟨r, c, hr, hc, rfl, rfl, r1, r2⟩
  · rw [r1]
    rcases he with rfl | rfl
    · rw [b2_at, if_neg (by decide)]
      refine KG_f hK (by omega) (by decide) fun S1 h1 S2 hM => ?_
      rw [r2 S2, b2_at, if_neg (by decide)]
      exact MG_f hM (fin_f hm hT h29 rfl rfl)
    · rw [b2_at, if_neg (by decide)]
      refine KG_f hK (by omega) (by decide) fun S1 h1 S2 hM => ?_
      rw [r2 S2, b2_at, if_neg (by decide)]
      exact MG_f hM (fin_f hm hT h29 rfl rfl)
  rw [r1, b2_at, if_pos (by decide), b2_id]
  unfold f96
  rw [Ky_k0 hK (by omega) (by decide) (by decide), e48]
  refine KG_ks hK (by omega) rfl rfl (by omega) fun S3 h3 => ?_
  refine KG_ks h3 (by omega) rfl rfl (by omega) fun S4 h4 => ?_
  refine KG_ks h4 (by omega) rfl rfl (by omega) fun S5 h5 => ?_
  refine KG_ks h5 (by omega) rfl rfl (by omega) fun S6 h6 => ?_
  refine KG_ks h6 (by omega) rfl rfl (by omega) fun S7 h7 => ?_
  refine KG_ks h7 (by omega) rfl rfl (by omega) fun S8 h8 => ?_
  refine KG_k0 h8 (by omega) rfl (by omega) fun S9 h9 => ?_
  refine KG_ret h9 (by omega) fun S2 hM => ?_
  rw [r2 S2, b2_at, if_pos (Int32.le_refl _)]
  have e0 : S2.1 96 2 = nI ns := (My_rd hM (mi_h (by decide))).trans hm.2.2.1.2.2.1
  rw [e0, tz2]
  refine MG_up hM (mi_h (by decide)) fun T0 i0 => ?_
  refine MG_cu i0 rfl (by show ns < 8; omega) (by omega) (by omega) fun T1 i1 => ?_
  refine MG_cu i1 rfl (by show ns < 8; omega) (by omega) (by omega) fun T2 i2 => ?_
  refine MG_cu i2 rfl (by show ns < 8; omega) (by omega) (by omega) fun T3 i3 => ?_
  refine MG_cu i3 rfl (by show ns < 8; omega) (by omega) (by omega) fun T4 i4 => ?_
  refine MG_cu i4 rfl (by show ns < 8; omega) (by omega) (by omega) fun T5 i5 => ?_
  refine MG_cu i5 rfl (by show ns < 8; omega) (by omega) (by omega) fun T6 i6 => ?_
  refine MG_cu i6 rfl (by show ns < 8; omega) (by omega) (by omega) fun T7 i7 => ?_
  refine MG_cu i7 rfl (by show ns < 8; omega) (by omega) (by omega) fun T8 i8 => ?_
  refine lp_252a hlt (fun T9 i9 => ?_) F 0 T8 (by omega) (by omega) (by rw [fil_0, cst_id]; exact i8)
  refine lp_252c hF hlt i9 fun T10 i10 => ?_
  refine MG_ret i10 ⟨rfl, ⟨nj, nf, ns + 1, ng, nb, ?_⟩, ?_, ?_⟩
  · obtain ⟨c1, c2, ⟨b1, b2, b3, b4, b5, b6, b7, b8⟩, ⟨g1, g2, g3, g4, g5, g6, g7, g8, g9, g10, g11, g12⟩, c5⟩ := hm
    obtain ⟨z1, z2, z3, z4⟩ := b8 ns (by omega) (by omega)
    unfold Cur
    simp only [cst_at, cst_ne, am_upI_at, am_upI_ne, pk_us, pk_un, ne_eq, Nat.reduceEqDiff, not_false_eq_true]
    refine ⟨c1, c2, ⟨by omega, nI_1 ns, nI_1 ns, fun s hs => ?_, fun q hq => ?_, fun q hq => ?_, fun s hs => ?_, fun s h1 h2 => ?_⟩, ⟨g1, g2, g3, g4, g5, g6, ?_, g8, g9, fun g hg => ?_, g11, g12⟩, c5⟩
    · obtain ⟨d1, d2, d3, d4, d5, d6, d7⟩ := b4 s hs
      refine ⟨upd2 d1, upd2 d2, upd2 d3, upd2 d4, upd2 d5, upd2 d6, ?_⟩
      by_cases q : s = ns
      · subst q
        rw [pk_us]
        exact z2
      · rw [pk_un q]
        exact d7
    · by_cases hq2 : 16 * ns ≤ q ∧ q < 16 * ns + 16
      · have := z3 (q - 16 * ns) (by omega)
        rw [show 16 * ns + (q - 16 * ns) = q by omega] at this
        rw [fil_in hq2]
        exact ⟨this, Or.inl this⟩
      · rw [fil_out hq2]
        exact b5 q hq
    · by_cases hq2 : 128 * ns ≤ q ∧ q < 128 * ns + 128
      · have := z4 (q - 128 * ns) (by omega)
        rw [show 128 * ns + (q - 128 * ns) = q by omega] at this
        rw [fil_in hq2, fil_in hq2]
        exact ⟨0, 0, by omega, by omega, this.trans nI_0.symm, nI_0.symm, nI_0.symm⟩
      · rw [fil_out hq2, fil_out hq2]
        exact b6 q hq
    · by_cases q : s = ns
      · subst q
        simp only [pk_us]
        exact ⟨⟨j, hj, rfl⟩, ⟨r, hr, rfl⟩, ⟨c, hc, rfl⟩, Or.inl ⟨z1, trivial⟩, Or.inl trivial, Or.inl trivial⟩
      · simp only [pk_un q]
        exact b7 s (by omega)
    · exact b8 s (by omega) h2
    · rcases g7 with q | ⟨s, q1, q2⟩
      · exact Or.inl q
      · exact Or.inr ⟨s, by omega, q2⟩
    · obtain ⟨d1, c', d2, d3, d4⟩ := g10 g hg
      refine ⟨d1, c', d2, d3, fun i hi => ?_⟩
      obtain ⟨s, q1, q2⟩ := d4 i hi
      exact ⟨s, by omega, q2⟩
  · refine Tl_mono (Tl_congr hT ?_ ?_ (fun j _ _ => ?_) ?_) (by omega) <;> simp only [cst_at, cst_ne, am_upI_at, am_upI_ne, pk_us, pk_un, ne_eq, Nat.reduceEqDiff, not_false_eq_true]
  · simp only [cst_at, cst_ne, am_upI_at, am_upI_ne, pk_us, pk_un, ne_eq, Nat.reduceEqDiff, not_false_eq_true]
    exact h29
