/-! calls: gather, add, fold, cross and what folds tell -/
theorem RG_mp {S : AmT} {t : Nat} {q : AmT → Prop} [∀ S1, Decidable (q S1)] {C : Option (Int32 × AmT)} {M1 M2 : AmT → Option (Int32 × AmT)} (hq : ∀ S1, fr S S1 → q S1) (H : RG S t C M1) : RG S t C (fun S1 => if q S1 then M1 S1 else M2 S1) := RG_m (fun S1 hf => if_pos (hq S1 hf)) H
theorem RG_mn {S : AmT} {t : Nat} {q : AmT → Prop} [∀ S1, Decidable (q S1)] {C : Option (Int32 × AmT)} {M1 M2 : AmT → Option (Int32 × AmT)} (hq : ∀ S1, fr S S1 → ¬ q S1) (H : RG S t C M2) : RG S t C (fun S1 => if q S1 then M1 S1 else M2 S1) := RG_m (fun S1 hf => if_neg (hq S1 hf)) H
theorem st_gather {F : Nat} (hF : 6000 ≤ F) (x1 x2 : Int32) : FpStep (f172 F x1 x2) (f270 F x1 x2) := by
  refine Fp_of fun S t ht hR => ?_
  obtain ⟨nj, nf, ns, ng, nb, hC⟩ := Rel_z hR
  have hn := hC.2.2.1.1
  have hng := hC.2.2.2.1.1
  unfold f172 f270
  refine RG_jam hR ?_
  refine RG_g1 (Gd_sig hC) hR ?_
  rintro ⟨g, hg, rfl⟩
  refine RG_g1 (Gd_sheet hC) hR ?_
  rintro ⟨s, hs, rfl⟩
  obtain ⟨-, -, -, -, -, e60, -⟩ := Cur_sheet hC hs
  obtain ⟨-, -, -, ⟨-, -, -, -, -, -, -, g8, g9, g10, g11, g12⟩, -⟩ := id hC
  obtain ⟨-, c, hc, e75, hmem⟩ := g10 g hg
  have e120 : S.1 120 g = nI c := by
    rw [← mz_at (I := S.1) (k := 120) (mi_h (by show g < 4; omega)), ← (g8 g (by omega)).2.1, e75]
  unfold f116
  simp only [ck_at (show s < 16 by omega) (show 16 < 2147483648 by omega), ck_at (show g < 8 by omega) (show 8 < 2147483648 by omega), nI_clamp (show s < 2 ^ 31 by omega), nI_clamp (show g < 2 ^ 31 by omega)]
  rw [kg_at (by omega) (by omega)]
  have e115 : ∀ S1, fr S S1 → S1.1 115 s = mz S.1 115 s := fun S1 hf => by rw [hf 115 (by omega)]; exact (mz_at (mi_h (by show s < 8; omega))).symm
  rcases e60 with ⟨q1, q2⟩ | ⟨q1, g', hg', q2⟩
  case inr =>
    refine RG_q (v := -5) hR ?_ fun S1 hf => ?_
    · rw [q1]
      rfl
    · rw [e115 S1 hf, q2, if_neg (nI_pos (by omega))]
  rw [q1, if_pos rfl, b2_at, if_pos rfl]
  refine RG_mp (fun S1 hf => ?_) ?_
  · rw [e115 S1 hf, q2]
    decide
  unfold f4
  rw [b2_at, kg_at (by omega) (by omega), e75]
  refine RG_itn (fun S1 hf => ?_) (fun hlt => ?_) (fun _ => RG_ret hR)
  · rw [hf 120 (by omega), e120]
    exact nI_full (k := 4) (by omega) (by omega)
  have hlt : c < 4 := (nI_ltI (b := 4) (by omega) (by omega)).mp hlt
  refine RG_chg hF hR hC fun m0 hm hT h29 hz S' hK => ?_
  rw [b2_id]
  unfold f6 f117
  rw [Ky_kg hK (by omega) (by omega) (by omega), e75, nI_1]
  refine KG_ks (p := 4 * g + c) hK (by omega) rfl ?_ (by omega) fun S3 h3 => ?_
  · show nI g * nI 4 + nI c = _
    rw [nI_mul, nI_add, Nat.mul_comm]
  refine KG_ks h3 (by omega) rfl rfl (by omega) fun S4 h4 => ?_
  refine KG_kb h4 (by omega) rfl rfl (by omega) fun S5 h5 => ?_
  refine KG_ret h5 (by omega) fun S2 hM => ?_
  have e0 : m0 120 g = nI c := (hz 120 g (mi_h (by show g < 4; omega)) (by omega)).trans e120
  refine MG_up hM (mi_h (by show s < 8; omega)) fun S6 h6 => ?_
  have e6 : S6.1 120 g = nI c := (My_rd h6 (mi_h (by show g < 4; omega))).trans (by simp only [am_upI_at, am_upI_ne, pk_us, pk_un, ne_eq, Nat.reduceEqDiff, not_false_eq_true]; exact e0)
  rw [e6]
  refine MG_cu (p := 4 * g + c) h6 ?_ (by show 4 * g + c < 16; omega) (by omega) (by omega) fun S7 h7 => ?_
  · show nI 4 * nI g + nI c = _
    rw [nI_mul, nI_add]
  have e7 : S7.1 120 g = nI c := (My_rd h7 (mi_h (by show g < 4; omega))).trans (by simp only [am_upI_at, am_upI_ne, pk_us, pk_un, ne_eq, Nat.reduceEqDiff, not_false_eq_true]; exact e0)
  rw [e7, nI_1]
  refine MG_up h7 (mi_h (by show g < 4; omega)) fun S8 h8 => ?_
  have e8 : S8.1 120 g = nI (c + 1) := (My_rd h8 (mi_h (by show g < 4; omega))).trans (by simp only [am_upI_at, am_upI_ne, pk_us, pk_un, ne_eq, Nat.reduceEqDiff, not_false_eq_true])
  rw [e8]
  refine MG_ret h8 ⟨rfl, ⟨nj, nf, ns, ng, nb, ?_⟩, ?_, ?_⟩
  · obtain ⟨c1, c2, ⟨b1, b2, b3, b4, b5, b6, b7, b8⟩, ⟨g1, g2, g3, g4, g5, g6, g7, g8, g9, g10, g11, g12⟩, c5⟩ := hm
    unfold Cur
    simp only [am_upI_at, am_upI_ne, pk_us, pk_un, ne_eq, Nat.reduceEqDiff, not_false_eq_true]
    refine ⟨c1, c2, ⟨b1, b2, b3, b4, b5, b6, fun s' hs' => ?_, fun s' h1 h2 => ?_⟩, ⟨g1, g2, g3, g4, g5, g6, g7, fun g' hg' => ?_, fun j hj => upd2 (g9 j hj), fun g' hg' => ?_, g11, g12⟩, c5⟩
    · obtain ⟨d1, d2, d3, d4, d5⟩ := b7 s' hs'
      refine ⟨d1, d2, d3, ?_, d5⟩
      by_cases q : s' = s
      · subst q
        rw [pk_us, pk_us]
        exact Or.inr ⟨rfl, g, by omega, rfl⟩
      · rw [pk_un q, pk_un q]
        exact d4
    · obtain ⟨d1, d2⟩ := b8 s' h1 h2
      rw [pk_un (by omega)]
      exact ⟨d1, d2⟩
    · obtain ⟨d1, d2, d3, d4, d5, d6⟩ := g8 g' hg'
      refine ⟨d1, upd2 d2, d3, d4, d5, fun z => ?_⟩
      rw [pk_un (by omega)]
      exact d6 z
    · obtain ⟨d1, c', d2, d3, d4⟩ := g10 g' hg'
      refine ⟨d1, ?_⟩
      by_cases q : g' = g
      · subst q
        rw [e75] at d3
        have := (nI_eq (by omega) (by omega)).mp d3
        subst this
        rw [pk_us]
        refine ⟨c + 1, by omega, rfl, fun i hi => ?_⟩
        by_cases qi : i = c
        · subst qi
          rw [pk_us]
          exact ⟨s, hs, rfl⟩
        · rw [pk_un (by omega)]
          exact d4 i (by omega)
      · rw [pk_un q]
        refine ⟨c', d2, d3, fun i hi => ?_⟩
        rw [pk_un (by omega)]
        exact d4 i hi
  · refine Tl_mono (Tl_congr hT ?_ ?_ (fun j _ _ => ?_) ?_) (by omega) <;> simp only [am_upI_at, am_upI_ne, pk_us, pk_un, ne_eq, Nat.reduceEqDiff, not_false_eq_true]
  · simp only [am_upI_at, am_upI_ne, pk_us, pk_un, ne_eq, Nat.reduceEqDiff, not_false_eq_true]
    exact h29
theorem st_add {F : Nat} (hF : 6000 ≤ F) (x1 : Int32) : FpStep (f176 F x1) (f274 F x1) := by
  refine Fp_of fun S t ht hR => ?_
  obtain ⟨nj, nf, ns, ng, nb, hC⟩ := Rel_z hR
  have hng := hC.2.2.2.1.1
  unfold f176 f274
  refine RG_jam hR ?_
  refine RG_g1 (Gd_sig hC) hR ?_
  rintro ⟨g, hg, rfl⟩
  obtain ⟨-, -, -, ⟨-, -, -, g4, g5, -, -, g8, g9, g10, g11, g12⟩, -⟩ := id hC
  obtain ⟨-, -, d3, -, d5, -⟩ := g8 g (by omega)
  have e122 : S.1 122 g = S.1 79 g := by
    rw [← mz_at (I := S.1) (k := 122) (mi_h (by show g < 4; omega)), ← d3]
  unfold f11
  simp only [ck_at (show g < 8 by omega) (show 8 < 2147483648 by omega), nI_clamp (show g < 2 ^ 31 by omega)]
  rw [kg_at (by omega) (by omega)]
  by_cases hq : S.1 79 g = 0
  case neg =>
    refine RG_q (v := -5) hR ?_ fun S1 hf => ?_
    · rw [if_neg hq]
      rfl
    · rw [hf 122 (by omega), e122, if_neg hq]
  rw [if_pos hq, b2_at, if_pos rfl]
  refine RG_mp (fun S1 hf => ?_) ?_
  · rw [hf 122 (by omega), e122, hq]
  have hnb : nb ≤ 3 := by
    have z : ∀ i, i < 4 → (S.1 79 i).toNatClampNeg ≤ 1 := fun i hi => by
      rcases (g8 i hi).2.2.2.2.1 with h | h <;> rw [h] <;> decide
    have h0 : (S.1 79 g).toNatClampNeg = 0 := by rw [hq]; decide
    have z0 := z 0 (by omega)
    have z1 := z 1 (by omega)
    have z2 := z 2 (by omega)
    have z3 := z 3 (by omega)
    rcases (show g = 0 ∨ g = 1 ∨ g = 2 ∨ g = 3 by omega) with rfl | rfl | rfl | rfl <;> omega
  refine RG_chg hF hR hC fun m0 hm hT h29 hz S' hK => ?_
  rw [b2_id]
  unfold f13
  rw [Ky_k0 hK (by omega) (by decide) (by decide), g4, nI_1]
  refine KG_ks hK (by omega) rfl rfl (by omega) fun S3 h3 => ?_
  refine KG_ks h3 (by omega) rfl rfl (by omega) fun S4 h4 => ?_
  refine KG_k0 h4 (by omega) rfl (by omega) fun S5 h5 => ?_
  refine KG_ret h5 (by omega) fun S2 hM => ?_
  refine MG_up hM (mi_h (by show g < 4; omega)) fun S6 h6 => ?_
  have e0 := hm.2.2.2.1.2.2.2.2.1
  have e6 : S6.1 96 4 = nI nb := (My_rd h6 (mi_h (by decide))).trans (by simp only [am_upI_at, am_upI_ne, pk_us, pk_un, ne_eq, Nat.reduceEqDiff, not_false_eq_true]; exact e0)
  rw [e6]
  refine MG_cu h6 rfl (by show nb < 4; omega) (by omega) (by omega) fun S7 h7 => ?_
  have e7 : S7.1 96 4 = nI nb := (My_rd h7 (mi_h (by decide))).trans (by simp only [am_upI_at, am_upI_ne, pk_us, pk_un, ne_eq, Nat.reduceEqDiff, not_false_eq_true]; exact e0)
  rw [e7, nI_1, tz4]
  refine MG_up h7 (mi_h (by decide)) fun S8 h8 => ?_
  have e8 : S8.1 96 4 = nI (nb + 1) := (My_rd h8 (mi_h (by decide))).trans (by simp only [am_upI_at, am_upI_ne, pk_us, pk_un, ne_eq, Nat.reduceEqDiff, not_false_eq_true])
  rw [e8]
  refine MG_ret h8 ⟨rfl, ⟨nj, nf, ns, ng, nb + 1, ?_⟩, ?_, ?_⟩
  · obtain ⟨c1, c2, c3, ⟨g1, g2, g3, g4, g5, g6, g7, g8, g9, g10, g11, g12⟩, c5⟩ := hm
    unfold Cur
    simp only [am_upI_at, am_upI_ne, pk_us, pk_un, ne_eq, Nat.reduceEqDiff, not_false_eq_true]
    refine ⟨c1, c2, c3, ⟨g1, g2, g3, rfl, rfl, g6, g7, fun g' hg' => ?_, g9, g10, fun b hb => ?_, ?_⟩, c5⟩
    · obtain ⟨d1, d2, d3, d4, d5, d6⟩ := g8 g' hg'
      refine ⟨d1, d2, upd2 d3, upd2 d4, ?_, fun z => ?_⟩
      · by_cases q : g' = g
        · subst q
          rw [pk_us]
          exact Or.inr rfl
        · rw [pk_un q]
          exact d5
      · rw [pk_un (by omega)]
        exact d6 z
    · by_cases q : b = nb
      · subst q
        rw [pk_us]
        exact ⟨g, hg, rfl⟩
      · rw [pk_un q]
        exact g11 b (by omega)
    · have h0 : (S.1 79 g).toNatClampNeg = 0 := by rw [hq]; decide
      have h1 : (1 : Int32).toNatClampNeg = 1 := by decide
      rcases (show g = 0 ∨ g = 1 ∨ g = 2 ∨ g = 3 by omega) with rfl | rfl | rfl | rfl <;> simp only [pk_us, pk_un, ne_eq, Nat.reduceEqDiff, not_false_eq_true, h1] <;> omega
  · refine Tl_mono (Tl_congr hT ?_ ?_ (fun j _ _ => ?_) ?_) (by omega) <;> simp only [am_upI_at, am_upI_ne, pk_us, pk_un, ne_eq, Nat.reduceEqDiff, not_false_eq_true]
  · simp only [am_upI_at, am_upI_ne, pk_us, pk_un, ne_eq, Nat.reduceEqDiff, not_false_eq_true]
    exact h29
theorem Cur_fold {A m : Mem} {nj nf ns ng nb f : Nat} (hC : Cur A m nj nf ns ng nb) (hf : f < nf) : nf ≤ 16 ∧ (A 33 f = m 103 f ∧ A 35 f = m 104 f ∧ A 37 f = m 105 f ∧ A 39 f = m 106 f ∧ A 41 f = m 107 f) ∧ FD (A 33) (A 35) (A 37) (A 39) (A 41) (A 43) (A 45) f := by
  obtain ⟨-, ⟨h1, h2, h3, h4, h5⟩, -⟩ := hC
  obtain ⟨a1, a2, a3, a4, a5, -⟩ := h4 f (by omega)
  exact ⟨h1, ⟨a1, a2, a3, a4, a5⟩, h5 f hf⟩
theorem FD_ext {a33 a35 a37 a39 a41 a43 a45 b33 b35 b37 b39 b41 b43 b45 : Nat → Int32} {n f : Nat} (h : FD a33 a35 a37 a39 a41 a43 a45 f) (hf : f < n) (e : ∀ g, g < n → b33 g = a33 g ∧ b35 g = a35 g ∧ b37 g = a37 g ∧ b39 g = a39 g ∧ b41 g = a41 g ∧ b43 g = a43 g ∧ b45 g = a45 g) : FD b33 b35 b37 b39 b41 b43 b45 f := by
  obtain ⟨e1, e2, e3, e4, e5, e6, e7⟩ := e f hf
  rcases h with ⟨k, x, h1, h2, h3, h4, h5, h6, h7, h8, h9⟩ | ⟨p, q, u, v, h1, h2, h3, h3a, h3b, h4, h5, h6, h7, h8, h9, h10, h11, h12⟩
  · exact Or.inl ⟨k, x, h1, h2, e1.trans h3, e2.trans h4, e3.trans h5, e4.trans h6, e5.trans h7, e6.trans h8, e7.trans h9⟩
  · obtain ⟨p1, p2, p3, p4, p5, p6, p7⟩ := e p (by omega)
    obtain ⟨q1, q2, q3, q4, q5, q6, q7⟩ := e q (by omega)
    refine Or.inr ⟨p, q, u, v, h1, h2, h3, h3a, h3b, e1.trans h4, e2.trans h5, e3.trans h6, e4.trans h7, p5.trans h8, q5.trans h9, e5.trans h10, ?_, ?_⟩
    · rw [e6, p6, q6, h11]
    · rw [e7, p7, q7, h12]
theorem th_eq {k : Nat} (h : k ≤ 4) : am_thick k = fd_th k := by
  rcases (show k = 0 ∨ k = 1 ∨ k = 2 ∨ k = 3 ∨ k = 4 by omega) with rfl | rfl | rfl | rfl | rfl <;> rfl
theorem tr_eq {k : Nat} (h : k ≤ 4) : am_trims k = fd_tr k := by
  rcases (show k = 0 ∨ k = 1 ∨ k = 2 ∨ k = 3 ∨ k = 4 by omega) with rfl | rfl | rfl | rfl | rfl <;> rfl
theorem st_fold {F : Nat} (hF : 6000 ≤ F) (x1 x2 : Int32) : FpStep (f154 F x1 x2) (f226 F x1 x2) := by
  refine Fp_of fun S t ht hR => ?_
  obtain ⟨nj, nf, ns, ng, nb, hC⟩ := Rel_z hR
  have hn := hC.2.1.1
  have e31 := hC.2.1.2.1
  have e96 : S.1 96 1 = nI nf := (mz_at (mi_h (by decide))).symm.trans hC.2.1.2.2.1
  unfold f154 f226
  refine RG_jam hR ?_
  refine RG_g1 (Gd_in 0 4 rfl rfl (by omega)) hR ?_
  rintro ⟨w, -, hw, rfl⟩
  refine RG_g1 (Gd_in 0 1 rfl rfl (by omega)) hR ?_
  rintro ⟨u, -, hu, rfl⟩
  unfold f20
  rw [b2_at, kg_0 (by decide) (by decide), e31]
  refine RG_itn (fun S1 hf => ?_) (fun hlt => ?_) (fun _ => RG_ret hR)
  · rw [hf 96 (by omega), e96]
    exact nI_full (k := 16) (by omega) (by omega)
  have hlt : nf < 16 := (nI_ltI (b := 16) (by omega) (by omega)).mp hlt
  refine RG_chg hF hR hC fun m0 hm hT h29 hz S' hK => ?_
  rw [b2_id]
  unfold f27 g27_82
  have c1 : ¬ nI w < 0 := nI_pos (by omega)
  have c2 : ¬ (5 : Int32) ≤ nI w := nI_ge (b := 5) (by omega) (by omega)
  simp only [Ky_k0 hK (show 5 ≤ 31 ∧ 31 ≤ 94 by omega) (show 0 < 1 by omega) (show 1 < 2147483648 by omega), e31, if_neg c1, if_neg c2, ck_at (show w < 5 by omega) (show 5 < 2147483648 by omega), nI_clamp (show w < 2 ^ 31 by omega), th_eq hw, tr_eq hw]
  refine KG_ks hK (by omega) rfl rfl (by omega) fun S3 h3 => ?_
  refine KG_ks h3 (by omega) rfl rfl (by omega) fun S4 h4 => ?_
  refine KG_ks h4 (by omega) rfl rfl (by omega) fun S5 h5 => ?_
  refine KG_ks h5 (by omega) rfl rfl (by omega) fun S6 h6 => ?_
  refine KG_ks h6 (by omega) rfl rfl (by omega) fun S7 h7 => ?_
  refine KG_k0 h7 (by omega) rfl (by omega) fun S8 h8 => ?_
  refine KG_ret h8 (by omega) fun S2 hM => ?_
  rw [b2_id]
  unfold f225
  have e0 : S2.1 96 1 = nI nf := (My_rd hM (mi_h (by decide))).trans hm.2.1.2.2.1
  rw [e0, tz1]
  refine MG_up hM (mi_h (by decide)) fun S9 h9 => ?_
  refine MG_cu h9 rfl (by show nf < 16; omega) (by omega) (by omega) fun S10 h10 => ?_
  refine MG_cu h10 rfl (by show nf < 16; omega) (by omega) (by omega) fun S11 h11 => ?_
  refine MG_cu h11 rfl (by show nf < 16; omega) (by omega) (by omega) fun S12 h12 => ?_
  refine MG_cu h12 rfl (by show nf < 16; omega) (by omega) (by omega) fun S13 h13 => ?_
  refine MG_cu h13 rfl (by show nf < 16; omega) (by omega) (by omega) fun S14 h14 => ?_
  refine MG_ret h14 ⟨rfl, ⟨nj, nf + 1, ns, ng, nb, ?_⟩, ?_, ?_⟩
  · obtain ⟨c1, ⟨b1, b2, b3, b4, b5⟩, c3, c4, c5⟩ := hm
    unfold Cur
    simp only [am_upI_at, am_upI_ne, pk_us, pk_un, ne_eq, Nat.reduceEqDiff, not_false_eq_true]
    refine ⟨c1, ⟨by omega, nI_1 nf, nI_1 nf, fun f hf => ?_, fun f hf => ?_⟩, GS_nj c3 (by omega) (by omega), c4, c5⟩
    · obtain ⟨a1, a2, a3, a4, a5, a6⟩ := b4 f hf
      by_cases q : f = nf
      · subst q
        have z := a6 (by omega)
        simp only [pk_us]
        exact ⟨trivial, trivial, z.2.1, z.2.2, trivial, fun q => absurd q (by omega)⟩
      · simp only [pk_un q]
        exact ⟨a1, a2, a3, a4, a5, fun q => a6 (by omega)⟩
    · by_cases q : f = nf
      · subst q
        have z := (b4 f (by omega)).2.2.2.2.2 (by omega)
        exact Or.inl ⟨w, u, hw, hu, pk_us, pk_us, z.2.1, z.2.2, pk_us, pk_us, pk_us⟩
      · refine FD_ext (n := nf) (b5 f (by omega)) (by omega) fun g hg => ?_
        have q : g ≠ nf := by omega
        simp only [pk_un q]
        exact ⟨trivial, trivial, trivial, trivial, trivial, trivial, trivial⟩
  · refine Tl_mono (Tl_congr hT ?_ ?_ (fun j _ _ => ?_) ?_) (by omega) <;> simp only [am_upI_at, am_upI_ne, pk_us, pk_un, ne_eq, Nat.reduceEqDiff, not_false_eq_true]
  · simp only [am_upI_at, am_upI_ne, pk_us, pk_un, ne_eq, Nat.reduceEqDiff, not_false_eq_true]
    exact h29
