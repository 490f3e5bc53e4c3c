/-! calls: the press, the book -/
theorem st_margin {F : Nat} (hF : 6000 ≤ F) (x1 : Int32) : FpStep (f181 F x1) (f279 F x1) := by
  refine Fp_of fun S t ht hR => ?_
  obtain ⟨nj, nf, ns, ng, nb, hC⟩ := Rel_z hR
  unfold f181 f279
  refine RG_jam hR ?_
  refine RG_g1 (Gd_in 0 9 rfl rfl (by omega)) hR ?_
  rintro ⟨w, hw1, hw2, rfl⟩
  refine RG_chg hF hR hC fun m0 hm hT h29 hz S' hK => ?_
  rw [b2_id]
  unfold f84
  rw [Ky_k0 hK (by omega) (by decide) (by decide)]
  refine KG_k0 hK (by omega) rfl (by omega) fun S3 h3 => ?_
  refine KG_ret h3 (by omega) fun S2 hM => ?_
  have e0 : S2.1 96 6 = S.1 94 0 := (My_rd hM (mi_h (by decide))).trans hm.2.2.2.2.2.2.2.2.2.1.symm
  rw [e0, tz6]
  refine MG_up hM (mi_h (by decide)) fun S4 h4 => ?_
  refine MG_ret h4 ⟨rfl, ⟨nj, nf, ns, ng, nb, ?_⟩, ?_, ?_⟩
  · obtain ⟨c1, c2, c3, c4, g1, g2, g3, g4, g5, g6, g7⟩ := hm
    unfold Cur
    simp only [am_upI_at, am_upI_ne, pk_us, pk_un, ne_eq, Nat.reduceEqDiff, not_false_eq_true]
    exact ⟨c1, c2, c3, c4, g1, g2, g3, g4, g5, rfl, w, hw2, rfl⟩
  · refine Tl_mono (Tl_congr hT ?_ ?_ (fun j _ _ => ?_) ?_) (by omega) <;> simp only [am_upI_at, am_upI_ne, pk_us, pk_un, ne_eq, Nat.reduceEqDiff, not_false_eq_true]
  · simp only [am_upI_at, am_upI_ne, pk_us, pk_un, ne_eq, Nat.reduceEqDiff, not_false_eq_true]
    exact h29
theorem st_doubled {F : Nat} (hF : 6000 ≤ F) : FpStep (f183 F) (f282 F) := by
  refine Fp_of fun S t ht hR => ?_
  obtain ⟨nj, nf, ns, ng, nb, hC⟩ := Rel_z hR
  unfold f183 f282
  refine RG_jam hR ?_
  refine RG_chg hF hR hC fun m0 hm hT h29 hz S' hK => ?_
  rw [b2_id]
  unfold f85
  refine KG_k0 hK (by omega) rfl (by omega) fun S3 h3 => ?_
  refine KG_ret h3 (by omega) fun S2 hM => ?_
  rw [tz7]
  refine MG_up hM (mi_h (by decide)) fun S4 h4 => ?_
  refine MG_ret h4 ⟨rfl, ⟨nj, nf, ns, ng, nb, ?_⟩, ?_, ?_⟩
  · obtain ⟨c1, c2, c3, c4, g1, g2, g3, g4, g5, g6, g7⟩ := hm
    unfold Cur
    simp only [am_upI_at, am_upI_ne, pk_us, pk_un, ne_eq, Nat.reduceEqDiff, not_false_eq_true]
    exact ⟨c1, c2, c3, c4, g1, rfl, Or.inr rfl, g4, g5, g6, g7⟩
  · refine Tl_mono (Tl_congr hT ?_ ?_ (fun j _ _ => ?_) ?_) (by omega) <;> simp only [am_upI_at, am_upI_ne, pk_us, pk_un, ne_eq, Nat.reduceEqDiff, not_false_eq_true]
  · simp only [am_upI_at, am_upI_ne, pk_us, pk_un, ne_eq, Nat.reduceEqDiff, not_false_eq_true]
    exact h29
theorem st_clear {F : Nat} (hF : 6000 ≤ F) : FpStep (f187 F) (f289 F) := by
  refine Fp_of fun S t ht hR => ?_
  obtain ⟨nj, nf, ns, ng, nb, hC⟩ := Rel_z hR
  unfold f187 f289
  refine RG_chg hF hR hC fun m0 hm hT h29 hz S' hK => ?_
  rw [b2_id]
  unfold f82
  rw [Ky_k0 hK (by omega) (by decide) (by decide)]
  refine KG_k0 hK (by omega) rfl (by omega) fun S3 h3 => ?_
  refine KG_ret h3 (by omega) fun S2 hM => ?_
  have e0 : S2.1 96 8 = S.1 92 0 := (My_rd hM (mi_h (by decide))).trans hm.2.2.2.2.2.2.2.1.symm
  rw [e0, tz8]
  refine MG_up hM (mi_h (by decide)) fun S4 h4 => ?_
  refine MG_ret h4 ⟨rfl, ⟨nj, nf, ns, ng, nb, ?_⟩, ?_, ?_⟩
  · obtain ⟨c1, c2, c3, c4, g1, g2, g3, g4, g5, g6, g7⟩ := hm
    unfold Cur
    simp only [am_upI_at, am_upI_ne, pk_us, pk_un, ne_eq, Nat.reduceEqDiff, not_false_eq_true]
    exact ⟨c1, c2, c3, c4, g1, g2, g3, rfl, Or.inl rfl, g6, g7⟩
  · refine Tl_mono (Tl_congr hT ?_ ?_ (fun j _ _ => ?_) ?_) (by omega) <;> simp only [am_upI_at, am_upI_ne, pk_us, pk_un, ne_eq, Nat.reduceEqDiff, not_false_eq_true]
  · simp only [am_upI_at, am_upI_ne, pk_us, pk_un, ne_eq, Nat.reduceEqDiff, not_false_eq_true]
    exact h29
theorem st_jam {F : Nat} (hF : 6000 ≤ F) (x1 : Int32) : FpStep (f184 F x1) (f283 F x1) := by
  refine Fp_of fun S t ht hR => ?_
  obtain ⟨nj, nf, ns, ng, nb, hC⟩ := Rel_z hR
  unfold f184 f283
  refine RG_jam hR ?_
  refine RG_g1 (Gd_in 0 4 rfl rfl (by omega)) hR ?_
  rintro ⟨w, hw1, hw2, rfl⟩
  refine RG_chg hF hR hC fun m0 hm hT h29 hz S' hK => ?_
  rw [b2_id]
  unfold f86
  refine KG_ks hK (by omega) rfl rfl (by omega) fun S3 h3 => ?_
  refine KG_ret h3 (by omega) fun S2 hM => ?_
  refine MG_cu hM rfl (by show w < 5; omega) (by omega) (by omega) fun S4 h4 => ?_
  refine MG_ret h4 ⟨rfl, ⟨nj, nf, ns, ng, nb, ?_⟩, ?_, ?_⟩
  · obtain ⟨c1, c2, c3, c4, g1, g2, g3, g4, g5, g6, g7⟩ := hm
    unfold Cur
    simp only [am_upI_at, am_upI_ne, pk_us, pk_un, ne_eq, Nat.reduceEqDiff, not_false_eq_true]
    refine ⟨c1, c2, c3, c4, fun j hj => ?_, g2, g3, g4, g5, g6, g7⟩
    by_cases h : j = w
    · subst h
      rw [pk_us, pk_us]
      exact ⟨rfl, Or.inr rfl⟩
    · rw [pk_un h, pk_un h]
      exact g1 j hj
  · refine Tl_mono (Tl_congr hT ?_ ?_ (fun j _ _ => ?_) ?_) (by omega) <;> simp only [am_upI_at, am_upI_ne, pk_us, pk_un, ne_eq, Nat.reduceEqDiff, not_false_eq_true]
  · simp only [am_upI_at, am_upI_ne, pk_us, pk_un, ne_eq, Nat.reduceEqDiff, not_false_eq_true]
    exact h29
theorem st_cover {F : Nat} (hF : 6000 ≤ F) (x1 : Int32) : FpStep (f177 F x1) (f275 F x1) := by
  refine Fp_of fun S t ht hR => ?_
  obtain ⟨nj, nf, ns, ng, nb, hC⟩ := Rel_z hR
  unfold f177 f275
  refine RG_jam hR ?_
  have key : (x1 = -1 ∨ ∃ s, s < ns ∧ x1 = nI s) → RG S t (g177_32 F x1 S) (fun S1 => g275_26 F x1 S1) := by
    intro hx
    unfold g177_32 g275_26
    refine RG_chg hF hR hC fun m0 hm hT h29 hz S' hK => ?_
    rw [b2_id]
    unfold f16
    refine KG_k0 hK (by omega) rfl (by omega) fun S3 h3 => ?_
    refine KG_ret h3 (by omega) fun S2 hM => ?_
    rw [tz5]
    refine MG_up hM (mi_h (by decide)) fun S4 h4 => ?_
    refine MG_ret h4 ⟨rfl, ⟨nj, nf, ns, ng, nb, ?_⟩, ?_, ?_⟩
    · obtain ⟨c1, c2, c3, ⟨g1, g2, g3, g4, g5, g6, g7, g8⟩, c5⟩ := hm
      unfold Cur
      simp only [am_upI_at, am_upI_ne, pk_us, pk_un, ne_eq, Nat.reduceEqDiff, not_false_eq_true]
      exact ⟨c1, c2, c3, ⟨g1, g2, g3, g4, g5, rfl, hx, g8⟩, c5⟩
    · refine Tl_mono (Tl_congr hT ?_ ?_ (fun j _ _ => ?_) ?_) (by omega) <;> simp only [am_upI_at, am_upI_ne, pk_us, pk_un, ne_eq, Nat.reduceEqDiff, not_false_eq_true]
    · simp only [am_upI_at, am_upI_ne, pk_us, pk_un, ne_eq, Nat.reduceEqDiff, not_false_eq_true]
      exact h29
  refine RG_ite (fun S1 _ => Iff.rfl) (fun h => key (Or.inl h)) (fun h => ?_)
  refine RG_g1 (Gd_sheet hC) hR ?_
  rintro hs
  exact key (Or.inr hs)
theorem GS_st {a48 : Int32} {a50 a52 a54 a56 a58 a60 a62 a64 a66 a68 : Nat → Int32} {m2 : Int32} {m108 m109 m110 m111 m112 m113 m114 m115 m116 m117 m118 a62' a64' a66' a68' m111' m112' m113' m114' : Nat → Int32} {nj nf ns : Nat} (h : GS a48 a50 a52 a54 a56 a58 a60 a62 a64 a66 a68 m2 m108 m109 m110 m111 m112 m113 m114 m115 m116 m117 m118 nj nf ns) (h1 : ∀ s, s < 8 → a62 s = m111 s → a62' s = m111' s) (h2 : ∀ s, s < 8 → a64 s = m112 s → a64' s = m112' s) (h3 : ∀ s, s < 8 → a66 s = m113 s → a66' s = m113' s) (h4 : ∀ s, s < 8 → a68 s = m114 s → a68' s = m114' s)
    (h5 : ∀ s, s < ns → (a62 s = -1 ∨ ∃ f, f < nf ∧ a62 s = nI f) → (a62' s = -1 ∨ ∃ f, f < nf ∧ a62' s = nI f)) (h6 : ∀ s, s < ns → (a64 s = -1 ∨ ∃ p, p ≤ 6 ∧ a64 s = nI p) → (a64' s = -1 ∨ ∃ p, p ≤ 6 ∧ a64' s = nI p)) (h7 : ∀ s, ns ≤ s → a68 s = 0 → a68' s = 0) :
    GS a48 a50 a52 a54 a56 a58 a60 a62' a64' a66' a68' m2 m108 m109 m110 m111' m112' m113' m114' m115 m116 m117 m118 nj nf ns := by
  obtain ⟨b1, b2, b3, b4, b5, b6, b7, b8⟩ := h
  refine ⟨b1, b2, b3, fun s hs => ?_, b5, b6, fun s hs => ?_, fun s h1 h2 => ?_⟩
  · obtain ⟨d1, d2, d3, d4, d5, d6, d7⟩ := b4 s hs
    exact ⟨d1, d2, d3, h1 s hs d4, h2 s hs d5, h3 s hs d6, h4 s hs d7⟩
  · obtain ⟨d1, d2, d3, d4, d5, d6⟩ := b7 s hs
    exact ⟨d1, d2, d3, d4, h5 s hs d5, h6 s hs d6⟩
  · obtain ⟨d1, d2, d3, d4⟩ := b8 s h1 h2
    exact ⟨d1, h7 s h1 d2, d3, d4⟩
theorem upd2 {f g : Nat → Int32} {k s : Nat} {x : Int32} (h : f s = g s) : upd f k x s = upd g k x s := by
  by_cases hs : s = k
  · subst hs
    rw [pk_us, pk_us]
  · rw [pk_un hs, pk_un hs, h]
theorem st_foldBy {F : Nat} (hF : 6000 ≤ F) (x1 x2 : Int32) : FpStep (f180 F x1 x2) (f278 F x1 x2) := by
  refine Fp_of fun S t ht hR => ?_
  obtain ⟨nj, nf, ns, ng, nb, hC⟩ := Rel_z hR
  have hn := hC.2.2.1.1
  unfold f180 f278
  refine RG_jam hR ?_
  refine RG_g1 (Gd_sheet hC) hR ?_
  rintro ⟨s, hs, rfl⟩
  refine RG_g1 (Gd_fold hC) hR ?_
  rintro ⟨f, hf, rfl⟩
  refine RG_chg hF hR hC fun m0 hm hT h29 hz S' hK => ?_
  rw [b2_id]
  unfold f118
  refine KG_ks hK (by omega) rfl rfl (by omega) fun S3 h3 => ?_
  refine KG_ret h3 (by omega) fun S2 hM => ?_
  refine MG_cu hM rfl (by show s < 8; omega) (by omega) (by omega) fun S4 h4 => ?_
  refine MG_ret h4 ⟨rfl, ⟨nj, nf, ns, ng, nb, ?_⟩, ?_, ?_⟩
  · obtain ⟨c1, c2, c3, c4, c5⟩ := hm
    unfold Cur
    simp only [am_upI_at, am_upI_ne, pk_us, pk_un, ne_eq, Nat.reduceEqDiff, not_false_eq_true]
    refine ⟨c1, c2, GS_st c3 (fun s hs h => upd2 h) (fun s hs h => h) (fun s hs h => h) (fun s hs h => h) (fun s' hs' h => ?_) (fun s hs h => h) (fun s hs h => h), c4, c5⟩
    by_cases q : s' = s
    · subst q
      rw [pk_us]
      exact Or.inr ⟨f, hf, rfl⟩
    · rw [pk_un q]
      exact h
  · refine Tl_mono (Tl_congr hT ?_ ?_ (fun j _ _ => ?_) ?_) (by omega) <;> simp only [am_upI_at, am_upI_ne, pk_us, pk_un, ne_eq, Nat.reduceEqDiff, not_false_eq_true]
  · simp only [am_upI_at, am_upI_ne, pk_us, pk_un, ne_eq, Nat.reduceEqDiff, not_false_eq_true]
    exact h29
theorem st_reprint {F : Nat} (hF : 6000 ≤ F) (x1 : Int32) : FpStep (f186 F x1) (f288 F x1) := by
  refine Fp_of fun S t ht hR => ?_
  obtain ⟨nj, nf, ns, ng, nb, hC⟩ := Rel_z hR
  have hn := hC.2.2.1.1
  unfold f186 f288
  refine RG_jam hR ?_
  refine RG_g1 (Gd_sheet hC) hR ?_
  rintro ⟨s, hs, rfl⟩
  obtain ⟨-, ⟨a1, a2, a3, a4, a5, a6, a7⟩, -⟩ := Cur_sheet hC hs
  unfold f120
  simp only [b2_at, ck_at (show s < 16 by omega) (show 16 < 2147483648 by omega), nI_clamp (show s < 2 ^ 31 by omega)]
  rw [kg_at (by omega) (by omega)]
  refine RG_ite (fun S1 hf => ?_) (fun h => ?_) (fun _ => RG_ret hR)
  · rw [hf 112 (by omega), ← mz_at (I := S.1) (k := 112) (mi_h (by show s < 8; omega)), a5]
  refine RG_chg hF hR hC fun m0 hm hT h29 hz S' hK => ?_
  rw [b2_id]
  unfold f127
  refine KG_ks hK (by omega) rfl rfl (by omega) fun S3 h3 => ?_
  refine KG_ks h3 (by omega) rfl rfl (by omega) fun S4 h4 => ?_
  refine KG_ret h4 (by omega) fun S2 hM => ?_
  refine MG_up hM (mi_h (by show s < 8; omega)) fun S5 h5 => ?_
  refine MG_up h5 (mi_h (by show s < 8; omega)) fun S6 h6 => ?_
  refine MG_ret h6 ⟨rfl, ⟨nj, nf, ns, ng, nb, ?_⟩, ?_, ?_⟩
  · obtain ⟨c1, c2, c3, c4, c5⟩ := hm
    unfold Cur
    simp only [am_upI_at, am_upI_ne, pk_us, pk_un, ne_eq, Nat.reduceEqDiff, not_false_eq_true]
    refine ⟨c1, c2, GS_st c3 (fun s hs h => h) (fun s hs h => upd2 h) (fun s hs h => h) (fun s hs h => upd2 h) (fun s hs h => h) (fun s' hs' h => ?_) (fun s' hs' h => ?_), c4, c5⟩
    · by_cases q : s' = s
      · subst q
        rw [pk_us]
        exact Or.inl rfl
      · rw [pk_un q]
        exact h
    · rw [pk_un (by omega)]
      exact h
  · refine Tl_mono (Tl_congr hT ?_ ?_ (fun j _ _ => ?_) ?_) (by omega) <;> simp only [am_upI_at, am_upI_ne, pk_us, pk_un, ne_eq, Nat.reduceEqDiff, not_false_eq_true]
  · simp only [am_upI_at, am_upI_ne, pk_us, pk_un, ne_eq, Nat.reduceEqDiff, not_false_eq_true]
    exact h29
theorem st_signature {F : Nat} (hF : 6000 ≤ F) (x1 : Int32) : FpStep (f171 F x1) (f269 F x1) := by
  refine Fp_of fun S t ht hR => ?_
  obtain ⟨nj, nf, ns, ng, nb, hC⟩ := Rel_z hR
  have hn := hC.2.2.2.1.1
  have e71 := hC.2.2.2.1.2.1
  have e96 : S.1 96 3 = nI ng := (mz_at (mi_h (by decide))).symm.trans hC.2.2.2.1.2.2.1
  unfold f171 f269
  refine RG_jam hR ?_
  refine RG_g1 (Gd_in 0 1 rfl rfl (by omega)) hR ?_
  rintro ⟨w, hw1, hw2, rfl⟩
  unfold f1
  rw [b2_at, kg_0 (by decide) (by decide), e71]
  refine RG_itn (fun S1 hf => ?_) (fun hlt => ?_) (fun _ => RG_ret hR)
  · rw [hf 96 (by omega), e96]
    exact nI_full (k := 4) (by omega) (by omega)
  have hlt : ng < 4 := (nI_ltI (b := 4) (by omega) (by omega)).mp hlt
  refine RG_chg hF hR hC fun m0 hm hT h29 hz S' hK => ?_
  rw [b2_id]
  unfold f3
  rw [Ky_k0 hK (by omega) (by decide) (by decide), e71]
  refine KG_ks hK (by omega) rfl rfl (by omega) fun S3 h3 => ?_
  refine KG_k0 h3 (by omega) rfl (by omega) fun S4 h4 => ?_
  refine KG_ret h4 (by omega) fun S2 hM => ?_
  have e0 : S2.1 96 3 = nI ng := (My_rd hM (mi_h (by decide))).trans hm.2.2.2.1.2.2.1
  rw [e0, tz3]
  refine MG_up hM (mi_h (by decide)) fun S6 h6 => ?_
  refine MG_cu h6 rfl (by show ng < 4; omega) (by omega) (by omega) fun S7 h7 => ?_
  refine MG_cu h7 rfl (by show ng < 4; omega) (by omega) (by omega) fun S8 h8 => ?_
  refine MG_cu h8 rfl (by show ng < 4; omega) (by omega) (by omega) fun S9 h9 => ?_
  refine MG_ret h9 ⟨rfl, ⟨nj, nf, ns, ng + 1, nb, ?_⟩, ?_, ?_⟩
  · obtain ⟨c1, c2, c3, ⟨g1, g2, g3, g4, g5, g6, g7, g8, g9, g10, g11, g12⟩, c5⟩ := hm
    unfold Cur
    simp only [am_upI_at, am_upI_ne, pk_us, pk_un, ne_eq, Nat.reduceEqDiff, not_false_eq_true]
    refine ⟨c1, c2, c3, ⟨by omega, nI_1 ng, nI_1 ng, g4, g5, g6, g7, fun g hg => ?_, g9, fun g hg => ?_, fun b hb => ?_, g12⟩, c5⟩
    · obtain ⟨d1, d2, d3, d4, d5, d6⟩ := g8 g hg
      by_cases q : g = ng
      · subst q
        have d7 := d6 (by omega)
        rw [pk_us, pk_us, pk_us, pk_us]
        exact ⟨rfl, d7.1, d7.2, d4, d5, fun _ => d7⟩
      · rw [pk_un q, pk_un q, pk_un q, pk_un q]
        exact ⟨d1, d2, d3, d4, d5, fun z => d6 (by omega)⟩
    · by_cases q : g = ng
      · subst q
        rw [pk_us]
        obtain ⟨d1, d2, d3, d4, d5, d6⟩ := g8 g (by omega)
        have d7 := d6 (by omega)
        refine ⟨?_, 0, by omega, d7.1.trans nI_0.symm, fun i hi => absurd hi (by omega)⟩
        rcases (show w = 0 ∨ w = 1 by omega) with rfl | rfl
        · exact Or.inl rfl
        · exact Or.inr rfl
      · rw [pk_un q]
        exact g10 g (by omega)
    · obtain ⟨g, hg, e⟩ := g11 b hb
      exact ⟨g, by omega, e⟩
  · refine Tl_mono (Tl_congr hT ?_ ?_ (fun j _ _ => ?_) ?_) (by omega) <;> simp only [am_upI_at, am_upI_ne, pk_us, pk_un, ne_eq, Nat.reduceEqDiff, not_false_eq_true]
  · simp only [am_upI_at, am_upI_ne, pk_us, pk_un, ne_eq, Nat.reduceEqDiff, not_false_eq_true]
    exact h29
