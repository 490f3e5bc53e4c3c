/-! calls: sheets' cells, gather, add -/
theorem Gd_side {F : Nat} {S : AmT} {x : Int32} : Gd S (f195 F x) (f197 F x 0 1) (∃ w, w ≤ 1 ∧ x = nI w) := by
  rcases Gd_in (F := F) (S := S) (x := x) (la := 0) (lb := 1) 0 1 rfl rfl (by omega) with ⟨⟨w, -, hw, rfl⟩, g1, g2⟩ | ⟨g1, g2⟩
  · refine Or.inl ⟨⟨w, hw, rfl⟩, ?_, g2⟩
    unfold f195
    dsimp only at g1
    rw [g1]
    rfl
  · refine Or.inr ⟨?_, g2⟩
    unfold f195
    dsimp only at g1
    rw [g1]
    rfl
theorem KG_kb {S0 S : AmT} {A : Mem} {k c ar n p N : Nat} {j v : Int32} {K : AmT → Option (Int32 × AmT)} {Q : Int32 → AmT → Mem → Prop} (h : Ky S0 S A k) (hk : k < 640) (hc : sh_k c ar n = true) (hj : j = nI p) (hp : p < n) (H : ∀ S', Ky S0 S' (am_upI A ar p v) (k + 1) → KG S0 N (K S') Q) : KG S0 N ((am_nn S (am_lt (ks S c ar n j v) fun S1 => some S1)).bind K) Q := by
  subst hj
  rw [nn_at h.1 (by omega)]
  exact H _ (Ky_ks h hk hc hp)
theorem sp16 {s d i : Nat} : (nI s * 2 + nI d) * 8 + nI i = nI (16 * s + 8 * d + i) := by
  show (nI s * nI 2 + nI d) * nI 8 + nI i = _
  rw [nI_mul, nI_add, nI_mul, nI_add]
  congr 1
  omega
theorem f100_eq {F s d i : Nat} {S : AmT} : f100 F (nI s) (nI d) (nI i) S = some (nI (16 * s + 8 * d + i), S) := by
  unfold f100
  rw [sp16]
theorem f250_eq {F s d i : Nat} {S : AmT} : f250 F (nI s) (nI d) (nI i) S = some (nI (16 * s + 8 * d + i), S) := by
  unfold f250
  show some (nI 16 * nI s + nI 8 * nI d + nI i, S) = _
  rw [nI_mul, nI_mul, nI_add, nI_add]
theorem f251_eq {F s d i k : Nat} {S : AmT} : f251 F (nI s) (nI d) (nI i) (nI k) S = some (nI (8 * (16 * s + 8 * d + i) + k), S) := by
  unfold f251
  rw [f250_eq, b2_at]
  show some (nI 8 * nI (16 * s + 8 * d + i) + nI k, S) = _
  rw [nI_mul, nI_add]
/-- has a row, on both sides -/
theorem srow_c {F : Nat} {S : AmT} {s r : Nat} {x : Int32} (hs : s < 8) (hr : r ≤ 8) (h52 : S.1 52 s = nI r) :
    (f101 F (nI s) x S = some (0, S) ∧ ∀ S2 : AmT, f197 F x 0 (nI r - 1) S2 = some (0, S2)) ∨
    ∃ i, i < r ∧ x = nI i ∧ f101 F (nI s) x S = some (1, S) ∧ ∀ S2 : AmT, f197 F x 0 (nI r - 1) S2 = some (1, S2) := by
  unfold f101
  rw [kg_at (by omega) (by omega), h52]
  by_cases c1 : x < 0
  · refine Or.inl ⟨if_pos c1, fun S2 => ?_⟩
    rw [f197_eq, if_pos c1]
  by_cases c2 : nI r ≤ x
  · refine Or.inl ⟨by rw [if_neg c1, if_pos c2], fun S2 => ?_⟩
    rw [f197_eq, if_neg c1, if_pos ((i32_m1 (by omega)).mpr c2)]
  obtain ⟨i, hi, rfl⟩ := nI_of c1
  refine Or.inr ⟨i, ?_, rfl, by rw [if_neg c1, if_neg c2], fun S2 => ?_⟩
  · rcases Nat.lt_or_ge i r with q | q
    · exact q
    · exact absurd (nI_le q hi) c2
  · rw [f197_eq, if_neg c1, if_neg (fun z => c2 ((i32_m1 (by omega)).mp z))]
/-- a cell, on both sides -/
theorem cell_c {F : Nat} {S : AmT} {s d r c : Nat} {x y : Int32} {m116 : Nat → Int32} (hs : s < 8) (hd : d ≤ 1) (hr : r ≤ 8) (hc : c ≤ 8) (h52 : S.1 52 s = nI r) (h54 : S.1 54 s = nI c) (h56 : ∀ j, j < 128 → S.1 56 j = m116 j ∧ (S.1 56 j = 0 ∨ S.1 56 j = 1)) :
    (∃ e : Nat, (e = 1 ∨ e = 2) ∧ f104 F (nI s) (nI d) x y S = some (-10 - nI e, S) ∧ ∀ S2 : AmT, S2.1 109 s = nI r → S2.1 110 s = nI c → (∀ j, j < 128 → S2.1 116 j = m116 j) → f254 F (nI s) (nI d) x y S2 = some (nI e, S2)) ∨
    ∃ i k, i < r ∧ k < c ∧ x = nI i ∧ y = nI k ∧ f104 F (nI s) (nI d) x y S = some (nI (8 * (16 * s + 8 * d + i) + k), S) ∧ ∀ S2 : AmT, S2.1 109 s = nI r → S2.1 110 s = nI c → (∀ j, j < 128 → S2.1 116 j = m116 j) → f254 F (nI s) (nI d) x y S2 = some (0, S2) := by
  have em : ∀ S2 : AmT, S2.1 109 s = nI r → f254 F (nI s) (nI d) x y S2 = (am_b2 (f197 F x 0 (nI r - 1) S2) fun v1 S2 => if v1 = 0 then (some (2, S2)) else (am_b2 (f250 F (nI s) (nI d) x S2) fun v4 S5 => am_ck v4 256 (if (S5.1 116 v4.toNatClampNeg) = 0 then (am_ck (nI s) 16 (am_b2 (f197 F y 0 ((S5.1 110 (nI s).toNatClampNeg) - 1) S5) fun v7 S8 => if v7 = 0 then (some (2, S8)) else (some (0, S8)))) else (some (1, S5))))) := by
    intro S2 h
    unfold f254
    rw [ck_at (by omega) (by omega), nI_clamp (by omega), h]
  rcases srow_c (F := F) (x := x) hs hr h52 with ⟨h1, h2⟩ | ⟨i, hi, rfl, h1, h2⟩
  · refine Or.inl ⟨2, Or.inr rfl, ?_, fun S2 q1 q2 q3 => ?_⟩
    · unfold f104
      rw [h1]
      rfl
    · rw [em S2 q1, h2]
      rfl
  obtain ⟨t1, t2⟩ := h56 (16 * s + 8 * d + i) (by omega)
  have ec : f104 F (nI s) (nI d) (nI i) y S = if S.1 56 (16 * s + 8 * d + i) = 0 then (if y < 0 then (some ((-12), S)) else (if y < nI c then (some (((nI (16 * s + 8 * d + i) * 8) + y), S)) else (some ((-12), S)))) else (some ((-11), S)) := by
    unfold f104 f102
    rw [h1, b2_at, if_neg (by decide), f100_eq, b2_at, kg_at (by omega) (by omega)]
    by_cases q : S.1 56 (16 * s + 8 * d + i) = 0
    · rw [if_pos q, if_pos q, b2_at, if_pos rfl, kg_at (by omega) (by omega), h54, f100_eq, b2_at]
    · rw [if_neg q, if_neg q]
      rfl
  have em2 : ∀ S2 : AmT, S2.1 109 s = nI r → S2.1 110 s = nI c → (∀ j, j < 128 → S2.1 116 j = m116 j) → f254 F (nI s) (nI d) (nI i) y S2 = if S.1 56 (16 * s + 8 * d + i) = 0 then (am_b2 (some ((if y < 0 then 0 else if nI c - 1 < y then 0 else 1 : Int32), S2)) fun v7 S8 => if v7 = 0 then (some ((2 : Int32), S8)) else (some (0, S8))) else (some (1, S2)) := by
    intro S2 q1 q2 q3
    rw [em S2 q1, h2, b2_at, if_neg (by decide), f250_eq, b2_at, ck_at (by omega) (by omega), nI_clamp (by omega), q3 _ (by omega), ← t1, ck_at (by omega) (by omega), nI_clamp (by omega), q2, f197_eq]
  rw [ec]
  by_cases q : S.1 56 (16 * s + 8 * d + i) = 0
  case neg =>
    refine Or.inl ⟨1, Or.inl rfl, ?_, fun S2 q1 q2 q3 => ?_⟩
    · rw [if_neg q]
      rfl
    · rw [em2 S2 q1 q2 q3, if_neg q]
      rfl
  rw [if_pos q]
  by_cases c1 : y < 0
  · refine Or.inl ⟨2, Or.inr rfl, by rw [if_pos c1]; rfl, fun S2 q1 q2 q3 => ?_⟩
    rw [em2 S2 q1 q2 q3, if_pos q, if_pos c1]
    rfl
  by_cases c2 : y < nI c
  · obtain ⟨k, hk, rfl⟩ := nI_of c1
    have hkc := (nI_ltI hk (by omega)).mp c2
    refine Or.inr ⟨i, k, hi, hkc, rfl, rfl, ?_, fun S2 q1 q2 q3 => ?_⟩
    · rw [if_neg c1, if_pos c2]
      show some (nI (16 * s + 8 * d + i) * nI 8 + nI k, S) = _
      rw [nI_mul, nI_add, Nat.mul_comm]
    · rw [em2 S2 q1 q2 q3, if_pos q, if_neg c1, if_neg (fun z => nI_ge hkc (by omega) ((i32_m1 (by omega)).mp z))]
      rfl
  · refine Or.inl ⟨2, Or.inr rfl, by rw [if_neg c1, if_neg c2]; rfl, fun S2 q1 q2 q3 => ?_⟩
    rw [em2 S2 q1 q2 q3, if_pos q, if_neg c1, if_pos ((i32_m1 (by omega)).mpr (Int32.not_lt.mp c2))]
    rfl
theorem Cur_torn {A m : Mem} {nj nf ns ng nb : Nat} (hC : Cur A m nj nf ns ng nb) : ∀ j, j < 128 → A 56 j = m 116 j ∧ (A 56 j = 0 ∨ A 56 j = 1) := hC.2.2.1.2.2.2.2.1
theorem Cur_cell {A m : Mem} {nj nf ns ng nb : Nat} (hC : Cur A m nj nf ns ng nb) : ∀ j, j < 1024 → ∃ p u, p ≤ 24 ∧ u ≤ 1 ∧ A 58 j = nI (2 * p + u) ∧ m 117 j = nI p ∧ m 118 j = nI u := hC.2.2.1.2.2.2.2.2.1
theorem st_tear {F : Nat} (hF : 6000 ≤ F) (x1 x2 x3 : Int32) : FpStep (f164 F x1 x2 x3) (f253 F x1 x2 x3) := by
  refine Fp_of fun S t ht hR => ?_
  obtain ⟨nj, nf, ns, ng, nb, hC⟩ := Rel_z hR
  have hn := hC.2.2.1.1
  unfold f164 f253
  refine RG_jam hR ?_
  refine RG_g1 (Gd_sheet hC) hR ?_
  rintro ⟨s, hs, rfl⟩
  refine RG_g1 Gd_side hR ?_
  rintro ⟨d, hd, rfl⟩
  refine RG_chg hF hR hC fun m0 hm hT h29 hz S' hK => ?_
  unfold f103
  obtain ⟨-, ⟨a1, a2, a3, a4, a5, a6, a7⟩, -, ⟨r, hr, e52⟩, -⟩ := Cur_sheet hm hs
  have hS2 : ∀ S1 S2, My S1 S2 m0 (mv S.1) → S2.1 109 s = nI r := fun S1 S2 hM => by rw [My_rd hM (mi_h (by show s < 8; omega)), ← a2, e52]
  rcases srow_c (F := F) (S := S') (x := x3) (by omega) hr ((Ky_rd hK (by omega) (by omega)).trans e52) with ⟨h1, h2⟩ | ⟨i, hi, rfl, h1, h2⟩
  · rw [h1, b2_at, if_pos rfl, b2_at]
    refine KG_f hK (by omega) (by decide) fun S1 h1 S2 hM => ?_
    rw [ck_at (by omega) (by omega), nI_clamp (by omega), hS2 _ _ hM, h2, b2_at, if_pos rfl]
    exact MG_f hM (fin_f hm hT h29 rfl rfl)
  rw [h1, b2_at, if_neg (by decide), f100_eq, b2_at]
  refine KG_b2 (n1 := 1) (Q1 := fun v S1 A => v = 1 ∧ A = am_upI S.1 56 (16 * s + 8 * d + i) 1) ?_ ?_
  · exact KG_ks hK (by omega) rfl rfl (by omega) fun S3 h3 => KG_ret h3 (by omega) ⟨rfl, rfl⟩
  rintro v S1 A hA ⟨rfl, rfl⟩
  refine KG_a hA (by omega) (by decide) fun S2 hM => ?_
  rw [ck_at (by omega) (by omega), nI_clamp (by omega), hS2 _ _ hM, h2, b2_at, if_neg (by decide), f250_eq, b2_at]
  refine MG_cu hM rfl (by show 16 * s + 8 * d + i < 128; omega) (by omega) (by omega) fun S4 h4 => ?_
  refine MG_ret h4 ⟨rfl, ⟨nj, nf, ns, ng, nb, ?_⟩, ?_, ?_⟩
  · obtain ⟨c1, c2, ⟨b1, b2, b3, b4, b5, b6, b7, b8⟩, c4, c5⟩ := hm
    unfold Cur
    simp only [am_upI_at, am_upI_ne, pk_us, pk_un, ne_eq, Nat.reduceEqDiff, not_false_eq_true]
    refine ⟨c1, c2, ⟨b1, b2, b3, b4, fun j hj => ?_, b6, b7, fun s' g1 g2 => ?_⟩, c4, c5⟩
    · by_cases q : j = 16 * s + 8 * d + i
      · subst q
        rw [pk_us, pk_us]
        exact ⟨rfl, Or.inr rfl⟩
      · rw [pk_un q, pk_un q]
        exact b5 j hj
    · obtain ⟨d1, d2, d3, d4⟩ := b8 s' g1 g2
      refine ⟨d1, d2, fun i' hi' => ?_, d4⟩
      rw [pk_un (by omega)]
      exact d3 i' hi'
  · refine Tl_mono (Tl_congr hT ?_ ?_ (fun j _ _ => ?_) ?_) (by omega) <;> simp only [am_upI_at, am_upI_ne, pk_us, pk_un, ne_eq, Nat.reduceEqDiff, not_false_eq_true]
  · simp only [am_upI_at, am_upI_ne, pk_us, pk_un, ne_eq, Nat.reduceEqDiff, not_false_eq_true]
    exact h29
theorem GS_cell {a48 : Int32} {a50 a52 a54 a56 a58 a60 a62 a64 a66 a68 : Nat → Int32} {m2 : Int32} {m108 m109 m110 m111 m112 m113 m114 m115 m116 m117 m118 a58' m117' m118' : Nat → Int32} {nj nf ns : Nat} (h : GS a48 a50 a52 a54 a56 a58 a60 a62 a64 a66 a68 m2 m108 m109 m110 m111 m112 m113 m114 m115 m116 m117 m118 nj nf ns) (h1 : ∀ j, j < 1024 → ∃ p u, p ≤ 24 ∧ u ≤ 1 ∧ a58' j = nI (2 * p + u) ∧ m117' j = nI p ∧ m118' j = nI u) (h2 : ∀ j, 128 * ns ≤ j → a58' j = a58 j) : GS a48 a50 a52 a54 a56 a58' a60 a62 a64 a66 a68 m2 m108 m109 m110 m111 m112 m113 m114 m115 m116 m117' m118' nj nf ns := by
  obtain ⟨b1, b2, b3, b4, b5, b6, b7, b8⟩ := h
  refine ⟨b1, b2, b3, b4, b5, h1, b7, fun s q1 q2 => ?_⟩
  obtain ⟨d1, d2, d3, d4⟩ := b8 s q1 q2
  exact ⟨d1, d2, d3, fun i hi => (h2 _ (by omega)).trans (d4 i hi)⟩
theorem cell_up {a58 m117 m118 : Nat → Int32} {q p u : Nat} (h : ∀ j, j < 1024 → ∃ p u, p ≤ 24 ∧ u ≤ 1 ∧ a58 j = nI (2 * p + u) ∧ m117 j = nI p ∧ m118 j = nI u) (hp : p ≤ 24) (hu : u ≤ 1) : ∀ j, j < 1024 → ∃ p' u', p' ≤ 24 ∧ u' ≤ 1 ∧ upd a58 q (nI (2 * p + u)) j = nI (2 * p' + u') ∧ upd m117 q (nI p) j = nI p' ∧ upd m118 q (nI u) j = nI u' := by
  intro j hj
  by_cases e : j = q
  · subst e
    exact ⟨p, u, hp, hu, pk_us, pk_us, pk_us⟩
  · rw [pk_un e, pk_un e, pk_un e]
    exact h j hj
theorem st_put {F : Nat} (hF : 6000 ≤ F) (x1 x2 x3 x4 x5 x6 : Int32) : FpStep (f165 F x1 x2 x3 x4 x5 x6) (f255 F x1 x2 x3 x4 x5 x6) := by
  refine Fp_of fun S t ht hR => ?_
  obtain ⟨nj, nf, ns, ng, nb, hC⟩ := Rel_z hR
  have hn := hC.2.2.1.1
  unfold f165 f255
  refine RG_jam hR ?_
  refine RG_g1 (Gd_sheet hC) hR ?_
  rintro ⟨s, hs, rfl⟩
  refine RG_g1 Gd_side hR ?_
  rintro ⟨d, hd, rfl⟩
  refine RG_g1 (Gd_in 0 24 rfl rfl (by omega)) hR ?_
  rintro ⟨p, -, hp, rfl⟩
  refine RG_g1 (Gd_in 0 1 rfl rfl (by omega)) hR ?_
  rintro ⟨u, -, hu, rfl⟩
  refine RG_chg hF hR hC fun m0 hm hT h29 hz S' hK => ?_
  obtain ⟨-, ⟨a1, a2, a3, a4, a5, a6, a7⟩, -, ⟨r, hr, e52⟩, ⟨c, hc, e54⟩, -⟩ := Cur_sheet hm hs
  have hS2 : ∀ S1 S2, My S1 S2 m0 (mv S.1) → S2.1 109 s = nI r ∧ S2.1 110 s = nI c ∧ ∀ j, j < 128 → S2.1 116 j = m0 116 j := fun S1 S2 hM => ⟨by rw [My_rd hM (mi_h (by show s < 8; omega)), ← a2, e52], by rw [My_rd hM (mi_h (by show s < 8; omega)), ← a3, e54], fun j hj => My_rd hM (mi_h hj)⟩
  rcases cell_c (F := F) (S := S') (x := x3) (y := x4) (by omega) hd hr hc ((Ky_rd hK (by omega) (by omega)).trans e52) ((Ky_rd hK (by omega) (by omega)).trans e54) (by rw [hK.2.1 56 (by omega) (by omega)]; exact Cur_torn hm) with ⟨e, he, r1, r2⟩ | ⟨i, k, hi, hk, rfl, rfl, r1, r2⟩
  · rw [r1]
    rcases he with rfl | rfl
    · rw [b2_at, if_neg (by decide)]
      refine KG_f hK (by omega) (by decide) fun S1 h1 S2 hM => ?_
      rw [r2 S2 (hS2 _ _ hM).1 (hS2 _ _ hM).2.1 (hS2 _ _ hM).2.2, b2_at, if_neg (by decide)]
      exact MG_f hM (fin_f hm hT h29 rfl rfl)
    · rw [b2_at, if_neg (by decide)]
      refine KG_f hK (by omega) (by decide) fun S1 h1 S2 hM => ?_
      rw [r2 S2 (hS2 _ _ hM).1 (hS2 _ _ hM).2.1 (hS2 _ _ hM).2.2, b2_at, if_neg (by decide)]
      exact MG_f hM (fin_f hm hT h29 rfl rfl)
  rw [r1, b2_at, if_pos (nI_le0 (by omega)), b2_id]
  unfold f105
  refine KG_ks hK (by omega) rfl rfl (by omega) fun S3 h3 => ?_
  refine KG_ret h3 (by omega) fun S2 hM => ?_
  rw [r2 S2 (hS2 _ _ hM).1 (hS2 _ _ hM).2.1 (hS2 _ _ hM).2.2, b2_at, if_pos (Int32.le_refl _), f251_eq, b2_at]
  refine MG_cu hM rfl (by show 8 * (16 * s + 8 * d + i) + k < 1024; omega) (by omega) (by omega) fun S4 h4 => ?_
  rw [f251_eq, b2_at]
  refine MG_cu h4 rfl (by show 8 * (16 * s + 8 * d + i) + k < 1024; omega) (by omega) (by omega) fun S5 h5 => ?_
  refine MG_ret h5 ⟨rfl, ⟨nj, nf, ns, ng, nb, ?_⟩, ?_, ?_⟩
  · have e2 : 2 * nI p + nI u = nI (2 * p + u) := by
      show nI 2 * nI p + nI u = _
      rw [nI_mul, nI_add]
    rw [e2]
    obtain ⟨c1, c2, c3, c4, c5⟩ := hm
    unfold Cur
    simp only [am_upI_at, am_upI_ne, pk_us, pk_un, ne_eq, Nat.reduceEqDiff, not_false_eq_true]
    exact ⟨c1, c2, GS_cell c3 (cell_up c3.2.2.2.2.2.1 hp hu) (fun j hj => pk_un (by omega)), c4, c5⟩
  · refine Tl_mono (Tl_congr hT ?_ ?_ (fun j _ _ => ?_) ?_) (by omega) <;> simp only [am_upI_at, am_upI_ne, pk_us, pk_un, ne_eq, Nat.reduceEqDiff, not_false_eq_true]
  · simp only [am_upI_at, am_upI_ne, pk_us, pk_un, ne_eq, Nat.reduceEqDiff, not_false_eq_true]
    exact h29
theorem nI_half {p u : Nat} (hp : p ≤ 24) (hu : u ≤ 1) : nI (2 * p + u) / 2 = nI p ∧ nI (2 * p + u) - nI (2 * p + u) / 2 * 2 = nI u := by
  refine ⟨?_, ?_⟩
  · show nI (2 * p + u) / nI 2 = _
    rw [pk_div (by omega) (by omega) (by omega)]
    congr 1
    omega
  · show nI (2 * p + u) - nI (2 * p + u) / nI 2 * nI 2 = _
    rw [nI_rem (by omega) (by omega) (by omega)]
    congr 1
    omega
theorem st_cell {F : Nat} (x1 x2 x3 x4 x5 : Int32) : FpStep (f166 F x1 x2 x3 x4 x5) (f256 F x1 x2 x3 x4 x5) := by
  refine Fp_of fun S t ht hR => ?_
  obtain ⟨nj, nf, ns, ng, nb, hC⟩ := Rel_z hR
  have hn := hC.2.2.1.1
  unfold f166 f256
  refine RG_g1 (Gd_sheet hC) hR ?_
  rintro ⟨s, hs, rfl⟩
  refine RG_g1 Gd_side hR ?_
  rintro ⟨d, hd, rfl⟩
  refine RG_g1 (Gd_in 0 1 rfl rfl (by omega)) hR ?_
  rintro ⟨w, -, hw, rfl⟩
  obtain ⟨-, ⟨a1, a2, a3, a4, a5, a6, a7⟩, -, ⟨r, hr, e52⟩, ⟨c, hc, e54⟩, -⟩ := Cur_sheet hC hs
  have hS2 : ∀ S1, fr S S1 → S1.1 109 s = nI r ∧ S1.1 110 s = nI c ∧ ∀ j, j < 128 → S1.1 116 j = mz S.1 116 j := fun S1 hf => ⟨by rw [hf 109 (by omega), ← mz_at (I := S.1) (k := 109) (mi_h (by show s < 8; omega)), ← a2, e52], by rw [hf 110 (by omega), ← mz_at (I := S.1) (k := 110) (mi_h (by show s < 8; omega)), ← a3, e54], fun j hj => by rw [hf 116 (by omega)]; exact (mz_at (mi_h hj)).symm⟩
  rcases cell_c (F := F) (S := S) (x := x3) (y := x4) (by omega) hd hr hc e52 e54 (Cur_torn hC) with ⟨e, he, r1, r2⟩ | ⟨i, k, hi, hk, rfl, rfl, r1, r2⟩
  · rcases he with rfl | rfl
    · refine RG_qf (F := F) (n := 1) (x := -11) hR (by decide) (by decide) (by decide) ?_ fun S1 hf => ?_
      · rw [r1]
        rfl
      · rw [r2 S1 (hS2 S1 hf).1 (hS2 S1 hf).2.1 (hS2 S1 hf).2.2]
        rfl
    · refine RG_qf (F := F) (n := 2) (x := -12) hR (by decide) (by decide) (by decide) ?_ fun S1 hf => ?_
      · rw [r1]
        rfl
      · rw [r2 S1 (hS2 S1 hf).1 (hS2 S1 hf).2.1 (hS2 S1 hf).2.2]
        rfl
  obtain ⟨p, u, hp, hu, q1, q2, q3⟩ := Cur_cell hC (8 * (16 * s + 8 * d + i) + k) (by omega)
  rw [r1, b2_at, if_pos (nI_le0 (by omega))]
  refine RG_m (M' := fun S1 => if nI w = 0 then am_ck (nI (8 * (16 * s + 8 * d + i) + k)) 2048 (some (S1.1 117 (nI (8 * (16 * s + 8 * d + i) + k)).toNatClampNeg, S1)) else am_ck (nI (8 * (16 * s + 8 * d + i) + k)) 2048 (some (S1.1 118 (nI (8 * (16 * s + 8 * d + i) + k)).toNatClampNeg, S1))) (fun S1 hf => ?_) ?_
  · rw [r2 S1 (hS2 S1 hf).1 (hS2 S1 hf).2.1 (hS2 S1 hf).2.2, b2_at, if_pos (Int32.le_refl _), f251_eq, b2_at]
  refine RG_ite (fun S1 _ => Iff.rfl) (fun h => ?_) (fun h => ?_)
  · refine RG_q (v := nI p) hR ?_ fun S1 hf => ?_
    · unfold f106
      rw [b2_at, kg_at (by omega) (by omega), q1, (nI_half hp hu).1]
    · rw [ck_at (by omega) (by omega), nI_clamp (by omega), hf 117 (by omega), ← mz_at (I := S.1) (k := 117) (mi_h (by show _ < 1024; omega)), q2]
  · refine RG_q (v := nI u) hR ?_ fun S1 hf => ?_
    · unfold f107
      rw [b2_at, kg_at (by omega) (by omega), q1, (nI_half hp hu).2]
    · rw [ck_at (by omega) (by omega), nI_clamp (by omega), hf 118 (by omega), ← mz_at (I := S.1) (k := 118) (mi_h (by show _ < 1024; omega)), q3]
