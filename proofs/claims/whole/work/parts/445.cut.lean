/-! calls: cut -/
def mnI (x w : Int32) : Int32 := if w < x then w else x
theorem f297_eq {F : Nat} {S : AmT} {x w : Int32} : f297 F x w S = some (mnI x w, S) := by
  unfold f297 mnI
  split <;> rfl
theorem mnI_le {x w : Int32} : mnI x w = if x ≤ w then x else w := by
  unfold mnI
  by_cases h : w < x
  · rw [if_pos h, if_neg (Int32.not_le.mpr h)]
  · rw [if_neg h, if_pos (Int32.not_lt.mp h)]
theorem mnI_n {a b : Nat} (ha : a < 2147483648) (hb : b < 2147483648) : mnI (nI a) (nI b) = nI (min a b) := by
  unfold mnI
  by_cases h : b < a
  · rw [if_pos (nI_lt h ha), Nat.min_eq_right (by omega)]
  · rw [if_neg (nI_nlt (by omega) hb), Nat.min_eq_left (by omega)]
theorem mnI_m1 {b : Nat} (hb : b < 2147483648) : mnI (-1) (nI b) = -1 := by
  unfold mnI
  rw [if_neg]
  intro z
  have := Int32.lt_trans z (show (-1 : Int32) < 0 by decide)
  exact nI_pos hb this
def cutf (f : Nat → Int32) (b n : Nat) (w : Int32) : Nat → Int32 := fun j => if b ≤ j ∧ j < b + n then mnI (f j) w else f j
theorem cutf_0 {f : Nat → Int32} {b : Nat} {w : Int32} : cutf f b 0 w = f := by
  funext j
  unfold cutf
  rw [if_neg (by omega)]
theorem cutf_in {f : Nat → Int32} {b n k : Nat} {w : Int32} (h : k < n) : cutf f b n w (b + k) = mnI (f (b + k)) w := by
  unfold cutf
  rw [if_pos (by omega)]
theorem cutf_out {f : Nat → Int32} {b n j : Nat} {w : Int32} (h : ¬ (b ≤ j ∧ j < b + n)) : cutf f b n w j = f j := by
  unfold cutf
  rw [if_neg h]
theorem cutf_s {f : Nat → Int32} {b n : Nat} {w : Int32} : upd (cutf f b n w) (b + n) (mnI (f (b + n)) w) = cutf f b (n + 1) w := by
  funext j
  by_cases h : j = b + n
  · subst h
    rw [pk_us, cutf_in (by omega)]
  · rw [pk_un h]
    unfold cutf
    by_cases h2 : b ≤ j ∧ j < b + n
    · rw [if_pos h2, if_pos (by omega)]
    · rw [if_neg h2, if_neg (by omega)]
theorem lp_54 {F : Nat} {S0 : AmT} {A : Mem} {s R k0 nn : Nat} {w : Int32} {K : AmT → Option (Int32 × AmT)} {Q : Int32 → AmT → Mem → Prop} (hs : s < 72) (hR : R ≤ 8) (hst : A 17 s ≤ nI R ∧ ∀ i, i < R → ¬ A 17 s ≤ nI i) (hk : k0 ≤ 600) (H : ∀ S', Ky S0 S' (cst A 19 (cutf (A 19) (8 * s) R w)) (k0 + R) → KG S0 nn (K S') Q) :
    ∀ (n i : Nat) (S : AmT), i ≤ R → R < n + i → Ky S0 S (cst A 19 (cutf (A 19) (8 * s) i w)) (k0 + i) → KG S0 nn ((g54_23 F n (nI s) w (nI i) S).bind K) Q
  | 0, i, S, g1, g2, g3 => absurd g2 (by omega)
  | n + 1, i, S, g1, g2, g3 => by
    unfold g54_23
    rw [Ky_kg g3 (by omega) (by omega) (by omega), cst_ne (by decide)]
    by_cases hi : i = R
    · subst hi
      rw [if_pos hst.1]
      exact H S g3
    · have e1 : nI s * 8 + nI i = nI (8 * s + i) := by
        show nI s * nI 8 + nI i = _
        rw [nI_mul, nI_add, Nat.mul_comm]
      rw [if_neg (hst.2 i (by omega)), nI_1, e1, f297_eq, b2_at, Ky_kg g3 (by omega) (by omega) (by omega), cst_at, cutf_out (by omega), nn_at g3.1 (by omega)]
      have h' := Ky_ks (v := mnI (A 19 (8 * s + i)) w) g3 (by omega) (show sh_k 18 19 576 = true from rfl) (show 8 * s + i < 576 by omega)
      rw [cst_up, cutf_s] at h'
      exact lp_54 hs hR hst hk H n (i + 1) _ (by omega) (by omega) h'
theorem lp_222 {F : Nat} {S0 : AmT} {A W : Mem} {k74 : Int32 → Int32 → Int32 → Int32 → AmT → Option (Int32 × AmT)} {x1 x2 x4 w : Int32} {s R : Nat} {Q : Int32 → Mem → Prop} (hs : s < 72) (hR : R ≤ 8) (hst : A 100 s ≤ nI R ∧ ∀ i, i < R → ¬ A 100 s ≤ nI i) (H : ∀ S', My S0 S' (cst A 101 (cutf (A 101) (8 * s) R w)) W → MG S0 W (k74 x1 x2 w (x4 + 1) S') Q) :
    ∀ (n i : Nat) (S : AmT), i ≤ R → R < n + i → My S0 S (cst A 101 (cutf (A 101) (8 * s) i w)) W → MG S0 W (g222_125 F k74 n x1 x2 w x4 (nI s) (nI i) S) Q
  | 0, i, S, g1, g2, g3 => absurd g2 (by omega)
  | n + 1, i, S, g1, g2, g3 => by
    unfold g222_125
    rw [ck_at (by omega) (by omega), nI_clamp (n := s) (by omega), My_rd g3 (mi_h (by show s < 72; omega)), cst_ne (by decide)]
    by_cases hi : i = R
    · subst hi
      rw [if_pos hst.1]
      exact H S g3
    · have e1 : 8 * nI s + nI i = nI (8 * s + i) := by
        show nI 8 * nI s + nI i = _
        rw [nI_mul, nI_add]
      have h' := My_up (k := 101) (i := 8 * s + i) (x := mnI (A 101 (8 * s + i)) w) g3 (mi_h (by show 8 * s + i < 576; omega))
      rw [cst_up, cutf_s] at h'
      rw [if_neg (hst.2 i (by omega)), e1, ck_at (by omega) (by omega), ck_at (by omega) (by omega), nI_clamp (n := 8 * s + i) (by omega), My_rd g3 (mi_h (by show 8 * s + i < 576; omega)), cst_at, cutf_out (by omega)]
      unfold g222_175
      rw [ck_at (by omega) (by omega), ck_at (by omega) (by omega), nI_clamp (n := 8 * s + i) (by omega), nI_1]
      rw [mnI_le] at h'
      by_cases q : A 101 (8 * s + i) ≤ w
      · rw [if_pos q] at h' ⊢
        exact lp_222 hs hR hst H n (i + 1) _ (by omega) (by omega) h'
      · rw [if_neg q] at h' ⊢
        exact lp_222 hs hR hst H n (i + 1) _ (by omega) (by omega) h'
theorem lp_cut {F : Nat} (hF : 6000 ≤ F) {S0 : AmT} {W : Mem} {nj nf ns ng nb t j P L w : Nat} (hj : j < 3) (hP : P ≤ 24) (hL : L ≤ 8) (hw : w ≤ 10) :
    ∀ (n p : Nat) (S : AmT) (A m : Mem), p ≤ P → P < n + p → Ky S0 S A (2 + 9 * p) → Cur A m nj nf ns ng nb → A 15 j = nI P → Tl A m t → m 95 29 = 1 →
      KG S0 640 (g53_47 F n (nI j) (nI L) (nI w) (nI (p + 1)) S) (fun v S1 A' => v = 1 ∧ ∀ S2, My S1 S2 m W → MG S1 W (g222_74 F n (nI j) (nI L) (nI w) (nI (p + 1)) S2) (RgQ 1 A' t))
  | 0, p, S, A, m, g1, g2, hK, hm, h15, hT, h29 => absurd g2 (by omega)
  | n + 1, p, S, A, m, g1, g2, hK, hm, h15, hT, h29 => by
    have m97 : m 97 j = nI P := by
      obtain ⟨l, w', p', b1, b2, b3, b4, b5, b6, b7, b8, b9, b10, b11⟩ := Cur_job hm (j := j) hj
      rw [b9, ← b6, h15]
    unfold g53_47 g222_74
    rw [Ky_kg hK (by omega) (by omega) (by omega), h15]
    by_cases hp : p = P
    · subst hp
      rw [if_pos (nI_lt (by omega) (by omega))]
      refine KG_ret hK (by omega) ⟨rfl, fun S2 hM => ?_⟩
      rw [ck_at (by omega) (by omega), nI_clamp (by omega), My_rd hM (mi_h (by show j < 3; omega)), m97, if_pos (nI_lt (by omega) (by omega))]
      exact MG_ret hM ⟨rfl, ⟨nj, nf, ns, ng, nb, hm⟩, Tl_mono hT (by omega), h29⟩
    obtain ⟨l, w', p', b1, b2, b3, b4, b5, b6, b7, b8, b9, b10, b11⟩ := Cur_job hm (j := j) hj
    have hpp : p' = P := by
      rw [h15] at b6
      exact ((nI_eq (by omega) (by omega)).mp b6).symm
    subst hpp
    have hPg := b11 (24 * j + p) (by omega) (by omega)
    rw [if_neg (nI_nlt (by omega) (by omega)), f39_eq, b2_at, nI_1]
    unfold f54
    rw [Ky_kg hK (by omega) (by omega) (by omega), f297_eq, b2_at, nn_at hK.1 (by omega)]
    have hK1 := Ky_ks (v := mnI (A 17 (24 * j + p)) (nI L)) hK (by omega) (show sh_k 16 17 72 = true from rfl) (show 24 * j + p < 72 by omega)
    -- how many rows are left
    have key : ∃ R, R ≤ 8 ∧ A 17 (24 * j + p) = m 100 (24 * j + p) ∧ (mnI (A 17 (24 * j + p)) (nI L) ≤ nI R ∧ ∀ i, i < R → ¬ mnI (A 17 (24 * j + p)) (nI L) ≤ nI i) ∧ PG (upd (A 17) (24 * j + p) (mnI (A 17 (24 * j + p)) (nI L))) (cutf (A 19) (8 * (24 * j + p)) R (nI w)) (A 21) (upd (m 100) (24 * j + p) (mnI (m 100 (24 * j + p)) (nI L))) (cutf (m 101) (8 * (24 * j + p)) R (nI w)) (m 102) (24 * j + p) := by
      rcases hPg with ⟨z1, z2⟩ | ⟨r, hr, z1, z2, z3⟩
      · refine ⟨0, by omega, by rw [z1, z2], ⟨?_, fun i hi => absurd hi (by omega)⟩, Or.inl ⟨?_, ?_⟩⟩
        · rw [z1, mnI_m1 (by omega)]
          decide
        · rw [pk_us, z1, mnI_m1 (by omega)]
        · rw [pk_us, z2, mnI_m1 (by omega)]
      · refine ⟨min r L, by omega, by rw [z1, z2], ⟨?_, fun i hi => ?_⟩, Or.inr ⟨min r L, by omega, ?_, ?_, fun i hi => ?_⟩⟩
        · rw [z1, mnI_n (by omega) (by omega)]
          exact Int32.le_refl _
        · rw [z1, mnI_n (by omega) (by omega)]
          exact nI_ge hi (by omega)
        · rw [pk_us, z1, mnI_n (by omega) (by omega)]
        · rw [pk_us, z2, mnI_n (by omega) (by omega)]
        · rcases z3 i (by omega) with ⟨y1, y2⟩ | ⟨c, hc, y1, y2, y3⟩
          · refine Or.inl ⟨?_, ?_⟩
            · rw [cutf_in hi, y1, mnI_m1 (by omega)]
            · rw [cutf_in hi, y2, mnI_m1 (by omega)]
          · refine Or.inr ⟨min c w, by omega, ?_, ?_, fun k hk => y3 k (by omega)⟩
            · rw [cutf_in hi, y1, mnI_n (by omega) (by omega)]
            · rw [cutf_in hi, y2, mnI_n (by omega) (by omega)]
    obtain ⟨R, hR, e17, hst, hPG⟩ := key
    refine lp_54 (A := am_upI A 17 (24 * j + p) (mnI (A 17 (24 * j + p)) (nI L))) (k0 := 2 + 9 * p + 1) (w := nI w) (by omega) hR ?_ (by omega) (fun S1 hA => ?_) F 0 _ (by omega) (by omega) (by rw [cutf_0, cst_id]; exact hK1)
    · rw [am_upI_at, pk_us]
      exact hst
    rw [am_upI_ne (by decide)] at hA
    have hcur : Cur (cst (am_upI A 17 (24 * j + p) (mnI (A 17 (24 * j + p)) (nI L))) 19 (cutf (A 19) (8 * (24 * j + p)) R (nI w))) (cst (am_upI m 100 (24 * j + p) (mnI (m 100 (24 * j + p)) (nI L))) 101 (cutf (m 101) (8 * (24 * j + p)) R (nI w))) nj nf ns ng nb := by
      obtain ⟨c1, c2, c3, c4, c5⟩ := id hm
      unfold Cur
      simp only [cst_at, cst_ne, am_upI_at, am_upI_ne, pk_us, pk_un, ne_eq, Nat.reduceEqDiff, not_false_eq_true]
      refine ⟨GJ_pg c1 fun s hs h => ?_, c2, c3, c4, c5⟩
      by_cases q : s = 24 * j + p
      · subst q
        exact hPG
      · exact PG_mono h (pk_un q) (pk_un q) fun i hi hw => RW_mono hw (cutf_out (by omega)) (cutf_out (by omega)) (fun k hk z => z)
    have hTl : Tl (cst (am_upI A 17 (24 * j + p) (mnI (A 17 (24 * j + p)) (nI L))) 19 (cutf (A 19) (8 * (24 * j + p)) R (nI w))) (cst (am_upI m 100 (24 * j + p) (mnI (m 100 (24 * j + p)) (nI L))) 101 (cutf (m 101) (8 * (24 * j + p)) R (nI w))) t := by
      refine Tl_congr hT ?_ ?_ (fun j _ _ => ?_) ?_ <;> simp only [cst_at, cst_ne, am_upI_at, am_upI_ne, pk_us, pk_un, ne_eq, Nat.reduceEqDiff, not_false_eq_true]
    obtain ⟨v, S3, A3, y1, y2, y3, y4⟩ := lp_cut hF hj hP hL hw n (p + 1) S1 _ _ (by omega) (by omega) (Ky_mono hA (by omega)) hcur (by simp only [cst_at, cst_ne, am_upI_at, am_upI_ne, pk_us, pk_un, ne_eq, Nat.reduceEqDiff, not_false_eq_true]; exact h15) hTl (by simp only [cst_at, cst_ne, am_upI_at, am_upI_ne, pk_us, pk_un, ne_eq, Nat.reduceEqDiff, not_false_eq_true]; exact h29)
    refine ⟨v, S3, A3, y1, y2, y3, fun S2 hM => ?_⟩
    rw [ck_at (by omega) (by omega), nI_clamp (n := j) (by omega), My_rd hM (mi_h (by show j < 3; omega)), m97, if_neg (nI_nlt (by omega) (by omega)), f207_eq, b2_at, ck_at (by omega) (by omega), ck_at (by omega) (by omega), nI_clamp (n := 24 * j + p) (by omega), My_rd hM (mi_h (by show 24 * j + p < 72; omega))]
    unfold g222_121
    rw [ck_at (by omega) (by omega), ck_at (by omega) (by omega), nI_clamp (n := 24 * j + p) (by omega)]
    have hM1 := My_up (k := 100) (i := 24 * j + p) (x := mnI (m 100 (24 * j + p)) (nI L)) hM (mi_h (by show 24 * j + p < 72; omega))
    have fin : MG S3 W (g222_125 F (fun x1 x2 x3 x4 S => g222_74 F n x1 x2 x3 x4 S) F (nI j) (nI L) (nI w) (nI (p + 1)) (nI (24 * j + p)) 0 (am_upI S2.1 100 (24 * j + p) (mnI (m 100 (24 * j + p)) (nI L)), S2.2)) (RgQ 1 A3 t) := by
      refine lp_222 (A := am_upI m 100 (24 * j + p) (mnI (m 100 (24 * j + p)) (nI L))) (by omega) hR ?_ (fun S4 h4 => ?_) F 0 _ (by omega) (by omega) (by rw [cutf_0, cst_id]; exact hM1)
      · rw [am_upI_at, pk_us, ← e17]
        exact hst
      · rw [am_upI_ne (by decide)] at h4
        rw [nI_1]
        exact y4 S4 h4
    rw [mnI_le] at fin
    by_cases q : m 100 (24 * j + p) ≤ nI L
    · rw [if_pos q] at fin ⊢
      exact fin
    · rw [if_neg q] at fin ⊢
      exact fin
theorem st_cut {F : Nat} (hF : 6000 ≤ F) (x1 x2 x3 : Int32) : FpStep (f152 F x1 x2 x3) (f222 F x1 x2 x3) := by
  refine Fp_of fun S t ht hR => ?_
  obtain ⟨nj, nf, ns, ng, nb, hC⟩ := Rel_z hR
  have hn := hC.1.1
  unfold f152 f222
  refine RG_jam hR ?_
  refine RG_g1 (Gd_job hC) hR ?_
  rintro ⟨j, hj, rfl⟩
  refine RG_chg hF hR hC fun m0 hm hT h29 hz S' hK => ?_
  unfold f53
  by_cases c1 : 8 < x2
  · rw [if_pos c1, b2_at]
    refine KG_f hK (by omega) (by decide) fun S1 h1 S2 hM => ?_
    rw [if_pos c1]
    exact MG_f hM (fin_f hm hT h29 rfl rfl)
  by_cases c2 : x3 ≤ 10
  case neg =>
    rw [if_neg c1, if_neg c2, b2_at]
    refine KG_f hK (by omega) (by decide) fun S1 h1 S2 hM => ?_
    rw [if_neg c1, if_neg c2]
    exact MG_f hM (fin_f hm hT h29 rfl rfl)
  by_cases c3 : x2 < 0
  · rw [if_neg c1, if_pos c2, if_pos c3, b2_at]
    refine KG_f hK (by omega) (by decide) fun S1 h1 S2 hM => ?_
    rw [if_neg c1, if_pos c2, if_pos c3]
    exact MG_f hM (fin_f hm hT h29 rfl rfl)
  by_cases c4 : 0 ≤ x3
  case neg =>
    rw [if_neg c1, if_pos c2, if_neg c3, if_neg c4, b2_at]
    refine KG_f hK (by omega) (by decide) fun S1 h1 S2 hM => ?_
    rw [if_neg c1, if_pos c2, if_neg c3, if_neg c4]
    exact MG_f hM (fin_f hm hT h29 rfl rfl)
  rw [if_neg c1, if_pos c2, if_neg c3, if_pos c4]
  simp only [if_neg c1, if_pos c2, if_neg c3, if_pos c4]
  obtain ⟨L, hL, rfl⟩ := i32_le_nI (x := x2) (n := 8) (by omega) c3 c1
  obtain ⟨w, hw, rfl⟩ := i32_le_nI (x := x3) (n := 10) (by omega) (fun z => absurd c4 (i32_n0.mpr z)) (fun z => absurd c2 (Int32.not_le.mpr z))
  obtain ⟨l, w', P, b1, b2, b3, b4, b5, b6, b7, b8, b9, b10, b11⟩ := Cur_job hm (j := j) (by omega)
  have hcur : Cur (am_upI (am_upI S.1 11 j (nI L)) 13 j (nI w)) (am_upI (am_upI m0 98 j (nI L)) 99 j (nI w)) nj nf ns ng nb := by
    obtain ⟨⟨d1, d2, d3, d4⟩, c2, c3, c4, c5⟩ := id hm
    unfold Cur
    simp only [am_upI_at, am_upI_ne, pk_us, pk_un, ne_eq, Nat.reduceEqDiff, not_false_eq_true]
    refine ⟨⟨d1, d2, d3, fun j' hj' => ?_⟩, c2, c3, c4, c5⟩
    obtain ⟨a1, a2, a3, l', v', p', k1, k2, k3, k4, k5, k6, k7, k8⟩ := d4 j' hj'
    by_cases q : j' = j
    · subst q
      simp only [pk_us]
      exact ⟨trivial, trivial, a3, L, w, p', hL, hw, k3, rfl, rfl, k6, k7, k8⟩
    · simp only [pk_un q]
      exact ⟨a1, a2, a3, l', v', p', k1, k2, k3, k4, k5, k6, k7, k8⟩
  have hTl : Tl (am_upI (am_upI S.1 11 j (nI L)) 13 j (nI w)) (am_upI (am_upI m0 98 j (nI L)) 99 j (nI w)) t := by
    refine Tl_congr hT ?_ ?_ (fun j _ _ => ?_) ?_ <;> simp only [am_upI_at, am_upI_ne, pk_us, pk_un, ne_eq, Nat.reduceEqDiff, not_false_eq_true]
  refine KG_b2 (n1 := 640) (Q1 := fun v S1 A' => v = 1 ∧ ∀ S2, My S1 S2 (am_upI (am_upI m0 98 j (nI L)) 99 j (nI w)) (mv S.1) → MG S1 (mv S.1) (g222_74 F F (nI j) (nI L) (nI w) 1 S2) (RgQ 1 A' t)) ?_ ?_
  · refine KG_ks hK (by omega) rfl rfl (by omega) fun S3 h3 => ?_
    refine KG_ks h3 (by omega) rfl rfl (by omega) fun S4 h4 => ?_
    exact lp_cut hF (by omega) b3 hL hw F 0 S4 _ _ (by omega) (by omega) h4 hcur (by simp only [am_upI_at, am_upI_ne, pk_us, pk_un, ne_eq, Nat.reduceEqDiff, not_false_eq_true]; exact b6) hTl (by simp only [am_upI_at, am_upI_ne, pk_us, pk_un, ne_eq, Nat.reduceEqDiff, not_false_eq_true]; exact h29)
  rintro v S1 A hA ⟨rfl, hQ⟩
  refine KG_a hA (by omega) (by decide) fun S2 hM => ?_
  refine MG_cu hM rfl (by show j < 3; omega) (by omega) (by omega) fun S5 h5 => ?_
  refine MG_cu h5 rfl (by show j < 3; omega) (by omega) (by omega) fun S6 h6 => ?_
  exact hQ S6 h6
