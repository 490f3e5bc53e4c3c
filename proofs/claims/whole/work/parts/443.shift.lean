/-! calls: shift -/
/-- cells of a row, or not so many, on both sides -/
theorem f257_c {F : Nat} {S : AmT} {s d r c k : Nat} {x : Int32} {m116 : Nat → Int32} (hs : s < 8) (hd : d ≤ 1) (hr : r ≤ 8) (hc : c ≤ 8) (hk : k < 2147483648) (h52 : S.1 52 s = nI r) (h54 : S.1 54 s = nI c) (h56 : ∀ j, j < 128 → S.1 56 j = m116 j ∧ (S.1 56 j = 0 ∨ S.1 56 j = 1)) :
    (f108 F (nI s) (nI d) x (nI k) S = some (-15, S) ∧ ∀ S2 : AmT, S2.1 109 s = nI r → S2.1 110 s = nI c → (∀ j, j < 128 → S2.1 116 j = m116 j) → ∃ v, f257 F (nI s) (nI d) x S2 = some (v, S2) ∧ (v < 0 ∨ v < nI k)) ∨
    ∃ i, i < r ∧ x = nI i ∧ k ≤ c ∧ f108 F (nI s) (nI d) x (nI k) S = some (nI (8 * (16 * s + 8 * d + i)), S) ∧ ∀ S2 : AmT, S2.1 109 s = nI r → S2.1 110 s = nI c → (∀ j, j < 128 → S2.1 116 j = m116 j) → f257 F (nI s) (nI d) x S2 = some (nI c, S2) := by
  have em : ∀ S2 : AmT, S2.1 109 s = nI r → f257 F (nI s) (nI d) x S2 = (am_b2 (f197 F x 0 (nI r - 1) S2) fun v1 S2 => if v1 = 0 then (g257_30 F S2) else (am_b2 (f250 F (nI s) (nI d) x S2) fun v4 S5 => am_ck v4 256 (if (S5.1 116 v4.toNatClampNeg) = 0 then (am_ck (nI s) 16 (some ((S5.1 110 (nI s).toNatClampNeg), S5))) else (g257_30 F S5)))) := by
    intro S2 h
    unfold f257
    rw [ck_at (by omega) (by omega), nI_clamp (by omega), h]
  have hck : kg S.1 54 8 (nI s) = nI c := by rw [kg_at (by omega) (by omega), h54]
  unfold f108
  rw [if_neg (nI_pos hk), hck]
  rcases srow_c (F := F) (x := x) hs hr h52 with ⟨h1, h2⟩ | ⟨i, hi, rfl, h1, h2⟩
  · refine Or.inl ⟨?_, fun S2 q1 q2 q3 => ⟨-1, ?_, Or.inl (by decide)⟩⟩
    · by_cases q : nI c < nI k
      · rw [if_pos q]
      · rw [if_neg q, h1, b2_at, if_pos rfl]
    · rw [em S2 q1, h2]
      rfl
  obtain ⟨t1, t2⟩ := h56 (16 * s + 8 * d + i) (by omega)
  have em2 : ∀ S2 : AmT, S2.1 109 s = nI r → S2.1 110 s = nI c → (∀ j, j < 128 → S2.1 116 j = m116 j) → f257 F (nI s) (nI d) (nI i) S2 = if S.1 56 (16 * s + 8 * d + i) = 0 then some (nI c, S2) else some (-1, S2) := by
    intro S2 q1 q2 q3
    rw [em S2 q1, h2, b2_at, if_neg (by decide), f250_eq, b2_at, ck_at (by omega) (by omega), nI_clamp (by omega), q3 _ (by omega), ← t1, ck_at (by omega) (by omega), nI_clamp (by omega), q2]
    rfl
  have z10 : ¬ (1 : Int32) = 0 := by decide
  by_cases hkc : k ≤ c
  case neg =>
    refine Or.inl ⟨by rw [if_pos (nI_lt (by omega) hk)], fun S2 q1 q2 q3 => ?_⟩
    by_cases q : S.1 56 (16 * s + 8 * d + i) = 0
    · exact ⟨nI c, by rw [em2 S2 q1 q2 q3, if_pos q], Or.inr (nI_lt (by omega) hk)⟩
    · exact ⟨-1, by rw [em2 S2 q1 q2 q3, if_neg q], Or.inl (by decide)⟩
  rw [if_neg (nI_nlt hkc (by omega)), h1, b2_at, if_neg z10]
  unfold f102
  rw [f100_eq, b2_at, kg_at (by omega) (by omega)]
  by_cases q : S.1 56 (16 * s + 8 * d + i) = 0
  case neg =>
    refine Or.inl ⟨?_, fun S2 q1 q2 q3 => ⟨-1, ?_, Or.inl (by decide)⟩⟩
    · rw [if_neg q, b2_at, if_neg z10]
    · rw [em2 S2 q1 q2 q3, if_neg q]
  refine Or.inr ⟨i, hi, rfl, hkc, ?_, fun S2 q1 q2 q3 => ?_⟩
  · rw [if_pos q, b2_at, if_pos rfl, f100_eq, b2_at]
    show some (nI (16 * s + 8 * d + i) * nI 8, S) = _
    rw [nI_mul, Nat.mul_comm]
  · rw [em2 S2 q1 q2 q3, if_pos q]
theorem lp_109 {F : Nat} {S0 : AmT} {A : Mem} {r1 r2 N k0 nn : Nat} {K : AmT → Option (Int32 × AmT)} {Q : Int32 → AmT → Mem → Prop} (h1 : r1 < 128) (h2 : r2 < 128) (hN : N ≤ 8) (hk : k0 ≤ 600) (H : ∀ S', Ky S0 S' (cst A 58 (cpy (A 58) (8 * r2) (8 * r1) N)) (k0 + N) → KG S0 nn (K S') Q) :
    ∀ (n i : Nat) (S : AmT), i ≤ N → N < n + i → Ky S0 S (cst A 58 (cpy (A 58) (8 * r2) (8 * r1) i)) (k0 + i) → KG S0 nn ((g109_3 F n (nI (8 * r1)) (nI (8 * r2)) (nI N) (nI i) S).bind K) Q
  | 0, i, S, g1, g2, g3 => absurd g2 (by omega)
  | n + 1, i, S, g1, g2, g3 => by
    unfold g109_3
    by_cases hi : i = N
    · subst hi
      rw [if_pos (nI_le (Nat.le_refl _) (by omega))]
      exact H S g3
    · rw [if_neg (nI_ge (by omega) (by omega)), nI_1, nI_add, nI_add, Ky_kg g3 (by omega) (by omega) (by omega), cst_at, cpy_out (by omega), nn_at g3.1 (by omega)]
      have h' := Ky_ks (v := A 58 (8 * r1 + i)) g3 (by omega) (show sh_k 57 58 1024 = true from rfl) (show 8 * r2 + i < 1024 by omega)
      rw [cst_up, cpy_s] at h'
      exact lp_109 h1 h2 hN hk H n (i + 1) _ (by omega) (by omega) h'
theorem lp_258 {F : Nat} {S0 : AmT} {A W : Mem} {k74 : Int32 → Int32 → Int32 → Int32 → Int32 → Int32 → Int32 → Int32 → Int32 → AmT → Option (Int32 × AmT)} {x3 x6 x7 : Int32} {s1 d1 s2 d2 q1 q2 N i0 : Nat} {Q : Int32 → Mem → Prop} (h1 : s1 < 8) (h2 : s2 < 8) (hd1 : d1 ≤ 1) (hd2 : d2 ≤ 1) (hq1 : q1 < 8) (hq2 : q2 < 8) (e1 : x3 + nI i0 = nI q1) (e2 : x6 + nI i0 = nI q2) (hN : N ≤ 8)
    (H : ∀ S', My S0 S' (cst (cst A 117 (cpy (A 117) (8 * (16 * s2 + 8 * d2 + q2)) (8 * (16 * s1 + 8 * d1 + q1)) N)) 118 (cpy (A 118) (8 * (16 * s2 + 8 * d2 + q2)) (8 * (16 * s1 + 8 * d1 + q1)) N)) W → MG S0 W (am_lt ((am_upI S'.1 95 35 ((S'.1 95 35) + 1), S'.2) : AmT) fun S34 => k74 (nI s1) (nI d1) x3 (nI s2) (nI d2) x6 x7 (nI N) (nI i0 + 1) S34) Q) :
    ∀ (n i : Nat) (S : AmT), i ≤ N → N < n + i → My S0 S (cst (cst A 117 (cpy (A 117) (8 * (16 * s2 + 8 * d2 + q2)) (8 * (16 * s1 + 8 * d1 + q1)) i)) 118 (cpy (A 118) (8 * (16 * s2 + 8 * d2 + q2)) (8 * (16 * s1 + 8 * d1 + q1)) i)) W → MG S0 W (g258_146 F k74 n (nI s1) (nI d1) x3 (nI s2) (nI d2) x6 x7 (nI N) (nI i0) (nI i) S) Q
  | 0, i, S, g1, g2, g3 => absurd g2 (by omega)
  | n + 1, i, S, g1, g2, g3 => by
    unfold g258_146
    by_cases hi : i = N
    · subst hi
      rw [if_pos (nI_le (Nat.le_refl _) (by omega))]
      exact H S g3
    · rw [if_neg (nI_ge (by omega) (by omega)), nI_1, e1, e2, f251_eq, b2_at, f251_eq, b2_at, ck_at (by omega) (by omega), nI_clamp (n := 8 * (16 * s1 + 8 * d1 + q1) + i) (by omega), My_rd g3 (mi_h (by show 8 * (16 * s1 + 8 * d1 + q1) + i < 1024; omega)), cst_ne (by decide), cst_at, cpy_out (by omega)]
      refine MG_cu g3 rfl (by show 8 * (16 * s2 + 8 * d2 + q2) + i < 1024; omega) (by omega) (by omega) fun S' h' => ?_
      rw [ck_at (by omega) (by omega), My_rd h' (mi_h (by show 8 * (16 * s1 + 8 * d1 + q1) + i < 1024; omega)), am_upI_ne (by decide), cst_at, cpy_out (by omega)]
      refine MG_cu h' rfl (by show 8 * (16 * s2 + 8 * d2 + q2) + i < 1024; omega) (by omega) (by omega) fun S'' h'' => ?_
      rw [cst_up_ne (by decide), cst_up, cst_up, cpy_s, cpy_s] at h''
      exact lp_258 h1 h2 hd1 hd2 hq1 hq2 e1 e2 hN H n (i + 1) S'' (by omega) (by omega) h''
theorem cell_cpy {a58 m117 m118 : Nat → Int32} {d s n : Nat} (h : ∀ j, j < 1024 → ∃ p u, p ≤ 24 ∧ u ≤ 1 ∧ a58 j = nI (2 * p + u) ∧ m117 j = nI p ∧ m118 j = nI u) (hs : s + n ≤ 1024) : ∀ j, j < 1024 → ∃ p u, p ≤ 24 ∧ u ≤ 1 ∧ cpy a58 d s n j = nI (2 * p + u) ∧ cpy m117 d s n j = nI p ∧ cpy m118 d s n j = nI u := by
  intro j hj
  unfold cpy
  by_cases q : d ≤ j ∧ j < d + n
  · rw [if_pos q, if_pos q, if_pos q]
    exact h _ (by omega)
  · rw [if_neg q, if_neg q, if_neg q]
    exact h j hj
theorem lp_shift {F : Nat} (hF : 6000 ≤ F) {S0 : AmT} {W : Mem} {nj nf ns ng nb t s1 d1 s2 d2 N : Nat} {x3 x6 x8 : Int32} (hs1 : s1 < ns) (hs2 : s2 < ns) (hd1 : d1 ≤ 1) (hd2 : d2 ≤ 1) (hN : N ≤ 8) :
    ∀ (n i : Nat) (S : AmT) (A m : Mem), i ≤ N → N < n + i → Ky S0 S A (8 * i) → Cur A m nj nf ns ng nb → Tl A m t → m 95 29 = 1 →
      KG S0 640 (g167_84 F n (nI s1) (nI d1) x3 (nI s2) (nI d2) x6 (nI N) x8 (nI i) S) (fun v S1 A' => ∀ S2, My S1 S2 m W → MG S1 W (g258_74 F n (nI s1) (nI d1) x3 (nI s2) (nI d2) x6 (nI N) x8 (nI i) S2) (RgQ v A' t))
  | 0, i, S, A, m, g1, g2, hK, hm, hT, h29 => absurd g2 (by omega)
  | n + 1, i, S, A, m, g1, g2, hK, hm, hT, h29 => by
    have hns := hm.2.2.1.1
    unfold g167_84 g258_74
    by_cases hi : i = N
    · subst hi
      rw [if_pos (nI_le (Nat.le_refl _) (by omega))]
      refine KG_ret hK (by omega) fun S2 hM => ?_
      rw [if_pos (nI_le (Nat.le_refl _) (by omega))]
      exact MG_ret hM ⟨rfl, ⟨nj, nf, ns, ng, nb, hm⟩, Tl_mono hT (by omega), h29⟩
    have hiN : ¬ nI N ≤ nI i := nI_ge (by omega) (by omega)
    rw [if_neg hiN]
    simp only [if_neg hiN]
    obtain ⟨-, ⟨-, a2, a3, -⟩, -, ⟨r1, hr1, e52⟩, ⟨c1, hc1, e54⟩, -⟩ := Cur_sheet hm hs1
    obtain ⟨-, ⟨-, a2', a3', -⟩, -, ⟨r2, hr2, e52'⟩, ⟨c2, hc2, e54'⟩, -⟩ := Cur_sheet hm hs2
    have hrd1 : ∀ S1 S2, My S1 S2 m W → S2.1 109 s1 = nI r1 ∧ S2.1 110 s1 = nI c1 ∧ S2.1 109 s2 = nI r2 ∧ S2.1 110 s2 = nI c2 ∧ ∀ j, j < 128 → S2.1 116 j = m 116 j := fun S1 S2 hM => ⟨by rw [My_rd hM (mi_h (by show s1 < 8; omega)), ← a2, e52], by rw [My_rd hM (mi_h (by show s1 < 8; omega)), ← a3, e54], by rw [My_rd hM (mi_h (by show s2 < 8; omega)), ← a2', e52'], by rw [My_rd hM (mi_h (by show s2 < 8; omega)), ← a3', e54'], fun j hj => My_rd hM (mi_h hj)⟩
    have h56 : ∀ j, j < 128 → S.1 56 j = m 116 j ∧ (S.1 56 j = 0 ∨ S.1 56 j = 1) := by rw [hK.2.1 56 (by omega) (by omega)]; exact Cur_torn hm
    have q52 : S.1 52 s1 = nI r1 := (Ky_rd hK (by omega) (by omega)).trans e52
    have q54 : S.1 54 s1 = nI c1 := (Ky_rd hK (by omega) (by omega)).trans e54
    have q52' : S.1 52 s2 = nI r2 := (Ky_rd hK (by omega) (by omega)).trans e52'
    have q54' : S.1 54 s2 = nI c2 := (Ky_rd hK (by omega) (by omega)).trans e54'
    have vm1 : ∀ S1 S2, My S1 S2 m W → ∃ v, f257 F (nI s1) (nI d1) (x3 + nI i) S2 = some (v, S2) := fun S1 S2 hM => by
      rcases f257_c (F := F) (S := S) (k := 0) (x := x3 + nI i) (by omega) hd1 hr1 hc1 (by omega) q52 q54 h56 with ⟨-, z⟩ | ⟨i1, -, -, -, -, z⟩
      · obtain ⟨v, z1, -⟩ := z S2 (hrd1 S1 S2 hM).1 (hrd1 S1 S2 hM).2.1 (hrd1 S1 S2 hM).2.2.2.2
        exact ⟨v, z1⟩
      · exact ⟨_, z S2 (hrd1 S1 S2 hM).1 (hrd1 S1 S2 hM).2.1 (hrd1 S1 S2 hM).2.2.2.2⟩
    have vm2 : ∀ S1 S2, My S1 S2 m W → ∃ v, f257 F (nI s2) (nI d2) (x6 + nI i) S2 = some (v, S2) := fun S1 S2 hM => by
      rcases f257_c (F := F) (S := S) (k := 0) (x := x6 + nI i) (by omega) hd2 hr2 hc2 (by omega) q52' q54' h56 with ⟨-, z⟩ | ⟨i1, -, -, -, -, z⟩
      · obtain ⟨v, z1, -⟩ := z S2 (hrd1 S1 S2 hM).2.2.1 (hrd1 S1 S2 hM).2.2.2.1 (hrd1 S1 S2 hM).2.2.2.2
        exact ⟨v, z1⟩
      · exact ⟨_, z S2 (hrd1 S1 S2 hM).2.2.1 (hrd1 S1 S2 hM).2.2.2.1 (hrd1 S1 S2 hM).2.2.2.2⟩
    have fin : ∀ S1 S2, My S1 S2 m W → MG S1 W (g258_137 F S2) (RgQ (-15) (am_upI (am_upI A 5 2 (A 5 2 + 1)) 5 3 (-10 - (-15))) t) := fun S1 S2 hM => by
      unfold g258_137
      exact MG_f hM (fin_f hm hT h29 rfl rfl)
    by_cases cneg : x8 < 0
    · have c1 : ∀ (s d : Nat) (y : Int32), f108 F (nI s) (nI d) y x8 S = some (-15, S) := fun s d y => by
        unfold f108
        rw [if_pos cneg]
      rw [c1, b2_at, c1, b2_at, if_pos (by decide)]
      unfold g167_138
      refine KG_f hK (by omega) (by decide) fun S1 h1 S2 hM => ?_
      obtain ⟨v, z⟩ := vm1 S1 S2 hM
      obtain ⟨v', z'⟩ := vm2 S1 S2 hM
      rw [z, b2_at, z', b2_at, if_pos cneg]
      exact fin S1 S2 hM
    obtain ⟨c, hc, rfl⟩ := nI_of cneg
    rcases f257_c (F := F) (S := S) (k := c) (x := x6 + nI i) (by omega) hd2 hr2 hc2 hc q52' q54' h56 with ⟨u2, um2⟩ | ⟨i2, hi2, e2, hk2, u2, um2⟩
    · have cl : (am_b2 (f108 F (nI s1) (nI d1) (x3 + nI i) (nI c) S) fun v22 S23 => am_b2 (f108 F (nI s2) (nI d2) (x6 + nI i) (nI c) S23) fun v24 S25 => if v22 < 0 then (g167_138 F S25) else (if 0 ≤ v24 then ((f109 F v22 v24 (nI c) S25).bind fun S30 => (f138 F S30).bind fun S31 => g167_84 F n (nI s1) (nI d1) x3 (nI s2) (nI d2) x6 (nI N) (nI c) (nI i + 1) S31) else (g167_138 F S25))) = g167_138 F S := by
        rcases f257_c (F := F) (S := S) (k := c) (x := x3 + nI i) (by omega) hd1 hr1 hc1 hc q52 q54 h56 with ⟨u1, -⟩ | ⟨i1, hi1, e1, hk1, u1, -⟩
        · rw [u1, b2_at, u2, b2_at, if_pos (by decide)]
        · rw [u1, b2_at, u2, b2_at, if_neg (nI_pos (by omega)), if_neg (by decide)]
      rw [cl]
      unfold g167_138
      refine KG_f hK (by omega) (by decide) fun S1 h1 S2 hM => ?_
      obtain ⟨v, z⟩ := vm1 S1 S2 hM
      obtain ⟨v', z', zc⟩ := um2 S2 (hrd1 S1 S2 hM).2.2.1 (hrd1 S1 S2 hM).2.2.2.1 (hrd1 S1 S2 hM).2.2.2.2
      rw [z, b2_at, z', b2_at, if_neg cneg]
      by_cases k1 : v < 0
      · rw [if_pos k1]
        exact fin S1 S2 hM
      rw [if_neg k1]
      by_cases k2 : v' < 0
      · rw [if_pos k2]
        exact fin S1 S2 hM
      rw [if_neg k2]
      by_cases k3 : v < nI c
      · rw [if_pos k3]
        exact fin S1 S2 hM
      rw [if_neg k3, if_neg (fun z => by rcases zc with q | q; exact k2 q; exact absurd q (Int32.not_lt.mpr z))]
      exact fin S1 S2 hM
    rcases f257_c (F := F) (S := S) (k := c) (x := x3 + nI i) (by omega) hd1 hr1 hc1 hc q52 q54 h56 with ⟨u1, um1⟩ | ⟨i1, hi1, e1, hk1, u1, um1⟩
    · rw [u1, b2_at, u2, b2_at, if_pos (by decide)]
      unfold g167_138
      refine KG_f hK (by omega) (by decide) fun S1 h1 S2 hM => ?_
      obtain ⟨v, z, zc⟩ := um1 S2 (hrd1 S1 S2 hM).1 (hrd1 S1 S2 hM).2.1 (hrd1 S1 S2 hM).2.2.2.2
      rw [z, b2_at, um2 S2 (hrd1 S1 S2 hM).2.2.1 (hrd1 S1 S2 hM).2.2.2.1 (hrd1 S1 S2 hM).2.2.2.2, b2_at, if_neg cneg]
      by_cases k1 : v < 0
      · rw [if_pos k1]
        exact fin S1 S2 hM
      rw [if_neg k1, if_neg (nI_pos (by omega)), if_pos (zc.resolve_left k1)]
      exact fin S1 S2 hM
    rw [u1, b2_at, u2, b2_at, if_neg (nI_pos (by omega)), if_pos (nI_le0 (by omega))]
    unfold f109
    refine lp_109 (A := A) (k0 := 8 * i) (r1 := 16 * s1 + 8 * d1 + i1) (r2 := 16 * s2 + 8 * d2 + i2) (N := c) (by omega) (by omega) (by omega) (by omega) (fun S1 hA => ?_) F 0 S (by omega) (by omega) (by rw [cpy_0, cst_id]; exact hK)
    have hK1 := Ky_up (o := 5) (i := 7) (x := S1.1 5 7 + 1) hA (Or.inl rfl)
    rw [Ky_rd hA (by omega) (by omega)] at hK1
    have ec57 : (cst A 58 (cpy (A 58) (8 * (16 * s2 + 8 * d2 + i2)) (8 * (16 * s1 + 8 * d1 + i1)) c)) 5 7 = A 5 7 := by rw [cst_ne (by decide)]
    have e138 : f138 F S1 = some (am_upI S1.1 5 7 (A 5 7 + 1), S1.2) := by
      unfold f138
      rw [Ky_rd hA (by omega) (by omega), ec57]
    rw [e138, bind_at, nI_1]
    rw [ec57] at hK1
    have hcur : Cur (am_upI (cst A 58 (cpy (A 58) (8 * (16 * s2 + 8 * d2 + i2)) (8 * (16 * s1 + 8 * d1 + i1)) c)) 5 7 (A 5 7 + 1)) (am_upI (cst (cst m 117 (cpy (m 117) (8 * (16 * s2 + 8 * d2 + i2)) (8 * (16 * s1 + 8 * d1 + i1)) c)) 118 (cpy (m 118) (8 * (16 * s2 + 8 * d2 + i2)) (8 * (16 * s1 + 8 * d1 + i1)) c)) 95 35 (m 95 35 + 1)) nj nf ns ng nb := by
      obtain ⟨c1, c2, c3, c4, c5⟩ := id hm
      unfold Cur
      simp only [cst_at, cst_ne, am_upI_at, am_upI_ne, pk_us, pk_un, ne_eq, Nat.reduceEqDiff, not_false_eq_true]
      exact ⟨c1, c2, GS_cell c3 (cell_cpy c3.2.2.2.2.2.1 (by omega)) (fun j hj => cpy_out (by omega)), c4, c5⟩
    have hTl : Tl (am_upI (cst A 58 (cpy (A 58) (8 * (16 * s2 + 8 * d2 + i2)) (8 * (16 * s1 + 8 * d1 + i1)) c)) 5 7 (A 5 7 + 1)) (am_upI (cst (cst m 117 (cpy (m 117) (8 * (16 * s2 + 8 * d2 + i2)) (8 * (16 * s1 + 8 * d1 + i1)) c)) 118 (cpy (m 118) (8 * (16 * s2 + 8 * d2 + i2)) (8 * (16 * s1 + 8 * d1 + i1)) c)) 95 35 (m 95 35 + 1)) t := by
      obtain ⟨d1, d2, d3, d4, d5, d6, ⟨tc, d7, d8, d9⟩, d10⟩ := hT
      unfold Tl
      simp only [cst_at, cst_ne, am_upI_at, am_upI_ne, pk_us, pk_un, ne_eq, Nat.reduceEqDiff, not_false_eq_true]
      exact ⟨d1, d2, d3, d4, d5, by rw [d6], ⟨tc, by omega, d8, d9⟩, d10⟩
    obtain ⟨v, S3, A3, z1, z2, z3⟩ := lp_shift (x3 := x3) (x6 := x6) (x8 := nI c) hF hs1 hs2 hd1 hd2 hN n (i + 1) _ _ _ (by omega) (by omega) (Ky_mono hK1 (by omega)) hcur hTl (by simp only [cst_at, cst_ne, am_upI_at, am_upI_ne, pk_us, pk_un, ne_eq, Nat.reduceEqDiff, not_false_eq_true]; exact h29)
    refine ⟨v, S3, A3, z1, z2, fun S2 hM => ?_⟩
    obtain ⟨w1, w2, w3, w4, w5⟩ := hrd1 _ _ hM
    rw [um1 S2 w1 w2 w5, b2_at, um2 S2 w3 w4 w5, b2_at, if_neg cneg, if_neg (nI_pos (by omega)), if_neg (nI_pos (by omega)), if_neg (nI_nlt hk1 (by omega)), if_pos (nI_le hk2 (by omega))]
    refine lp_258 (A := m) (by omega) (by omega) hd1 hd2 (by omega) (by omega) e1 e2 (by omega) (fun S4 h4 => ?_) F 0 S2 (by omega) (by omega) ?_
    · rw [My_rd h4 (Or.inl rfl), cst_ne (by decide), cst_ne (by decide), nI_1]
      refine MG_up h4 (Or.inl rfl) fun S5 h5 => ?_
      exact z3 S5 h5
    · rw [cpy_0, cpy_0, cst_id, cst_id]
      exact hM
theorem st_shift {F : Nat} (hF : 6000 ≤ F) (x1 x2 x3 x4 x5 x6 x7 x8 : Int32) : FpStep (f167 F x1 x2 x3 x4 x5 x6 x7 x8) (f258 F x1 x2 x3 x4 x5 x6 x7 x8) := by
  refine Fp_of fun S t ht hR => ?_
  obtain ⟨nj, nf, ns, ng, nb, hC⟩ := Rel_z hR
  unfold f167 f258
  refine RG_jam hR ?_
  refine RG_g1 (Gd_sheet hC) hR ?_
  rintro ⟨s1, hs1, rfl⟩
  refine RG_g1 (Gd_sheet hC) hR ?_
  rintro ⟨s2, hs2, rfl⟩
  refine RG_g1 Gd_side hR ?_
  rintro ⟨d1, hd1, rfl⟩
  refine RG_g1 Gd_side hR ?_
  rintro ⟨d2, hd2, rfl⟩
  refine RG_g1 (Gd_in 0 8 rfl rfl (by omega)) hR ?_
  rintro ⟨N, -, hN, rfl⟩
  refine RG_chg hF hR hC fun m0 hm hT h29 hz S' hK => ?_
  have h3 := Ky_up (o := 5) (i := 7) (x := 0) hK (Or.inl rfl)
  show KG S 640 (g167_84 F F _ _ _ _ _ _ _ _ 0 (am_upI S'.1 5 7 0, S'.2)) _
  have hcur : Cur (am_upI S.1 5 7 0) (am_upI m0 95 35 0) nj nf ns ng nb := Cur_congr (A := S.1) (fun o ho => am_upI_ne (by omega)) (Cur_congr_m (fun o o1 o2 => am_upI_ne (by omega)) hm)
  have hTl : Tl (am_upI S.1 5 7 0) (am_upI m0 95 35 0) t := by
    obtain ⟨d1, d2, d3, d4, d5, d6, ⟨tc, d7, d8, d9⟩, d10⟩ := hT
    unfold Tl
    simp only [am_upI_at, am_upI_ne, pk_us, pk_un, ne_eq, Nat.reduceEqDiff, not_false_eq_true]
    exact ⟨d1, d2, d3, d4, d5, trivial, ⟨tc, by omega, d8, d9⟩, d10⟩
  obtain ⟨v, S3, A3, z1, z2, z3⟩ := lp_shift (x3 := x3) (x6 := x6) (x8 := x8) (W := mv S.1) hF hs1 hs2 hd1 hd2 hN F 0 _ _ _ (by omega) (by omega) h3 hcur hTl (by simp only [am_upI_at, am_upI_ne, pk_us, pk_un, ne_eq, Nat.reduceEqDiff, not_false_eq_true]; exact h29)
  refine ⟨v, S3, A3, z1, z2, fun S2 hM => ?_⟩
  refine MG_up hM (Or.inl rfl) fun S4 h4 => ?_
  exact z3 S4 h4
