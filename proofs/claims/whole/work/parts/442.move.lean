/-! calls: move -/
def cpy (f : Nat → Int32) (d s n : Nat) : Nat → Int32 := fun j => if d ≤ j ∧ j < d + n then f (s + (j - d)) else f j
theorem cpy_0 {f : Nat → Int32} {d s : Nat} : cpy f d s 0 = f := by
  funext j
  unfold cpy
  rw [if_neg (by omega)]
theorem cpy_in {f : Nat → Int32} {d s n k : Nat} (h : k < n) : cpy f d s n (d + k) = f (s + k) := by
  unfold cpy
  rw [if_pos (by omega)]
  congr 1
  omega
theorem cpy_out {f : Nat → Int32} {d s n j : Nat} (h : ¬ (d ≤ j ∧ j < d + n)) : cpy f d s n j = f j := by
  unfold cpy
  rw [if_neg h]
theorem cpy_s {f : Nat → Int32} {d s n : Nat} : upd (cpy f d s n) (d + n) (f (s + n)) = cpy f d s (n + 1) := by
  funext j
  by_cases h : j = d + n
  · subst h
    rw [pk_us, cpy_in (by omega)]
  · rw [pk_un h]
    unfold cpy
    by_cases h2 : d ≤ j ∧ j < d + n
    · rw [if_pos h2, if_pos (by omega)]
    · rw [if_neg h2, if_neg (by omega)]
theorem lp_52 {F : Nat} {S0 : AmT} {A : Mem} {r1 r2 N k0 nn : Nat} {Q : Int32 → AmT → Mem → Prop} (h1 : r1 < 576) (h2 : r2 < 576) (hN : N ≤ 10) (hk : k0 ≤ 600) (H : ∀ S', Ky S0 S' (cst A 21 (cpy (A 21) (10 * r2) (10 * r1) N)) (k0 + N) → KG S0 nn (some (1, S')) Q) :
    ∀ (n i : Nat) (S : AmT), i ≤ N → N < n + i → Ky S0 S (cst A 21 (cpy (A 21) (10 * r2) (10 * r1) i)) (k0 + i) → KG S0 nn (g52_65 F n (nI N) (nI r1) (nI r2) (nI i) S) Q
  | 0, i, S, g1, g2, g3 => absurd g2 (by omega)
  | n + 1, i, S, g1, g2, g3 => by
    unfold g52_65
    by_cases hi : i = N
    · subst hi
      rw [if_pos (nI_le (Nat.le_refl _) (by omega))]
      exact H S g3
    · have e1 : nI r1 * 10 + nI i = nI (10 * r1 + i) := by
        show nI r1 * nI 10 + nI i = _
        rw [nI_mul, nI_add, Nat.mul_comm]
      have e2 : nI r2 * 10 + nI i = nI (10 * r2 + i) := by
        show nI r2 * nI 10 + nI i = _
        rw [nI_mul, nI_add, Nat.mul_comm]
      rw [if_neg (nI_ge (by omega) (by omega)), nI_1, e1, Ky_kg g3 (by omega) (by omega) (by omega), cst_at, cpy_out (by omega)]
      refine KG_ks (p := 10 * r2 + i) g3 (by omega) rfl e2 (by omega) fun S' h' => ?_
      rw [cst_up, cpy_s] at h'
      exact lp_52 h1 h2 hN hk H n (i + 1) S' (by omega) (by omega) h'
theorem lp_220 {F : Nat} {S0 : AmT} {A W : Mem} {k72 : Int32 → Int32 → Int32 → Int32 → Int32 → Int32 → Int32 → AmT → Option (Int32 × AmT)} {x3 x5 x6 : Int32} {s1 s2 q1 q2 N i0 : Nat} {Q : Int32 → Mem → Prop} (h1 : s1 < 72) (h2 : s2 < 72) (hq1 : q1 < 8) (hq2 : q2 < 8) (e1 : x3 + nI i0 = nI q1) (e2 : x5 + nI i0 = nI q2) (hN : N ≤ 10) (H : ∀ S', My S0 S' (cst A 102 (cpy (A 102) (10 * (8 * s2 + q2)) (10 * (8 * s1 + q1)) N)) W → MG S0 W (am_lt ((am_upI S'.1 95 35 ((S'.1 95 35) + 1), S'.2) : AmT) fun S36 => k72 x3 x5 x6 (nI N) (nI s1) (nI s2) (nI i0 + 1) S36) Q) :
    ∀ (n i : Nat) (S : AmT), i ≤ N → N < n + i → My S0 S (cst A 102 (cpy (A 102) (10 * (8 * s2 + q2)) (10 * (8 * s1 + q1)) i)) W → MG S0 W (g220_151 F k72 n x3 x5 x6 (nI N) (nI s1) (nI s2) (nI i0) (nI i) S) Q
  | 0, i, S, g1, g2, g3 => absurd g2 (by omega)
  | n + 1, i, S, g1, g2, g3 => by
    unfold g220_151
    by_cases hi : i = N
    · subst hi
      rw [if_pos (nI_le (Nat.le_refl _) (by omega))]
      exact H S g3
    · have f1 : 10 * (8 * nI s1 + x3 + nI i0) + nI i = nI (10 * (8 * s1 + q1) + i) := by
        show nI 10 * (nI 8 * nI s1 + x3 + nI i0) + nI i = _
        rw [Int32.add_assoc (nI 8 * nI s1), e1, nI_mul, nI_add, nI_mul, nI_add]
      have f2 : 10 * (8 * nI s2 + x5 + nI i0) + nI i = nI (10 * (8 * s2 + q2) + i) := by
        show nI 10 * (nI 8 * nI s2 + x5 + nI i0) + nI i = _
        rw [Int32.add_assoc (nI 8 * nI s2), e2, nI_mul, nI_add, nI_mul, nI_add]
      rw [if_neg (nI_ge (by omega) (by omega)), nI_1, f1, ck_at (by omega) (by omega), nI_clamp (n := 10 * (8 * s1 + q1) + i) (by omega), My_rd g3 (mi_h (by show 10 * (8 * s1 + q1) + i < 5760; omega)), cst_at, cpy_out (by omega)]
      refine MG_cu (p := 10 * (8 * s2 + q2) + i) g3 f2 (by show 10 * (8 * s2 + q2) + i < 5760; omega) (by omega) (by omega) fun S' h' => ?_
      rw [cst_up, cpy_s] at h'
      exact lp_220 h1 h2 hq1 hq2 e1 e2 hN H n (i + 1) S' (by omega) (by omega) h'
theorem GJ_cpy {a9 : Int32} {a11 a13 a15 a17 a19 a21 : Nat → Int32} {m0 : Int32} {m97 m98 m99 m100 m101 m102 : Nat → Int32} {nj r1 r2 N : Nat} (h : GJ a9 a11 a13 a15 a17 a19 a21 m0 m97 m98 m99 m100 m101 m102 nj) (hN : N ≤ 10) (H : ∀ k, k < N → LT a21 m102 (10 * r1 + k)) : GJ a9 a11 a13 a15 a17 a19 (cpy a21 (10 * r2) (10 * r1) N) m0 m97 m98 m99 m100 m101 (cpy m102 (10 * r2) (10 * r1) N) nj := by
  refine GJ_pg h fun s hs hp => PG_mono hp rfl rfl fun i hi hw => RW_mono hw rfl rfl fun k hk hl => ?_
  by_cases q : 8 * s + i = r2 ∧ k < N
  · rw [q.1]
    unfold LT
    rw [cpy_in q.2, cpy_in q.2]
    exact H k q.2
  · unfold LT
    rw [cpy_out (by omega), cpy_out (by omega)]
    exact hl
/-- letters of a row, or not so many, on both sides -/
theorem f219_c {F : Nat} {S : AmT} {s : Nat} {x : Int32} {c : Nat} {a17 a19 a21 m100 m101 m102 : Nat → Int32} (hs : s < 72) (hc : c < 2147483648) (hA : S.1 17 s = a17 s) (hA2 : S.1 19 = a19) (hP : PG a17 a19 a21 m100 m101 m102 s) :
    ((∃ v, f50 F (nI s) x S = some (v, S) ∧ (v < 0 ∨ (¬ v < 0 ∧ kg S.1 19 576 v < nI c))) ∧ ∀ S2 : AmT, S2.1 100 s = m100 s → (∀ r, r < 576 → S2.1 101 r = m101 r) → ∃ v, f219 F (nI s) x S2 = some (v, S2) ∧ v < nI c) ∨
    ∃ i n, i < 8 ∧ x = nI i ∧ c ≤ n ∧ n ≤ 10 ∧ f50 F (nI s) x S = some (nI (8 * s + i), S) ∧ kg S.1 19 576 (nI (8 * s + i)) = nI n ∧ (∀ S2 : AmT, S2.1 100 s = m100 s → (∀ r, r < 576 → S2.1 101 r = m101 r) → f219 F (nI s) x S2 = some (nI n, S2)) ∧ ∀ k, k < n → LT a21 m102 (10 * (8 * s + i) + k) := by
  have hneg : (-1 : Int32) < nI c := by
    rw [Int32.lt_iff_toInt_lt, nI_toInt hc]
    have : (-1 : Int32).toInt = -1 := by decide
    rw [this]
    omega
  rcases row_c (F := F) (x := x) hs hA hP with ⟨h1, h2⟩ | ⟨h1, h2⟩ | ⟨i, hi, rfl, h1, h2, hw⟩
  · refine Or.inl ⟨⟨-11, h1, Or.inl (by decide)⟩, fun S2 q1 q2 => ⟨-1, ?_, hneg⟩⟩
    unfold f219
    rw [h2 S2 q1]
    rfl
  · refine Or.inl ⟨⟨-12, h1, Or.inl (by decide)⟩, fun S2 q1 q2 => ⟨-1, ?_, hneg⟩⟩
    unfold f219
    rw [h2 S2 q1]
    rfl
  have e8 : 8 * nI s + nI i = nI (8 * s + i) := by
    show nI 8 * nI s + nI i = _
    rw [nI_mul, nI_add]
  have hk : kg S.1 19 576 (nI (8 * s + i)) = a19 (8 * s + i) := by rw [kg_at (by omega) (by omega), hA2]
  have hm : ∀ S2 : AmT, S2.1 100 s = m100 s → (∀ r, r < 576 → S2.1 101 r = m101 r) → f219 F (nI s) (nI i) S2 = some (m101 (8 * s + i), S2) := by
    intro S2 q1 q2
    unfold f219
    rw [h2 S2 q1, b2_at, if_pos (Int32.le_refl _), e8, ck_at (by omega) (by omega), nI_clamp (by omega), q2 _ (by omega)]
  rcases hw with ⟨w1, w2⟩ | ⟨n, hn, w1, w2, w3⟩
  · refine Or.inl ⟨⟨_, h1, Or.inr ⟨nI_pos (by omega), by rw [hk, w1]; exact hneg⟩⟩, fun S2 q1 q2 => ⟨_, hm S2 q1 q2, by rw [w2]; exact hneg⟩⟩
  · by_cases hcn : c ≤ n
    · exact Or.inr ⟨i, n, hi, rfl, hcn, hn, h1, hk.trans w1, fun S2 q1 q2 => by rw [hm S2 q1 q2, w2], w3⟩
    · refine Or.inl ⟨⟨_, h1, Or.inr ⟨nI_pos (by omega), by rw [hk, w1]; exact nI_lt (by omega) hc⟩⟩, fun S2 q1 q2 => ⟨_, hm S2 q1 q2, by rw [w2]; exact nI_lt (by omega) hc⟩⟩
abbrev RgQ (v : Int32) (A : Mem) (t : Nat) : Int32 → Mem → Prop := fun v' m => v' = v ∧ (∃ nj nf ns ng nb, Cur A m nj nf ns ng nb) ∧ Tl A m (t + 1) ∧ m 95 29 = 1
theorem lp_move {F : Nat} (hF : 6000 ≤ F) {S0 : AmT} {W : Mem} {nj nf ns ng nb t j p1 p2 P1 N : Nat} {x3 x5 x7 : Int32} (hj : j < 3) (hp1 : p1 < P1) (hp2 : p2 < P1) (hP : P1 ≤ 24) (hN : N ≤ 8) :
    ∀ (n i : Nat) (S : AmT) (A m : Mem), i ≤ N → N < n + i → Ky S0 S A (10 * i) → Cur A m nj nf ns ng nb → A 15 j = nI P1 → Tl A m t → m 95 29 = 1 →
      KG S0 640 (g150_71 F n (nI j) (nI (p1 + 1)) x3 (nI (p2 + 1)) x5 (nI N) x7 (nI i) S) (fun v S1 A' => ∀ S2, My S1 S2 m W → MG S1 W (g220_72 F n x3 x5 (nI N) x7 (nI (24 * j + p1)) (nI (24 * j + p2)) (nI i) S2) (RgQ v A' t))
  | 0, i, S, A, m, g1, g2, hK, hm, h15, hT, h29 => absurd g2 (by omega)
  | n + 1, i, S, A, m, g1, g2, hK, hm, h15, hT, h29 => by
    unfold g150_71 g220_72
    by_cases hi : i = N
    · subst hi
      rw [if_pos (nI_le (Nat.le_refl _) (by omega))]
      refine KG_ret hK (by omega) fun S2 hM => ?_
      rw [if_pos (nI_le (Nat.le_refl _) (by omega))]
      exact MG_ret hM ⟨rfl, ⟨nj, nf, ns, ng, nb, hm⟩, Tl_mono hT (by omega), h29⟩
    have hiN : ¬ nI N ≤ nI i := nI_ge (by omega) (by omega)
    rw [if_neg hiN, f39_eq, b2_at, f39_eq, b2_at]
    simp only [if_neg hiN]
    obtain ⟨l, w, p, b1, b2, b3, b4, b5, b6, b7, b8, b9, b10, b11⟩ := Cur_job hm (j := j) hj
    have hqp : P1 = p := by
      rw [h15] at b6
      exact (nI_eq (by omega) (by omega)).mp b6
    subst hqp
    have hPa := b11 (24 * j + p1) (by omega) (by omega)
    have hPb := b11 (24 * j + p2) (by omega) (by omega)
    have fail : ∀ C : Option (Int32 × AmT), C = some (0, S) → (∀ S1 S2, My S1 S2 m W → (if x7 < 0 then (g220_142 F S2) else (am_b2 (f219 F (nI (24 * j + p1)) (x3 + nI i) S2) fun v23 S24 => if v23 < x7 then (g220_142 F S24) else (am_b2 (f219 F (nI (24 * j + p2)) (x5 + nI i) S24) fun v26 S27 => if v26 < x7 then (g220_142 F S27) else (am_b2 (f219 F (nI (24 * j + p1)) (x3 + nI i) S27) fun v29 S30 => if v29 < 0 then (g220_142 F S30) else (am_b2 (f219 F (nI (24 * j + p2)) (x5 + nI i) S30) fun v32 S33 => if 0 ≤ v32 then (g220_151 F (fun x3 x5 x6 x7 x8 x9 x10 S => g220_72 F n x3 x5 x6 x7 x8 x9 x10 S) F x3 x5 (nI N) x7 (nI (24 * j + p1)) (nI (24 * j + p2)) (nI i) 0 S33) else (g220_142 F S33)))))) = g220_142 F S2) →
        KG S0 640 (am_b2 C fun v20 S21 => if v20 = 0 then (am_b2 (f129 F (-15) S21) fun v24 S25 => some (v24, S25)) else ((f138 F S21).bind fun S23 => g150_71 F n (nI j) (nI (p1 + 1)) x3 (nI (p2 + 1)) x5 (nI N) x7 (nI i + 1) S23)) (fun v S1 A' => ∀ S2, My S1 S2 m W → MG S1 W (if x7 < 0 then (g220_142 F S2) else (am_b2 (f219 F (nI (24 * j + p1)) (x3 + nI i) S2) fun v23 S24 => if v23 < x7 then (g220_142 F S24) else (am_b2 (f219 F (nI (24 * j + p2)) (x5 + nI i) S24) fun v26 S27 => if v26 < x7 then (g220_142 F S27) else (am_b2 (f219 F (nI (24 * j + p1)) (x3 + nI i) S27) fun v29 S30 => if v29 < 0 then (g220_142 F S30) else (am_b2 (f219 F (nI (24 * j + p2)) (x5 + nI i) S30) fun v32 S33 => if 0 ≤ v32 then (g220_151 F (fun x3 x5 x6 x7 x8 x9 x10 S => g220_72 F n x3 x5 x6 x7 x8 x9 x10 S) F x3 x5 (nI N) x7 (nI (24 * j + p1)) (nI (24 * j + p2)) (nI i) 0 S33) else (g220_142 F S33)))))) (RgQ v A' t)) := by
      intro C hC hMod
      rw [hC, b2_at, if_pos rfl]
      refine KG_f hK (by omega) (by decide) fun S1 h1 S2 hM => ?_
      rw [hMod S1 S2 hM]
      exact MG_f hM (fin_f hm hT h29 rfl rfl)
    have hrd1 : ∀ S1 S2, My S1 S2 m W → S2.1 100 (24 * j + p1) = m 100 (24 * j + p1) ∧ S2.1 100 (24 * j + p2) = m 100 (24 * j + p2) ∧ ∀ r, r < 576 → S2.1 101 r = m 101 r := fun S1 S2 hM => ⟨My_rd hM (mi_h (by show 24 * j + p1 < 72; omega)), My_rd hM (mi_h (by show 24 * j + p2 < 72; omega)), fun r hr => My_rd hM (mi_h hr)⟩
    unfold f52
    by_cases cneg : x7 < 0
    · refine fail _ ?_ (fun S1 S2 hM => if_pos cneg)
      rcases row_c (F := F) (S := S) (x := x3 + nI i) (by omega) (Ky_rd hK (by omega) (by omega)) hPa with ⟨u1, -⟩ | ⟨u1, -⟩ | ⟨i1, -, -, u1, -⟩ <;> rcases row_c (F := F) (S := S) (x := x5 + nI i) (by omega) (Ky_rd hK (by omega) (by omega)) hPb with ⟨u2, -⟩ | ⟨u2, -⟩ | ⟨i2, -, -, u2, -⟩ <;> rw [u1, b2_at, u2, b2_at, if_pos cneg]
    obtain ⟨c, hc, rfl⟩ := nI_of cneg
    rcases f219_c (F := F) (S := S) (x := x3 + nI i) (c := c) (by omega) hc (Ky_rd hK (by omega) (by omega)) (hK.2.1 19 (by omega) (by omega)) hPa with ⟨⟨v1, u1, u1'⟩, um⟩ | ⟨i1, n1, hi1, e1, hn1, hn1', u1, u1', um1, hl1⟩
    · refine fail _ ?_ (fun S1 S2 hM => ?_)
      · have hb : ∃ v2, f50 F (nI (24 * j + p2)) (x5 + nI i) S = some (v2, S) := by
          rcases row_c (F := F) (S := S) (x := x5 + nI i) (by omega) (Ky_rd hK (by omega) (by omega)) hPb with ⟨u2, -⟩ | ⟨u2, -⟩ | ⟨i2, -, -, u2, -⟩ <;> exact ⟨_, u2⟩
        obtain ⟨v2, u2⟩ := hb
        rw [u1, b2_at, u2, b2_at, if_neg cneg]
        rcases u1' with q | ⟨q1, q2⟩
        · rw [if_pos q]
        · rw [if_neg q1]
          by_cases q3 : v2 < 0
          · rw [if_pos q3]
          · rw [if_neg q3, if_pos q2]
      · obtain ⟨vm, z1, z2⟩ := um S2 (hrd1 S1 S2 hM).1 (hrd1 S1 S2 hM).2.2
        rw [if_neg cneg, z1, b2_at, if_pos z2]
    rcases f219_c (F := F) (S := S) (x := x5 + nI i) (c := c) (by omega) hc (Ky_rd hK (by omega) (by omega)) (hK.2.1 19 (by omega) (by omega)) hPb with ⟨⟨v2, u2, u2'⟩, um⟩ | ⟨i2, n2, hi2, e2, hn2, hn2', u2, u2', um2, hl2⟩
    · refine fail _ ?_ (fun S1 S2 hM => ?_)
      · rw [u1, b2_at, u2, b2_at, if_neg cneg, if_neg (nI_pos (by omega))]
        rcases u2' with q | ⟨q1, q2⟩
        · rw [if_pos q]
        · rw [if_neg q1, u1', if_neg (nI_nlt hn1 (by omega)), if_neg (fun z => absurd q2 (Int32.not_lt.mpr z))]
      · obtain ⟨vm, z1, z2⟩ := um S2 (hrd1 S1 S2 hM).2.1 (hrd1 S1 S2 hM).2.2
        rw [if_neg cneg, um1 S2 (hrd1 S1 S2 hM).1 (hrd1 S1 S2 hM).2.2, b2_at, if_neg (nI_nlt hn1 (by omega)), z1, b2_at, if_pos z2]
    -- the letters are copied
    refine KG_b2 (n1 := 10 * i + 10) (Q1 := fun v S1 A' => v = 1 ∧ A' = cst A 21 (cpy (A 21) (10 * (8 * (24 * j + p2) + i2)) (10 * (8 * (24 * j + p1) + i1)) c)) ?_ ?_
    · rw [u1, b2_at, u2, b2_at, if_neg cneg, if_neg (nI_pos (by omega)), if_neg (nI_pos (by omega)), u1', if_neg (nI_nlt hn1 (by omega)), u2', if_pos (nI_le hn2 (by omega))]
      refine lp_52 (A := A) (k0 := 10 * i) (by omega) (by omega) (by omega) (by omega) (fun S' h' => KG_ret h' (by omega) ⟨rfl, rfl⟩) F 0 S (by omega) (by omega) ?_
      rw [cpy_0, cst_id]
      exact hK
    rintro v S1 A' hA ⟨rfl, rfl⟩
    rw [if_neg (by decide)]
    have hK1 := Ky_up (o := 5) (i := 7) (x := S1.1 5 7 + 1) hA (Or.inl rfl)
    rw [Ky_rd hA (by omega) (by omega)] at hK1
    have ec57 : (cst A 21 (cpy (A 21) (10 * (8 * (24 * j + p2) + i2)) (10 * (8 * (24 * j + p1) + i1)) c)) 5 7 = A 5 7 := by rw [cst_ne (by decide)]
    have e138 : f138 F S1 = some (am_upI S1.1 5 7 (A 5 7 + 1), S1.2) := by
      unfold f138
      rw [Ky_rd hA (by omega) (by omega), ec57]
    rw [e138, bind_at, nI_1]
    rw [ec57] at hK1
    have hcur : Cur (am_upI (cst A 21 (cpy (A 21) (10 * (8 * (24 * j + p2) + i2)) (10 * (8 * (24 * j + p1) + i1)) c)) 5 7 (A 5 7 + 1)) (am_upI (cst m 102 (cpy (m 102) (10 * (8 * (24 * j + p2) + i2)) (10 * (8 * (24 * j + p1) + i1)) c)) 95 35 (m 95 35 + 1)) nj nf ns ng nb := by
      obtain ⟨c1, c2, c3, c4, c5⟩ := id hm
      unfold Cur
      simp only [cst_at, cst_ne, am_upI_at, am_upI_ne, pk_us, pk_un, ne_eq, Nat.reduceEqDiff, not_false_eq_true]
      exact ⟨GJ_cpy c1 (by omega) (fun k hk => hl1 k (by omega)), c2, c3, c4, c5⟩
    have hTl : Tl (am_upI (cst A 21 (cpy (A 21) (10 * (8 * (24 * j + p2) + i2)) (10 * (8 * (24 * j + p1) + i1)) c)) 5 7 (A 5 7 + 1)) (am_upI (cst m 102 (cpy (m 102) (10 * (8 * (24 * j + p2) + i2)) (10 * (8 * (24 * j + p1) + i1)) c)) 95 35 (m 95 35 + 1)) t := by
      obtain ⟨d1, d2, d3, d4, d5, d6, ⟨tc, d7, d8, d9⟩, d10⟩ := hT
      unfold Tl
      simp only [cst_at, cst_ne, am_upI_at, am_upI_ne, pk_us, pk_un, ne_eq, Nat.reduceEqDiff, not_false_eq_true]
      exact ⟨d1, d2, d3, d4, d5, by rw [d6], ⟨tc, by omega, d8, d9⟩, d10⟩
    obtain ⟨v, S3, A3, z1, z2, z3⟩ := lp_move (x3 := x3) (x5 := x5) (x7 := nI c) hF hj hp1 hp2 hP hN n (i + 1) _ _ _ (by omega) (by omega) (Ky_mono hK1 (by omega)) hcur (by simp only [cst_at, cst_ne, am_upI_at, am_upI_ne, pk_us, pk_un, ne_eq, Nat.reduceEqDiff, not_false_eq_true]; exact h15) hTl (by simp only [cst_at, cst_ne, am_upI_at, am_upI_ne, pk_us, pk_un, ne_eq, Nat.reduceEqDiff, not_false_eq_true]; exact h29)
    refine ⟨v, S3, A3, z1, z2, fun S2 hM => ?_⟩
    obtain ⟨r1, r2, r3⟩ := hrd1 _ _ hM
    rw [if_neg cneg, um1 S2 r1 r3, b2_at, if_neg (nI_nlt hn1 (by omega)), um2 S2 r2 r3, b2_at, if_neg (nI_nlt hn2 (by omega)), um1 S2 r1 r3, b2_at, if_neg (nI_pos (by omega)), um2 S2 r2 r3, b2_at, if_pos (nI_le0 (by omega))]
    refine lp_220 (A := m) (by omega) (by omega) hi1 hi2 e1 e2 (by omega) (fun S4 h4 => ?_) F 0 S2 (by omega) (by omega) ?_
    · rw [My_rd h4 (Or.inl rfl), cst_ne (by decide), nI_1]
      refine MG_up h4 (Or.inl rfl) fun S5 h5 => ?_
      exact z3 S5 h5
    · rw [cpy_0, cst_id]
      exact hM
theorem st_move {F : Nat} (hF : 6000 ≤ F) (x1 x2 x3 x4 x5 x6 x7 : Int32) : FpStep (f150 F x1 x2 x3 x4 x5 x6 x7) (f220 F x1 x2 x3 x4 x5 x6 x7) := by
  refine Fp_of fun S t ht hR => ?_
  obtain ⟨nj, nf, ns, ng, nb, hC⟩ := Rel_z hR
  have hn := hC.1.1
  unfold f150 f220
  refine RG_jam hR ?_
  refine RG_g1 (Gd_page hC) hR ?_
  rintro ⟨j, p1, q, hj, hp1, hq, rfl, rfl, eq⟩
  refine RG_g1 (Gd_page hC) hR ?_
  rintro ⟨j', p2, q', hj', hp2, hq', ejj, rfl, eq'⟩
  have : j' = j := ((nI_eq (by omega) (by omega)).mp ejj).symm
  subst this
  have hqq : q' = q := by
    rw [eq] at eq'
    exact ((nI_eq (by omega) (by omega)).mp eq').symm
  subst hqq
  refine RG_g1 (Gd_in 0 8 rfl rfl (by omega)) hR ?_
  rintro ⟨N, -, hN, rfl⟩
  refine RG_chg hF hR hC fun m0 hm hT h29 hz S' hK => ?_
  have h3 := Ky_up (o := 5) (i := 7) (x := 0) hK (Or.inl rfl)
  show KG S 640 (g150_71 F F _ _ _ _ _ _ _ 0 (am_upI S'.1 5 7 0, S'.2)) _
  have hcur : Cur (am_upI S.1 5 7 0) (am_upI m0 95 35 0) nj nf ns ng nb := Cur_congr (A := S.1) (fun o ho => am_upI_ne (by omega)) (Cur_congr_m (fun o o1 o2 => am_upI_ne (by omega)) hm)
  have hTl : Tl (am_upI S.1 5 7 0) (am_upI m0 95 35 0) t := by
    obtain ⟨d1, d2, d3, d4, d5, d6, ⟨tc, d7, d8, d9⟩, d10⟩ := hT
    unfold Tl
    simp only [am_upI_at, am_upI_ne, pk_us, pk_un, ne_eq, Nat.reduceEqDiff, not_false_eq_true]
    exact ⟨d1, d2, d3, d4, d5, trivial, ⟨tc, by omega, d8, d9⟩, d10⟩
  obtain ⟨v, S3, A3, z1, z2, z3⟩ := lp_move (x3 := x3) (x5 := x5) (x7 := x7) (W := mv S.1) hF (show j' < 3 by omega) hp1 hp2 hq hN F 0 _ _ _ (by omega) (by omega) h3 hcur (by simp only [am_upI_at, am_upI_ne, pk_us, pk_un, ne_eq, Nat.reduceEqDiff, not_false_eq_true]; exact eq) hTl (by simp only [am_upI_at, am_upI_ne, pk_us, pk_un, ne_eq, Nat.reduceEqDiff, not_false_eq_true]; exact h29)
  refine ⟨v, S3, A3, z1, z2, fun S2 hM => ?_⟩
  refine MG_up hM (Or.inl rfl) fun S4 h4 => ?_
  rw [f207_eq, b2_at, f207_eq, b2_at]
  exact z3 S4 h4
