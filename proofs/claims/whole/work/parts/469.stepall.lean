/-! calls: step, whole -/
theorem mz_mz (I : Mem) : mz (mz I) = mz I := by
  funext k j
  unfold mz
  by_cases h1 : k < 95
  · rw [if_pos h1, if_pos h1]
  · rw [if_neg h1, if_neg h1]
    by_cases h2 : k = 95 ∨ 125 ≤ k
    · rw [if_pos h2, if_pos h2]
    · rw [if_neg h2, if_neg h2]
      by_cases h3 : j < hf k
      · rw [if_pos h3, if_pos h3]
      · rw [if_neg h3, if_neg h3]
theorem Ky_self {S0 S : AmT} {A : Mem} {k : Nat} (h : Ky S0 S A k) : Ky S0 S S.1 k := ⟨h.1, fun _ _ _ => rfl, h.2.2⟩
theorem Cur_self {S0 S : AmT} {A m : Mem} {k nj nf ns ng nb : Nat} (h : Ky S0 S A k) (hC : Cur A m nj nf ns ng nb) : Cur S.1 m nj nf ns ng nb := Cur_congr (fun o ho => h.2.1 o (by omega) (by omega)) hC
theorem TT_self {S0 S : AmT} {A m : Mem} {k n : Nat} (h : Ky S0 S A k) (hT : TT A m n) : TT S.1 m n := TT_congr hT (h.2.1 5 (by omega) (by omega)) (h.2.1 6 (by omega) (by omega)) (fun _ _ _ => rfl) rfl
theorem g185_j {F : Nat} {S : AmT} {x y : Int32} (h : ¬ S.1 92 0 = 0) : ∀ N, 0 < N → g185_24 F N x y S = some (x, S)
  | 0, hN => absurd hN (by omega)
  | N + 1, _ => by
    unfold g185_24
    by_cases q : y < 0
    · rw [if_pos q]
    · rw [if_neg q, f81_eq, b2_at, if_neg h, if_neg (by decide)]
theorem g185_0 {F : Nat} {S : AmT} {x : Int32} : ∀ N, 0 < N → g185_24 F N x (nI 0 - 1) S = some (x, S)
  | 0, hN => absurd hN (by omega)
  | N + 1, _ => by
    unfold g185_24
    rw [if_pos (by decide)]
theorem g185_s {F N j : Nat} {S S' : AmT} {x : Int32} {v : Nat} (hj : j ≤ 4) (h : S.1 92 0 = 0) (h87 : f87 F (nI j) S = some (nI v, S')) : g185_24 F (N + 1) x (nI (j + 1) - 1) S = g185_24 F N (x + nI v) (nI j - 1) S' := by
  rw [g185_24]
  rw [show nI (j + 1) - 1 = nI j from nI_sub (a := j + 1) (b := 1) (by omega), if_neg (nI_pos (by omega)), f81_eq, b2_at, if_pos h, if_pos rfl, h87, b2_at, show nI j + (-1) = nI j - 1 from (Int32.sub_eq_add_neg _ _).symm]
theorem stl_c {F : Nat} (hF : 6000 ≤ F) {S0 : AmT} {nj nf ns ng nb : Nat} : ∀ (r N : Nat) (S : AmT) (k n : Nat) (x : Int32), r < N → r ≤ 5 → Ky S0 S S.1 k → k + 5 * r ≤ 640 → n + 32 * r ≤ 1900000 → S.1 92 0 = 0 → (∃ m, mz m = m ∧ Cur S.1 m nj nf ns ng nb ∧ TT S.1 m n ∧ m 95 29 = 1) → ∃ v S', g185_24 F N x (nI r - 1) S = some (v, S') ∧ Ky S0 S' S'.1 (k + 5 * r)
  | 0, N, S, k, n, x, h1, h2, h3, h4, h5, h6, h7 => ⟨x, S, g185_0 N (by omega), h3⟩
  | r + 1, 0, S, k, n, x, h1, h2, h3, h4, h5, h6, h7 => absurd h1 (by omega)
  | r + 1, N + 1, S, k, n, x, h1, h2, h3, h4, h5, h6, ⟨m, hmz, hC, hT, h29⟩ => by
    obtain ⟨v1, S1, A1, z1, z2, z3, z4, z5⟩ := stn hF (j := r) (by omega) h3 (by omega) hC hT (by omega) h29 h6
    rw [g185_s (by omega) h6 z2]
    have e92 : S1.1 92 0 = A1 92 0 := Ky_rd z3 (by omega) (by omega)
    rcases z4 with z4 | ⟨z4, -⟩
    · have hex : ∃ m, mz m = m ∧ Cur S1.1 m nj nf ns ng nb ∧ TT S1.1 m (n + 32) ∧ m 95 29 = 1 := by
        refine Classical.byContradiction fun hno => ?_
        have h0 : My ((m, fun _ => none) : AmT) ((m, fun _ => none) : AmT) m (mw m) := ⟨rfl, fun _ _ => rfl, hmz, rfl⟩
        obtain ⟨_, _, _, _, _, hq⟩ := z5 _ _ _ 1 0 (fun _ _ => False) h0 (fun S2 m2 g1 g2 g3 g4 => absurd ⟨m2, by rw [← g1.2.2.1, mz_mz], Cur_self z3 g2, TT_self z3 g3, g4⟩ hno)
        exact hq
      obtain ⟨v, S', e1, e2⟩ := stl_c hF r N S1 (k + 5) (n + 32) (x + nI v1) (by omega) (by omega) (Ky_self z3) (by omega) (by omega) (e92.trans z4) hex
      exact ⟨v, S', e1, Ky_mono e2 (by omega)⟩
    · have hj : ¬ S1.1 92 0 = 0 := by rw [e92, z4]; decide
      exact ⟨_, S1, g185_j hj N (by omega), Ky_mono (Ky_self z3) (by omega)⟩
theorem stl_m {F : Nat} (hF : 6000 ≤ F) {S0 : AmT} {nj nf ns ng nb : Nat} : ∀ (r N N' : Nat) (S : AmT) (k n : Nat) (m : Mem) (x v : Int32) (S' : AmT), r < N → r < N' → r ≤ 5 → Ky S0 S S.1 k → k + 5 * r ≤ 640 → n + 32 * r ≤ 1900000 → S.1 92 0 = 0 → Cur S.1 m nj nf ns ng nb → TT S.1 m n → m 95 29 = 1 → g185_24 F N x (nI r - 1) S = some (v, S') → ∀ (S1 : AmT) (W : Mem) (Sm : AmT), My S1 Sm m W → MG S1 W (g287_18 F N' x (nI r - 1) Sm) (fun v' m2 => v' = v ∧ Cur S'.1 m2 nj nf ns ng nb ∧ TT S'.1 m2 (n + 32 * r) ∧ m2 95 29 = 1)
  | r, N, 0, S, k, n, m, x, v, S', h1, h1', h2, h3, h4, h5, h6, hC, hT, h29, he, S1, W, Sm, hy => absurd h1' (by omega)
  | r, 0, N' + 1, S, k, n, m, x, v, S', h1, h1', h2, h3, h4, h5, h6, hC, hT, h29, he, S1, W, Sm, hy => absurd h1 (by omega)
  | 0, N + 1, N' + 1, S, k, n, m, x, v, S', h1, h1', h2, h3, h4, h5, h6, hC, hT, h29, he, S1, W, Sm, hy => by
    rw [g185_0 (N + 1) (by omega)] at he
    obtain ⟨rfl, rfl⟩ : x = v ∧ S = S' := by simpa using he
    unfold g287_18
    rw [if_pos (by decide)]
    exact MG_ret hy ⟨rfl, hC, hT, h29⟩
  | r + 1, N + 1, N' + 1, S, k, n, m, x, v, S', h1, h1', h2, h3, h4, h5, h6, hC, hT, h29, he, S1, W, Sm, hy => by
    obtain ⟨v1, Sa, A1, z1, z2, z3, z4, z5⟩ := stn hF (j := r) (by omega) h3 (by omega) hC hT (by omega) h29 h6
    rw [g185_s (by omega) h6 z2] at he
    have e92 : Sa.1 92 0 = A1 92 0 := Ky_rd z3 (by omega) (by omega)
    rw [show nI (r + 1) - 1 = nI r from nI_sub (a := r + 1) (b := 1) (by omega)]
    refine z5 S1 W Sm N' x _ hy fun S2 m2 g1 g2 g3 g4 => ?_
    rcases z4 with z4 | ⟨z4, z6⟩
    · rw [if_pos z4]
      obtain ⟨v', S3, m3, y1, y2, y3, y4, y5, y6⟩ := stl_m hF r N N' Sa (k + 5) (n + 32) m2 (x + nI v1) v S' (by omega) (by omega) (by omega) (Ky_self z3) (by omega) (by omega) (e92.trans z4) (Cur_self z3 g2) (TT_self z3 g3) g4 he S1 W S2 g1
      exact ⟨v', S3, m3, y1, y2, y3, y4, TT_mono y5 (by omega), y6⟩
    · have hj : ¬ Sa.1 92 0 = 0 := by rw [e92, z4]; decide
      rw [g185_j hj N (by omega), z6, show x + nI 0 = x from Int32.add_zero _] at he
      obtain ⟨rfl, rfl⟩ : x = v ∧ Sa = S' := by simpa using he
      rw [if_neg (by rw [z4]; decide)]
      exact MG_ret g1 ⟨rfl, Cur_self z3 g2, TT_mono (TT_self z3 g3) (by omega), g4⟩
theorem st_step {F : Nat} (hF : 6000 ≤ F) : FpStep (f185 F) (f287 F) := by
  refine Fp_of fun S t ht hR => ?_
  obtain ⟨nj, nf, ns, ng, nb, hC⟩ := Rel_z hR
  unfold f185 f287
  obtain ⟨hj1, hj2⟩ := Rel_jam hR
  rcases hj2 with h | h
  case inr =>
    refine RG_cm (by rw [f81_eq, b2_at, h]; rfl) (fun S1 hf => ?_) (RG_ret (v := -4) hR)
    rw [f202_eq, b2_at, hf 96 (by omega), hj1, h]
    rfl
  refine RG_cm (C' := (f58 F S).bind fun S4 => g185_24 F F 0 4 S4) (M' := fun S1 => (f201 F S1).bind fun S4 => g287_18 F F 0 4 S4) (by rw [f81_eq, b2_at, if_pos h, if_pos rfl]) (fun S1 hf => ?_) ?_
  · rw [f202_eq, b2_at, hf 96 (by omega), hj1, h]
    rfl
  refine RG_chg hF hR hC fun m0 hm hT h29 hz S' hK => ?_
  have h92 : S'.1 92 0 = 0 := (Ky_rd hK (by omega) (by omega)).trans h
  have hex : ∃ m, mz m = m ∧ Cur S'.1 m nj nf ns ng nb ∧ TT S'.1 m (2000 * t) ∧ m 95 29 = 1 := by
    refine ⟨am_upI (mz S.1) 95 29 1, by rw [mz_up (Or.inl rfl), mz_mz], Cur_self hK (Cur_congr_m (fun o o1 o2 => am_upI_ne (by omega)) hC), TT_self hK ?_, by simp only [am_upI_at, am_upI_ne, pk_us, pk_un, ne_eq, Nat.reduceEqDiff, not_false_eq_true]⟩
    have hTl := Tl_of hR.2.1
    exact TT_congr (show TT S.1 (mz S.1) (2000 * t) from hTl) rfl rfl (fun j j1 j2 => by rw [am_upI_at, pk_un (by omega)]) (am_upI_ne (by decide))
  obtain ⟨v, S2, e, hK2⟩ := stl_c hF 5 F S' 0 (2000 * t) 0 (by omega) (by omega) (Ky_self hK) (by omega) (by omega) h92 hex
  refine ⟨v, S2, S2.1, e, Ky_mono hK2 (by omega), fun S3 hM => ?_⟩
  obtain ⟨v', S4, m4, y1, y2, y3, y4, y5, y6⟩ := stl_m hF 5 F F S' 0 (2000 * t) m0 0 v S2 (by omega) (by omega) (by omega) (Ky_self hK) (by omega) (by omega) h92 (Cur_self hK hm) (TT_self hK (show TT S.1 m0 (2000 * t) from hT)) h29 e _ _ S3 hM
  exact ⟨v', S4, m4, y1, y2, y3, ⟨nj, nf, ns, ng, nb, y4⟩, (TT_mono y5 (by omega) : TT S2.1 m4 (2000 * (t + 1))), y6⟩
