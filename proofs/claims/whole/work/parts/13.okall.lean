/-! all of the code is checked -/
theorem am_okL_of {M : Nat} : ∀ (C : AmCd), am_okL (am_o M) (am_ct M == 2) (am_b M) C = true → ∀ (i : Nat) (q : Nat × Instr × Nat × Nat × Nat) (cs : AmCd), C.drop i = q :: cs → am_okq M q cs = true
  | [], _, i, q, cs, h => by simp at h
  | (pc, j, a, b, c) :: C, hC, i, q, cs, h => by
    simp only [am_okL, Bool.and_eq_true] at hC
    cases i with
    | zero =>
      rw [List.drop_zero] at h
      cases h
      simp only [am_okq, Bool.and_eq_true]
      exact hC.1
    | succ i =>
      rw [List.drop_succ_cons] at h
      exact am_okL_of C hC.2 i q cs h
theorem am_OKM_of {M : Nat} (h : am_okM M = true) : am_OKM M := by
  simp only [am_okM, Bool.and_eq_true] at h
  exact am_okL_of _ h.1.1.1.1.1
theorem am_pick {P : Nat → Bool} {b n M : Nat} (h : (List.range n).all (fun k => P (b + k)) = true) (h1 : b ≤ M) (h2 : M < b + n) : P M = true := by
  have := am_ra h (show M - b < n by omega)
  rwa [show b + (M - b) = M by omega] at this
theorem am_okM_all {M : Nat} (h : M < 299) : am_okM M = true := by
  rcases Nat.lt_or_ge M 10 with q | q
  · exact am_pick am_k0 (by omega) q
  rcases Nat.lt_or_ge M 26 with q | q
  · exact am_pick am_k1 (by omega) q
  rcases Nat.lt_or_ge M 32 with q | q
  · exact am_pick am_k2 (by omega) q
  rcases Nat.lt_or_ge M 50 with q | q
  · exact am_pick am_k3 (by omega) q
  rcases Nat.lt_or_ge M 59 with q | q
  · exact am_pick am_k4 (by omega) q
  rcases Nat.lt_or_ge M 73 with q | q
  · exact am_pick am_k5 (by omega) q
  rcases Nat.lt_or_ge M 80 with q | q
  · exact am_pick am_k6 (by omega) q
  rcases Nat.lt_or_ge M 93 with q | q
  · exact am_pick am_k7 (by omega) q
  rcases Nat.lt_or_ge M 110 with q | q
  · exact am_pick am_k8 (by omega) q
  rcases Nat.lt_or_ge M 129 with q | q
  · exact am_pick am_k9 (by omega) q
  rcases Nat.lt_or_ge M 146 with q | q
  · exact am_pick am_k10 (by omega) q
  rcases Nat.lt_or_ge M 155 with q | q
  · exact am_pick am_k11 (by omega) q
  rcases Nat.lt_or_ge M 166 with q | q
  · exact am_pick am_k12 (by omega) q
  rcases Nat.lt_or_ge M 173 with q | q
  · exact am_pick am_k13 (by omega) q
  rcases Nat.lt_or_ge M 184 with q | q
  · exact am_pick am_k14 (by omega) q
  rcases Nat.lt_or_ge M 196 with q | q
  · exact am_pick am_k15 (by omega) q
  rcases Nat.lt_or_ge M 200 with q | q
  · exact am_pick am_k16 (by omega) q
  rcases Nat.lt_or_ge M 210 with q | q
  · exact am_pick am_k17 (by omega) q
  rcases Nat.lt_or_ge M 217 with q | q
  · exact am_pick am_k18 (by omega) q
  rcases Nat.lt_or_ge M 222 with q | q
  · exact am_pick am_k19 (by omega) q
  rcases Nat.lt_or_ge M 227 with q | q
  · exact am_pick am_k20 (by omega) q
  rcases Nat.lt_or_ge M 236 with q | q
  · exact am_pick am_k21 (by omega) q
  rcases Nat.lt_or_ge M 238 with q | q
  · exact am_pick am_k22 (by omega) q
  rcases Nat.lt_or_ge M 245 with q | q
  · exact am_pick am_k23 (by omega) q
  rcases Nat.lt_or_ge M 253 with q | q
  · exact am_pick am_k24 (by omega) q
  rcases Nat.lt_or_ge M 258 with q | q
  · exact am_pick am_k25 (by omega) q
  rcases Nat.lt_or_ge M 261 with q | q
  · exact am_pick am_k26 (by omega) q
  rcases Nat.lt_or_ge M 264 with q | q
  · exact am_pick am_k27 (by omega) q
  rcases Nat.lt_or_ge M 271 with q | q
  · exact am_pick am_k28 (by omega) q
  rcases Nat.lt_or_ge M 279 with q | q
  · exact am_pick am_k29 (by omega) q
  rcases Nat.lt_or_ge M 287 with q | q
  · exact am_pick am_k30 (by omega) q
  rcases Nat.lt_or_ge M 299 with q | q
  · exact am_pick am_k31 (by omega) q
  omega
theorem am_okA_all {i : Nat} (h : i < 1633) : am_okA 299 i = true := by
  rcases Nat.lt_or_ge i 120 with q | q
  · exact am_pick am_kl0 (by omega) q
  rcases Nat.lt_or_ge i 240 with q | q
  · exact am_pick am_kl1 (by omega) q
  rcases Nat.lt_or_ge i 360 with q | q
  · exact am_pick am_kl2 (by omega) q
  rcases Nat.lt_or_ge i 480 with q | q
  · exact am_pick am_kl3 (by omega) q
  rcases Nat.lt_or_ge i 600 with q | q
  · exact am_pick am_kl4 (by omega) q
  rcases Nat.lt_or_ge i 720 with q | q
  · exact am_pick am_kl5 (by omega) q
  rcases Nat.lt_or_ge i 840 with q | q
  · exact am_pick am_kl6 (by omega) q
  rcases Nat.lt_or_ge i 960 with q | q
  · exact am_pick am_kl7 (by omega) q
  rcases Nat.lt_or_ge i 1080 with q | q
  · exact am_pick am_kl8 (by omega) q
  rcases Nat.lt_or_ge i 1200 with q | q
  · exact am_pick am_kl9 (by omega) q
  rcases Nat.lt_or_ge i 1320 with q | q
  · exact am_pick am_kl10 (by omega) q
  rcases Nat.lt_or_ge i 1440 with q | q
  · exact am_pick am_kl11 (by omega) q
  rcases Nat.lt_or_ge i 1490 with q | q
  · exact am_pick am_kl12 (by omega) q
  rcases Nat.lt_or_ge i 1540 with q | q
  · exact am_pick am_kl13 (by omega) q
  rcases Nat.lt_or_ge i 1590 with q | q
  · exact am_pick am_kl14 (by omega) q
  rcases Nat.lt_or_ge i 1633 with q | q
  · exact am_pick am_kl15 (by omega) q
  omega
theorem am_len299 : (am_P 299).length = 1633 := by decide +kernel
theorem am_OKM_law : am_OKM 299 := by
  intro i q cs h
  have hi : i < 1633 := by
    rw [← am_len299]
    rcases Nat.lt_or_ge i (am_P 299).length with h1 | h1
    · exact h1
    · rw [List.drop_eq_nil_of_le h1] at h
      cases h
  have hk := am_okA_all hi
  obtain ⟨pc, j, a, b, c⟩ := q
  unfold am_okA at hk
  rw [h] at hk
  exact hk
theorem am_OKM_all : ∀ k, k < 300 → am_OKM k := by
  intro k hk
  rcases Nat.lt_or_ge k 299 with h | h
  · exact am_OKM_of (am_okM_all h)
  · rw [show k = 299 by omega]
    exact am_OKM_law
