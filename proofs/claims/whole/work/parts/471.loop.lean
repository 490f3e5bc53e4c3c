/-! the law's loop: every call is answered alike -/
theorem law1 {fc fm : AmT → Option (Int32 × AmT)} {S : AmT} {t : Nat} {K : AmT → Option (Int32 × AmT)} (hst : FpStep fc fm) (hR : Rel S t) (ht : t ≤ 600) (H : ∀ S2, Rel S2 (t + 1) → ∃ S', K S2 = some (1, S')) : ∃ S', (am_b2 (fc S) fun v S4 => am_b2 (fm S4) fun v' S6 => if v = v' then K S6 else some (0, S6)) = some (1, S') := by
  obtain ⟨v, S1, S2, e1, e2, hR2⟩ := hst S t ht hR
  obtain ⟨S', e3⟩ := H S2 hR2
  exact ⟨S', by rw [e1, b2_at, e2, b2_at, if_pos rfl, e3]⟩
theorem law_ck {L i d : Nat} {y : Int32} (hL : L ≤ 4608) (hd : i + d < L) (hy : y = nI (i + d)) {k : Option (Int32 × AmT)} : am_ck y L k = k := by
  rw [hy]
  exact ck_at hd (by omega)
set_option maxHeartbeats 4000000 in
set_option maxRecDepth 20000 in
theorem law_lp {F : Nat} (hF : 6000 ≤ F) {L : Nat} (hL : L ≤ 4608) (xs : Nat → Int32) : ∀ (n it : Nat) (S : AmT), it ≤ 513 → 514 ≤ n + it → Rel S it → ∃ S', g299_18 L xs F n (nI (9 * it)) S = some (1, S')
  | 0, it, S, h1, h2, hR => absurd h2 (by omega)
  | n + 1, it, S, h1, h2, hR => by
    have eL : Int32.ofNat L = nI L := rfl
    unfold g299_18
    rw [eL]
    by_cases hc : nI L - 9 < nI (9 * it)
    · rw [if_pos hc]
      exact ⟨S, rfl⟩
    rw [if_neg hc]
    have hlt : 9 * it + 9 ≤ L := by
      refine Classical.byContradiction fun z => hc ?_
      rw [Int32.lt_iff_toInt_lt, nI_toInt (by omega)]
      rcases Nat.lt_or_ge L 9 with q | q
      · have : ∀ L : Fin 9, (nI L.val - 9).toInt < 0 := by decide
        have := this ⟨L, q⟩
        dsimp only at this
        omega
      · rw [show nI L - 9 = nI (L - 9) from nI_sub (b := 9) q, nI_toInt (by omega)]
        omega
    have hit : it ≤ 511 := by omega
    have K : ∀ S2, Rel S2 (it + 1) → ∃ S', (fun S6 => g299_2179 L xs F (fun x3 S => g299_18 L xs F n x3 S) (nI (9 * it)) S6) S2 = some (1, S') := by
      intro S2 hR2
      obtain ⟨S', e⟩ := law_lp hF hL xs n (it + 1) S2 (by omega) (by omega) hR2
      refine ⟨S', ?_⟩
      show g299_18 L xs F n (nI (9 * it) + 9) S2 = _
      rw [show nI (9 * it) + 9 = nI (9 * (it + 1)) from by rw [show nI (9 * it) + 9 = nI (9 * it + 9) from nI_add _ 9, Nat.mul_add]]
      exact e
    have c0 : ∀ k : Option (Int32 × AmT), am_ck (nI (9 * it)) L k = k := fun k => law_ck (i := 9 * it) (d := 0) hL (by omega) rfl
    have c1 : ∀ k : Option (Int32 × AmT), am_ck (nI (9 * it) + 1) L k = k := fun k => law_ck (i := 9 * it) (d := 1) hL (by omega) (nI_add _ 1)
    have c2 : ∀ k : Option (Int32 × AmT), am_ck (nI (9 * it) + 2) L k = k := fun k => law_ck (i := 9 * it) (d := 2) hL (by omega) (nI_add _ 2)
    have c3 : ∀ k : Option (Int32 × AmT), am_ck (nI (9 * it) + 3) L k = k := fun k => law_ck (i := 9 * it) (d := 3) hL (by omega) (nI_add _ 3)
    have c4 : ∀ k : Option (Int32 × AmT), am_ck (nI (9 * it) + 4) L k = k := fun k => law_ck (i := 9 * it) (d := 4) hL (by omega) (nI_add _ 4)
    have c5 : ∀ k : Option (Int32 × AmT), am_ck (nI (9 * it) + 5) L k = k := fun k => law_ck (i := 9 * it) (d := 5) hL (by omega) (nI_add _ 5)
    have c6 : ∀ k : Option (Int32 × AmT), am_ck (nI (9 * it) + 6) L k = k := fun k => law_ck (i := 9 * it) (d := 6) hL (by omega) (nI_add _ 6)
    have c7 : ∀ k : Option (Int32 × AmT), am_ck (nI (9 * it) + 7) L k = k := fun k => law_ck (i := 9 * it) (d := 7) hL (by omega) (nI_add _ 7)
    have c8 : ∀ k : Option (Int32 × AmT), am_ck (nI (9 * it) + 8) L k = k := fun k => law_ck (i := 9 * it) (d := 8) hL (by omega) (nI_add _ 8)
    rw [c0]
    generalize xs (nI (9 * it)).toNatClampNeg &&& 63 = op
    by_cases h0 : op = 0
    · rw [if_pos h0]
      simp only [c1, c2, c3, c4, c5, c6, c7, c8]
      exact law1 (st_job hF _ _) hR (by omega) K
    rw [if_neg h0]
    by_cases h1 : op = 1
    · rw [if_pos h1]
      simp only [c1, c2, c3, c4, c5, c6, c7, c8]
      exact law1 (st_page hF _) hR (by omega) K
    rw [if_neg h1]
    by_cases h2 : op = 2
    · rw [if_pos h2]
      simp only [c1, c2, c3, c4, c5, c6, c7, c8]
      exact law1 (st_blank hF _ _) hR (by omega) K
    rw [if_neg h2]
    by_cases h3 : op = 3
    · rw [if_pos h3]
      simp only [c1, c2, c3, c4, c5, c6, c7, c8]
      exact law1 (st_rows hF _ _ _) hR (by omega) K
    rw [if_neg h3]
    by_cases h4 : op = 4
    · rw [if_pos h4]
      simp only [c1, c2, c3, c4, c5, c6, c7, c8]
      exact law1 (st_row hF _ _ _ _) hR (by omega) K
    rw [if_neg h4]
    by_cases h5 : op = 5
    · rw [if_pos h5]
      simp only [c1, c2, c3, c4, c5, c6, c7, c8]
      exact law1 (st_miss hF _ _ _) hR (by omega) K
    rw [if_neg h5]
    by_cases h6 : op = 6
    · rw [if_pos h6]
      simp only [c1, c2, c3, c4, c5, c6, c7, c8]
      exact law1 (st_letter hF _ _ _ _ _) hR (by omega) K
    rw [if_neg h6]
    by_cases h7 : op = 7
    · rw [if_pos h7]
      simp only [c1, c2, c3, c4, c5, c6, c7, c8]
      exact law1 (st_at _ _ _ _) hR (by omega) K
    rw [if_neg h7]
    by_cases h8 : op = 8
    · rw [if_pos h8]
      simp only [c1, c2, c3, c4, c5, c6, c7, c8]
      exact law1 (st_size _ _ _) hR (by omega) K
    rw [if_neg h8]
    by_cases h9 : op = 9
    · rw [if_pos h9]
      simp only [c1, c2, c3, c4, c5, c6, c7, c8]
      exact law1 (st_move hF _ _ _ _ _ _ _) hR (by omega) K
    rw [if_neg h9]
    by_cases h10 : op = 10
    · rw [if_pos h10]
      exact law1 (st_moved) hR (by omega) K
    rw [if_neg h10]
    by_cases h11 : op = 11
    · rw [if_pos h11]
      simp only [c1, c2, c3, c4, c5, c6, c7, c8]
      exact law1 (st_cut hF _ _ _) hR (by omega) K
    rw [if_neg h11]
    by_cases h12 : op = 12
    · rw [if_pos h12]
      simp only [c1, c2, c3, c4, c5, c6, c7, c8]
      exact law1 (st_join hF _ _) hR (by omega) K
    rw [if_neg h12]
    by_cases h13 : op = 13
    · rw [if_pos h13]
      simp only [c1, c2, c3, c4, c5, c6, c7, c8]
      exact law1 (st_fold hF _ _) hR (by omega) K
    rw [if_neg h13]
    by_cases h14 : op = 14
    · rw [if_pos h14]
      simp only [c1, c2, c3, c4, c5, c6, c7, c8]
      exact law1 (st_cross hF _ _) hR (by omega) K
    rw [if_neg h14]
    by_cases h15 : op = 15
    · rw [if_pos h15]
      simp only [c1, c2, c3, c4, c5, c6, c7, c8]
      exact law1 (st_lips _) hR (by omega) K
    rw [if_neg h15]
    by_cases h16 : op = 16
    · rw [if_pos h16]
      simp only [c1, c2, c3, c4, c5, c6, c7, c8]
      exact law1 (st_inner _ _) hR (by omega) K
    rw [if_neg h16]
    by_cases h17 : op = 17
    · rw [if_pos h17]
      simp only [c1, c2, c3, c4, c5, c6, c7, c8]
      exact law1 (st_worth hF _ _) hR (by omega) K
    rw [if_neg h17]
    by_cases h18 : op = 18
    · rw [if_pos h18]
      simp only [c1, c2, c3, c4, c5, c6, c7, c8]
      exact law1 (st_face hF _ _ _ _ _) hR (by omega) K
    rw [if_neg h18]
    by_cases h19 : op = 19
    · rw [if_pos h19]
      simp only [c1, c2, c3, c4, c5, c6, c7, c8]
      exact law1 (st_faces hF _ _ _) hR (by omega) K
    rw [if_neg h19]
    by_cases h20 : op = 20
    · rw [if_pos h20]
      simp only [c1, c2, c3, c4, c5, c6, c7, c8]
      exact law1 (st_sheet hF _ _ _) hR (by omega) K
    rw [if_neg h20]
    by_cases h21 : op = 21
    · rw [if_pos h21]
      simp only [c1, c2, c3, c4, c5, c6, c7, c8]
      exact law1 (st_tear hF _ _ _) hR (by omega) K
    rw [if_neg h21]
    by_cases h22 : op = 22
    · rw [if_pos h22]
      simp only [c1, c2, c3, c4, c5, c6, c7, c8]
      exact law1 (st_put hF _ _ _ _ _ _) hR (by omega) K
    rw [if_neg h22]
    by_cases h23 : op = 23
    · rw [if_pos h23]
      simp only [c1, c2, c3, c4, c5, c6, c7, c8]
      exact law1 (st_cell _ _ _ _ _) hR (by omega) K
    rw [if_neg h23]
    by_cases h24 : op = 24
    · rw [if_pos h24]
      simp only [c1, c2, c3, c4, c5, c6, c7, c8]
      exact law1 (st_shift hF _ _ _ _ _ _ _ _) hR (by omega) K
    rw [if_neg h24]
    by_cases h25 : op = 25
    · rw [if_pos h25]
      simp only [c1, c2, c3, c4, c5, c6, c7, c8]
      exact law1 (st_lay hF _ _ _) hR (by omega) K
    rw [if_neg h25]
    by_cases h26 : op = 26
    · rw [if_pos h26]
      simp only [c1, c2, c3, c4, c5, c6, c7, c8]
      exact law1 (st_read hF _ _ _) hR (by omega) K
    rw [if_neg h26]
    by_cases h27 : op = 27
    · rw [if_pos h27]
      simp only [c1, c2, c3, c4, c5, c6, c7, c8]
      exact law1 (st_seen _ _ _ _ _ _) hR (by omega) K
    rw [if_neg h27]
    by_cases h28 : op = 28
    · rw [if_pos h28]
      simp only [c1, c2, c3, c4, c5, c6, c7, c8]
      exact law1 (st_signature hF _) hR (by omega) K
    rw [if_neg h28]
    by_cases h29 : op = 29
    · rw [if_pos h29]
      simp only [c1, c2, c3, c4, c5, c6, c7, c8]
      exact law1 (st_gather hF _ _) hR (by omega) K
    rw [if_neg h29]
    by_cases h30 : op = 30
    · rw [if_pos h30]
      simp only [c1, c2, c3, c4, c5, c6, c7, c8]
      exact law1 (st_bind hF _ _ _) hR (by omega) K
    rw [if_neg h30]
    by_cases h31 : op = 31
    · rw [if_pos h31]
      simp only [c1, c2, c3, c4, c5, c6, c7, c8]
      exact law1 (st_leaf hF _ _ _ _) hR (by omega) K
    rw [if_neg h31]
    by_cases h32 : op = 32
    · rw [if_pos h32]
      simp only [c1, c2, c3, c4, c5, c6, c7, c8]
      exact law1 (st_creep hF _ _ _) hR (by omega) K
    rw [if_neg h32]
    by_cases h33 : op = 33
    · rw [if_pos h33]
      simp only [c1, c2, c3, c4, c5, c6, c7, c8]
      exact law1 (st_add hF _) hR (by omega) K
    rw [if_neg h33]
    by_cases h34 : op = 34
    · rw [if_pos h34]
      simp only [c1, c2, c3, c4, c5, c6, c7, c8]
      exact law1 (st_cover hF _) hR (by omega) K
    rw [if_neg h34]
    by_cases h35 : op = 35
    · rw [if_pos h35]
      simp only [c1, c2, c3, c4, c5, c6, c7, c8]
      exact law1 (st_pageAt hF _ _) hR (by omega) K
    rw [if_neg h35]
    by_cases h36 : op = 36
    · rw [if_pos h36]
      simp only [c1, c2, c3, c4, c5, c6, c7, c8]
      exact law1 (st_wrap hF _ _) hR (by omega) K
    rw [if_neg h36]
    by_cases h37 : op = 37
    · rw [if_pos h37]
      simp only [c1, c2, c3, c4, c5, c6, c7, c8]
      exact law1 (st_foldBy hF _ _) hR (by omega) K
    rw [if_neg h37]
    by_cases h38 : op = 38
    · rw [if_pos h38]
      simp only [c1, c2, c3, c4, c5, c6, c7, c8]
      exact law1 (st_margin hF _) hR (by omega) K
    rw [if_neg h38]
    by_cases h39 : op = 39
    · rw [if_pos h39]
      simp only [c1, c2, c3, c4, c5, c6, c7, c8]
      exact law1 (st_feed hF _) hR (by omega) K
    rw [if_neg h39]
    by_cases h40 : op = 40
    · rw [if_pos h40]
      exact law1 (st_doubled hF) hR (by omega) K
    rw [if_neg h40]
    by_cases h41 : op = 41
    · rw [if_pos h41]
      simp only [c1, c2, c3, c4, c5, c6, c7, c8]
      exact law1 (st_jam hF _) hR (by omega) K
    rw [if_neg h41]
    by_cases h42 : op = 42
    · rw [if_pos h42]
      exact law1 (st_step hF) hR (by omega) K
    rw [if_neg h42]
    by_cases h43 : op = 43
    · rw [if_pos h43]
      simp only [c1, c2, c3, c4, c5, c6, c7, c8]
      exact law1 (st_reprint hF _) hR (by omega) K
    rw [if_neg h43]
    by_cases h44 : op = 44
    · rw [if_pos h44]
      exact law1 (st_clear hF) hR (by omega) K
    rw [if_neg h44]
    by_cases h45 : op = 45
    · rw [if_pos h45]
      simp only [c1, c2, c3, c4, c5, c6, c7, c8]
      exact law1 (st_state _ _) hR (by omega) K
    rw [if_neg h45]
    by_cases h46 : op = 46
    · rw [if_pos h46]
      simp only [c1, c2, c3, c4, c5, c6, c7, c8]
      exact law1 (st_good hF _) hR (by omega) K
    rw [if_neg h46]
    by_cases h47 : op = 47
    · rw [if_pos h47]
      exact law1 (st_undo hF) hR (by omega) K
    rw [if_neg h47]
    by_cases h48 : op = 48
    · rw [if_pos h48]
      simp only [c1, c2, c3, c4, c5, c6, c7, c8]
      exact law1 (st_told _) hR (by omega) K
    rw [if_neg h48]
    by_cases h49 : op = 49
    · rw [if_pos h49]
      simp only [c1, c2, c3, c4, c5, c6, c7, c8]
      exact law1 (st_trace _) hR (by omega) K
    rw [if_neg h49]
    by_cases h50 : op = 50
    · rw [if_pos h50]
      simp only [c1, c2, c3, c4, c5, c6, c7, c8]
      exact law1 (st_about _ _) hR (by omega) K
    rw [if_neg h50]
    exact K S (Rel_mono hR (by omega))
