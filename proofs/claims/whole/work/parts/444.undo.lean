/-! calls: undo -/
theorem tb_u1 {S : AmT} {i c : Nat} {p : Nat × Nat} (hi : i < 2147483648) (h1 : S.2 i = some c) (h2 : kp c = some p) : tb_row S (nI i) = some (u1 S.2 (S.1 3) (S.1 4) i S.1, S.2) := by
  obtain ⟨ar, n⟩ := p
  unfold tb_row u1
  rw [nI_clamp hi, h1]
  dsimp only
  rw [h2]
  show some (ku S ar n (S.1 3 i) (S.1 4 i)) = _
  unfold ku
  dsimp only
  split
  · rfl
  · split <;> rfl
theorem lp_60 {F : Nat} : ∀ (i n : Nat) (S : AmT), i ≤ 640 → i < n → (∀ k, k < i → ∃ c p, S.2 k = some c ∧ kp c = some p) → g60_22 F n (nI i - 1) S = some (1, (am_upI (am_upI (bs S.2 (S.1 3) (S.1 4) i S.1) 1 3 0) 1 4 0, S.2))
  | i, 0, S, h1, h2, h3 => absurd h2 (by omega)
  | 0, n + 1, S, h1, h2, h3 => by
    unfold g60_22
    rw [if_pos (by decide)]
    rfl
  | i + 1, n + 1, S, h1, h2, h3 => by
    obtain ⟨c, p, q1, q2⟩ := h3 i (by omega)
    have e : nI (i + 1) - 1 = nI i := nI_sub (a := i + 1) (b := 1) (by omega)
    have e2 : nI i + (-1) = nI i - 1 := (Int32.sub_eq_add_neg _ _).symm
    unfold g60_22
    rw [e, if_neg (nI_pos (by omega)), ck_at (by omega) (by omega), tb_u1 (by omega) q1 q2, bind_at, e2]
    have := lp_60 (F := F) i n (u1 S.2 (S.1 3) (S.1 4) i S.1, S.2) (by omega) (by omega) (fun k hk => h3 k (by omega))
    rw [this]
    have z3 : u1 S.2 (S.1 3) (S.1 4) i S.1 3 = S.1 3 := u1_out (by omega)
    have z4 : u1 S.2 (S.1 3) (S.1 4) i S.1 4 = S.1 4 := u1_out (by omega)
    show some ((1 : Int32), (am_upI (am_upI (bs S.2 (u1 S.2 (S.1 3) (S.1 4) i S.1 3) (u1 S.2 (S.1 3) (S.1 4) i S.1 4) i (u1 S.2 (S.1 3) (S.1 4) i S.1)) 1 3 0) 1 4 0, S.2)) = _
    rw [z3, z4]
    rfl
theorem st_undo {F : Nat} (hF : 6000 ≤ F) : FpStep (f190 F) (f204 F) := by
  refine Fp_of fun S t ht hR => ?_
  unfold f190 f204
  refine RG_jam hR ?_
  obtain ⟨-, hT, hb, h14, h29, hB⟩ := id hR
  rcases h14 with h14 | h14
  · refine RG_q (v := 0) hR ?_ fun S1 hf => ?_
    · unfold f60
      rw [if_pos h14, b2_at, if_pos rfl]
    · rw [hf 95 (by omega), h29, if_pos h14]
  obtain ⟨B, ⟨nn, a1, a2, a3, a4, a5⟩, nj, nf, ns, ng, nb, hC⟩ := hB h14
  have hcl : f60 F S = some (1, (am_upI (am_upI (bs S.2 (S.1 3) (S.1 4) nn S.1) 1 3 0) 1 4 0, S.2)) := by
    unfold f60 f297
    rw [if_neg (by rw [h14]; decide), a2, if_neg (show ¬ (640 : Int32) < nI nn from nI_nlt (a := 640) a1 (by omega)), b2_at]
    exact lp_60 nn F S a1 (by omega) a4
  have hS1 : ∀ o, o ≠ 1 → am_upI (am_upI (bs S.2 (S.1 3) (S.1 4) nn S.1) 1 3 0) 1 4 0 o = bs S.2 (S.1 3) (S.1 4) nn S.1 o := fun o ho => by rw [am_upI_ne ho, am_upI_ne ho]
  have hhi : ∀ o, 95 ≤ o → am_upI (am_upI (bs S.2 (S.1 3) (S.1 4) nn S.1) 1 3 0) 1 4 0 o = S.1 o := fun o ho => by rw [hS1 o (by omega), bs_out (by omega)]
  refine ⟨1, (am_upI (am_upI (bs S.2 (S.1 3) (S.1 4) nn S.1) 1 3 0) 1 4 0, S.2), ?_, hhi, ?_⟩
  · rw [hcl, b2_at, if_neg (by decide)]
  generalize hI : am_upI (am_upI (bs S.2 (S.1 3) (S.1 4) nn S.1) 1 3 0) 1 4 0 = I at hS1 hhi
  have hb1 : bools I := by
    unfold bools
    rw [hhi 116 (by omega), hhi 122 (by omega), hhi 124 (by omega)]
    exact hb
  refine ⟨(am_upI (cpQ I (hl 29)) 95 29 0, S.2), ?_, ?_⟩
  · dsimp only
    rw [if_neg (show ¬ I 95 29 = 0 by rw [hhi 95 (by omega), h29, h14]; decide), kb_all hF hb1]
    rfl
  have hlow : ∀ o, o ≤ 94 → am_upI (cpQ I (hl 29)) 95 29 0 o = I o := fun o ho => by rw [am_upI_ne (by omega), cpQ_bool (by rw [hl_29]; simp only [List.mem_cons, List.not_mem_nil, or_false]; omega)]
  have hmv : mv (am_upI (cpQ I (hl 29)) 95 29 0) = mw S.1 := by
    funext k j
    unfold mv mw
    by_cases hj : j < hf k
    · have hm : k ∈ hl 29 := Classical.byContradiction fun z => by rw [hf_out z] at hj; omega
      have hk := hf_in (k := k) (by omega)
      rw [if_pos hj, if_pos hj, am_upI_ne (by omega)]
      unfold cpQ
      rw [if_pos ⟨hm, hj⟩, hhi k (by omega)]
    · rw [if_neg hj, if_neg hj]
  have hmw : mw (am_upI (cpQ I (hl 29)) 95 29 0) = mw S.1 := by
    funext k j
    unfold mw
    by_cases hj : j < hf k
    · have hk := hf_in (k := k) (by omega)
      rw [if_pos hj, if_pos hj, am_upI_ne (by omega)]
      unfold cpQ
      rw [if_neg (by omega), hhi k (by omega)]
    · rw [if_neg hj, if_neg hj]
  have h1 : I 1 4 = 0 := by
    rw [← hI, am_upI_at, pk_us]
  refine ⟨⟨nj, nf, ns, ng, nb, ?_⟩, ?_, ?_, Or.inl ?_, ?_, fun q => ?_⟩
  · show Cur (am_upI (cpQ I (hl 29)) 95 29 0) (mv (am_upI (cpQ I (hl 29)) 95 29 0)) _ _ _ _ _
    rw [hmv]
    refine Cur_congr (fun o ho => ?_) hC
    rw [hlow o (by omega), hS1 o (by omega), a5 o ho]
  · obtain ⟨d1, d2, d3, d4, d5, d6, ⟨tc, d7, d8, d9⟩, d10⟩ := hT
    have e5 : am_upI (cpQ I (hl 29)) 95 29 0 5 = S.1 5 := by rw [hlow 5 (by omega), hS1 5 (by omega), bs_out (by omega)]
    have e6 : am_upI (cpQ I (hl 29)) 95 29 0 6 = S.1 6 := by rw [hlow 6 (by omega), hS1 6 (by omega), bs_out (by omega)]
    have e95 : ∀ j, j ≠ 29 → am_upI (cpQ I (hl 29)) 95 29 0 95 j = S.1 95 j := fun j hj => by rw [am_upI_at, pk_un hj, cpQ_bool (by rw [hl_29]; decide), hhi 95 (by omega)]
    have e125 : am_upI (cpQ I (hl 29)) 95 29 0 125 = S.1 125 := by rw [am_upI_ne (by omega), cpQ_bool (by rw [hl_29]; decide), hhi 125 (by omega)]
    show Tal (am_upI (cpQ I (hl 29)) 95 29 0) (t + 1)
    unfold Tal
    rw [e5, e6, e125, e95 30 (by omega), e95 31 (by omega), e95 32 (by omega), e95 33 (by omega), e95 34 (by omega), e95 35 (by omega), e95 36 (by omega)]
    exact ⟨d1, d2, d3, d4, d5, d6, ⟨tc, by omega, d8, d9⟩, d10⟩
  · have key : ∀ K j, j < hf K + hf K → am_upI (cpQ I (hl 29)) 95 29 0 K j = S.1 K (if j < hf K then hf K + j else j) := by
      intro K j hj
      by_cases q : j < hf K
      · have := congrFun (congrFun hmv K) j
        unfold mv mw at this
        rw [if_pos q, if_pos q] at this
        rw [if_pos q, this]
      · have := congrFun (congrFun hmw K) (j - hf K)
        unfold mw at this
        rw [if_pos (by omega), if_pos (by omega), show hf K + (j - hf K) = j by omega] at this
        rw [if_neg q, this]
    obtain ⟨b1, b2, b3⟩ := hb
    refine ⟨fun j hj => ?_, fun j hj => ?_, fun j hj => ?_⟩
    · show am_upI (cpQ I (hl 29)) 95 29 0 116 j = 0 ∨ am_upI (cpQ I (hl 29)) 95 29 0 116 j = 1
      rw [key 116 j hj]
      exact b1 _ (by show (if j < 128 then 128 + j else j) < 256; split <;> omega)
    · show am_upI (cpQ I (hl 29)) 95 29 0 122 j = 0 ∨ am_upI (cpQ I (hl 29)) 95 29 0 122 j = 1
      rw [key 122 j hj]
      exact b2 _ (by show (if j < 4 then 4 + j else j) < 8; split <;> omega)
    · show am_upI (cpQ I (hl 29)) 95 29 0 124 j = 0 ∨ am_upI (cpQ I (hl 29)) 95 29 0 124 j = 1
      rw [key 124 j hj]
      exact b3 _ (by show (if j < 5 then 5 + j else j) < 10; split <;> omega)
  · show am_upI (cpQ I (hl 29)) 95 29 0 1 4 = 0
    rw [hlow 1 (by omega), h1]
  · show am_upI (cpQ I (hl 29)) 95 29 0 95 29 = am_upI (cpQ I (hl 29)) 95 29 0 1 4
    rw [hlow 1 (by omega), h1, am_upI_at, pk_us]
  · have q' : am_upI (cpQ I (hl 29)) 95 29 0 1 4 = 1 := q
    rw [hlow 1 (by omega), h1] at q'
    exact absurd q' (by decide)
