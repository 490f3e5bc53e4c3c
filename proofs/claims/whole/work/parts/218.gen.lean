/-! printed by wip/gen/gen20.py -/
-- X10_lay
def f264 (F : Nat) (x1 : Int32) (x2 : Int32) (x3 : Int32) (S : AmT) : Option (Int32 × AmT) := am_b2 (f202 F S) fun v1 S2 => if v1 = 0 then (am_b2 (f249 F x1 S2) fun v4 S5 => if v4 = 0 then (some ((-2), S5)) else (am_b2 (f224 F x2 S5) fun v7 S8 => if v7 = 0 then (some ((-2), S8)) else (am_b2 (f197 F x3 1 24 S8) fun v10 S11 => if v10 = 0 then (some ((-1), S11)) else ((f201 F S11).bind fun S13 => am_lt ((am_upI S13.1 95 47 0, S13.2) : AmT) fun S14 => am_b2 (f260 F x1 x2 S14) fun v15 S16 => if v15 ≤ 0 then (am_b2 (f262 F x3 S16) fun v18 S19 => some (v18, S19)) else (am_b2 (f203 F v15 S16) fun v20 S21 => some (v20, S21)))))) else (some ((-4), S2))
set_option maxHeartbeats 1000000 in
set_option maxRecDepth 20000 in
theorem r264 {Lg : Nat} {xs : Nat → Int32} {d F : Nat} {x1 : Int32} {x2 : Int32} {x3 : Int32} {S : AmT} {q : Int32 × AmT} (hd : 6 ≤ d) (H : f264 F x1 x2 x3 S = some q) : Ex (am_X Lg xs) d 264 (am_P 264) (am_ini (am_Mi 264).1 [.ref 95, .int x1, .int x2, .int x3]) [] (hS S) (some q.1, hS q.2) := by
  obtain ⟨d, rfl⟩ : ∃ d2, d = d2 + 1 := ⟨d - 1, by omega⟩
  unfold f264 at H
  show Ex (am_X Lg xs) _ 264 am_c264_0 [.ref 95, .int x1, .int x2, .int x3, .long 0] [] (hS S) (some q.1, hS q.2)
  refine ex_aload_n rfl ?_
  obtain ⟨v1, S2, hp, H⟩ := am_b2_el H
  refine ex_callV rfl rfl (Nat.le_of_ble_eq_true rfl) (Nat.le_of_ble_eq_true rfl) rfl (r202 (by omega) hp) rfl ?_
  by_cases h3 : v1 = 0
  · rw [if_pos h3] at H
    refine ex_if_eq_j (ct := am_c264_10) h3 rfl ?_
    refine ex_aload_n rfl ?_
    refine ex_iload_n rfl ?_
    obtain ⟨v4, S5, hp, H⟩ := am_b2_el H
    refine ex_callV rfl rfl (Nat.le_of_ble_eq_true rfl) (Nat.le_of_ble_eq_true rfl) rfl (r249 (by omega) hp) rfl ?_
    by_cases h6 : v4 = 0
    · rw [if_pos h6] at H
      refine ex_if_eq_j (ct := am_c264_26) h6 rfl ?_
      refine ex_bipush (v := (-2)) (by decide) ?_
      have H := Option.some.inj H
      subst H
      exact ex_iret (M := 264) (Or.inl rfl)
    · rw [if_neg h6] at H
      refine ex_if_eq_f h6 ?_
      refine ex_aload_n rfl ?_
      refine ex_iload_n rfl ?_
      obtain ⟨v7, S8, hp, H⟩ := am_b2_el H
      refine ex_callV rfl rfl (Nat.le_of_ble_eq_true rfl) (Nat.le_of_ble_eq_true rfl) rfl (r224 (by omega) hp) rfl ?_
      by_cases h9 : v7 = 0
      · rw [if_pos h9] at H
        refine ex_if_ne_f h9 ?_
        refine ex_bipush (v := (-2)) (by decide) ?_
        have H := Option.some.inj H
        subst H
        exact ex_iret (M := 264) (Or.inl rfl)
      · rw [if_neg h9] at H
        refine ex_if_ne_j (ct := am_c264_29) h9 rfl ?_
        refine ex_iload_n rfl ?_
        refine ex_iconst (v := 1) (by decide) ?_
        refine ex_bipush (v := 24) (by decide) ?_
        obtain ⟨v10, S11, hp, H⟩ := am_b2_el H
        refine ex_callS rfl rfl (Nat.le_of_ble_eq_true rfl) (Nat.le_of_ble_eq_true rfl) (r197 (by omega) hp) rfl ?_
        by_cases h12 : v10 = 0
        · rw [if_pos h12] at H
          refine ex_if_ne_f h12 ?_
          refine ex_iconst (v := (-1)) (by decide) ?_
          have H := Option.some.inj H
          subst H
          exact ex_iret (M := 264) (Or.inl rfl)
        · rw [if_neg h12] at H
          refine ex_if_ne_j (ct := am_c264_41) h12 rfl ?_
          refine ex_aload_n rfl ?_
          obtain ⟨S13, hp, H⟩ := Option.bind_eq_some_iff.mp H
          refine ex_callV rfl rfl (Nat.le_of_ble_eq_true rfl) (Nat.le_of_ble_eq_true rfl) rfl (r201 (by omega) hp) rfl ?_
          refine ex_aload_n rfl ?_
          refine ex_iconst (v := 0) (by decide) ?_
          refine ex_putI rfl (by decide) (fun z => absurd z.1 (by decide)) ?_
          generalize ((am_upI S13.1 95 47 0, S13.2) : AmT) = S14 at H ⊢
          have H := am_lt_el H
          refine ex_aload_n rfl ?_
          refine ex_iload_n rfl ?_
          refine ex_iload_n rfl ?_
          obtain ⟨v15, S16, hp, H⟩ := am_b2_el H
          refine ex_callV rfl rfl (Nat.le_of_ble_eq_true rfl) (Nat.le_of_ble_eq_true rfl) rfl (r260 (by omega) hp) rfl ?_
          refine ex_istore (L2 := [.ref 95, .int x1, .int x2, .int x3, .int v15]) (Nat.le_of_ble_eq_true rfl) rfl ?_
          refine ex_iload rfl ?_
          by_cases h17 : v15 ≤ 0
          · rw [if_pos h17] at H
            refine ex_if_le_j (ct := am_c264_72) h17 rfl ?_
            refine ex_aload_n rfl ?_
            refine ex_iload_n rfl ?_
            obtain ⟨v18, S19, hp, H⟩ := am_b2_el H
            refine ex_callV rfl rfl (Nat.le_of_ble_eq_true rfl) (Nat.le_of_ble_eq_true rfl) rfl (r262 (by omega) hp) rfl ?_
            have H := Option.some.inj H
            subst H
            exact ex_iret (M := 264) (Or.inl rfl)
          · rw [if_neg h17] at H
            refine ex_if_le_f h17 ?_
            refine ex_aload_n rfl ?_
            refine ex_iload rfl ?_
            obtain ⟨v20, S21, hp, H⟩ := am_b2_el H
            refine ex_callV rfl rfl (Nat.le_of_ble_eq_true rfl) (Nat.le_of_ble_eq_true rfl) rfl (r203 (by omega) hp) rfl ?_
            refine ex_goto (ct := am_c264_77) rfl ?_
            have H := Option.some.inj H
            subst H
            exact ex_iret (M := 264) (Or.inl rfl)
  · rw [if_neg h3] at H
    refine ex_if_eq_f h3 ?_
    refine ex_bipush (v := (-4)) (by decide) ?_
    have H := Option.some.inj H
    subst H
    exact ex_iret (M := 264) (Or.inl rfl)
-- X10_read
def f265 (F : Nat) (x1 : Int32) (x2 : Int32) (x3 : Int32) (S : AmT) : Option (Int32 × AmT) := am_b2 (f249 F x1 S) fun v1 S2 => if v1 = 0 then (some ((-2), S2)) else (am_b2 (f224 F x2 S2) fun v4 S5 => if v4 = 0 then (some ((-2), S5)) else (am_lt ((am_upI S5.1 95 47 0, S5.2) : AmT) fun S7 => am_b2 (f260 F x1 x2 S7) fun v8 S9 => if v8 ≤ 0 then (am_b2 (f263 F x3 S9) fun v11 S12 => some (v11, S12)) else (am_b2 (f203 F v8 S9) fun v13 S14 => some (v13, S14))))
set_option maxHeartbeats 1000000 in
set_option maxRecDepth 20000 in
theorem r265 {Lg : Nat} {xs : Nat → Int32} {d F : Nat} {x1 : Int32} {x2 : Int32} {x3 : Int32} {S : AmT} {q : Int32 × AmT} (hd : 6 ≤ d) (H : f265 F x1 x2 x3 S = some q) : Ex (am_X Lg xs) d 265 (am_P 265) (am_ini (am_Mi 265).1 [.ref 95, .int x1, .int x2, .int x3]) [] (hS S) (some q.1, hS q.2) := by
  obtain ⟨d, rfl⟩ : ∃ d2, d = d2 + 1 := ⟨d - 1, by omega⟩
  unfold f265 at H
  show Ex (am_X Lg xs) _ 265 am_c265_0 [.ref 95, .int x1, .int x2, .int x3, .long 0] [] (hS S) (some q.1, hS q.2)
  refine ex_aload_n rfl ?_
  refine ex_iload_n rfl ?_
  obtain ⟨v1, S2, hp, H⟩ := am_b2_el H
  refine ex_callV rfl rfl (Nat.le_of_ble_eq_true rfl) (Nat.le_of_ble_eq_true rfl) rfl (r249 (by omega) hp) rfl ?_
  by_cases h3 : v1 = 0
  · rw [if_pos h3] at H
    refine ex_if_eq_j (ct := am_c265_16) h3 rfl ?_
    refine ex_bipush (v := (-2)) (by decide) ?_
    have H := Option.some.inj H
    subst H
    exact ex_iret (M := 265) (Or.inl rfl)
  · rw [if_neg h3] at H
    refine ex_if_eq_f h3 ?_
    refine ex_aload_n rfl ?_
    refine ex_iload_n rfl ?_
    obtain ⟨v4, S5, hp, H⟩ := am_b2_el H
    refine ex_callV rfl rfl (Nat.le_of_ble_eq_true rfl) (Nat.le_of_ble_eq_true rfl) rfl (r224 (by omega) hp) rfl ?_
    by_cases h6 : v4 = 0
    · rw [if_pos h6] at H
      refine ex_if_ne_f h6 ?_
      refine ex_bipush (v := (-2)) (by decide) ?_
      have H := Option.some.inj H
      subst H
      exact ex_iret (M := 265) (Or.inl rfl)
    · rw [if_neg h6] at H
      refine ex_if_ne_j (ct := am_c265_19) h6 rfl ?_
      refine ex_aload_n rfl ?_
      refine ex_iconst (v := 0) (by decide) ?_
      refine ex_putI rfl (by decide) (fun z => absurd z.1 (by decide)) ?_
      generalize ((am_upI S5.1 95 47 0, S5.2) : AmT) = S7 at H ⊢
      have H := am_lt_el H
      refine ex_aload_n rfl ?_
      refine ex_iload_n rfl ?_
      refine ex_iload_n rfl ?_
      obtain ⟨v8, S9, hp, H⟩ := am_b2_el H
      refine ex_callV rfl rfl (Nat.le_of_ble_eq_true rfl) (Nat.le_of_ble_eq_true rfl) rfl (r260 (by omega) hp) rfl ?_
      refine ex_istore (L2 := [.ref 95, .int x1, .int x2, .int x3, .int v8]) (Nat.le_of_ble_eq_true rfl) rfl ?_
      refine ex_iload rfl ?_
      by_cases h10 : v8 ≤ 0
      · rw [if_pos h10] at H
        refine ex_if_le_j (ct := am_c265_46) h10 rfl ?_
        refine ex_aload_n rfl ?_
        refine ex_iload_n rfl ?_
        obtain ⟨v11, S12, hp, H⟩ := am_b2_el H
        refine ex_callV rfl rfl (Nat.le_of_ble_eq_true rfl) (Nat.le_of_ble_eq_true rfl) rfl (r263 (by omega) hp) rfl ?_
        have H := Option.some.inj H
        subst H
        exact ex_iret (M := 265) (Or.inl rfl)
      · rw [if_neg h10] at H
        refine ex_if_le_f h10 ?_
        refine ex_aload_n rfl ?_
        refine ex_iload rfl ?_
        obtain ⟨v13, S14, hp, H⟩ := am_b2_el H
        refine ex_callV rfl rfl (Nat.le_of_ble_eq_true rfl) (Nat.le_of_ble_eq_true rfl) rfl (r203 (by omega) hp) rfl ?_
        refine ex_goto (ct := am_c265_51) rfl ?_
        have H := Option.some.inj H
        subst H
        exact ex_iret (M := 265) (Or.inl rfl)
-- X10_bind
def f271 (F : Nat) (x1 : Int32) (x2 : Int32) (x3 : Int32) (S : AmT) : Option (Int32 × AmT) := am_b2 (f202 F S) fun v1 S2 => if v1 = 0 then (am_b2 (f268 F x1 S2) fun v4 S5 => if v4 = 0 then (some ((-2), S5)) else (am_b2 (f224 F x2 S5) fun v7 S8 => if v7 = 0 then (some ((-2), S8)) else (am_b2 (f197 F x3 1 24 S8) fun v10 S11 => if v10 = 0 then (some ((-1), S11)) else ((f201 F S11).bind fun S13 => am_lt ((am_upI S13.1 95 47 0, S13.2) : AmT) fun S14 => am_b2 (f261 F x1 x2 S14) fun v15 S16 => if v15 ≤ 0 then (am_b2 (f262 F x3 S16) fun v18 S19 => some (v18, S19)) else (am_b2 (f203 F v15 S16) fun v20 S21 => some (v20, S21)))))) else (some ((-4), S2))
set_option maxHeartbeats 1000000 in
set_option maxRecDepth 20000 in
theorem r271 {Lg : Nat} {xs : Nat → Int32} {d F : Nat} {x1 : Int32} {x2 : Int32} {x3 : Int32} {S : AmT} {q : Int32 × AmT} (hd : 6 ≤ d) (H : f271 F x1 x2 x3 S = some q) : Ex (am_X Lg xs) d 271 (am_P 271) (am_ini (am_Mi 271).1 [.ref 95, .int x1, .int x2, .int x3]) [] (hS S) (some q.1, hS q.2) := by
  obtain ⟨d, rfl⟩ : ∃ d2, d = d2 + 1 := ⟨d - 1, by omega⟩
  unfold f271 at H
  show Ex (am_X Lg xs) _ 271 am_c271_0 [.ref 95, .int x1, .int x2, .int x3, .long 0] [] (hS S) (some q.1, hS q.2)
  refine ex_aload_n rfl ?_
  obtain ⟨v1, S2, hp, H⟩ := am_b2_el H
  refine ex_callV rfl rfl (Nat.le_of_ble_eq_true rfl) (Nat.le_of_ble_eq_true rfl) rfl (r202 (by omega) hp) rfl ?_
  by_cases h3 : v1 = 0
  · rw [if_pos h3] at H
    refine ex_if_eq_j (ct := am_c271_10) h3 rfl ?_
    refine ex_aload_n rfl ?_
    refine ex_iload_n rfl ?_
    obtain ⟨v4, S5, hp, H⟩ := am_b2_el H
    refine ex_callV rfl rfl (Nat.le_of_ble_eq_true rfl) (Nat.le_of_ble_eq_true rfl) rfl (r268 (by omega) hp) rfl ?_
    by_cases h6 : v4 = 0
    · rw [if_pos h6] at H
      refine ex_if_eq_j (ct := am_c271_26) h6 rfl ?_
      refine ex_bipush (v := (-2)) (by decide) ?_
      have H := Option.some.inj H
      subst H
      exact ex_iret (M := 271) (Or.inl rfl)
    · rw [if_neg h6] at H
      refine ex_if_eq_f h6 ?_
      refine ex_aload_n rfl ?_
      refine ex_iload_n rfl ?_
      obtain ⟨v7, S8, hp, H⟩ := am_b2_el H
      refine ex_callV rfl rfl (Nat.le_of_ble_eq_true rfl) (Nat.le_of_ble_eq_true rfl) rfl (r224 (by omega) hp) rfl ?_
      by_cases h9 : v7 = 0
      · rw [if_pos h9] at H
        refine ex_if_ne_f h9 ?_
        refine ex_bipush (v := (-2)) (by decide) ?_
        have H := Option.some.inj H
        subst H
        exact ex_iret (M := 271) (Or.inl rfl)
      · rw [if_neg h9] at H
        refine ex_if_ne_j (ct := am_c271_29) h9 rfl ?_
        refine ex_iload_n rfl ?_
        refine ex_iconst (v := 1) (by decide) ?_
        refine ex_bipush (v := 24) (by decide) ?_
        obtain ⟨v10, S11, hp, H⟩ := am_b2_el H
        refine ex_callS rfl rfl (Nat.le_of_ble_eq_true rfl) (Nat.le_of_ble_eq_true rfl) (r197 (by omega) hp) rfl ?_
        by_cases h12 : v10 = 0
        · rw [if_pos h12] at H
          refine ex_if_ne_f h12 ?_
          refine ex_iconst (v := (-1)) (by decide) ?_
          have H := Option.some.inj H
          subst H
          exact ex_iret (M := 271) (Or.inl rfl)
        · rw [if_neg h12] at H
          refine ex_if_ne_j (ct := am_c271_41) h12 rfl ?_
          refine ex_aload_n rfl ?_
          obtain ⟨S13, hp, H⟩ := Option.bind_eq_some_iff.mp H
          refine ex_callV rfl rfl (Nat.le_of_ble_eq_true rfl) (Nat.le_of_ble_eq_true rfl) rfl (r201 (by omega) hp) rfl ?_
          refine ex_aload_n rfl ?_
          refine ex_iconst (v := 0) (by decide) ?_
          refine ex_putI rfl (by decide) (fun z => absurd z.1 (by decide)) ?_
          generalize ((am_upI S13.1 95 47 0, S13.2) : AmT) = S14 at H ⊢
          have H := am_lt_el H
          refine ex_aload_n rfl ?_
          refine ex_iload_n rfl ?_
          refine ex_iload_n rfl ?_
          obtain ⟨v15, S16, hp, H⟩ := am_b2_el H
          refine ex_callV rfl rfl (Nat.le_of_ble_eq_true rfl) (Nat.le_of_ble_eq_true rfl) rfl (r261 (by omega) hp) rfl ?_
          refine ex_istore (L2 := [.ref 95, .int x1, .int x2, .int x3, .int v15]) (Nat.le_of_ble_eq_true rfl) rfl ?_
          refine ex_iload rfl ?_
          by_cases h17 : v15 ≤ 0
          · rw [if_pos h17] at H
            refine ex_if_le_j (ct := am_c271_72) h17 rfl ?_
            refine ex_aload_n rfl ?_
            refine ex_iload_n rfl ?_
            obtain ⟨v18, S19, hp, H⟩ := am_b2_el H
            refine ex_callV rfl rfl (Nat.le_of_ble_eq_true rfl) (Nat.le_of_ble_eq_true rfl) rfl (r262 (by omega) hp) rfl ?_
            have H := Option.some.inj H
            subst H
            exact ex_iret (M := 271) (Or.inl rfl)
          · rw [if_neg h17] at H
            refine ex_if_le_f h17 ?_
            refine ex_aload_n rfl ?_
            refine ex_iload rfl ?_
            obtain ⟨v20, S21, hp, H⟩ := am_b2_el H
            refine ex_callV rfl rfl (Nat.le_of_ble_eq_true rfl) (Nat.le_of_ble_eq_true rfl) rfl (r203 (by omega) hp) rfl ?_
            refine ex_goto (ct := am_c271_77) rfl ?_
            have H := Option.some.inj H
            subst H
            exact ex_iret (M := 271) (Or.inl rfl)
  · rw [if_neg h3] at H
    refine ex_if_eq_f h3 ?_
    refine ex_bipush (v := (-4)) (by decide) ?_
    have H := Option.some.inj H
    subst H
    exact ex_iret (M := 271) (Or.inl rfl)
def g272_73 (F : Nat) (x3 : Int32) (x4 : Int32) (s0 : Int32) (S : AmT) : Option (Int32 × AmT) := if s0 ≤ 0 then (if x4 = 0 then (am_ck x3 2048 (some ((S.1 129 x3.toNatClampNeg), S))) else (am_ck x3 2048 (some ((S.1 130 x3.toNatClampNeg), S)))) else (am_b2 (f203 F s0 S) fun v19 S20 => some (v19, S20))
-- X10_leaf
def f272 (F : Nat) (x1 : Int32) (x2 : Int32) (x3 : Int32) (x4 : Int32) (S : AmT) : Option (Int32 × AmT) := am_b2 (f268 F x1 S) fun v1 S2 => if v1 = 0 then (some ((-2), S2)) else (am_b2 (f224 F x2 S2) fun v4 S5 => if v4 = 0 then (some ((-2), S5)) else (am_b2 (f197 F x4 0 1 S5) fun v7 S8 => if v7 = 0 then (some ((-1), S8)) else (am_lt ((am_upI S8.1 95 47 0, S8.2) : AmT) fun S10 => am_b2 (f261 F x1 x2 S10) fun v11 S12 => if v11 ≤ 0 then (am_b2 (f197 F x3 0 ((S12.1 95 47) - 1) S12) fun v14 S15 => if v14 = 0 then (g272_73 F x3 x4 2 S15) else (g272_73 F x3 x4 0 S15)) else (g272_73 F x3 x4 v11 S12))))
set_option maxHeartbeats 1000000 in
set_option maxRecDepth 20000 in
theorem e272_73 {Lg : Nat} {xs : Nat → Int32} {d F : Nat} {x3 : Int32} {x4 : Int32} {s0 : Int32} {w1 : Value} {w2 : Value} {w5 : Value} {S : AmT} {q : Int32 × AmT} (hd : 6 ≤ d) (H : g272_73 F x3 x4 s0 S = some q) : Ex (am_X Lg xs) d 272 am_c272_73 [.ref 95, w1, w2, .int x3, .int x4, w5] [.int s0] (hS S) (some q.1, hS q.2) := by
  obtain ⟨d, rfl⟩ : ∃ d2, d = d2 + 1 := ⟨d - 1, by omega⟩
  unfold g272_73 at H
  refine ex_istore (L2 := [.ref 95, w1, w2, .int x3, .int x4, .int s0]) (Nat.le_of_ble_eq_true rfl) rfl ?_
  refine ex_iload rfl ?_
  by_cases h17 : s0 ≤ 0
  · rw [if_pos h17] at H
    refine ex_if_le_j (ct := am_c272_89) h17 rfl ?_
    refine ex_iload rfl ?_
    by_cases h18 : x4 = 0
    · rw [if_pos h18] at H
      refine ex_if_ne_f h18 ?_
      refine ex_aload_n rfl ?_
      refine ex_getR (w := 129) rfl rfl rfl ?_
      refine ex_iload_n rfl ?_
      obtain ⟨hj, H⟩ := am_ck_el H
      refine ex_iald (k := 2048) (v := S.1 129 x3.toNatClampNeg) rfl hj rfl ?_
      refine ex_goto (ct := am_c272_109) rfl ?_
      have H := Option.some.inj H
      subst H
      exact ex_iret (M := 272) (Or.inl rfl)
    · rw [if_neg h18] at H
      refine ex_if_ne_j (ct := am_c272_103) h18 rfl ?_
      refine ex_aload_n rfl ?_
      refine ex_getR (w := 130) rfl rfl rfl ?_
      refine ex_iload_n rfl ?_
      obtain ⟨hj, H⟩ := am_ck_el H
      refine ex_iald (k := 2048) (v := S.1 130 x3.toNatClampNeg) rfl hj rfl ?_
      have H := Option.some.inj H
      subst H
      exact ex_iret (M := 272) (Or.inl rfl)
  · rw [if_neg h17] at H
    refine ex_if_le_f h17 ?_
    refine ex_aload_n rfl ?_
    refine ex_iload rfl ?_
    obtain ⟨v19, S20, hp, H⟩ := am_b2_el H
    refine ex_callV rfl rfl (Nat.le_of_ble_eq_true rfl) (Nat.le_of_ble_eq_true rfl) rfl (r203 (by omega) hp) rfl ?_
    refine ex_goto (ct := am_c272_109) rfl ?_
    have H := Option.some.inj H
    subst H
    exact ex_iret (M := 272) (Or.inl rfl)
set_option maxHeartbeats 1000000 in
set_option maxRecDepth 20000 in
theorem r272 {Lg : Nat} {xs : Nat → Int32} {d F : Nat} {x1 : Int32} {x2 : Int32} {x3 : Int32} {x4 : Int32} {S : AmT} {q : Int32 × AmT} (hd : 6 ≤ d) (H : f272 F x1 x2 x3 x4 S = some q) : Ex (am_X Lg xs) d 272 (am_P 272) (am_ini (am_Mi 272).1 [.ref 95, .int x1, .int x2, .int x3, .int x4]) [] (hS S) (some q.1, hS q.2) := by
  obtain ⟨d, rfl⟩ : ∃ d2, d = d2 + 1 := ⟨d - 1, by omega⟩
  unfold f272 at H
  show Ex (am_X Lg xs) _ 272 am_c272_0 [.ref 95, .int x1, .int x2, .int x3, .int x4, .long 0] [] (hS S) (some q.1, hS q.2)
  refine ex_aload_n rfl ?_
  refine ex_iload_n rfl ?_
  obtain ⟨v1, S2, hp, H⟩ := am_b2_el H
  refine ex_callV rfl rfl (Nat.le_of_ble_eq_true rfl) (Nat.le_of_ble_eq_true rfl) rfl (r268 (by omega) hp) rfl ?_
  by_cases h3 : v1 = 0
  · rw [if_pos h3] at H
    refine ex_if_eq_j (ct := am_c272_16) h3 rfl ?_
    refine ex_bipush (v := (-2)) (by decide) ?_
    have H := Option.some.inj H
    subst H
    exact ex_iret (M := 272) (Or.inl rfl)
  · rw [if_neg h3] at H
    refine ex_if_eq_f h3 ?_
    refine ex_aload_n rfl ?_
    refine ex_iload_n rfl ?_
    obtain ⟨v4, S5, hp, H⟩ := am_b2_el H
    refine ex_callV rfl rfl (Nat.le_of_ble_eq_true rfl) (Nat.le_of_ble_eq_true rfl) rfl (r224 (by omega) hp) rfl ?_
    by_cases h6 : v4 = 0
    · rw [if_pos h6] at H
      refine ex_if_ne_f h6 ?_
      refine ex_bipush (v := (-2)) (by decide) ?_
      have H := Option.some.inj H
      subst H
      exact ex_iret (M := 272) (Or.inl rfl)
    · rw [if_neg h6] at H
      refine ex_if_ne_j (ct := am_c272_19) h6 rfl ?_
      refine ex_iload rfl ?_
      refine ex_iconst (v := 0) (by decide) ?_
      refine ex_iconst (v := 1) (by decide) ?_
      obtain ⟨v7, S8, hp, H⟩ := am_b2_el H
      refine ex_callS rfl rfl (Nat.le_of_ble_eq_true rfl) (Nat.le_of_ble_eq_true rfl) (r197 (by omega) hp) rfl ?_
      by_cases h9 : v7 = 0
      · rw [if_pos h9] at H
        refine ex_if_ne_f h9 ?_
        refine ex_iconst (v := (-1)) (by decide) ?_
        have H := Option.some.inj H
        subst H
        exact ex_iret (M := 272) (Or.inl rfl)
      · rw [if_neg h9] at H
        refine ex_if_ne_j (ct := am_c272_31) h9 rfl ?_
        refine ex_aload_n rfl ?_
        refine ex_iconst (v := 0) (by decide) ?_
        refine ex_putI rfl (by decide) (fun z => absurd z.1 (by decide)) ?_
        generalize ((am_upI S8.1 95 47 0, S8.2) : AmT) = S10 at H ⊢
        have H := am_lt_el H
        refine ex_aload_n rfl ?_
        refine ex_iload_n rfl ?_
        refine ex_iload_n rfl ?_
        obtain ⟨v11, S12, hp, H⟩ := am_b2_el H
        refine ex_callV rfl rfl (Nat.le_of_ble_eq_true rfl) (Nat.le_of_ble_eq_true rfl) rfl (r261 (by omega) hp) rfl ?_
        refine ex_istore (L2 := [.ref 95, .int x1, .int x2, .int x3, .int x4, .int v11]) (Nat.le_of_ble_eq_true rfl) rfl ?_
        refine ex_iload rfl ?_
        by_cases h13 : v11 ≤ 0
        · rw [if_pos h13] at H
          refine ex_if_le_j (ct := am_c272_54) h13 rfl ?_
          refine ex_iload_n rfl ?_
          refine ex_iconst (v := 0) (by decide) ?_
          refine ex_aload_n rfl ?_
          refine ex_gI rfl (by decide) ?_
          refine ex_iconst (v := 1) (by decide) ?_
          refine ex_isub ?_
          obtain ⟨v14, S15, hp, H⟩ := am_b2_el H
          refine ex_callS rfl rfl (Nat.le_of_ble_eq_true rfl) (Nat.le_of_ble_eq_true rfl) (r197 (by omega) hp) rfl ?_
          by_cases h16 : v14 = 0
          · rw [if_pos h16] at H
            refine ex_if_eq_j (ct := am_c272_72) h16 rfl ?_
            refine ex_iconst (v := 2) (by decide) ?_
            exact e272_73 hd H
          · rw [if_neg h16] at H
            refine ex_if_eq_f h16 ?_
            refine ex_iconst (v := 0) (by decide) ?_
            refine ex_goto (ct := am_c272_73) rfl ?_
            exact e272_73 hd H
        · rw [if_neg h13] at H
          refine ex_if_le_f h13 ?_
          refine ex_iload rfl ?_
          refine ex_goto (ct := am_c272_73) rfl ?_
          exact e272_73 hd H
def g276_18 (F : Nat) : Nat → Int32 → Int32 → Int32 → AmT → Option (Int32 × AmT)
  | 0, _, _, _, _ => none
  | n + 1, x1, x2, x3, S => if (S.1 96 4) ≤ x3 then (am_b2 (f263 F x2 S) fun v6 S7 => some (v6, S7)) else (am_ck x3 8 (am_b2 (f261 F (S.1 123 x3.toNatClampNeg) x1 S) fun v8 S9 => if v8 ≤ 0 then (g276_18 F n x1 x2 (x3 + 1) S9) else (am_b2 (f203 F v8 S9) fun v11 S12 => some (v11, S12))))
-- X10_pageAt
def f276 (F : Nat) (x1 : Int32) (x2 : Int32) (S : AmT) : Option (Int32 × AmT) := am_b2 (f224 F x1 S) fun v1 S2 => if v1 = 0 then (some ((-2), S2)) else (am_lt ((am_upI S2.1 95 47 0, S2.2) : AmT) fun S4 => g276_18 F F x1 x2 0 S4)
set_option maxHeartbeats 1000000 in
set_option maxRecDepth 20000 in
theorem e276_18 {Lg : Nat} {xs : Nat → Int32} {d F : Nat} (hd : 6 ≤ d) : ∀ (n : Nat) (x1 : Int32) (x2 : Int32) (x3 : Int32) (w4 : Value) (S : AmT) (q : Int32 × AmT), g276_18 F n x1 x2 x3 S = some q → Ex (am_X Lg xs) d 276 am_c276_18 [.ref 95, .int x1, .int x2, .int x3, w4] [] (hS S) (some q.1, hS q.2) := by
  obtain ⟨d, rfl⟩ : ∃ d2, d = d2 + 1 := ⟨d - 1, by omega⟩
  intro n
  induction n with
  | zero =>
    intro x1 x2 x3 w4 S q H
    cases H
  | succ n ih =>
    intro x1 x2 x3 w4 S q H
    have H : (if (S.1 96 4) ≤ x3 then (am_b2 (f263 F x2 S) fun v6 S7 => some (v6, S7)) else (am_ck x3 8 (am_b2 (f261 F (S.1 123 x3.toNatClampNeg) x1 S) fun v8 S9 => if v8 ≤ 0 then (g276_18 F n x1 x2 (x3 + 1) S9) else (am_b2 (f203 F v8 S9) fun v11 S12 => some (v11, S12))))) = some q := H
    refine ex_iload_n rfl ?_
    refine ex_aload_n rfl ?_
    refine ex_getR (w := 96) rfl rfl rfl ?_
    refine ex_iconst (v := 4) (by decide) ?_
    refine ex_iald (v := S.1 96 4) rfl (by decide) rfl ?_
    by_cases h5 : (S.1 96 4) ≤ x3
    · rw [if_pos h5] at H
      refine ex_icmp_ge_j (ct := am_c276_59) h5 rfl ?_
      refine ex_aload_n rfl ?_
      refine ex_iload_n rfl ?_
      obtain ⟨v6, S7, hp, H⟩ := am_b2_el H
      refine ex_callV rfl rfl (Nat.le_of_ble_eq_true rfl) (Nat.le_of_ble_eq_true rfl) rfl (r263 (by omega) hp) rfl ?_
      have H := Option.some.inj H
      subst H
      exact ex_iret (M := 276) (Or.inl rfl)
    · rw [if_neg h5] at H
      refine ex_icmp_ge_f h5 ?_
      refine ex_aload_n rfl ?_
      refine ex_aload_n rfl ?_
      refine ex_getR (w := 123) rfl rfl rfl ?_
      refine ex_iload_n rfl ?_
      obtain ⟨hj, H⟩ := am_ck_el H
      refine ex_iald (k := 8) (v := S.1 123 x3.toNatClampNeg) rfl hj rfl ?_
      refine ex_iload_n rfl ?_
      obtain ⟨v8, S9, hp, H⟩ := am_b2_el H
      refine ex_callV rfl rfl (Nat.le_of_ble_eq_true rfl) (Nat.le_of_ble_eq_true rfl) rfl (r261 (by omega) hp) rfl ?_
      refine ex_istore (L2 := [.ref 95, .int x1, .int x2, .int x3, .int v8]) (Nat.le_of_ble_eq_true rfl) rfl ?_
      refine ex_iload rfl ?_
      by_cases h10 : v8 ≤ 0
      · rw [if_pos h10] at H
        refine ex_if_le_j (ct := am_c276_53) h10 rfl ?_
        refine ex_iinc (L2 := [.ref 95, .int x1, .int x2, .int (x3 + 1), .int v8]) (v := (x3 + 1)) rfl (Nat.le_of_ble_eq_true rfl) (congrArg (fun z => x3 + z) (by decide)) rfl ?_
        refine ex_goto (ct := am_c276_18) rfl ?_
        exact ih _ _ _ _ _ _ H
      · rw [if_neg h10] at H
        refine ex_if_le_f h10 ?_
        refine ex_aload_n rfl ?_
        refine ex_iload rfl ?_
        obtain ⟨v11, S12, hp, H⟩ := am_b2_el H
        refine ex_callV rfl rfl (Nat.le_of_ble_eq_true rfl) (Nat.le_of_ble_eq_true rfl) rfl (r203 (by omega) hp) rfl ?_
        have H := Option.some.inj H
        subst H
        exact ex_iret (M := 276) (Or.inl rfl)
set_option maxHeartbeats 1000000 in
set_option maxRecDepth 20000 in
theorem r276 {Lg : Nat} {xs : Nat → Int32} {d F : Nat} {x1 : Int32} {x2 : Int32} {S : AmT} {q : Int32 × AmT} (hd : 6 ≤ d) (H : f276 F x1 x2 S = some q) : Ex (am_X Lg xs) d 276 (am_P 276) (am_ini (am_Mi 276).1 [.ref 95, .int x1, .int x2]) [] (hS S) (some q.1, hS q.2) := by
  obtain ⟨d, rfl⟩ : ∃ d2, d = d2 + 1 := ⟨d - 1, by omega⟩
  unfold f276 at H
  show Ex (am_X Lg xs) _ 276 am_c276_0 [.ref 95, .int x1, .int x2, .long 0, .long 0] [] (hS S) (some q.1, hS q.2)
  refine ex_aload_n rfl ?_
  refine ex_iload_n rfl ?_
  obtain ⟨v1, S2, hp, H⟩ := am_b2_el H
  refine ex_callV rfl rfl (Nat.le_of_ble_eq_true rfl) (Nat.le_of_ble_eq_true rfl) rfl (r224 (by omega) hp) rfl ?_
  by_cases h3 : v1 = 0
  · rw [if_pos h3] at H
    refine ex_if_ne_f h3 ?_
    refine ex_bipush (v := (-2)) (by decide) ?_
    have H := Option.some.inj H
    subst H
    exact ex_iret (M := 276) (Or.inl rfl)
  · rw [if_neg h3] at H
    refine ex_if_ne_j (ct := am_c276_11) h3 rfl ?_
    refine ex_aload_n rfl ?_
    refine ex_iconst (v := 0) (by decide) ?_
    refine ex_putI rfl (by decide) (fun z => absurd z.1 (by decide)) ?_
    generalize ((am_upI S2.1 95 47 0, S2.2) : AmT) = S4 at H ⊢
    have H := am_lt_el H
    refine ex_iconst (v := 0) (by decide) ?_
    refine ex_istore_n (L2 := [.ref 95, .int x1, .int x2, .int 0, .long 0]) (Nat.le_of_ble_eq_true rfl) rfl ?_
    exact e276_18 hd _ _ _ _ _ _ _ H
-- X10_wrap
def f277 (F : Nat) (x1 : Int32) (x2 : Int32) (S : AmT) : Option (Int32 × AmT) := am_b2 (f224 F x1 S) fun v1 S2 => if v1 = 0 then (some ((-2), S2)) else (if 0 ≤ (S2.1 96 5) then (am_lt ((am_upI S2.1 95 47 0, S2.2) : AmT) fun S5 => am_b2 (f260 F (S5.1 96 5) x1 S5) fun v6 S7 => if v6 ≤ 0 then (am_b2 (f263 F x2 S7) fun v9 S10 => some (v9, S10)) else (am_b2 (f203 F v6 S7) fun v11 S12 => some (v11, S12))) else (am_b2 (f203 F 1 S2) fun v13 S14 => some (v13, S14)))
set_option maxHeartbeats 1000000 in
set_option maxRecDepth 20000 in
theorem r277 {Lg : Nat} {xs : Nat → Int32} {d F : Nat} {x1 : Int32} {x2 : Int32} {S : AmT} {q : Int32 × AmT} (hd : 6 ≤ d) (H : f277 F x1 x2 S = some q) : Ex (am_X Lg xs) d 277 (am_P 277) (am_ini (am_Mi 277).1 [.ref 95, .int x1, .int x2]) [] (hS S) (some q.1, hS q.2) := by
  obtain ⟨d, rfl⟩ : ∃ d2, d = d2 + 1 := ⟨d - 1, by omega⟩
  unfold f277 at H
  show Ex (am_X Lg xs) _ 277 am_c277_0 [.ref 95, .int x1, .int x2, .long 0] [] (hS S) (some q.1, hS q.2)
  refine ex_aload_n rfl ?_
  refine ex_iload_n rfl ?_
  obtain ⟨v1, S2, hp, H⟩ := am_b2_el H
  refine ex_callV rfl rfl (Nat.le_of_ble_eq_true rfl) (Nat.le_of_ble_eq_true rfl) rfl (r224 (by omega) hp) rfl ?_
  by_cases h3 : v1 = 0
  · rw [if_pos h3] at H
    refine ex_if_ne_f h3 ?_
    refine ex_bipush (v := (-2)) (by decide) ?_
    have H := Option.some.inj H
    subst H
    exact ex_iret (M := 277) (Or.inl rfl)
  · rw [if_neg h3] at H
    refine ex_if_ne_j (ct := am_c277_11) h3 rfl ?_
    refine ex_aload_n rfl ?_
    refine ex_getR (w := 96) rfl rfl rfl ?_
    refine ex_iconst (v := 5) (by decide) ?_
    refine ex_iald (v := S2.1 96 5) rfl (by decide) rfl ?_
    by_cases h4 : 0 ≤ (S2.1 96 5)
    · rw [if_pos h4] at H
      refine ex_if_ge_j (ct := am_c277_26) h4 rfl ?_
      refine ex_aload_n rfl ?_
      refine ex_iconst (v := 0) (by decide) ?_
      refine ex_putI rfl (by decide) (fun z => absurd z.1 (by decide)) ?_
      generalize ((am_upI S2.1 95 47 0, S2.2) : AmT) = S5 at H ⊢
      have H := am_lt_el H
      refine ex_aload_n rfl ?_
      refine ex_aload_n rfl ?_
      refine ex_getR (w := 96) rfl rfl rfl ?_
      refine ex_iconst (v := 5) (by decide) ?_
      refine ex_iald (v := S5.1 96 5) rfl (by decide) rfl ?_
      refine ex_iload_n rfl ?_
      obtain ⟨v6, S7, hp, H⟩ := am_b2_el H
      refine ex_callV rfl rfl (Nat.le_of_ble_eq_true rfl) (Nat.le_of_ble_eq_true rfl) rfl (r260 (by omega) hp) rfl ?_
      refine ex_istore_n (L2 := [.ref 95, .int x1, .int x2, .int v6]) (Nat.le_of_ble_eq_true rfl) rfl ?_
      refine ex_iload_n rfl ?_
      by_cases h8 : v6 ≤ 0
      · rw [if_pos h8] at H
        refine ex_if_le_j (ct := am_c277_55) h8 rfl ?_
        refine ex_aload_n rfl ?_
        refine ex_iload_n rfl ?_
        obtain ⟨v9, S10, hp, H⟩ := am_b2_el H
        refine ex_callV rfl rfl (Nat.le_of_ble_eq_true rfl) (Nat.le_of_ble_eq_true rfl) rfl (r263 (by omega) hp) rfl ?_
        have H := Option.some.inj H
        subst H
        exact ex_iret (M := 277) (Or.inl rfl)
      · rw [if_neg h8] at H
        refine ex_if_le_f h8 ?_
        refine ex_aload_n rfl ?_
        refine ex_iload_n rfl ?_
        obtain ⟨v11, S12, hp, H⟩ := am_b2_el H
        refine ex_callV rfl rfl (Nat.le_of_ble_eq_true rfl) (Nat.le_of_ble_eq_true rfl) rfl (r203 (by omega) hp) rfl ?_
        refine ex_goto (ct := am_c277_60) rfl ?_
        have H := Option.some.inj H
        subst H
        exact ex_iret (M := 277) (Or.inl rfl)
    · rw [if_neg h4] at H
      refine ex_if_ge_f h4 ?_
      refine ex_aload_n rfl ?_
      refine ex_iconst (v := 1) (by decide) ?_
      obtain ⟨v13, S14, hp, H⟩ := am_b2_el H
      refine ex_callV rfl rfl (Nat.le_of_ble_eq_true rfl) (Nat.le_of_ble_eq_true rfl) rfl (r203 (by omega) hp) rfl ?_
      have H := Option.some.inj H
      subst H
      exact ex_iret (M := 277) (Or.inl rfl)
def g287_113 (F : Nat) (k18 : Int32 → Int32 → AmT → Option (Int32 × AmT)) (x1 : Int32) (x2 : Int32) (S : AmT) : Option (Int32 × AmT) := k18 x1 (x2 + (-1)) S
def g287_18 (F : Nat) : Nat → Int32 → Int32 → AmT → Option (Int32 × AmT)
  | 0, _, _, _ => none
  | n + 1, x1, x2, S => if x2 < 0 then (some (x1, S)) else (am_b2 (f280 F x2 S) fun v6 S7 => if 0 ≤ v6 then (am_lt ((am_upI S7.1 95 32 ((S7.1 95 32) + 1), S7.2) : AmT) fun S9 => am_ck x2 10 (if (S9.1 124 x2.toNatClampNeg) = 0 then (am_b2 (f285 F v6 x2 S9) fun v11 S12 => if v11 ≤ 0 then (am_ck v6 16 (am_lt ((am_upI S12.1 112 v6.toNatClampNeg (x2 + 1), S12.2) : AmT) fun S14 => g287_113 F (fun x1 x2 S => g287_18 F n x1 x2 S) (x1 + 1) x2 S14)) else ((f286 F v6 v11 S12).bind fun S15 => g287_113 F (fun x1 x2 S => g287_18 F n x1 x2 S) x1 x2 S15)) else (am_ck x2 10 (am_lt ((am_upI S9.1 124 x2.toNatClampNeg 0, S9.2) : AmT) fun S16 => (f286 F v6 10 S16).bind fun S17 => am_lt ((am_upI S17.1 96 (8 : Int32).toNatClampNeg 1, S17.2) : AmT) fun S18 => some (x1, S18))))) else (g287_113 F (fun x1 x2 S => g287_18 F n x1 x2 S) x1 x2 S7))
-- X10_step
def f287 (F : Nat) (S : AmT) : Option (Int32 × AmT) := am_b2 (f202 F S) fun v1 S2 => if v1 = 0 then ((f201 F S2).bind fun S4 => g287_18 F F 0 4 S4) else (some ((-4), S2))
set_option maxHeartbeats 1000000 in
set_option maxRecDepth 20000 in
theorem e287_113 {Lg : Nat} {xs : Nat → Int32} {d F : Nat} {k18 : Int32 → Int32 → AmT → Option (Int32 × AmT)} {x1 : Int32} {x2 : Int32} {w3 : Value} {w4 : Value} {S : AmT} {q : Int32 × AmT} (hd : 6 ≤ d) (hk18 : ∀ (x1 : Int32) (x2 : Int32) (w3 : Value) (w4 : Value) (S : AmT) (q : Int32 × AmT), k18 x1 x2 S = some q → Ex (am_X Lg xs) d 287 am_c287_18 [.ref 95, .int x1, .int x2, w3, w4] [] (hS S) (some q.1, hS q.2)) (H : g287_113 F k18 x1 x2 S = some q) : Ex (am_X Lg xs) d 287 am_c287_113 [.ref 95, .int x1, .int x2, w3, w4] [] (hS S) (some q.1, hS q.2) := by
  obtain ⟨d, rfl⟩ : ∃ d2, d = d2 + 1 := ⟨d - 1, by omega⟩
  unfold g287_113 at H
  refine ex_iinc (L2 := [.ref 95, .int x1, .int (x2 + (-1)), w3, w4]) (v := (x2 + (-1))) rfl (Nat.le_of_ble_eq_true rfl) (congrArg (fun z => x2 + z) (by decide)) rfl ?_
  refine ex_goto (ct := am_c287_18) rfl ?_
  exact hk18 _ _ _ _ _ _ H
set_option maxHeartbeats 1000000 in
set_option maxRecDepth 20000 in
theorem e287_18 {Lg : Nat} {xs : Nat → Int32} {d F : Nat} (hd : 6 ≤ d) : ∀ (n : Nat) (x1 : Int32) (x2 : Int32) (w3 : Value) (w4 : Value) (S : AmT) (q : Int32 × AmT), g287_18 F n x1 x2 S = some q → Ex (am_X Lg xs) d 287 am_c287_18 [.ref 95, .int x1, .int x2, w3, w4] [] (hS S) (some q.1, hS q.2) := by
  obtain ⟨d, rfl⟩ : ∃ d2, d = d2 + 1 := ⟨d - 1, by omega⟩
  intro n
  induction n with
  | zero =>
    intro x1 x2 w3 w4 S q H
    cases H
  | succ n ih =>
    intro x1 x2 w3 w4 S q H
    have H : (if x2 < 0 then (some (x1, S)) else (am_b2 (f280 F x2 S) fun v6 S7 => if 0 ≤ v6 then (am_lt ((am_upI S7.1 95 32 ((S7.1 95 32) + 1), S7.2) : AmT) fun S9 => am_ck x2 10 (if (S9.1 124 x2.toNatClampNeg) = 0 then (am_b2 (f285 F v6 x2 S9) fun v11 S12 => if v11 ≤ 0 then (am_ck v6 16 (am_lt ((am_upI S12.1 112 v6.toNatClampNeg (x2 + 1), S12.2) : AmT) fun S14 => g287_113 F (fun x1 x2 S => g287_18 F n x1 x2 S) (x1 + 1) x2 S14)) else ((f286 F v6 v11 S12).bind fun S15 => g287_113 F (fun x1 x2 S => g287_18 F n x1 x2 S) x1 x2 S15)) else (am_ck x2 10 (am_lt ((am_upI S9.1 124 x2.toNatClampNeg 0, S9.2) : AmT) fun S16 => (f286 F v6 10 S16).bind fun S17 => am_lt ((am_upI S17.1 96 (8 : Int32).toNatClampNeg 1, S17.2) : AmT) fun S18 => some (x1, S18))))) else (g287_113 F (fun x1 x2 S => g287_18 F n x1 x2 S) x1 x2 S7))) = some q := H
    refine ex_iload_n rfl ?_
    by_cases h5 : x2 < 0
    · rw [if_pos h5] at H
      refine ex_if_lt_j (ct := am_c287_119) h5 rfl ?_
      refine ex_iload_n rfl ?_
      have H := Option.some.inj H
      subst H
      exact ex_iret (M := 287) (Or.inl rfl)
    · rw [if_neg h5] at H
      refine ex_if_lt_f h5 ?_
      refine ex_aload_n rfl ?_
      refine ex_iload_n rfl ?_
      obtain ⟨v6, S7, hp, H⟩ := am_b2_el H
      refine ex_callV rfl rfl (Nat.le_of_ble_eq_true rfl) (Nat.le_of_ble_eq_true rfl) rfl (r280 (by omega) hp) rfl ?_
      refine ex_istore_n (L2 := [.ref 95, .int x1, .int x2, .int v6, w4]) (Nat.le_of_ble_eq_true rfl) rfl ?_
      refine ex_iload_n rfl ?_
      by_cases h8 : 0 ≤ v6
      · rw [if_pos h8] at H
        refine ex_if_ge_j (ct := am_c287_35) h8 rfl ?_
        refine ex_aload_n rfl ?_
        refine ex_dupr ?_
        refine ex_gI rfl (by decide) ?_
        refine ex_iconst (v := 1) (by decide) ?_
        refine ex_iadd ?_
        refine ex_putI rfl (by decide) (fun z => absurd z.1 (by decide)) ?_
        generalize ((am_upI S7.1 95 32 ((S7.1 95 32) + 1), S7.2) : AmT) = S9 at H ⊢
        have H := am_lt_el H
        refine ex_aload_n rfl ?_
        refine ex_getR (w := 124) rfl rfl rfl ?_
        refine ex_iload_n rfl ?_
        obtain ⟨hj, H⟩ := am_ck_el H
        refine ex_bald (k := 10) (v := S9.1 124 x2.toNatClampNeg) rfl hj rfl ?_
        by_cases h10 : (S9.1 124 x2.toNatClampNeg) = 0
        · rw [if_pos h10] at H
          refine ex_if_eq_j (ct := am_c287_78) h10 rfl ?_
          refine ex_aload_n rfl ?_
          refine ex_iload_n rfl ?_
          refine ex_iload_n rfl ?_
          obtain ⟨v11, S12, hp, H⟩ := am_b2_el H
          refine ex_callV rfl rfl (Nat.le_of_ble_eq_true rfl) (Nat.le_of_ble_eq_true rfl) rfl (r285 (by omega) hp) rfl ?_
          refine ex_istore (L2 := [.ref 95, .int x1, .int x2, .int v6, .int v11]) (Nat.le_of_ble_eq_true rfl) rfl ?_
          refine ex_iload rfl ?_
          by_cases h13 : v11 ≤ 0
          · rw [if_pos h13] at H
            refine ex_if_le_j (ct := am_c287_101) h13 rfl ?_
            refine ex_aload_n rfl ?_
            refine ex_getR (w := 112) rfl rfl rfl ?_
            refine ex_iload_n rfl ?_
            refine ex_iload_n rfl ?_
            refine ex_iconst (v := 1) (by decide) ?_
            refine ex_iadd ?_
            obtain ⟨hj, H⟩ := am_ck_el H
            refine ex_iast (k := 16) rfl rfl hj ?_
            generalize ((am_upI S12.1 112 v6.toNatClampNeg (x2 + 1), S12.2) : AmT) = S14 at H ⊢
            have H := am_lt_el H
            refine ex_iinc (L2 := [.ref 95, .int (x1 + 1), .int x2, .int v6, .int v11]) (v := (x1 + 1)) rfl (Nat.le_of_ble_eq_true rfl) (congrArg (fun z => x1 + z) (by decide)) rfl ?_
            exact e287_113 hd (fun x1 x2 w3 w4 S q H => ih x1 x2 w3 w4 S q H) H
          · rw [if_neg h13] at H
            refine ex_if_le_f h13 ?_
            refine ex_aload_n rfl ?_
            refine ex_iload_n rfl ?_
            refine ex_iload rfl ?_
            obtain ⟨S15, hp, H⟩ := Option.bind_eq_some_iff.mp H
            refine ex_callV rfl rfl (Nat.le_of_ble_eq_true rfl) (Nat.le_of_ble_eq_true rfl) rfl (r286 (by omega) hp) rfl ?_
            refine ex_goto (ct := am_c287_113) rfl ?_
            exact e287_113 hd (fun x1 x2 w3 w4 S q H => ih x1 x2 w3 w4 S q H) H
        · rw [if_neg h10] at H
          refine ex_if_eq_f h10 ?_
          refine ex_aload_n rfl ?_
          refine ex_getR (w := 124) rfl rfl rfl ?_
          refine ex_iload_n rfl ?_
          refine ex_iconst (v := 0) (by decide) ?_
          obtain ⟨hj, H⟩ := am_ck_el H
          refine ex_bast (k := 10) rfl rfl hj (by decide) ?_
          generalize ((am_upI S9.1 124 x2.toNatClampNeg 0, S9.2) : AmT) = S16 at H ⊢
          have H := am_lt_el H
          refine ex_aload_n rfl ?_
          refine ex_iload_n rfl ?_
          refine ex_bipush (v := 10) (by decide) ?_
          obtain ⟨S17, hp, H⟩ := Option.bind_eq_some_iff.mp H
          refine ex_callV rfl rfl (Nat.le_of_ble_eq_true rfl) (Nat.le_of_ble_eq_true rfl) rfl (r286 (by omega) hp) rfl ?_
          refine ex_aload_n rfl ?_
          refine ex_getR (w := 96) rfl rfl rfl ?_
          refine ex_bipush (v := 8) (by decide) ?_
          refine ex_iconst (v := 1) (by decide) ?_
          refine ex_iast (k := 32) rfl rfl (by decide) ?_
          generalize ((am_upI S17.1 96 (8 : Int32).toNatClampNeg 1, S17.2) : AmT) = S18 at H ⊢
          have H := am_lt_el H
          refine ex_iload_n rfl ?_
          have H := Option.some.inj H
          subst H
          exact ex_iret (M := 287) (Or.inl rfl)
      · rw [if_neg h8] at H
        refine ex_if_ge_f h8 ?_
        refine ex_goto (ct := am_c287_113) rfl ?_
        exact e287_113 hd (fun x1 x2 w3 w4 S q H => ih x1 x2 w3 w4 S q H) H
set_option maxHeartbeats 1000000 in
set_option maxRecDepth 20000 in
theorem r287 {Lg : Nat} {xs : Nat → Int32} {d F : Nat} {S : AmT} {q : Int32 × AmT} (hd : 6 ≤ d) (H : f287 F S = some q) : Ex (am_X Lg xs) d 287 (am_P 287) (am_ini (am_Mi 287).1 [.ref 95]) [] (hS S) (some q.1, hS q.2) := by
  obtain ⟨d, rfl⟩ : ∃ d2, d = d2 + 1 := ⟨d - 1, by omega⟩
  unfold f287 at H
  show Ex (am_X Lg xs) _ 287 am_c287_0 [.ref 95, .long 0, .long 0, .long 0, .long 0] [] (hS S) (some q.1, hS q.2)
  refine ex_aload_n rfl ?_
  obtain ⟨v1, S2, hp, H⟩ := am_b2_el H
  refine ex_callV rfl rfl (Nat.le_of_ble_eq_true rfl) (Nat.le_of_ble_eq_true rfl) rfl (r202 (by omega) hp) rfl ?_
  by_cases h3 : v1 = 0
  · rw [if_pos h3] at H
    refine ex_if_eq_j (ct := am_c287_10) h3 rfl ?_
    refine ex_aload_n rfl ?_
    obtain ⟨S4, hp, H⟩ := Option.bind_eq_some_iff.mp H
    refine ex_callV rfl rfl (Nat.le_of_ble_eq_true rfl) (Nat.le_of_ble_eq_true rfl) rfl (r201 (by omega) hp) rfl ?_
    refine ex_iconst (v := 0) (by decide) ?_
    refine ex_istore_n (L2 := [.ref 95, .int 0, .long 0, .long 0, .long 0]) (Nat.le_of_ble_eq_true rfl) rfl ?_
    refine ex_iconst (v := 4) (by decide) ?_
    refine ex_istore_n (L2 := [.ref 95, .int 0, .int 4, .long 0, .long 0]) (Nat.le_of_ble_eq_true rfl) rfl ?_
    exact e287_18 hd _ _ _ _ _ _ _ H
  · rw [if_neg h3] at H
    refine ex_if_eq_f h3 ?_
    refine ex_bipush (v := (-4)) (by decide) ?_
    have H := Option.some.inj H
    subst H
    exact ex_iret (M := 287) (Or.inl rfl)
-- X1_perform
def f30 (F : Nat) : Nat → Int32 → Int32 → AmT → Option (Int32 × AmT)
  | 0, _, _, _ => none
  | D + 1, x1, x2, S => if x2 ≤ 8 then (if (kg S.1 33 16 x1) = 1 then (am_b2 (f72 F (kg S.1 35 16 x1) S) fun v3 S4 => some (v3, S4)) else if (kg S.1 33 16 x1) = 2 then (am_b2 (f73 F (kg S.1 35 16 x1) S) fun v6 S7 => some (v6, S7)) else if (kg S.1 33 16 x1) = 3 then (am_b2 (f74 F (kg S.1 35 16 x1) S) fun v9 S10 => some (v9, S10)) else if (kg S.1 33 16 x1) = 4 then ((f131 F 5 S).bind fun S12 => am_b2 (f74 F (kg S12.1 35 16 x1) S12) fun v13 S14 => if 0 ≤ v13 then (am_b2 (f72 F (kg S14.1 35 16 x1) S14) fun v16 S17 => some (v16, S17)) else (some (v13, S14))) else if (kg S.1 33 16 x1) = 5 then ((f131 F 6 S).bind fun S19 => am_b2 (f30 F D (kg S19.1 37 16 x1) (x2 + 1) S19) fun v20 S21 => if 0 ≤ v20 then (am_b2 (f30 F D (kg S21.1 39 16 x1) (x2 + 1) S21) fun v23 S24 => some (v23, S24)) else (some (v20, S21))) else ((f131 F 1 S).bind fun S25 => some (1, S25))) else (some ((-17), S))
set_option maxHeartbeats 1000000 in
set_option maxRecDepth 20000 in
theorem r30 {Lg : Nat} {xs : Nat → Int32} {F : Nat} : ∀ {D d : Nat} {x1 : Int32} {x2 : Int32} {S : AmT} {q : Int32 × AmT} (_ : 3 + D ≤ d) (_ : f30 F D x1 x2 S = some q), Ex (am_X Lg xs) d 30 (am_P 30) (am_ini (am_Mi 30).1 [.ref 22, .int x1, .int x2]) [] (hS S) (some q.1, hS q.2) := by
  intro D
  induction D with
  | zero =>
    intro d x1 x2 S q hd H
    cases H
  | succ D ih =>
    intro d x1 x2 S q hd H
    obtain ⟨d, rfl⟩ : ∃ d2, d = d2 + 1 := ⟨d - 1, by omega⟩
    have H : (if x2 ≤ 8 then (if (kg S.1 33 16 x1) = 1 then (am_b2 (f72 F (kg S.1 35 16 x1) S) fun v3 S4 => some (v3, S4)) else if (kg S.1 33 16 x1) = 2 then (am_b2 (f73 F (kg S.1 35 16 x1) S) fun v6 S7 => some (v6, S7)) else if (kg S.1 33 16 x1) = 3 then (am_b2 (f74 F (kg S.1 35 16 x1) S) fun v9 S10 => some (v9, S10)) else if (kg S.1 33 16 x1) = 4 then ((f131 F 5 S).bind fun S12 => am_b2 (f74 F (kg S12.1 35 16 x1) S12) fun v13 S14 => if 0 ≤ v13 then (am_b2 (f72 F (kg S14.1 35 16 x1) S14) fun v16 S17 => some (v16, S17)) else (some (v13, S14))) else if (kg S.1 33 16 x1) = 5 then ((f131 F 6 S).bind fun S19 => am_b2 (f30 F D (kg S19.1 37 16 x1) (x2 + 1) S19) fun v20 S21 => if 0 ≤ v20 then (am_b2 (f30 F D (kg S21.1 39 16 x1) (x2 + 1) S21) fun v23 S24 => some (v23, S24)) else (some (v20, S21))) else ((f131 F 1 S).bind fun S25 => some (1, S25))) else (some ((-17), S))) = some q := H
    show Ex (am_X Lg xs) _ 30 am_c30_0 [.ref 22, .int x1, .int x2, .long 0, .long 0] [] (hS S) (some q.1, hS q.2)
    refine ex_iload_n rfl ?_
    refine ex_bipush (v := 8) (by decide) ?_
    by_cases h1 : x2 ≤ 8
    · rw [if_pos h1] at H
      refine ex_icmp_le_j (ct := am_c30_9) h1 rfl ?_
      refine ex_aload_n rfl ?_
      refine ex_getR (w := 32) rfl rfl rfl ?_
      refine ex_iload_n rfl ?_
      refine ex_kget (c := 32) (ar := 33) (n := 16) rfl (Nat.le_of_ble_eq_true rfl) ?_
      by_cases h2 : (kg S.1 33 16 x1) = 1
      · rw [if_pos h2] at H
        refine ex_table (off := 35) (ct := am_c30_52) (by rw [h2]; decide) rfl ?_
        refine ex_aload_n rfl ?_
        refine ex_getR (w := 24) rfl rfl rfl ?_
        refine ex_aload_n rfl ?_
        refine ex_getR (w := 34) rfl rfl rfl ?_
        refine ex_iload_n rfl ?_
        refine ex_kget (c := 34) (ar := 35) (n := 16) rfl (Nat.le_of_ble_eq_true rfl) ?_
        obtain ⟨v3, S4, hp, H⟩ := am_b2_el H
        refine ex_callV rfl rfl (Nat.le_of_ble_eq_true rfl) (Nat.le_of_ble_eq_true rfl) rfl (r72 (by omega) hp) rfl ?_
        have H := Option.some.inj H
        subst H
        exact ex_iret (M := 30) (Or.inl rfl)
      rw [if_neg h2] at H
      by_cases h5 : (kg S.1 33 16 x1) = 2
      · rw [if_pos h5] at H
        refine ex_table (off := 51) (ct := am_c30_68) (by rw [h5]; decide) rfl ?_
        refine ex_aload_n rfl ?_
        refine ex_getR (w := 24) rfl rfl rfl ?_
        refine ex_aload_n rfl ?_
        refine ex_getR (w := 34) rfl rfl rfl ?_
        refine ex_iload_n rfl ?_
        refine ex_kget (c := 34) (ar := 35) (n := 16) rfl (Nat.le_of_ble_eq_true rfl) ?_
        obtain ⟨v6, S7, hp, H⟩ := am_b2_el H
        refine ex_callV rfl rfl (Nat.le_of_ble_eq_true rfl) (Nat.le_of_ble_eq_true rfl) rfl (r73 (by omega) hp) rfl ?_
        have H := Option.some.inj H
        subst H
        exact ex_iret (M := 30) (Or.inl rfl)
      rw [if_neg h5] at H
      by_cases h8 : (kg S.1 33 16 x1) = 3
      · rw [if_pos h8] at H
        refine ex_table (off := 67) (ct := am_c30_84) (by rw [h8]; decide) rfl ?_
        refine ex_aload_n rfl ?_
        refine ex_getR (w := 24) rfl rfl rfl ?_
        refine ex_aload_n rfl ?_
        refine ex_getR (w := 34) rfl rfl rfl ?_
        refine ex_iload_n rfl ?_
        refine ex_kget (c := 34) (ar := 35) (n := 16) rfl (Nat.le_of_ble_eq_true rfl) ?_
        obtain ⟨v9, S10, hp, H⟩ := am_b2_el H
        refine ex_callV rfl rfl (Nat.le_of_ble_eq_true rfl) (Nat.le_of_ble_eq_true rfl) rfl (r74 (by omega) hp) rfl ?_
        have H := Option.some.inj H
        subst H
        exact ex_iret (M := 30) (Or.inl rfl)
      rw [if_neg h8] at H
      by_cases h11 : (kg S.1 33 16 x1) = 4
      · rw [if_pos h11] at H
        refine ex_table (off := 83) (ct := am_c30_100) (by rw [h11]; decide) rfl ?_
        refine ex_aload_n rfl ?_
        refine ex_getR (w := 5) rfl rfl rfl ?_
        refine ex_iconst (v := 5) (by decide) ?_
        obtain ⟨S12, hp, H⟩ := Option.bind_eq_some_iff.mp H
        refine ex_callV rfl rfl (Nat.le_of_ble_eq_true rfl) (Nat.le_of_ble_eq_true rfl) rfl (r131 (by omega) hp) rfl ?_
        refine ex_aload_n rfl ?_
        refine ex_getR (w := 24) rfl rfl rfl ?_
        refine ex_aload_n rfl ?_
        refine ex_getR (w := 34) rfl rfl rfl ?_
        refine ex_iload_n rfl ?_
        refine ex_kget (c := 34) (ar := 35) (n := 16) rfl (Nat.le_of_ble_eq_true rfl) ?_
        obtain ⟨v13, S14, hp, H⟩ := am_b2_el H
        refine ex_callV rfl rfl (Nat.le_of_ble_eq_true rfl) (Nat.le_of_ble_eq_true rfl) rfl (r74 (by omega) hp) rfl ?_
        refine ex_istore_n (L2 := [.ref 22, .int x1, .int x2, .int v13, .long 0]) (Nat.le_of_ble_eq_true rfl) rfl ?_
        refine ex_iload_n rfl ?_
        by_cases h15 : 0 ≤ v13
        · rw [if_pos h15] at H
          refine ex_if_ge_j (ct := am_c30_132) h15 rfl ?_
          refine ex_aload_n rfl ?_
          refine ex_getR (w := 24) rfl rfl rfl ?_
          refine ex_aload_n rfl ?_
          refine ex_getR (w := 34) rfl rfl rfl ?_
          refine ex_iload_n rfl ?_
          refine ex_kget (c := 34) (ar := 35) (n := 16) rfl (Nat.le_of_ble_eq_true rfl) ?_
          obtain ⟨v16, S17, hp, H⟩ := am_b2_el H
          refine ex_callV rfl rfl (Nat.le_of_ble_eq_true rfl) (Nat.le_of_ble_eq_true rfl) rfl (r72 (by omega) hp) rfl ?_
          have H := Option.some.inj H
          subst H
          exact ex_iret (M := 30) (Or.inl rfl)
        · rw [if_neg h15] at H
          refine ex_if_ge_f h15 ?_
          refine ex_iload_n rfl ?_
          refine ex_goto (ct := am_c30_147) rfl ?_
          have H := Option.some.inj H
          subst H
          exact ex_iret (M := 30) (Or.inl rfl)
      rw [if_neg h11] at H
      by_cases h18 : (kg S.1 33 16 x1) = 5
      · rw [if_pos h18] at H
        refine ex_table (off := 131) (ct := am_c30_148) (by rw [h18]; decide) rfl ?_
        refine ex_aload_n rfl ?_
        refine ex_getR (w := 5) rfl rfl rfl ?_
        refine ex_bipush (v := 6) (by decide) ?_
        obtain ⟨S19, hp, H⟩ := Option.bind_eq_some_iff.mp H
        refine ex_callV rfl rfl (Nat.le_of_ble_eq_true rfl) (Nat.le_of_ble_eq_true rfl) rfl (r131 (by omega) hp) rfl ?_
        refine ex_aload_n rfl ?_
        refine ex_aload_n rfl ?_
        refine ex_getR (w := 36) rfl rfl rfl ?_
        refine ex_iload_n rfl ?_
        refine ex_kget (c := 36) (ar := 37) (n := 16) rfl (Nat.le_of_ble_eq_true rfl) ?_
        refine ex_iload_n rfl ?_
        refine ex_iconst (v := 1) (by decide) ?_
        refine ex_iadd ?_
        obtain ⟨v20, S21, hp, H⟩ := am_b2_el H
        refine ex_callV rfl rfl (Nat.le_of_ble_eq_true rfl) (Nat.le_of_ble_eq_true rfl) rfl (ih (by omega) hp) rfl ?_
        refine ex_istore (L2 := [.ref 22, .int x1, .int x2, .long 0, .int v20]) (Nat.le_of_ble_eq_true rfl) rfl ?_
        refine ex_iload rfl ?_
        by_cases h22 : 0 ≤ v20
        · rw [if_pos h22] at H
          refine ex_if_ge_j (ct := am_c30_184) h22 rfl ?_
          refine ex_aload_n rfl ?_
          refine ex_aload_n rfl ?_
          refine ex_getR (w := 38) rfl rfl rfl ?_
          refine ex_iload_n rfl ?_
          refine ex_kget (c := 38) (ar := 39) (n := 16) rfl (Nat.le_of_ble_eq_true rfl) ?_
          refine ex_iload_n rfl ?_
          refine ex_iconst (v := 1) (by decide) ?_
          refine ex_iadd ?_
          obtain ⟨v23, S24, hp, H⟩ := am_b2_el H
          refine ex_callV rfl rfl (Nat.le_of_ble_eq_true rfl) (Nat.le_of_ble_eq_true rfl) rfl (ih (by omega) hp) rfl ?_
          have H := Option.some.inj H
          subst H
          exact ex_iret (M := 30) (Or.inl rfl)
        · rw [if_neg h22] at H
          refine ex_if_ge_f h22 ?_
          refine ex_iload rfl ?_
          refine ex_goto (ct := am_c30_199) rfl ?_
          have H := Option.some.inj H
          subst H
          exact ex_iret (M := 30) (Or.inl rfl)
      rw [if_neg h18] at H
      refine ex_table (off := 183) (ct := am_c30_200) (am_sw_out 5 (by decide) (by decide) (by decide) (fun k hk => match k, hk with | 0, _ => h2 | 1, _ => h5 | 2, _ => h8 | 3, _ => h11 | 4, _ => h18 | k + 5, hk => absurd hk (by omega))) rfl ?_
      refine ex_aload_n rfl ?_
      refine ex_getR (w := 5) rfl rfl rfl ?_
      refine ex_iconst (v := 1) (by decide) ?_
      obtain ⟨S25, hp, H⟩ := Option.bind_eq_some_iff.mp H
      refine ex_callV rfl rfl (Nat.le_of_ble_eq_true rfl) (Nat.le_of_ble_eq_true rfl) rfl (r131 (by omega) hp) rfl ?_
      refine ex_iconst (v := 1) (by decide) ?_
      have H := Option.some.inj H
      subst H
      exact ex_iret (M := 30) (Or.inl rfl)
    · rw [if_neg h1] at H
      refine ex_icmp_le_f h1 ?_
      refine ex_bipush (v := (-17)) (by decide) ?_
      have H := Option.some.inj H
      subst H
      exact ex_iret (M := 30) (Or.inl rfl)
-- X1_foldGrid
def f29 (F : Nat) (x1 : Int32) (x2 : Int32) (x3 : Int32) (x4 : Int32) (S : AmT) : Option (Int32 × AmT) := (f70 F x2 x3 S).bind fun S1 => am_b2 (f30 F 10 x1 0 S1) fun v2 S3 => if 0 ≤ v2 then (am_b2 (f71 F S3) fun v5 S6 => if v5 = 0 then (some ((-18), S6)) else (am_b2 (f79 F (x4 * 64) S6) fun v8 S9 => some ((2 * v8), S9))) else (some (v2, S3))
set_option maxHeartbeats 1000000 in
set_option maxRecDepth 20000 in
theorem r29 {Lg : Nat} {xs : Nat → Int32} {d F : Nat} {x1 : Int32} {x2 : Int32} {x3 : Int32} {x4 : Int32} {S : AmT} {q : Int32 × AmT} (hd : 14 ≤ d) (H : f29 F x1 x2 x3 x4 S = some q) : Ex (am_X Lg xs) d 29 (am_P 29) (am_ini (am_Mi 29).1 [.ref 22, .int x1, .int x2, .int x3, .int x4]) [] (hS S) (some q.1, hS q.2) := by
  obtain ⟨d, rfl⟩ : ∃ d2, d = d2 + 1 := ⟨d - 1, by omega⟩
  unfold f29 at H
  show Ex (am_X Lg xs) _ 29 am_c29_0 [.ref 22, .int x1, .int x2, .int x3, .int x4, .long 0] [] (hS S) (some q.1, hS q.2)
  refine ex_aload_n rfl ?_
  refine ex_getR (w := 24) rfl rfl rfl ?_
  refine ex_iload_n rfl ?_
  refine ex_iload_n rfl ?_
  obtain ⟨S1, hp, H⟩ := Option.bind_eq_some_iff.mp H
  refine ex_callV rfl rfl (Nat.le_of_ble_eq_true rfl) (Nat.le_of_ble_eq_true rfl) rfl (r70 (by omega) hp) rfl ?_
  refine ex_aload_n rfl ?_
  refine ex_iload_n rfl ?_
  refine ex_iconst (v := 0) (by decide) ?_
  obtain ⟨v2, S3, hp, H⟩ := am_b2_el H
  refine ex_callV rfl rfl (Nat.le_of_ble_eq_true rfl) (Nat.le_of_ble_eq_true rfl) rfl (r30 (by omega) hp) rfl ?_
  refine ex_istore (L2 := [.ref 22, .int x1, .int x2, .int x3, .int x4, .int v2]) (Nat.le_of_ble_eq_true rfl) rfl ?_
  refine ex_iload rfl ?_
  by_cases h4 : 0 ≤ v2
  · rw [if_pos h4] at H
    refine ex_if_ge_j (ct := am_c29_25) h4 rfl ?_
    refine ex_aload_n rfl ?_
    refine ex_getR (w := 24) rfl rfl rfl ?_
    obtain ⟨v5, S6, hp, H⟩ := am_b2_el H
    refine ex_callV rfl rfl (Nat.le_of_ble_eq_true rfl) (Nat.le_of_ble_eq_true rfl) rfl (r71 (by omega) hp) rfl ?_
    by_cases h7 : v5 = 0
    · rw [if_pos h7] at H
      refine ex_if_ne_f h7 ?_
      refine ex_bipush (v := (-18)) (by decide) ?_
      have H := Option.some.inj H
      subst H
      exact ex_iret (M := 29) (Or.inl rfl)
    · rw [if_neg h7] at H
      refine ex_if_ne_j (ct := am_c29_38) h7 rfl ?_
      refine ex_iconst (v := 2) (by decide) ?_
      refine ex_aload_n rfl ?_
      refine ex_getR (w := 24) rfl rfl rfl ?_
      refine ex_aload_n rfl ?_
      refine ex_getR (w := 23) rfl rfl rfl ?_
      refine ex_iload rfl ?_
      refine ex_bipush (v := 64) (by decide) ?_
      refine ex_imul ?_
      obtain ⟨v8, S9, hp, H⟩ := am_b2_el H
      refine ex_callV rfl rfl (Nat.le_of_ble_eq_true rfl) (Nat.le_of_ble_eq_true rfl) rfl (r79 (by omega) hp) rfl ?_
      refine ex_imul ?_
      have H := Option.some.inj H
      subst H
      exact ex_iret (M := 29) (Or.inl rfl)
  · rw [if_neg h4] at H
    refine ex_if_ge_f h4 ?_
    refine ex_iload rfl ?_
    have H := Option.some.inj H
    subst H
    exact ex_iret (M := 29) (Or.inl rfl)
def g8_5 (F : Nat) : Nat → Int32 → Int32 → Int32 → Int32 → AmT → Option (Int32 × AmT)
  | 0, _, _, _, _, _ => none
  | n + 1, x1, x2, x3, x4, S => if (kg S.1 75 4 x1) ≤ x4 then (some (x3, S)) else (am_b2 (f7 F x1 x4 S) fun v2 S3 => am_b2 (f97 F v2 S3) fun v4 S5 => am_b2 (f98 F v2 S5) fun v6 S7 => am_b2 (f29 F x2 v4 v6 v2 S7) fun v8 S9 => if 0 ≤ v8 then (g8_5 F n x1 x2 (x3 + v8) (x4 + 1) S9) else (some (v8, S9)))
-- X0_foldSheets
def f8 (F : Nat) (x1 : Int32) (x2 : Int32) (S : AmT) : Option (Int32 × AmT) := g8_5 F F x1 x2 0 0 S
set_option maxHeartbeats 1000000 in
set_option maxRecDepth 20000 in
theorem e8_5 {Lg : Nat} {xs : Nat → Int32} {d F : Nat} (hd : 15 ≤ d) : ∀ (n : Nat) (x1 : Int32) (x2 : Int32) (x3 : Int32) (x4 : Int32) (w5 : Value) (w6 : Value) (S : AmT) (q : Int32 × AmT), g8_5 F n x1 x2 x3 x4 S = some q → Ex (am_X Lg xs) d 8 am_c8_5 [.ref 69, .int x1, .int x2, .int x3, .int x4, w5, w6] [] (hS S) (some q.1, hS q.2) := by
  obtain ⟨d, rfl⟩ : ∃ d2, d = d2 + 1 := ⟨d - 1, by omega⟩
  intro n
  induction n with
  | zero =>
    intro x1 x2 x3 x4 w5 w6 S q H
    cases H
  | succ n ih =>
    intro x1 x2 x3 x4 w5 w6 S q H
    have H : (if (kg S.1 75 4 x1) ≤ x4 then (some (x3, S)) else (am_b2 (f7 F x1 x4 S) fun v2 S3 => am_b2 (f97 F v2 S3) fun v4 S5 => am_b2 (f98 F v2 S5) fun v6 S7 => am_b2 (f29 F x2 v4 v6 v2 S7) fun v8 S9 => if 0 ≤ v8 then (g8_5 F n x1 x2 (x3 + v8) (x4 + 1) S9) else (some (v8, S9)))) = some q := H
    refine ex_iload rfl ?_
    refine ex_aload_n rfl ?_
    refine ex_getR (w := 74) rfl rfl rfl ?_
    refine ex_iload_n rfl ?_
    refine ex_kget (c := 74) (ar := 75) (n := 4) rfl (Nat.le_of_ble_eq_true rfl) ?_
    by_cases h1 : (kg S.1 75 4 x1) ≤ x4
    · rw [if_pos h1] at H
      refine ex_icmp_ge_j (ct := am_c8_76) h1 rfl ?_
      refine ex_iload_n rfl ?_
      have H := Option.some.inj H
      subst H
      exact ex_iret (M := 8) (Or.inl rfl)
    · rw [if_neg h1] at H
      refine ex_icmp_ge_f h1 ?_
      refine ex_aload_n rfl ?_
      refine ex_iload_n rfl ?_
      refine ex_iload rfl ?_
      obtain ⟨v2, S3, hp, H⟩ := am_b2_el H
      refine ex_callV rfl rfl (Nat.le_of_ble_eq_true rfl) (Nat.le_of_ble_eq_true rfl) rfl (r7 (by omega) hp) rfl ?_
      refine ex_istore (L2 := [.ref 69, .int x1, .int x2, .int x3, .int x4, .int v2, w6]) (Nat.le_of_ble_eq_true rfl) rfl ?_
      refine ex_aload_n rfl ?_
      refine ex_getR (w := 22) rfl rfl rfl ?_
      refine ex_iload_n rfl ?_
      refine ex_aload_n rfl ?_
      refine ex_getR (w := 46) rfl rfl rfl ?_
      refine ex_iload rfl ?_
      obtain ⟨v4, S5, hp, H⟩ := am_b2_el H
      refine ex_callV rfl rfl (Nat.le_of_ble_eq_true rfl) (Nat.le_of_ble_eq_true rfl) rfl (r97 (by omega) hp) rfl ?_
      refine ex_aload_n rfl ?_
      refine ex_getR (w := 46) rfl rfl rfl ?_
      refine ex_iload rfl ?_
      obtain ⟨v6, S7, hp, H⟩ := am_b2_el H
      refine ex_callV rfl rfl (Nat.le_of_ble_eq_true rfl) (Nat.le_of_ble_eq_true rfl) rfl (r98 (by omega) hp) rfl ?_
      refine ex_iload rfl ?_
      obtain ⟨v8, S9, hp, H⟩ := am_b2_el H
      refine ex_callV rfl rfl (Nat.le_of_ble_eq_true rfl) (Nat.le_of_ble_eq_true rfl) rfl (r29 (by omega) hp) rfl ?_
      refine ex_istore (L2 := [.ref 69, .int x1, .int x2, .int x3, .int x4, .int v2, .int v8]) (Nat.le_of_ble_eq_true rfl) rfl ?_
      refine ex_iload rfl ?_
      by_cases h10 : 0 ≤ v8
      · rw [if_pos h10] at H
        refine ex_if_ge_j (ct := am_c8_65) h10 rfl ?_
        refine ex_iload_n rfl ?_
        refine ex_iload rfl ?_
        refine ex_iadd ?_
        refine ex_istore_n (L2 := [.ref 69, .int x1, .int x2, .int (x3 + v8), .int x4, .int v2, .int v8]) (Nat.le_of_ble_eq_true rfl) rfl ?_
        refine ex_iinc (L2 := [.ref 69, .int x1, .int x2, .int (x3 + v8), .int (x4 + 1), .int v2, .int v8]) (v := (x4 + 1)) rfl (Nat.le_of_ble_eq_true rfl) (congrArg (fun z => x4 + z) (by decide)) rfl ?_
        refine ex_goto (ct := am_c8_5) rfl ?_
        exact ih _ _ _ _ _ _ _ _ H
      · rw [if_neg h10] at H
        refine ex_if_ge_f h10 ?_
        refine ex_iload rfl ?_
        have H := Option.some.inj H
        subst H
        exact ex_iret (M := 8) (Or.inl rfl)
set_option maxHeartbeats 1000000 in
set_option maxRecDepth 20000 in
theorem r8 {Lg : Nat} {xs : Nat → Int32} {d F : Nat} {x1 : Int32} {x2 : Int32} {S : AmT} {q : Int32 × AmT} (hd : 15 ≤ d) (H : f8 F x1 x2 S = some q) : Ex (am_X Lg xs) d 8 (am_P 8) (am_ini (am_Mi 8).1 [.ref 69, .int x1, .int x2]) [] (hS S) (some q.1, hS q.2) := by
  obtain ⟨d, rfl⟩ : ∃ d2, d = d2 + 1 := ⟨d - 1, by omega⟩
  unfold f8 at H
  show Ex (am_X Lg xs) _ 8 am_c8_0 [.ref 69, .int x1, .int x2, .long 0, .long 0, .long 0, .long 0] [] (hS S) (some q.1, hS q.2)
  refine ex_iconst (v := 0) (by decide) ?_
  refine ex_istore_n (L2 := [.ref 69, .int x1, .int x2, .int 0, .long 0, .long 0, .long 0]) (Nat.le_of_ble_eq_true rfl) rfl ?_
  refine ex_iconst (v := 0) (by decide) ?_
  refine ex_istore (L2 := [.ref 69, .int x1, .int x2, .int 0, .int 0, .long 0, .long 0]) (Nat.le_of_ble_eq_true rfl) rfl ?_
  exact e8_5 hd _ _ _ _ _ _ _ _ _ H
