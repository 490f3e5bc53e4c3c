/-! printed by wip/gen/gen20.py -/
-- X9_state
def f188 (F : Nat) (x1 : Int32) (x2 : Int32) (S : AmT) : Option (Int32 × AmT) := am_b2 (f95 F x1 S) fun v1 S2 => if v1 = 0 then (some ((-2), S2)) else (if x2 = 0 then (am_b2 (f120 F x1 S2) fun v5 S6 => some (v5, S6)) else if x2 = 1 then (am_b2 (f121 F x1 S2) fun v8 S9 => some (v8, S9)) else if x2 = 2 then (am_b2 (f122 F x1 S2) fun v11 S12 => some (v11, S12)) else (some ((-1), S2)))
set_option maxHeartbeats 1000000 in
set_option maxRecDepth 20000 in
theorem r188 {Lg : Nat} {xs : Nat → Int32} {d F : Nat} {x1 : Int32} {x2 : Int32} {S : AmT} {q : Int32 × AmT} (hd : 2 ≤ d) (H : f188 F x1 x2 S = some q) : Ex (am_X Lg xs) d 188 (am_P 188) (am_ini (am_Mi 188).1 [.ref 0, .int x1, .int x2]) [] (hS S) (some q.1, hS q.2) := by
  obtain ⟨d, rfl⟩ : ∃ d2, d = d2 + 1 := ⟨d - 1, by omega⟩
  unfold f188 at H
  show Ex (am_X Lg xs) _ 188 am_c188_0 [.ref 0, .int x1, .int x2] [] (hS S) (some q.1, hS q.2)
  refine ex_aload_n rfl ?_
  refine ex_getR (w := 46) rfl rfl rfl ?_
  refine ex_iload_n rfl ?_
  obtain ⟨v1, S2, hp, H⟩ := am_b2_el H
  refine ex_callV rfl rfl (Nat.le_of_ble_eq_true rfl) (Nat.le_of_ble_eq_true rfl) rfl (r95 (by omega) hp) rfl ?_
  by_cases h3 : v1 = 0
  · rw [if_pos h3] at H
    refine ex_if_ne_f h3 ?_
    refine ex_bipush (v := (-2)) (by decide) ?_
    have H := Option.some.inj H
    subst H
    exact ex_iret (M := 188) (Or.inl rfl)
  · rw [if_neg h3] at H
    refine ex_if_ne_j (ct := am_c188_14) h3 rfl ?_
    refine ex_iload_n rfl ?_
    by_cases h4 : x2 = 0
    · rw [if_pos h4] at H
      refine ex_table (off := 25) (ct := am_c188_40) (by rw [h4]; decide) rfl ?_
      refine ex_aload_n rfl ?_
      refine ex_getR (w := 46) rfl rfl rfl ?_
      refine ex_iload_n rfl ?_
      obtain ⟨v5, S6, hp, H⟩ := am_b2_el H
      refine ex_callV rfl rfl (Nat.le_of_ble_eq_true rfl) (Nat.le_of_ble_eq_true rfl) rfl (r120 (by omega) hp) rfl ?_
      have H := Option.some.inj H
      subst H
      exact ex_iret (M := 188) (Or.inl rfl)
    rw [if_neg h4] at H
    by_cases h7 : x2 = 1
    · rw [if_pos h7] at H
      refine ex_table (off := 34) (ct := am_c188_49) (by rw [h7]; decide) rfl ?_
      refine ex_aload_n rfl ?_
      refine ex_getR (w := 46) rfl rfl rfl ?_
      refine ex_iload_n rfl ?_
      obtain ⟨v8, S9, hp, H⟩ := am_b2_el H
      refine ex_callV rfl rfl (Nat.le_of_ble_eq_true rfl) (Nat.le_of_ble_eq_true rfl) rfl (r121 (by omega) hp) rfl ?_
      have H := Option.some.inj H
      subst H
      exact ex_iret (M := 188) (Or.inl rfl)
    rw [if_neg h7] at H
    by_cases h10 : x2 = 2
    · rw [if_pos h10] at H
      refine ex_table (off := 43) (ct := am_c188_58) (by rw [h10]; decide) rfl ?_
      refine ex_aload_n rfl ?_
      refine ex_getR (w := 46) rfl rfl rfl ?_
      refine ex_iload_n rfl ?_
      obtain ⟨v11, S12, hp, H⟩ := am_b2_el H
      refine ex_callV rfl rfl (Nat.le_of_ble_eq_true rfl) (Nat.le_of_ble_eq_true rfl) rfl (r122 (by omega) hp) rfl ?_
      have H := Option.some.inj H
      subst H
      exact ex_iret (M := 188) (Or.inl rfl)
    rw [if_neg h10] at H
    refine ex_table (off := 52) (ct := am_c188_67) (am_sw_out 3 (by decide) (by decide) (by decide) (fun k hk => match k, hk with | 0, _ => h4 | 1, _ => h7 | 2, _ => h10 | k + 3, hk => absurd hk (by omega))) rfl ?_
    refine ex_iconst (v := (-1)) (by decide) ?_
    have H := Option.some.inj H
    subst H
    exact ex_iret (M := 188) (Or.inl rfl)
-- X9_undo
def f190 (F : Nat) (S : AmT) : Option (Int32 × AmT) := am_b2 (f81 F S) fun v1 S2 => if v1 = 0 then (am_b2 (f60 F S2) fun v4 S5 => if v4 = 0 then (some (0, S5)) else (some (1, S5))) else (some ((-4), S2))
set_option maxHeartbeats 1000000 in
set_option maxRecDepth 20000 in
theorem r190 {Lg : Nat} {xs : Nat → Int32} {d F : Nat} {S : AmT} {q : Int32 × AmT} (hd : 2 ≤ d) (H : f190 F S = some q) : Ex (am_X Lg xs) d 190 (am_P 190) (am_ini (am_Mi 190).1 [.ref 0]) [] (hS S) (some q.1, hS q.2) := by
  obtain ⟨d, rfl⟩ : ∃ d2, d = d2 + 1 := ⟨d - 1, by omega⟩
  unfold f190 at H
  show Ex (am_X Lg xs) _ 190 am_c190_0 [.ref 0] [] (hS S) (some q.1, hS q.2)
  refine ex_aload_n rfl ?_
  refine ex_getR (w := 86) rfl rfl rfl ?_
  obtain ⟨v1, S2, hp, H⟩ := am_b2_el H
  refine ex_callV rfl rfl (Nat.le_of_ble_eq_true rfl) (Nat.le_of_ble_eq_true rfl) rfl (r81 (by omega) hp) rfl ?_
  by_cases h3 : v1 = 0
  · rw [if_pos h3] at H
    refine ex_if_eq_j (ct := am_c190_13) h3 rfl ?_
    refine ex_aload_n rfl ?_
    refine ex_getR (w := 1) rfl rfl rfl ?_
    obtain ⟨v4, S5, hp, H⟩ := am_b2_el H
    refine ex_callV rfl rfl (Nat.le_of_ble_eq_true rfl) (Nat.le_of_ble_eq_true rfl) rfl (r60 (by omega) hp) rfl ?_
    by_cases h6 : v4 = 0
    · rw [if_pos h6] at H
      refine ex_if_eq_j (ct := am_c190_27) h6 rfl ?_
      refine ex_iconst (v := 0) (by decide) ?_
      have H := Option.some.inj H
      subst H
      exact ex_iret (M := 190) (Or.inl rfl)
    · rw [if_neg h6] at H
      refine ex_if_eq_f h6 ?_
      refine ex_iconst (v := 1) (by decide) ?_
      refine ex_goto (ct := am_c190_28) rfl ?_
      have H := Option.some.inj H
      subst H
      exact ex_iret (M := 190) (Or.inl rfl)
  · rw [if_neg h3] at H
    refine ex_if_eq_f h3 ?_
    refine ex_bipush (v := (-4)) (by decide) ?_
    have H := Option.some.inj H
    subst H
    exact ex_iret (M := 190) (Or.inl rfl)
def g191_124 (F : Nat) (x1 : Int32) (S : AmT) : Option (Int32 × AmT) := am_b2 (f133 F x1 S) fun v9 S10 => some (v9, S10)
-- X9_told
def f191 (F : Nat) (x1 : Int32) (S : AmT) : Option (Int32 × AmT) := am_b2 (f194 F x1 0 12 S) fun v1 S2 => if v1 = 0 then (some ((-1), S2)) else (if x1 = 5 then (am_b2 (f81 F S2) fun v5 S6 => if v5 = 0 then (some (0, S6)) else (some (1, S6))) else if x1 = 6 then (g191_124 F x1 S2) else if x1 = 7 then (am_b2 (f33 F S2) fun v12 S13 => some (v12, S13)) else if x1 = 8 then (am_b2 (f20 F S2) fun v15 S16 => some (v15, S16)) else if x1 = 9 then (am_b2 (f94 F S2) fun v18 S19 => some (v18, S19)) else if x1 = 10 then (am_b2 (f1 F S2) fun v21 S22 => some (v21, S22)) else if x1 = 11 then (am_b2 (f12 F S2) fun v24 S25 => some (v24, S25)) else if x1 = 12 then (am_b2 (f83 F S2) fun v27 S28 => some (v27, S28)) else (g191_124 F x1 S2))
set_option maxHeartbeats 1000000 in
set_option maxRecDepth 20000 in
theorem e191_124 {Lg : Nat} {xs : Nat → Int32} {d F : Nat} {x1 : Int32} {S : AmT} {q : Int32 × AmT} (hd : 2 ≤ d) (H : g191_124 F x1 S = some q) : Ex (am_X Lg xs) d 191 am_c191_124 [.ref 0, .int x1] [] (hS S) (some q.1, hS q.2) := by
  obtain ⟨d, rfl⟩ : ∃ d2, d = d2 + 1 := ⟨d - 1, by omega⟩
  unfold g191_124 at H
  refine ex_aload_n rfl ?_
  refine ex_getR (w := 5) rfl rfl rfl ?_
  refine ex_iload_n rfl ?_
  obtain ⟨v9, S10, hp, H⟩ := am_b2_el H
  refine ex_callV rfl rfl (Nat.le_of_ble_eq_true rfl) (Nat.le_of_ble_eq_true rfl) rfl (r133 (by omega) hp) rfl ?_
  have H := Option.some.inj H
  subst H
  exact ex_iret (M := 191) (Or.inl rfl)
set_option maxHeartbeats 1000000 in
set_option maxRecDepth 20000 in
theorem r191 {Lg : Nat} {xs : Nat → Int32} {d F : Nat} {x1 : Int32} {S : AmT} {q : Int32 × AmT} (hd : 2 ≤ d) (H : f191 F x1 S = some q) : Ex (am_X Lg xs) d 191 (am_P 191) (am_ini (am_Mi 191).1 [.ref 0, .int x1]) [] (hS S) (some q.1, hS q.2) := by
  obtain ⟨d, rfl⟩ : ∃ d2, d = d2 + 1 := ⟨d - 1, by omega⟩
  unfold f191 at H
  show Ex (am_X Lg xs) _ 191 am_c191_0 [.ref 0, .int x1] [] (hS S) (some q.1, hS q.2)
  refine ex_iload_n rfl ?_
  refine ex_iconst (v := 0) (by decide) ?_
  refine ex_bipush (v := 12) (by decide) ?_
  obtain ⟨v1, S2, hp, H⟩ := am_b2_el H
  refine ex_callS rfl rfl (Nat.le_of_ble_eq_true rfl) (Nat.le_of_ble_eq_true rfl) (r194 (by omega) hp) rfl ?_
  by_cases h3 : v1 = 0
  · rw [if_pos h3] at H
    refine ex_if_ne_f h3 ?_
    refine ex_iconst (v := (-1)) (by decide) ?_
    have H := Option.some.inj H
    subst H
    exact ex_iret (M := 191) (Or.inl rfl)
  · rw [if_neg h3] at H
    refine ex_if_ne_j (ct := am_c191_12) h3 rfl ?_
    refine ex_iload_n rfl ?_
    by_cases h4 : x1 = 5
    · rw [if_pos h4] at H
      refine ex_table (off := 47) (ct := am_c191_60) (by rw [h4]; decide) rfl ?_
      refine ex_aload_n rfl ?_
      refine ex_getR (w := 86) rfl rfl rfl ?_
      obtain ⟨v5, S6, hp, H⟩ := am_b2_el H
      refine ex_callV rfl rfl (Nat.le_of_ble_eq_true rfl) (Nat.le_of_ble_eq_true rfl) rfl (r81 (by omega) hp) rfl ?_
      by_cases h7 : v5 = 0
      · rw [if_pos h7] at H
        refine ex_if_eq_j (ct := am_c191_74) h7 rfl ?_
        refine ex_iconst (v := 0) (by decide) ?_
        have H := Option.some.inj H
        subst H
        exact ex_iret (M := 191) (Or.inl rfl)
      · rw [if_neg h7] at H
        refine ex_if_eq_f h7 ?_
        refine ex_iconst (v := 1) (by decide) ?_
        refine ex_goto (ct := am_c191_75) rfl ?_
        have H := Option.some.inj H
        subst H
        exact ex_iret (M := 191) (Or.inl rfl)
    rw [if_neg h4] at H
    by_cases h8 : x1 = 6
    · rw [if_pos h8] at H
      refine ex_table (off := 111) (ct := am_c191_124) (by rw [h8]; decide) rfl ?_
      exact e191_124 hd H
    rw [if_neg h8] at H
    by_cases h11 : x1 = 7
    · rw [if_pos h11] at H
      refine ex_table (off := 63) (ct := am_c191_76) (by rw [h11]; decide) rfl ?_
      refine ex_aload_n rfl ?_
      refine ex_getR (w := 7) rfl rfl rfl ?_
      obtain ⟨v12, S13, hp, H⟩ := am_b2_el H
      refine ex_callV rfl rfl (Nat.le_of_ble_eq_true rfl) (Nat.le_of_ble_eq_true rfl) rfl (r33 (by omega) hp) rfl ?_
      have H := Option.some.inj H
      subst H
      exact ex_iret (M := 191) (Or.inl rfl)
    rw [if_neg h11] at H
    by_cases h14 : x1 = 8
    · rw [if_pos h14] at H
      refine ex_table (off := 71) (ct := am_c191_84) (by rw [h14]; decide) rfl ?_
      refine ex_aload_n rfl ?_
      refine ex_getR (w := 22) rfl rfl rfl ?_
      obtain ⟨v15, S16, hp, H⟩ := am_b2_el H
      refine ex_callV rfl rfl (Nat.le_of_ble_eq_true rfl) (Nat.le_of_ble_eq_true rfl) rfl (r20 (by omega) hp) rfl ?_
      have H := Option.some.inj H
      subst H
      exact ex_iret (M := 191) (Or.inl rfl)
    rw [if_neg h14] at H
    by_cases h17 : x1 = 9
    · rw [if_pos h17] at H
      refine ex_table (off := 79) (ct := am_c191_92) (by rw [h17]; decide) rfl ?_
      refine ex_aload_n rfl ?_
      refine ex_getR (w := 46) rfl rfl rfl ?_
      obtain ⟨v18, S19, hp, H⟩ := am_b2_el H
      refine ex_callV rfl rfl (Nat.le_of_ble_eq_true rfl) (Nat.le_of_ble_eq_true rfl) rfl (r94 (by omega) hp) rfl ?_
      have H := Option.some.inj H
      subst H
      exact ex_iret (M := 191) (Or.inl rfl)
    rw [if_neg h17] at H
    by_cases h20 : x1 = 10
    · rw [if_pos h20] at H
      refine ex_table (off := 87) (ct := am_c191_100) (by rw [h20]; decide) rfl ?_
      refine ex_aload_n rfl ?_
      refine ex_getR (w := 69) rfl rfl rfl ?_
      obtain ⟨v21, S22, hp, H⟩ := am_b2_el H
      refine ex_callV rfl rfl (Nat.le_of_ble_eq_true rfl) (Nat.le_of_ble_eq_true rfl) rfl (r1 (by omega) hp) rfl ?_
      have H := Option.some.inj H
      subst H
      exact ex_iret (M := 191) (Or.inl rfl)
    rw [if_neg h20] at H
    by_cases h23 : x1 = 11
    · rw [if_pos h23] at H
      refine ex_table (off := 95) (ct := am_c191_108) (by rw [h23]; decide) rfl ?_
      refine ex_aload_n rfl ?_
      refine ex_getR (w := 69) rfl rfl rfl ?_
      obtain ⟨v24, S25, hp, H⟩ := am_b2_el H
      refine ex_callV rfl rfl (Nat.le_of_ble_eq_true rfl) (Nat.le_of_ble_eq_true rfl) rfl (r12 (by omega) hp) rfl ?_
      have H := Option.some.inj H
      subst H
      exact ex_iret (M := 191) (Or.inl rfl)
    rw [if_neg h23] at H
    by_cases h26 : x1 = 12
    · rw [if_pos h26] at H
      refine ex_table (off := 103) (ct := am_c191_116) (by rw [h26]; decide) rfl ?_
      refine ex_aload_n rfl ?_
      refine ex_getR (w := 86) rfl rfl rfl ?_
      obtain ⟨v27, S28, hp, H⟩ := am_b2_el H
      refine ex_callV rfl rfl (Nat.le_of_ble_eq_true rfl) (Nat.le_of_ble_eq_true rfl) rfl (r83 (by omega) hp) rfl ?_
      have H := Option.some.inj H
      subst H
      exact ex_iret (M := 191) (Or.inl rfl)
    rw [if_neg h26] at H
    refine ex_table (off := 111) (ct := am_c191_124) (am_sw_out 8 (by decide) (by decide) (by decide) (fun k hk => match k, hk with | 0, _ => h4 | 1, _ => h8 | 2, _ => h11 | 3, _ => h14 | 4, _ => h17 | 5, _ => h20 | 6, _ => h23 | 7, _ => h26 | k + 8, hk => absurd hk (by omega))) rfl ?_
    exact e191_124 hd H
-- X9_trace
def f192 (F : Nat) (x1 : Int32) (S : AmT) : Option (Int32 × AmT) := am_b2 (f132 F x1 S) fun v1 S2 => some (v1, S2)
set_option maxHeartbeats 1000000 in
set_option maxRecDepth 20000 in
theorem r192 {Lg : Nat} {xs : Nat → Int32} {d F : Nat} {x1 : Int32} {S : AmT} {q : Int32 × AmT} (hd : 2 ≤ d) (H : f192 F x1 S = some q) : Ex (am_X Lg xs) d 192 (am_P 192) (am_ini (am_Mi 192).1 [.ref 0, .int x1]) [] (hS S) (some q.1, hS q.2) := by
  obtain ⟨d, rfl⟩ : ∃ d2, d = d2 + 1 := ⟨d - 1, by omega⟩
  unfold f192 at H
  show Ex (am_X Lg xs) _ 192 am_c192_0 [.ref 0, .int x1] [] (hS S) (some q.1, hS q.2)
  refine ex_aload_n rfl ?_
  refine ex_getR (w := 5) rfl rfl rfl ?_
  refine ex_iload_n rfl ?_
  obtain ⟨v1, S2, hp, H⟩ := am_b2_el H
  refine ex_callV rfl rfl (Nat.le_of_ble_eq_true rfl) (Nat.le_of_ble_eq_true rfl) rfl (r132 (by omega) hp) rfl ?_
  have H := Option.some.inj H
  subst H
  exact ex_iret (M := 192) (Or.inl rfl)
-- X9_about
def f193 (F : Nat) (x1 : Int32) (x2 : Int32) (S : AmT) : Option (Int32 × AmT) := am_b2 (f34 F x1 S) fun v1 S2 => if v1 = 0 then (some ((-2), S2)) else (if x2 = 0 then (am_b2 (f36 F x1 S2) fun v5 S6 => some (v5, S6)) else if x2 = 1 then (am_b2 (f37 F x1 S2) fun v8 S9 => some (v8, S9)) else if x2 = 2 then (am_b2 (f38 F x1 S2) fun v11 S12 => some (v11, S12)) else (some ((-1), S2)))
set_option maxHeartbeats 1000000 in
set_option maxRecDepth 20000 in
theorem r193 {Lg : Nat} {xs : Nat → Int32} {d F : Nat} {x1 : Int32} {x2 : Int32} {S : AmT} {q : Int32 × AmT} (hd : 2 ≤ d) (H : f193 F x1 x2 S = some q) : Ex (am_X Lg xs) d 193 (am_P 193) (am_ini (am_Mi 193).1 [.ref 0, .int x1, .int x2]) [] (hS S) (some q.1, hS q.2) := by
  obtain ⟨d, rfl⟩ : ∃ d2, d = d2 + 1 := ⟨d - 1, by omega⟩
  unfold f193 at H
  show Ex (am_X Lg xs) _ 193 am_c193_0 [.ref 0, .int x1, .int x2] [] (hS S) (some q.1, hS q.2)
  refine ex_aload_n rfl ?_
  refine ex_getR (w := 7) rfl rfl rfl ?_
  refine ex_iload_n rfl ?_
  obtain ⟨v1, S2, hp, H⟩ := am_b2_el H
  refine ex_callV rfl rfl (Nat.le_of_ble_eq_true rfl) (Nat.le_of_ble_eq_true rfl) rfl (r34 (by omega) hp) rfl ?_
  by_cases h3 : v1 = 0
  · rw [if_pos h3] at H
    refine ex_if_ne_f h3 ?_
    refine ex_bipush (v := (-2)) (by decide) ?_
    have H := Option.some.inj H
    subst H
    exact ex_iret (M := 193) (Or.inl rfl)
  · rw [if_neg h3] at H
    refine ex_if_ne_j (ct := am_c193_14) h3 rfl ?_
    refine ex_iload_n rfl ?_
    by_cases h4 : x2 = 0
    · rw [if_pos h4] at H
      refine ex_table (off := 25) (ct := am_c193_40) (by rw [h4]; decide) rfl ?_
      refine ex_aload_n rfl ?_
      refine ex_getR (w := 7) rfl rfl rfl ?_
      refine ex_iload_n rfl ?_
      obtain ⟨v5, S6, hp, H⟩ := am_b2_el H
      refine ex_callV rfl rfl (Nat.le_of_ble_eq_true rfl) (Nat.le_of_ble_eq_true rfl) rfl (r36 (by omega) hp) rfl ?_
      have H := Option.some.inj H
      subst H
      exact ex_iret (M := 193) (Or.inl rfl)
    rw [if_neg h4] at H
    by_cases h7 : x2 = 1
    · rw [if_pos h7] at H
      refine ex_table (off := 34) (ct := am_c193_49) (by rw [h7]; decide) rfl ?_
      refine ex_aload_n rfl ?_
      refine ex_getR (w := 7) rfl rfl rfl ?_
      refine ex_iload_n rfl ?_
      obtain ⟨v8, S9, hp, H⟩ := am_b2_el H
      refine ex_callV rfl rfl (Nat.le_of_ble_eq_true rfl) (Nat.le_of_ble_eq_true rfl) rfl (r37 (by omega) hp) rfl ?_
      have H := Option.some.inj H
      subst H
      exact ex_iret (M := 193) (Or.inl rfl)
    rw [if_neg h7] at H
    by_cases h10 : x2 = 2
    · rw [if_pos h10] at H
      refine ex_table (off := 43) (ct := am_c193_58) (by rw [h10]; decide) rfl ?_
      refine ex_aload_n rfl ?_
      refine ex_getR (w := 7) rfl rfl rfl ?_
      refine ex_iload_n rfl ?_
      obtain ⟨v11, S12, hp, H⟩ := am_b2_el H
      refine ex_callV rfl rfl (Nat.le_of_ble_eq_true rfl) (Nat.le_of_ble_eq_true rfl) rfl (r38 (by omega) hp) rfl ?_
      have H := Option.some.inj H
      subst H
      exact ex_iret (M := 193) (Or.inl rfl)
    rw [if_neg h10] at H
    refine ex_table (off := 52) (ct := am_c193_67) (am_sw_out 3 (by decide) (by decide) (by decide) (fun k hk => match k, hk with | 0, _ => h4 | 1, _ => h7 | 2, _ => h10 | k + 3, hk => absurd hk (by omega))) rfl ?_
    refine ex_iconst (v := (-1)) (by decide) ?_
    have H := Option.some.inj H
    subst H
    exact ex_iret (M := 193) (Or.inl rfl)
-- X10_change
def f201 (F : Nat) (S : AmT) : Option AmT := (f200 F 0 S).bind fun S1 => am_lt ((am_upI S1.1 95 29 1, S1.2) : AmT) fun S2 => some S2
set_option maxHeartbeats 1000000 in
set_option maxRecDepth 20000 in
theorem r201 {Lg : Nat} {xs : Nat → Int32} {d F : Nat} {S : AmT} {q : AmT} (hd : 2 ≤ d) (H : f201 F S = some q) : Ex (am_X Lg xs) d 201 (am_P 201) (am_ini (am_Mi 201).1 [.ref 95]) [] (hS S) (none, hS q) := by
  obtain ⟨d, rfl⟩ : ∃ d2, d = d2 + 1 := ⟨d - 1, by omega⟩
  unfold f201 at H
  show Ex (am_X Lg xs) _ 201 am_c201_0 [.ref 95] [] (hS S) (none, hS q)
  refine ex_aload_n rfl ?_
  refine ex_iconst (v := 0) (by decide) ?_
  obtain ⟨S1, hp, H⟩ := Option.bind_eq_some_iff.mp H
  refine ex_callV rfl rfl (Nat.le_of_ble_eq_true rfl) (Nat.le_of_ble_eq_true rfl) rfl (r200 (by omega) hp) rfl ?_
  refine ex_aload_n rfl ?_
  refine ex_iconst (v := 1) (by decide) ?_
  refine ex_putI rfl (by decide) (fun z => z.2 (by decide)) ?_
  generalize ((am_upI S1.1 95 29 1, S1.2) : AmT) = S2 at H ⊢
  have H := am_lt_el H
  have H := Option.some.inj H
  subst H
  exact ex_vret (M := 201) rfl
-- X10_undo
def f204 (F : Nat) (S : AmT) : Option (Int32 × AmT) := am_b2 (f202 F S) fun v1 S2 => if v1 = 0 then (if (S2.1 95 29) = 0 then (some (0, S2)) else ((f200 F 1 S2).bind fun S5 => am_lt ((am_upI S5.1 95 29 0, S5.2) : AmT) fun S6 => some (1, S6))) else (some ((-4), S2))
set_option maxHeartbeats 1000000 in
set_option maxRecDepth 20000 in
theorem r204 {Lg : Nat} {xs : Nat → Int32} {d F : Nat} {S : AmT} {q : Int32 × AmT} (hd : 2 ≤ d) (H : f204 F S = some q) : Ex (am_X Lg xs) d 204 (am_P 204) (am_ini (am_Mi 204).1 [.ref 95]) [] (hS S) (some q.1, hS q.2) := by
  obtain ⟨d, rfl⟩ : ∃ d2, d = d2 + 1 := ⟨d - 1, by omega⟩
  unfold f204 at H
  show Ex (am_X Lg xs) _ 204 am_c204_0 [.ref 95] [] (hS S) (some q.1, hS q.2)
  refine ex_aload_n rfl ?_
  obtain ⟨v1, S2, hp, H⟩ := am_b2_el H
  refine ex_callV rfl rfl (Nat.le_of_ble_eq_true rfl) (Nat.le_of_ble_eq_true rfl) rfl (r202 (by omega) hp) rfl ?_
  by_cases h3 : v1 = 0
  · rw [if_pos h3] at H
    refine ex_if_eq_j (ct := am_c204_10) h3 rfl ?_
    refine ex_aload_n rfl ?_
    refine ex_gI rfl (by decide) ?_
    by_cases h4 : (S2.1 95 29) = 0
    · rw [if_pos h4] at H
      refine ex_if_ne_f h4 ?_
      refine ex_iconst (v := 0) (by decide) ?_
      have H := Option.some.inj H
      subst H
      exact ex_iret (M := 204) (Or.inl rfl)
    · rw [if_neg h4] at H
      refine ex_if_ne_j (ct := am_c204_19) h4 rfl ?_
      refine ex_aload_n rfl ?_
      refine ex_iconst (v := 1) (by decide) ?_
      obtain ⟨S5, hp, H⟩ := Option.bind_eq_some_iff.mp H
      refine ex_callV rfl rfl (Nat.le_of_ble_eq_true rfl) (Nat.le_of_ble_eq_true rfl) rfl (r200 (by omega) hp) rfl ?_
      refine ex_aload_n rfl ?_
      refine ex_iconst (v := 0) (by decide) ?_
      refine ex_putI rfl (by decide) (fun z => z.2 (by decide)) ?_
      generalize ((am_upI S5.1 95 29 0, S5.2) : AmT) = S6 at H ⊢
      have H := am_lt_el H
      refine ex_iconst (v := 1) (by decide) ?_
      have H := Option.some.inj H
      subst H
      exact ex_iret (M := 204) (Or.inl rfl)
  · rw [if_neg h3] at H
    refine ex_if_eq_f h3 ?_
    refine ex_bipush (v := (-4)) (by decide) ?_
    have H := Option.some.inj H
    subst H
    exact ex_iret (M := 204) (Or.inl rfl)
-- X10_isPage
def f206 (F : Nat) (x1 : Int32) (x2 : Int32) (S : AmT) : Option (Int32 × AmT) := am_b2 (f205 F x1 S) fun v1 S2 => if v1 = 0 then (some (0, S2)) else (am_ck x1 6 (am_b2 (f197 F x2 1 (S2.1 97 x1.toNatClampNeg) S2) fun v4 S5 => if v4 = 0 then (some (0, S5)) else (some (1, S5))))
set_option maxHeartbeats 1000000 in
set_option maxRecDepth 20000 in
theorem r206 {Lg : Nat} {xs : Nat → Int32} {d F : Nat} {x1 : Int32} {x2 : Int32} {S : AmT} {q : Int32 × AmT} (hd : 2 ≤ d) (H : f206 F x1 x2 S = some q) : Ex (am_X Lg xs) d 206 (am_P 206) (am_ini (am_Mi 206).1 [.ref 95, .int x1, .int x2]) [] (hS S) (some q.1, hS q.2) := by
  obtain ⟨d, rfl⟩ : ∃ d2, d = d2 + 1 := ⟨d - 1, by omega⟩
  unfold f206 at H
  show Ex (am_X Lg xs) _ 206 am_c206_0 [.ref 95, .int x1, .int x2] [] (hS S) (some q.1, hS q.2)
  refine ex_aload_n rfl ?_
  refine ex_iload_n rfl ?_
  obtain ⟨v1, S2, hp, H⟩ := am_b2_el H
  refine ex_callV rfl rfl (Nat.le_of_ble_eq_true rfl) (Nat.le_of_ble_eq_true rfl) rfl (r205 (by omega) hp) rfl ?_
  by_cases h3 : v1 = 0
  · rw [if_pos h3] at H
    refine ex_if_eq_j (ct := am_c206_26) h3 rfl ?_
    refine ex_iconst (v := 0) (by decide) ?_
    have H := Option.some.inj H
    subst H
    exact ex_iret (M := 206) (Or.inr ⟨rfl, by decide⟩)
  · rw [if_neg h3] at H
    refine ex_if_eq_f h3 ?_
    refine ex_iload_n rfl ?_
    refine ex_iconst (v := 1) (by decide) ?_
    refine ex_aload_n rfl ?_
    refine ex_getR (w := 97) rfl rfl rfl ?_
    refine ex_iload_n rfl ?_
    obtain ⟨hj, H⟩ := am_ck_el H
    refine ex_iald (k := 6) (v := S2.1 97 x1.toNatClampNeg) rfl hj rfl ?_
    obtain ⟨v4, S5, hp, H⟩ := am_b2_el H
    refine ex_callS rfl rfl (Nat.le_of_ble_eq_true rfl) (Nat.le_of_ble_eq_true rfl) (r197 (by omega) hp) rfl ?_
    by_cases h6 : v4 = 0
    · rw [if_pos h6] at H
      refine ex_if_eq_j (ct := am_c206_26) h6 rfl ?_
      refine ex_iconst (v := 0) (by decide) ?_
      have H := Option.some.inj H
      subst H
      exact ex_iret (M := 206) (Or.inr ⟨rfl, by decide⟩)
    · rw [if_neg h6] at H
      refine ex_if_eq_f h6 ?_
      refine ex_iconst (v := 1) (by decide) ?_
      refine ex_goto (ct := am_c206_27) rfl ?_
      have H := Option.some.inj H
      subst H
      exact ex_iret (M := 206) (Or.inr ⟨rfl, by decide⟩)
-- X10_lacksLetter
def f213 (F : Nat) (x1 : Int32) (x2 : Int32) (x3 : Int32) (S : AmT) : Option (Int32 × AmT) := am_b2 (f212 F x1 x2 S) fun v1 S2 => if v1 ≤ 0 then (am_ck ((8 * x1) + x2) 1152 (if 0 ≤ (S2.1 101 ((8 * x1) + x2).toNatClampNeg) then (am_b2 (f197 F x3 0 ((S2.1 101 ((8 * x1) + x2).toNatClampNeg) - 1) S2) fun v5 S6 => if v5 = 0 then (some (2, S6)) else (some (0, S6))) else (some (1, S2)))) else (some (v1, S2))
set_option maxHeartbeats 1000000 in
set_option maxRecDepth 20000 in
theorem r213 {Lg : Nat} {xs : Nat → Int32} {d F : Nat} {x1 : Int32} {x2 : Int32} {x3 : Int32} {S : AmT} {q : Int32 × AmT} (hd : 2 ≤ d) (H : f213 F x1 x2 x3 S = some q) : Ex (am_X Lg xs) d 213 (am_P 213) (am_ini (am_Mi 213).1 [.ref 95, .int x1, .int x2, .int x3]) [] (hS S) (some q.1, hS q.2) := by
  obtain ⟨d, rfl⟩ : ∃ d2, d = d2 + 1 := ⟨d - 1, by omega⟩
  unfold f213 at H
  show Ex (am_X Lg xs) _ 213 am_c213_0 [.ref 95, .int x1, .int x2, .int x3, .long 0, .long 0] [] (hS S) (some q.1, hS q.2)
  refine ex_aload_n rfl ?_
  refine ex_iload_n rfl ?_
  refine ex_iload_n rfl ?_
  obtain ⟨v1, S2, hp, H⟩ := am_b2_el H
  refine ex_callV rfl rfl (Nat.le_of_ble_eq_true rfl) (Nat.le_of_ble_eq_true rfl) rfl (r212 (by omega) hp) rfl ?_
  refine ex_istore (L2 := [.ref 95, .int x1, .int x2, .int x3, .int v1, .long 0]) (Nat.le_of_ble_eq_true rfl) rfl ?_
  refine ex_iload rfl ?_
  by_cases h3 : v1 ≤ 0
  · rw [if_pos h3] at H
    refine ex_if_le_j (ct := am_c213_16) h3 rfl ?_
    refine ex_aload_n rfl ?_
    refine ex_getR (w := 101) rfl rfl rfl ?_
    refine ex_bipush (v := 8) (by decide) ?_
    refine ex_iload_n rfl ?_
    refine ex_imul ?_
    refine ex_iload_n rfl ?_
    refine ex_iadd ?_
    obtain ⟨hj, H⟩ := am_ck_el H
    refine ex_iald (k := 1152) (v := S2.1 101 ((8 * x1) + x2).toNatClampNeg) rfl hj rfl ?_
    refine ex_istore (L2 := [.ref 95, .int x1, .int x2, .int x3, .int v1, .int (S2.1 101 ((8 * x1) + x2).toNatClampNeg)]) (Nat.le_of_ble_eq_true rfl) rfl ?_
    refine ex_iload rfl ?_
    by_cases h4 : 0 ≤ (S2.1 101 ((8 * x1) + x2).toNatClampNeg)
    · rw [if_pos h4] at H
      refine ex_if_ge_j (ct := am_c213_38) h4 rfl ?_
      refine ex_iload_n rfl ?_
      refine ex_iconst (v := 0) (by decide) ?_
      refine ex_iload rfl ?_
      refine ex_iconst (v := 1) (by decide) ?_
      refine ex_isub ?_
      obtain ⟨v5, S6, hp, H⟩ := am_b2_el H
      refine ex_callS rfl rfl (Nat.le_of_ble_eq_true rfl) (Nat.le_of_ble_eq_true rfl) (r197 (by omega) hp) rfl ?_
      by_cases h7 : v5 = 0
      · rw [if_pos h7] at H
        refine ex_if_ne_f h7 ?_
        refine ex_iconst (v := 2) (by decide) ?_
        refine ex_goto (ct := am_c213_55) rfl ?_
        have H := Option.some.inj H
        subst H
        exact ex_iret (M := 213) (Or.inl rfl)
      · rw [if_neg h7] at H
        refine ex_if_ne_j (ct := am_c213_54) h7 rfl ?_
        refine ex_iconst (v := 0) (by decide) ?_
        have H := Option.some.inj H
        subst H
        exact ex_iret (M := 213) (Or.inl rfl)
    · rw [if_neg h4] at H
      refine ex_if_ge_f h4 ?_
      refine ex_iconst (v := 1) (by decide) ?_
      refine ex_goto (ct := am_c213_55) rfl ?_
      have H := Option.some.inj H
      subst H
      exact ex_iret (M := 213) (Or.inl rfl)
  · rw [if_neg h3] at H
    refine ex_if_le_f h3 ?_
    refine ex_iload rfl ?_
    have H := Option.some.inj H
    subst H
    exact ex_iret (M := 213) (Or.inl rfl)
-- X10_lettersAt
def f219 (F : Nat) (x1 : Int32) (x2 : Int32) (S : AmT) : Option (Int32 × AmT) := am_b2 (f212 F x1 x2 S) fun v1 S2 => if v1 ≤ 0 then (am_ck ((8 * x1) + x2) 1152 (some ((S2.1 101 ((8 * x1) + x2).toNatClampNeg), S2))) else (some ((-1), S2))
set_option maxHeartbeats 1000000 in
set_option maxRecDepth 20000 in
theorem r219 {Lg : Nat} {xs : Nat → Int32} {d F : Nat} {x1 : Int32} {x2 : Int32} {S : AmT} {q : Int32 × AmT} (hd : 2 ≤ d) (H : f219 F x1 x2 S = some q) : Ex (am_X Lg xs) d 219 (am_P 219) (am_ini (am_Mi 219).1 [.ref 95, .int x1, .int x2]) [] (hS S) (some q.1, hS q.2) := by
  obtain ⟨d, rfl⟩ : ∃ d2, d = d2 + 1 := ⟨d - 1, by omega⟩
  unfold f219 at H
  show Ex (am_X Lg xs) _ 219 am_c219_0 [.ref 95, .int x1, .int x2] [] (hS S) (some q.1, hS q.2)
  refine ex_aload_n rfl ?_
  refine ex_iload_n rfl ?_
  refine ex_iload_n rfl ?_
  obtain ⟨v1, S2, hp, H⟩ := am_b2_el H
  refine ex_callV rfl rfl (Nat.le_of_ble_eq_true rfl) (Nat.le_of_ble_eq_true rfl) rfl (r212 (by omega) hp) rfl ?_
  by_cases h3 : v1 ≤ 0
  · rw [if_pos h3] at H
    refine ex_if_le_j (ct := am_c219_13) h3 rfl ?_
    refine ex_aload_n rfl ?_
    refine ex_getR (w := 101) rfl rfl rfl ?_
    refine ex_bipush (v := 8) (by decide) ?_
    refine ex_iload_n rfl ?_
    refine ex_imul ?_
    refine ex_iload_n rfl ?_
    refine ex_iadd ?_
    obtain ⟨hj, H⟩ := am_ck_el H
    refine ex_iald (k := 1152) (v := S2.1 101 ((8 * x1) + x2).toNatClampNeg) rfl hj rfl ?_
    have H := Option.some.inj H
    subst H
    exact ex_iret (M := 219) (Or.inl rfl)
  · rw [if_neg h3] at H
    refine ex_if_le_f h3 ?_
    refine ex_iconst (v := (-1)) (by decide) ?_
    refine ex_goto (ct := am_c219_24) rfl ?_
    have H := Option.some.inj H
    subst H
    exact ex_iret (M := 219) (Or.inl rfl)
-- X10_lips
def f228 (F : Nat) (x1 : Int32) (S : AmT) : Option (Int32 × AmT) := am_b2 (f224 F x1 S) fun v1 S2 => if v1 = 0 then (some ((-2), S2)) else (am_ck x1 32 (if (S2.1 103 x1.toNatClampNeg) = 3 then (some (2, S2)) else (am_ck x1 32 (if (S2.1 103 x1.toNatClampNeg) = 4 then (some (3, S2)) else (am_b2 (f203 F 6 S2) fun v6 S7 => some (v6, S7))))))
set_option maxHeartbeats 1000000 in
set_option maxRecDepth 20000 in
theorem r228 {Lg : Nat} {xs : Nat → Int32} {d F : Nat} {x1 : Int32} {S : AmT} {q : Int32 × AmT} (hd : 2 ≤ d) (H : f228 F x1 S = some q) : Ex (am_X Lg xs) d 228 (am_P 228) (am_ini (am_Mi 228).1 [.ref 95, .int x1]) [] (hS S) (some q.1, hS q.2) := by
  obtain ⟨d, rfl⟩ : ∃ d2, d = d2 + 1 := ⟨d - 1, by omega⟩
  unfold f228 at H
  show Ex (am_X Lg xs) _ 228 am_c228_0 [.ref 95, .int x1] [] (hS S) (some q.1, hS q.2)
  refine ex_aload_n rfl ?_
  refine ex_iload_n rfl ?_
  obtain ⟨v1, S2, hp, H⟩ := am_b2_el H
  refine ex_callV rfl rfl (Nat.le_of_ble_eq_true rfl) (Nat.le_of_ble_eq_true rfl) rfl (r224 (by omega) hp) rfl ?_
  by_cases h3 : v1 = 0
  · rw [if_pos h3] at H
    refine ex_if_ne_f h3 ?_
    refine ex_bipush (v := (-2)) (by decide) ?_
    have H := Option.some.inj H
    subst H
    exact ex_iret (M := 228) (Or.inl rfl)
  · rw [if_neg h3] at H
    refine ex_if_ne_j (ct := am_c228_11) h3 rfl ?_
    refine ex_aload_n rfl ?_
    refine ex_getR (w := 103) rfl rfl rfl ?_
    refine ex_iload_n rfl ?_
    obtain ⟨hj, H⟩ := am_ck_el H
    refine ex_iald (k := 32) (v := S2.1 103 x1.toNatClampNeg) rfl hj rfl ?_
    refine ex_iconst (v := 3) (by decide) ?_
    by_cases h4 : (S2.1 103 x1.toNatClampNeg) = 3
    · rw [if_pos h4] at H
      refine ex_icmp_ne_f h4 ?_
      refine ex_iconst (v := 2) (by decide) ?_
      refine ex_goto (ct := am_c228_45) rfl ?_
      have H := Option.some.inj H
      subst H
      exact ex_iret (M := 228) (Or.inl rfl)
    · rw [if_neg h4] at H
      refine ex_icmp_ne_j (ct := am_c228_25) h4 rfl ?_
      refine ex_aload_n rfl ?_
      refine ex_getR (w := 103) rfl rfl rfl ?_
      refine ex_iload_n rfl ?_
      obtain ⟨hj, H⟩ := am_ck_el H
      refine ex_iald (k := 32) (v := S2.1 103 x1.toNatClampNeg) rfl hj rfl ?_
      refine ex_iconst (v := 4) (by decide) ?_
      by_cases h5 : (S2.1 103 x1.toNatClampNeg) = 4
      · rw [if_pos h5] at H
        refine ex_icmp_ne_f h5 ?_
        refine ex_iconst (v := 3) (by decide) ?_
        refine ex_goto (ct := am_c228_45) rfl ?_
        have H := Option.some.inj H
        subst H
        exact ex_iret (M := 228) (Or.inl rfl)
      · rw [if_neg h5] at H
        refine ex_icmp_ne_j (ct := am_c228_39) h5 rfl ?_
        refine ex_aload_n rfl ?_
        refine ex_bipush (v := 6) (by decide) ?_
        obtain ⟨v6, S7, hp, H⟩ := am_b2_el H
        refine ex_callV rfl rfl (Nat.le_of_ble_eq_true rfl) (Nat.le_of_ble_eq_true rfl) rfl (r203 (by omega) hp) rfl ?_
        have H := Option.some.inj H
        subst H
        exact ex_iret (M := 228) (Or.inl rfl)
-- X10_inner
def f229 (F : Nat) (x1 : Int32) (x2 : Int32) (S : AmT) : Option (Int32 × AmT) := am_b2 (f224 F x1 S) fun v1 S2 => if v1 = 0 then (some ((-2), S2)) else (am_b2 (f197 F x2 0 1 S2) fun v4 S5 => if v4 = 0 then (some ((-1), S5)) else (am_ck x1 32 (if (S5.1 103 x1.toNatClampNeg) = 5 then (if x2 = 0 then (am_ck x1 32 (some ((S5.1 105 x1.toNatClampNeg), S5))) else (am_ck x1 32 (some ((S5.1 106 x1.toNatClampNeg), S5)))) else (am_b2 (f203 F 6 S5) fun v9 S10 => some (v9, S10)))))
set_option maxHeartbeats 1000000 in
set_option maxRecDepth 20000 in
theorem r229 {Lg : Nat} {xs : Nat → Int32} {d F : Nat} {x1 : Int32} {x2 : Int32} {S : AmT} {q : Int32 × AmT} (hd : 2 ≤ d) (H : f229 F x1 x2 S = some q) : Ex (am_X Lg xs) d 229 (am_P 229) (am_ini (am_Mi 229).1 [.ref 95, .int x1, .int x2]) [] (hS S) (some q.1, hS q.2) := by
  obtain ⟨d, rfl⟩ : ∃ d2, d = d2 + 1 := ⟨d - 1, by omega⟩
  unfold f229 at H
  show Ex (am_X Lg xs) _ 229 am_c229_0 [.ref 95, .int x1, .int x2] [] (hS S) (some q.1, hS q.2)
  refine ex_aload_n rfl ?_
  refine ex_iload_n rfl ?_
  obtain ⟨v1, S2, hp, H⟩ := am_b2_el H
  refine ex_callV rfl rfl (Nat.le_of_ble_eq_true rfl) (Nat.le_of_ble_eq_true rfl) rfl (r224 (by omega) hp) rfl ?_
  by_cases h3 : v1 = 0
  · rw [if_pos h3] at H
    refine ex_if_ne_f h3 ?_
    refine ex_bipush (v := (-2)) (by decide) ?_
    have H := Option.some.inj H
    subst H
    exact ex_iret (M := 229) (Or.inl rfl)
  · rw [if_neg h3] at H
    refine ex_if_ne_j (ct := am_c229_11) h3 rfl ?_
    refine ex_iload_n rfl ?_
    refine ex_iconst (v := 0) (by decide) ?_
    refine ex_iconst (v := 1) (by decide) ?_
    obtain ⟨v4, S5, hp, H⟩ := am_b2_el H
    refine ex_callS rfl rfl (Nat.le_of_ble_eq_true rfl) (Nat.le_of_ble_eq_true rfl) (r197 (by omega) hp) rfl ?_
    by_cases h6 : v4 = 0
    · rw [if_pos h6] at H
      refine ex_if_ne_f h6 ?_
      refine ex_iconst (v := (-1)) (by decide) ?_
      have H := Option.some.inj H
      subst H
      exact ex_iret (M := 229) (Or.inl rfl)
    · rw [if_neg h6] at H
      refine ex_if_ne_j (ct := am_c229_22) h6 rfl ?_
      refine ex_aload_n rfl ?_
      refine ex_getR (w := 103) rfl rfl rfl ?_
      refine ex_iload_n rfl ?_
      obtain ⟨hj, H⟩ := am_ck_el H
      refine ex_iald (k := 32) (v := S5.1 103 x1.toNatClampNeg) rfl hj rfl ?_
      refine ex_iconst (v := 5) (by decide) ?_
      by_cases h7 : (S5.1 103 x1.toNatClampNeg) = 5
      · rw [if_pos h7] at H
        refine ex_icmp_eq_j (ct := am_c229_41) h7 rfl ?_
        refine ex_iload_n rfl ?_
        by_cases h8 : x2 = 0
        · rw [if_pos h8] at H
          refine ex_if_ne_f h8 ?_
          refine ex_aload_n rfl ?_
          refine ex_getR (w := 105) rfl rfl rfl ?_
          refine ex_iload_n rfl ?_
          obtain ⟨hj, H⟩ := am_ck_el H
          refine ex_iald (k := 32) (v := S5.1 105 x1.toNatClampNeg) rfl hj rfl ?_
          refine ex_goto (ct := am_c229_60) rfl ?_
          have H := Option.some.inj H
          subst H
          exact ex_iret (M := 229) (Or.inl rfl)
        · rw [if_neg h8] at H
          refine ex_if_ne_j (ct := am_c229_54) h8 rfl ?_
          refine ex_aload_n rfl ?_
          refine ex_getR (w := 106) rfl rfl rfl ?_
          refine ex_iload_n rfl ?_
          obtain ⟨hj, H⟩ := am_ck_el H
          refine ex_iald (k := 32) (v := S5.1 106 x1.toNatClampNeg) rfl hj rfl ?_
          have H := Option.some.inj H
          subst H
          exact ex_iret (M := 229) (Or.inl rfl)
      · rw [if_neg h7] at H
        refine ex_icmp_eq_f h7 ?_
        refine ex_aload_n rfl ?_
        refine ex_bipush (v := 6) (by decide) ?_
        obtain ⟨v9, S10, hp, H⟩ := am_b2_el H
        refine ex_callV rfl rfl (Nat.le_of_ble_eq_true rfl) (Nat.le_of_ble_eq_true rfl) rfl (r203 (by omega) hp) rfl ?_
        refine ex_goto (ct := am_c229_60) rfl ?_
        have H := Option.some.inj H
        subst H
        exact ex_iret (M := 229) (Or.inl rfl)
-- X10_worth
def f232 (F : Nat) (x1 : Int32) (x2 : Int32) (S : AmT) : Option (Int32 × AmT) := am_b2 (f224 F x1 S) fun v1 S2 => if v1 = 0 then (some ((-2), S2)) else (am_b2 (f197 F x2 0 1 S2) fun v4 S5 => if v4 = 0 then (some ((-1), S5)) else (am_b2 (f231 F x1 x2 S5) fun v7 S8 => some (v7, S8)))
set_option maxHeartbeats 1000000 in
set_option maxRecDepth 20000 in
theorem r232 {Lg : Nat} {xs : Nat → Int32} {d F : Nat} {x1 : Int32} {x2 : Int32} {S : AmT} {q : Int32 × AmT} (hd : 2 ≤ d) (H : f232 F x1 x2 S = some q) : Ex (am_X Lg xs) d 232 (am_P 232) (am_ini (am_Mi 232).1 [.ref 95, .int x1, .int x2]) [] (hS S) (some q.1, hS q.2) := by
  obtain ⟨d, rfl⟩ : ∃ d2, d = d2 + 1 := ⟨d - 1, by omega⟩
  unfold f232 at H
  show Ex (am_X Lg xs) _ 232 am_c232_0 [.ref 95, .int x1, .int x2] [] (hS S) (some q.1, hS q.2)
  refine ex_aload_n rfl ?_
  refine ex_iload_n rfl ?_
  obtain ⟨v1, S2, hp, H⟩ := am_b2_el H
  refine ex_callV rfl rfl (Nat.le_of_ble_eq_true rfl) (Nat.le_of_ble_eq_true rfl) rfl (r224 (by omega) hp) rfl ?_
  by_cases h3 : v1 = 0
  · rw [if_pos h3] at H
    refine ex_if_ne_f h3 ?_
    refine ex_bipush (v := (-2)) (by decide) ?_
    have H := Option.some.inj H
    subst H
    exact ex_iret (M := 232) (Or.inl rfl)
  · rw [if_neg h3] at H
    refine ex_if_ne_j (ct := am_c232_11) h3 rfl ?_
    refine ex_iload_n rfl ?_
    refine ex_iconst (v := 0) (by decide) ?_
    refine ex_iconst (v := 1) (by decide) ?_
    obtain ⟨v4, S5, hp, H⟩ := am_b2_el H
    refine ex_callS rfl rfl (Nat.le_of_ble_eq_true rfl) (Nat.le_of_ble_eq_true rfl) (r197 (by omega) hp) rfl ?_
    by_cases h6 : v4 = 0
    · rw [if_pos h6] at H
      refine ex_if_eq_j (ct := am_c232_29) h6 rfl ?_
      refine ex_iconst (v := (-1)) (by decide) ?_
      have H := Option.some.inj H
      subst H
      exact ex_iret (M := 232) (Or.inl rfl)
    · rw [if_neg h6] at H
      refine ex_if_eq_f h6 ?_
      refine ex_aload_n rfl ?_
      refine ex_iload_n rfl ?_
      refine ex_iload_n rfl ?_
      obtain ⟨v7, S8, hp, H⟩ := am_b2_el H
      refine ex_callV rfl rfl (Nat.le_of_ble_eq_true rfl) (Nat.le_of_ble_eq_true rfl) rfl (r231 (by omega) hp) rfl ?_
      refine ex_goto (ct := am_c232_30) rfl ?_
      have H := Option.some.inj H
      subst H
      exact ex_iret (M := 232) (Or.inl rfl)
def g238_318 (F : Nat) (s1 : Int32) (s2 : Int32) (s3 : Int32) (S : AmT) : Option (Int32 × AmT) := (f237 F s1 s2 s3 S).bind fun S9 => some (1, S9)
def g238_304 (F : Nat) (x1 : Int32) (x6 : Int32) (s1 : Int32) (s2 : Int32) (S : AmT) : Option (Int32 × AmT) := if x1 = 3 then (g238_318 F s1 s2 (2 * x6) S) else (g238_318 F s1 s2 x6 S)
def g238_285 (F : Nat) (k72 : Int32 → Int32 → Int32 → Int32 → Int32 → AmT → Option (Int32 × AmT)) (x1 : Int32) (x2 : Int32) (x4 : Int32) (x6 : Int32) (x7 : Int32) (S : AmT) : Option (Int32 × AmT) := k72 x1 x2 x4 x6 (x7 + 1) S
def g238_238 (F : Nat) (k72 : Int32 → Int32 → Int32 → Int32 → Int32 → AmT → Option (Int32 × AmT)) : Nat → Int32 → Int32 → Int32 → Int32 → Int32 → Int32 → AmT → Option (Int32 × AmT)
  | 0, _, _, _, _, _, _, _ => none
  | n + 1, x1, x2, x4, x6, x7, x8, S => if x6 ≤ x8 then (g238_285 F k72 x1 x2 x4 x6 x7 S) else (if x1 = 2 then (am_b2 (f235 F x2 x7 (x6 + x8) S) fun v13 S14 => am_b2 (f235 F x2 x7 ((x6 - 1) - x8) S14) fun v15 S16 => (f236 F x2 v13 v15 S16).bind fun S17 => g238_238 F k72 n x1 x2 x4 x6 x7 (x8 + 1) S17) else (g238_285 F k72 x1 x2 x4 x6 x7 S))
def g238_229 (F : Nat) (k72 : Int32 → Int32 → Int32 → Int32 → Int32 → AmT → Option (Int32 × AmT)) (k82 : Int32 → Int32 → Int32 → Int32 → Int32 → Int32 → AmT → Option (Int32 × AmT)) (x1 : Int32) (x2 : Int32) (x4 : Int32) (x6 : Int32) (x7 : Int32) (x8 : Int32) (S : AmT) : Option (Int32 × AmT) := k82 x1 x2 x4 x6 x7 (x8 + 1) S
def g238_82 (F : Nat) (k72 : Int32 → Int32 → Int32 → Int32 → Int32 → AmT → Option (Int32 × AmT)) : Nat → Int32 → Int32 → Int32 → Int32 → Int32 → Int32 → AmT → Option (Int32 × AmT)
  | 0, _, _, _, _, _, _, _ => none
  | n + 1, x1, x2, x4, x6, x7, x8, S => if x6 ≤ x8 then (g238_238 F k72 F x1 x2 x4 x6 x7 0 S) else (if x1 = 1 then (am_b2 (f235 F x2 x7 ((x6 - 1) - x8) S) fun v35 S36 => am_b2 (f235 F x2 x7 (x6 + x8) S36) fun v37 S38 => (f236 F x2 v35 v37 S38).bind fun S39 => g238_229 F k72 (fun x1 x2 x4 x6 x7 x8 S => g238_82 F k72 n x1 x2 x4 x6 x7 x8 S) x1 x2 x4 x6 x7 x8 S39) else (if x1 = 2 then (am_b2 (f235 F x2 x7 (((2 * x6) - 1) - x8) S) fun v30 S31 => am_b2 (f235 F x2 x7 ((2 * x6) + x8) S31) fun v32 S33 => (f236 F x2 v30 v32 S33).bind fun S34 => g238_229 F k72 (fun x1 x2 x4 x6 x7 x8 S => g238_82 F k72 n x1 x2 x4 x6 x7 x8 S) x1 x2 x4 x6 x7 x8 S34) else (am_b2 (f235 F x2 x7 (x6 + x8) S) fun v20 S21 => am_b2 (f235 F x2 x7 ((x6 - 1) - x8) S21) fun v22 S23 => (f236 F x2 v20 v22 S23).bind fun S24 => am_b2 (f235 F x2 x7 (((3 * x6) - 1) - x8) S24) fun v25 S26 => am_b2 (f235 F x2 x7 ((3 * x6) + x8) S26) fun v27 S28 => (f236 F x2 v25 v27 S28).bind fun S29 => g238_229 F k72 (fun x1 x2 x4 x6 x7 x8 S => g238_82 F k72 n x1 x2 x4 x6 x7 x8 S) x1 x2 x4 x6 x7 x8 S29)))
def g238_72 (F : Nat) : Nat → Int32 → Int32 → Int32 → Int32 → Int32 → AmT → Option (Int32 × AmT)
  | 0, _, _, _, _, _, _ => none
  | n + 1, x1, x2, x4, x6, x7, S => if x4 ≤ x7 then (if x1 = 1 then (g238_304 F x1 x6 x2 0 S) else (g238_304 F x1 x6 x2 x6 S)) else (g238_82 F (fun x1 x2 x4 x6 x7 S => g238_72 F n x1 x2 x4 x6 x7 S) F x1 x2 x4 x6 x7 0 S)
def g238_52 (F : Nat) (x1 : Int32) (x2 : Int32) (x3 : Int32) (x4 : Int32) (s0 : Int32) (S : AmT) : Option (Int32 × AmT) := am_nz s0 (am_nz s0 (if (x3 - x3 / s0 * s0) = 0 then (g238_72 F F x1 x2 x4 (x3 / s0) 0 S) else (some (0, S))))
def g238_31 (F : Nat) (x1 : Int32) (x2 : Int32) (x3 : Int32) (s0 : Int32) (S : AmT) : Option (Int32 × AmT) := if x1 = 1 then (g238_52 F x1 x2 x3 s0 2 S) else (if x1 = 2 then (g238_52 F x1 x2 x3 s0 3 S) else (g238_52 F x1 x2 x3 s0 4 S))
def g238_15 (F : Nat) (x1 : Int32) (x2 : Int32) (s0 : Int32) (S : AmT) : Option (Int32 × AmT) := if x2 = 0 then (g238_31 F x1 x2 s0 (S.1 95 41) S) else (g238_31 F x1 x2 s0 (S.1 95 40) S)
-- X10_bends
def f238 (F : Nat) (x1 : Int32) (x2 : Int32) (S : AmT) : Option (Int32 × AmT) := if x2 = 0 then (g238_15 F x1 x2 (S.1 95 40) S) else (g238_15 F x1 x2 (S.1 95 41) S)
set_option maxHeartbeats 1000000 in
set_option maxRecDepth 20000 in
theorem e238_318 {Lg : Nat} {xs : Nat → Int32} {d F : Nat} {s1 : Int32} {s2 : Int32} {s3 : Int32} {w0 : Value} {w1 : Value} {w2 : Value} {w3 : Value} {w4 : Value} {w5 : Value} {w6 : Value} {w7 : Value} {w8 : Value} {S : AmT} {q : Int32 × AmT} (hd : 2 ≤ d) (H : g238_318 F s1 s2 s3 S = some q) : Ex (am_X Lg xs) d 238 am_c238_318 [w0, w1, w2, w3, w4, w5, w6, w7, w8] [.int s3, .int s2, .int s1, .ref 95] (hS S) (some q.1, hS q.2) := by
  obtain ⟨d, rfl⟩ : ∃ d2, d = d2 + 1 := ⟨d - 1, by omega⟩
  unfold g238_318 at H
  obtain ⟨S9, hp, H⟩ := Option.bind_eq_some_iff.mp H
  refine ex_callV rfl rfl (Nat.le_of_ble_eq_true rfl) (Nat.le_of_ble_eq_true rfl) rfl (r237 (by omega) hp) rfl ?_
  refine ex_iconst (v := 1) (by decide) ?_
  have H := Option.some.inj H
  subst H
  exact ex_iret (M := 238) (Or.inr ⟨rfl, by decide⟩)
set_option maxHeartbeats 1000000 in
set_option maxRecDepth 20000 in
theorem e238_304 {Lg : Nat} {xs : Nat → Int32} {d F : Nat} {x1 : Int32} {x6 : Int32} {s1 : Int32} {s2 : Int32} {w0 : Value} {w2 : Value} {w3 : Value} {w4 : Value} {w5 : Value} {w7 : Value} {w8 : Value} {S : AmT} {q : Int32 × AmT} (hd : 2 ≤ d) (H : g238_304 F x1 x6 s1 s2 S = some q) : Ex (am_X Lg xs) d 238 am_c238_304 [w0, .int x1, w2, w3, w4, w5, .int x6, w7, w8] [.int s2, .int s1, .ref 95] (hS S) (some q.1, hS q.2) := by
  obtain ⟨d, rfl⟩ : ∃ d2, d = d2 + 1 := ⟨d - 1, by omega⟩
  unfold g238_304 at H
  refine ex_iload_n rfl ?_
  refine ex_iconst (v := 3) (by decide) ?_
  by_cases h8 : x1 = 3
  · rw [if_pos h8] at H
    refine ex_icmp_ne_f h8 ?_
    refine ex_iconst (v := 2) (by decide) ?_
    refine ex_iload rfl ?_
    refine ex_imul ?_
    refine ex_goto (ct := am_c238_318) rfl ?_
    exact e238_318 hd H
  · rw [if_neg h8] at H
    refine ex_icmp_ne_j (ct := am_c238_316) h8 rfl ?_
    refine ex_iload rfl ?_
    exact e238_318 hd H
set_option maxHeartbeats 1000000 in
set_option maxRecDepth 20000 in
theorem e238_285 {Lg : Nat} {xs : Nat → Int32} {d F : Nat} {k72 : Int32 → Int32 → Int32 → Int32 → Int32 → AmT → Option (Int32 × AmT)} {x1 : Int32} {x2 : Int32} {x4 : Int32} {x6 : Int32} {x7 : Int32} {w3 : Value} {w5 : Value} {w8 : Value} {S : AmT} {q : Int32 × AmT} (hd : 2 ≤ d) (hk72 : ∀ (x1 : Int32) (x2 : Int32) (x4 : Int32) (x6 : Int32) (x7 : Int32) (w3 : Value) (w5 : Value) (w8 : Value) (S : AmT) (q : Int32 × AmT), k72 x1 x2 x4 x6 x7 S = some q → Ex (am_X Lg xs) d 238 am_c238_72 [.ref 95, .int x1, .int x2, w3, .int x4, w5, .int x6, .int x7, w8] [] (hS S) (some q.1, hS q.2)) (H : g238_285 F k72 x1 x2 x4 x6 x7 S = some q) : Ex (am_X Lg xs) d 238 am_c238_285 [.ref 95, .int x1, .int x2, w3, .int x4, w5, .int x6, .int x7, w8] [] (hS S) (some q.1, hS q.2) := by
  obtain ⟨d, rfl⟩ : ∃ d2, d = d2 + 1 := ⟨d - 1, by omega⟩
  unfold g238_285 at H
  refine ex_iinc (L2 := [.ref 95, .int x1, .int x2, w3, .int x4, w5, .int x6, .int (x7 + 1), w8]) (v := (x7 + 1)) rfl (Nat.le_of_ble_eq_true rfl) (congrArg (fun z => x7 + z) (by decide)) rfl ?_
  refine ex_goto (ct := am_c238_72) rfl ?_
  exact hk72 _ _ _ _ _ _ _ _ _ _ H
set_option maxHeartbeats 1000000 in
set_option maxRecDepth 20000 in
theorem e238_238 {Lg : Nat} {xs : Nat → Int32} {d F : Nat} {k72 : Int32 → Int32 → Int32 → Int32 → Int32 → AmT → Option (Int32 × AmT)} (hd : 2 ≤ d) (hk72 : ∀ (x1 : Int32) (x2 : Int32) (x4 : Int32) (x6 : Int32) (x7 : Int32) (w3 : Value) (w5 : Value) (w8 : Value) (S : AmT) (q : Int32 × AmT), k72 x1 x2 x4 x6 x7 S = some q → Ex (am_X Lg xs) d 238 am_c238_72 [.ref 95, .int x1, .int x2, w3, .int x4, w5, .int x6, .int x7, w8] [] (hS S) (some q.1, hS q.2)) : ∀ (n : Nat) (x1 : Int32) (x2 : Int32) (x4 : Int32) (x6 : Int32) (x7 : Int32) (x8 : Int32) (w3 : Value) (w5 : Value) (S : AmT) (q : Int32 × AmT), g238_238 F k72 n x1 x2 x4 x6 x7 x8 S = some q → Ex (am_X Lg xs) d 238 am_c238_238 [.ref 95, .int x1, .int x2, w3, .int x4, w5, .int x6, .int x7, .int x8] [] (hS S) (some q.1, hS q.2) := by
  obtain ⟨d, rfl⟩ : ∃ d2, d = d2 + 1 := ⟨d - 1, by omega⟩
  intro n
  induction n with
  | zero =>
    intro x1 x2 x4 x6 x7 x8 w3 w5 S q H
    cases H
  | succ n ih =>
    intro x1 x2 x4 x6 x7 x8 w3 w5 S q H
    have H : (if x6 ≤ x8 then (g238_285 F k72 x1 x2 x4 x6 x7 S) else (if x1 = 2 then (am_b2 (f235 F x2 x7 (x6 + x8) S) fun v13 S14 => am_b2 (f235 F x2 x7 ((x6 - 1) - x8) S14) fun v15 S16 => (f236 F x2 v13 v15 S16).bind fun S17 => g238_238 F k72 n x1 x2 x4 x6 x7 (x8 + 1) S17) else (g238_285 F k72 x1 x2 x4 x6 x7 S))) = some q := H
    refine ex_iload rfl ?_
    refine ex_iload rfl ?_
    by_cases h11 : x6 ≤ x8
    · rw [if_pos h11] at H
      refine ex_icmp_ge_j (ct := am_c238_285) h11 rfl ?_
      exact e238_285 hd hk72 H
    · rw [if_neg h11] at H
      refine ex_icmp_ge_f h11 ?_
      refine ex_iload_n rfl ?_
      refine ex_iconst (v := 2) (by decide) ?_
      by_cases h12 : x1 = 2
      · rw [if_pos h12] at H
        refine ex_icmp_ne_f h12 ?_
        refine ex_aload_n rfl ?_
        refine ex_iload_n rfl ?_
        refine ex_iload_n rfl ?_
        refine ex_iload rfl ?_
        refine ex_iload rfl ?_
        refine ex_iload rfl ?_
        refine ex_iadd ?_
        obtain ⟨v13, S14, hp, H⟩ := am_b2_el H
        refine ex_callS rfl rfl (Nat.le_of_ble_eq_true rfl) (Nat.le_of_ble_eq_true rfl) (r235 (by omega) hp) rfl ?_
        refine ex_iload_n rfl ?_
        refine ex_iload rfl ?_
        refine ex_iload rfl ?_
        refine ex_iconst (v := 1) (by decide) ?_
        refine ex_isub ?_
        refine ex_iload rfl ?_
        refine ex_isub ?_
        obtain ⟨v15, S16, hp, H⟩ := am_b2_el H
        refine ex_callS rfl rfl (Nat.le_of_ble_eq_true rfl) (Nat.le_of_ble_eq_true rfl) (r235 (by omega) hp) rfl ?_
        obtain ⟨S17, hp, H⟩ := Option.bind_eq_some_iff.mp H
        refine ex_callV rfl rfl (Nat.le_of_ble_eq_true rfl) (Nat.le_of_ble_eq_true rfl) rfl (r236 (by omega) hp) rfl ?_
        refine ex_iinc (L2 := [.ref 95, .int x1, .int x2, w3, .int x4, w5, .int x6, .int x7, .int (x8 + 1)]) (v := (x8 + 1)) rfl (Nat.le_of_ble_eq_true rfl) (congrArg (fun z => x8 + z) (by decide)) rfl ?_
        refine ex_goto (ct := am_c238_238) rfl ?_
        exact ih _ _ _ _ _ _ _ _ _ _ H
      · rw [if_neg h12] at H
        refine ex_icmp_ne_j (ct := am_c238_285) h12 rfl ?_
        exact e238_285 hd hk72 H
set_option maxHeartbeats 1000000 in
set_option maxRecDepth 20000 in
theorem e238_229 {Lg : Nat} {xs : Nat → Int32} {d F : Nat} {k72 : Int32 → Int32 → Int32 → Int32 → Int32 → AmT → Option (Int32 × AmT)} {k82 : Int32 → Int32 → Int32 → Int32 → Int32 → Int32 → AmT → Option (Int32 × AmT)} {x1 : Int32} {x2 : Int32} {x4 : Int32} {x6 : Int32} {x7 : Int32} {x8 : Int32} {w3 : Value} {w5 : Value} {S : AmT} {q : Int32 × AmT} (hd : 2 ≤ d) (hk72 : ∀ (x1 : Int32) (x2 : Int32) (x4 : Int32) (x6 : Int32) (x7 : Int32) (w3 : Value) (w5 : Value) (w8 : Value) (S : AmT) (q : Int32 × AmT), k72 x1 x2 x4 x6 x7 S = some q → Ex (am_X Lg xs) d 238 am_c238_72 [.ref 95, .int x1, .int x2, w3, .int x4, w5, .int x6, .int x7, w8] [] (hS S) (some q.1, hS q.2)) (hk82 : ∀ (x1 : Int32) (x2 : Int32) (x4 : Int32) (x6 : Int32) (x7 : Int32) (x8 : Int32) (w3 : Value) (w5 : Value) (S : AmT) (q : Int32 × AmT), k82 x1 x2 x4 x6 x7 x8 S = some q → Ex (am_X Lg xs) d 238 am_c238_82 [.ref 95, .int x1, .int x2, w3, .int x4, w5, .int x6, .int x7, .int x8] [] (hS S) (some q.1, hS q.2)) (H : g238_229 F k72 k82 x1 x2 x4 x6 x7 x8 S = some q) : Ex (am_X Lg xs) d 238 am_c238_229 [.ref 95, .int x1, .int x2, w3, .int x4, w5, .int x6, .int x7, .int x8] [] (hS S) (some q.1, hS q.2) := by
  obtain ⟨d, rfl⟩ : ∃ d2, d = d2 + 1 := ⟨d - 1, by omega⟩
  unfold g238_229 at H
  refine ex_iinc (L2 := [.ref 95, .int x1, .int x2, w3, .int x4, w5, .int x6, .int x7, .int (x8 + 1)]) (v := (x8 + 1)) rfl (Nat.le_of_ble_eq_true rfl) (congrArg (fun z => x8 + z) (by decide)) rfl ?_
  refine ex_goto (ct := am_c238_82) rfl ?_
  exact hk82 _ _ _ _ _ _ _ _ _ _ H
set_option maxHeartbeats 1000000 in
set_option maxRecDepth 20000 in
theorem e238_82 {Lg : Nat} {xs : Nat → Int32} {d F : Nat} {k72 : Int32 → Int32 → Int32 → Int32 → Int32 → AmT → Option (Int32 × AmT)} (hd : 2 ≤ d) (hk72 : ∀ (x1 : Int32) (x2 : Int32) (x4 : Int32) (x6 : Int32) (x7 : Int32) (w3 : Value) (w5 : Value) (w8 : Value) (S : AmT) (q : Int32 × AmT), k72 x1 x2 x4 x6 x7 S = some q → Ex (am_X Lg xs) d 238 am_c238_72 [.ref 95, .int x1, .int x2, w3, .int x4, w5, .int x6, .int x7, w8] [] (hS S) (some q.1, hS q.2)) : ∀ (n : Nat) (x1 : Int32) (x2 : Int32) (x4 : Int32) (x6 : Int32) (x7 : Int32) (x8 : Int32) (w3 : Value) (w5 : Value) (S : AmT) (q : Int32 × AmT), g238_82 F k72 n x1 x2 x4 x6 x7 x8 S = some q → Ex (am_X Lg xs) d 238 am_c238_82 [.ref 95, .int x1, .int x2, w3, .int x4, w5, .int x6, .int x7, .int x8] [] (hS S) (some q.1, hS q.2) := by
  obtain ⟨d, rfl⟩ : ∃ d2, d = d2 + 1 := ⟨d - 1, by omega⟩
  intro n
  induction n with
  | zero =>
    intro x1 x2 x4 x6 x7 x8 w3 w5 S q H
    cases H
  | succ n ih =>
    intro x1 x2 x4 x6 x7 x8 w3 w5 S q H
    have H : (if x6 ≤ x8 then (g238_238 F k72 F x1 x2 x4 x6 x7 0 S) else (if x1 = 1 then (am_b2 (f235 F x2 x7 ((x6 - 1) - x8) S) fun v35 S36 => am_b2 (f235 F x2 x7 (x6 + x8) S36) fun v37 S38 => (f236 F x2 v35 v37 S38).bind fun S39 => g238_229 F k72 (fun x1 x2 x4 x6 x7 x8 S => g238_82 F k72 n x1 x2 x4 x6 x7 x8 S) x1 x2 x4 x6 x7 x8 S39) else (if x1 = 2 then (am_b2 (f235 F x2 x7 (((2 * x6) - 1) - x8) S) fun v30 S31 => am_b2 (f235 F x2 x7 ((2 * x6) + x8) S31) fun v32 S33 => (f236 F x2 v30 v32 S33).bind fun S34 => g238_229 F k72 (fun x1 x2 x4 x6 x7 x8 S => g238_82 F k72 n x1 x2 x4 x6 x7 x8 S) x1 x2 x4 x6 x7 x8 S34) else (am_b2 (f235 F x2 x7 (x6 + x8) S) fun v20 S21 => am_b2 (f235 F x2 x7 ((x6 - 1) - x8) S21) fun v22 S23 => (f236 F x2 v20 v22 S23).bind fun S24 => am_b2 (f235 F x2 x7 (((3 * x6) - 1) - x8) S24) fun v25 S26 => am_b2 (f235 F x2 x7 ((3 * x6) + x8) S26) fun v27 S28 => (f236 F x2 v25 v27 S28).bind fun S29 => g238_229 F k72 (fun x1 x2 x4 x6 x7 x8 S => g238_82 F k72 n x1 x2 x4 x6 x7 x8 S) x1 x2 x4 x6 x7 x8 S29)))) = some q := H
    refine ex_iload rfl ?_
    refine ex_iload rfl ?_
    by_cases h10 : x6 ≤ x8
    · rw [if_pos h10] at H
      refine ex_icmp_ge_j (ct := am_c238_235) h10 rfl ?_
      refine ex_iconst (v := 0) (by decide) ?_
      refine ex_istore (L2 := [.ref 95, .int x1, .int x2, w3, .int x4, w5, .int x6, .int x7, .int 0]) (Nat.le_of_ble_eq_true rfl) rfl ?_
      exact e238_238 hd hk72 _ _ _ _ _ _ _ _ _ _ _ H
    · rw [if_neg h10] at H
      refine ex_icmp_ge_f h10 ?_
      refine ex_iload_n rfl ?_
      refine ex_iconst (v := 1) (by decide) ?_
      by_cases h18 : x1 = 1
      · rw [if_pos h18] at H
        refine ex_icmp_ne_f h18 ?_
        refine ex_aload_n rfl ?_
        refine ex_iload_n rfl ?_
        refine ex_iload_n rfl ?_
        refine ex_iload rfl ?_
        refine ex_iload rfl ?_
        refine ex_iconst (v := 1) (by decide) ?_
        refine ex_isub ?_
        refine ex_iload rfl ?_
        refine ex_isub ?_
        obtain ⟨v35, S36, hp, H⟩ := am_b2_el H
        refine ex_callS rfl rfl (Nat.le_of_ble_eq_true rfl) (Nat.le_of_ble_eq_true rfl) (r235 (by omega) hp) rfl ?_
        refine ex_iload_n rfl ?_
        refine ex_iload rfl ?_
        refine ex_iload rfl ?_
        refine ex_iload rfl ?_
        refine ex_iadd ?_
        obtain ⟨v37, S38, hp, H⟩ := am_b2_el H
        refine ex_callS rfl rfl (Nat.le_of_ble_eq_true rfl) (Nat.le_of_ble_eq_true rfl) (r235 (by omega) hp) rfl ?_
        obtain ⟨S39, hp, H⟩ := Option.bind_eq_some_iff.mp H
        refine ex_callV rfl rfl (Nat.le_of_ble_eq_true rfl) (Nat.le_of_ble_eq_true rfl) rfl (r236 (by omega) hp) rfl ?_
        refine ex_goto (ct := am_c238_229) rfl ?_
        exact e238_229 hd hk72 (fun x1 x2 x4 x6 x7 x8 w3 w5 S q H => ih x1 x2 x4 x6 x7 x8 w3 w5 S q H) H
      · rw [if_neg h18] at H
        refine ex_icmp_ne_j (ct := am_c238_126) h18 rfl ?_
        refine ex_iload_n rfl ?_
        refine ex_iconst (v := 2) (by decide) ?_
        by_cases h19 : x1 = 2
        · rw [if_pos h19] at H
          refine ex_icmp_ne_f h19 ?_
          refine ex_aload_n rfl ?_
          refine ex_iload_n rfl ?_
          refine ex_iload_n rfl ?_
          refine ex_iload rfl ?_
          refine ex_iconst (v := 2) (by decide) ?_
          refine ex_iload rfl ?_
          refine ex_imul ?_
          refine ex_iconst (v := 1) (by decide) ?_
          refine ex_isub ?_
          refine ex_iload rfl ?_
          refine ex_isub ?_
          obtain ⟨v30, S31, hp, H⟩ := am_b2_el H
          refine ex_callS rfl rfl (Nat.le_of_ble_eq_true rfl) (Nat.le_of_ble_eq_true rfl) (r235 (by omega) hp) rfl ?_
          refine ex_iload_n rfl ?_
          refine ex_iload rfl ?_
          refine ex_iconst (v := 2) (by decide) ?_
          refine ex_iload rfl ?_
          refine ex_imul ?_
          refine ex_iload rfl ?_
          refine ex_iadd ?_
          obtain ⟨v32, S33, hp, H⟩ := am_b2_el H
          refine ex_callS rfl rfl (Nat.le_of_ble_eq_true rfl) (Nat.le_of_ble_eq_true rfl) (r235 (by omega) hp) rfl ?_
          obtain ⟨S34, hp, H⟩ := Option.bind_eq_some_iff.mp H
          refine ex_callV rfl rfl (Nat.le_of_ble_eq_true rfl) (Nat.le_of_ble_eq_true rfl) rfl (r236 (by omega) hp) rfl ?_
          refine ex_goto (ct := am_c238_229) rfl ?_
          exact e238_229 hd hk72 (fun x1 x2 x4 x6 x7 x8 w3 w5 S q H => ih x1 x2 x4 x6 x7 x8 w3 w5 S q H) H
        · rw [if_neg h19] at H
          refine ex_icmp_ne_j (ct := am_c238_167) h19 rfl ?_
          refine ex_aload_n rfl ?_
          refine ex_iload_n rfl ?_
          refine ex_iload_n rfl ?_
          refine ex_iload rfl ?_
          refine ex_iload rfl ?_
          refine ex_iload rfl ?_
          refine ex_iadd ?_
          obtain ⟨v20, S21, hp, H⟩ := am_b2_el H
          refine ex_callS rfl rfl (Nat.le_of_ble_eq_true rfl) (Nat.le_of_ble_eq_true rfl) (r235 (by omega) hp) rfl ?_
          refine ex_iload_n rfl ?_
          refine ex_iload rfl ?_
          refine ex_iload rfl ?_
          refine ex_iconst (v := 1) (by decide) ?_
          refine ex_isub ?_
          refine ex_iload rfl ?_
          refine ex_isub ?_
          obtain ⟨v22, S23, hp, H⟩ := am_b2_el H
          refine ex_callS rfl rfl (Nat.le_of_ble_eq_true rfl) (Nat.le_of_ble_eq_true rfl) (r235 (by omega) hp) rfl ?_
          obtain ⟨S24, hp, H⟩ := Option.bind_eq_some_iff.mp H
          refine ex_callV rfl rfl (Nat.le_of_ble_eq_true rfl) (Nat.le_of_ble_eq_true rfl) rfl (r236 (by omega) hp) rfl ?_
          refine ex_aload_n rfl ?_
          refine ex_iload_n rfl ?_
          refine ex_iload_n rfl ?_
          refine ex_iload rfl ?_
          refine ex_iconst (v := 3) (by decide) ?_
          refine ex_iload rfl ?_
          refine ex_imul ?_
          refine ex_iconst (v := 1) (by decide) ?_
          refine ex_isub ?_
          refine ex_iload rfl ?_
          refine ex_isub ?_
          obtain ⟨v25, S26, hp, H⟩ := am_b2_el H
          refine ex_callS rfl rfl (Nat.le_of_ble_eq_true rfl) (Nat.le_of_ble_eq_true rfl) (r235 (by omega) hp) rfl ?_
          refine ex_iload_n rfl ?_
          refine ex_iload rfl ?_
          refine ex_iconst (v := 3) (by decide) ?_
          refine ex_iload rfl ?_
          refine ex_imul ?_
          refine ex_iload rfl ?_
          refine ex_iadd ?_
          obtain ⟨v27, S28, hp, H⟩ := am_b2_el H
          refine ex_callS rfl rfl (Nat.le_of_ble_eq_true rfl) (Nat.le_of_ble_eq_true rfl) (r235 (by omega) hp) rfl ?_
          obtain ⟨S29, hp, H⟩ := Option.bind_eq_some_iff.mp H
          refine ex_callV rfl rfl (Nat.le_of_ble_eq_true rfl) (Nat.le_of_ble_eq_true rfl) rfl (r236 (by omega) hp) rfl ?_
          exact e238_229 hd hk72 (fun x1 x2 x4 x6 x7 x8 w3 w5 S q H => ih x1 x2 x4 x6 x7 x8 w3 w5 S q H) H
set_option maxHeartbeats 1000000 in
set_option maxRecDepth 20000 in
theorem e238_72 {Lg : Nat} {xs : Nat → Int32} {d F : Nat} (hd : 2 ≤ d) : ∀ (n : Nat) (x1 : Int32) (x2 : Int32) (x4 : Int32) (x6 : Int32) (x7 : Int32) (w3 : Value) (w5 : Value) (w8 : Value) (S : AmT) (q : Int32 × AmT), g238_72 F n x1 x2 x4 x6 x7 S = some q → Ex (am_X Lg xs) d 238 am_c238_72 [.ref 95, .int x1, .int x2, w3, .int x4, w5, .int x6, .int x7, w8] [] (hS S) (some q.1, hS q.2) := by
  obtain ⟨d, rfl⟩ : ∃ d2, d = d2 + 1 := ⟨d - 1, by omega⟩
  intro n
  induction n with
  | zero =>
    intro x1 x2 x4 x6 x7 w3 w5 w8 S q H
    cases H
  | succ n ih =>
    intro x1 x2 x4 x6 x7 w3 w5 w8 S q H
    have H : (if x4 ≤ x7 then (if x1 = 1 then (g238_304 F x1 x6 x2 0 S) else (g238_304 F x1 x6 x2 x6 S)) else (g238_82 F (fun x1 x2 x4 x6 x7 S => g238_72 F n x1 x2 x4 x6 x7 S) F x1 x2 x4 x6 x7 0 S)) = some q := H
    refine ex_iload rfl ?_
    refine ex_iload rfl ?_
    by_cases h6 : x4 ≤ x7
    · rw [if_pos h6] at H
      refine ex_icmp_ge_j (ct := am_c238_291) h6 rfl ?_
      refine ex_aload_n rfl ?_
      refine ex_iload_n rfl ?_
      refine ex_iload_n rfl ?_
      refine ex_iconst (v := 1) (by decide) ?_
      by_cases h7 : x1 = 1
      · rw [if_pos h7] at H
        refine ex_icmp_ne_f h7 ?_
        refine ex_iconst (v := 0) (by decide) ?_
        refine ex_goto (ct := am_c238_304) rfl ?_
        exact e238_304 hd H
      · rw [if_neg h7] at H
        refine ex_icmp_ne_j (ct := am_c238_302) h7 rfl ?_
        refine ex_iload rfl ?_
        exact e238_304 hd H
    · rw [if_neg h6] at H
      refine ex_icmp_ge_f h6 ?_
      refine ex_iconst (v := 0) (by decide) ?_
      refine ex_istore (L2 := [.ref 95, .int x1, .int x2, w3, .int x4, w5, .int x6, .int x7, .int 0]) (Nat.le_of_ble_eq_true rfl) rfl ?_
      exact e238_82 hd (fun x1 x2 x4 x6 x7 w3 w5 w8 S q H => ih x1 x2 x4 x6 x7 w3 w5 w8 S q H) _ _ _ _ _ _ _ _ _ _ _ H
set_option maxHeartbeats 1000000 in
set_option maxRecDepth 20000 in
theorem e238_52 {Lg : Nat} {xs : Nat → Int32} {d F : Nat} {x1 : Int32} {x2 : Int32} {x3 : Int32} {x4 : Int32} {s0 : Int32} {w5 : Value} {w6 : Value} {w7 : Value} {w8 : Value} {S : AmT} {q : Int32 × AmT} (hd : 2 ≤ d) (H : g238_52 F x1 x2 x3 x4 s0 S = some q) : Ex (am_X Lg xs) d 238 am_c238_52 [.ref 95, .int x1, .int x2, .int x3, .int x4, w5, w6, w7, w8] [.int s0] (hS S) (some q.1, hS q.2) := by
  obtain ⟨d, rfl⟩ : ∃ d2, d = d2 + 1 := ⟨d - 1, by omega⟩
  unfold g238_52 at H
  refine ex_istore (L2 := [.ref 95, .int x1, .int x2, .int x3, .int x4, .int s0, w6, w7, w8]) (Nat.le_of_ble_eq_true rfl) rfl ?_
  refine ex_iload_n rfl ?_
  refine ex_iload rfl ?_
  obtain ⟨hz, H⟩ := am_nz_el H
  refine ex_idiv hz ?_
  refine ex_istore (L2 := [.ref 95, .int x1, .int x2, .int x3, .int x4, .int s0, .int (x3 / s0), w7, w8]) (Nat.le_of_ble_eq_true rfl) rfl ?_
  refine ex_iload_n rfl ?_
  refine ex_iload rfl ?_
  obtain ⟨hz, H⟩ := am_nz_el H
  refine ex_irem hz ?_
  by_cases h5 : (x3 - x3 / s0 * s0) = 0
  · rw [if_pos h5] at H
    refine ex_if_eq_j (ct := am_c238_69) h5 rfl ?_
    refine ex_iconst (v := 0) (by decide) ?_
    refine ex_istore (L2 := [.ref 95, .int x1, .int x2, .int x3, .int x4, .int s0, .int (x3 / s0), .int 0, w8]) (Nat.le_of_ble_eq_true rfl) rfl ?_
    exact e238_72 hd _ _ _ _ _ _ _ _ _ _ _ H
  · rw [if_neg h5] at H
    refine ex_if_eq_f h5 ?_
    refine ex_iconst (v := 0) (by decide) ?_
    have H := Option.some.inj H
    subst H
    exact ex_iret (M := 238) (Or.inr ⟨rfl, by decide⟩)
set_option maxHeartbeats 1000000 in
set_option maxRecDepth 20000 in
theorem e238_31 {Lg : Nat} {xs : Nat → Int32} {d F : Nat} {x1 : Int32} {x2 : Int32} {x3 : Int32} {s0 : Int32} {w4 : Value} {w5 : Value} {w6 : Value} {w7 : Value} {w8 : Value} {S : AmT} {q : Int32 × AmT} (hd : 2 ≤ d) (H : g238_31 F x1 x2 x3 s0 S = some q) : Ex (am_X Lg xs) d 238 am_c238_31 [.ref 95, .int x1, .int x2, .int x3, w4, w5, w6, w7, w8] [.int s0] (hS S) (some q.1, hS q.2) := by
  obtain ⟨d, rfl⟩ : ∃ d2, d = d2 + 1 := ⟨d - 1, by omega⟩
  unfold g238_31 at H
  refine ex_istore (L2 := [.ref 95, .int x1, .int x2, .int x3, .int s0, w5, w6, w7, w8]) (Nat.le_of_ble_eq_true rfl) rfl ?_
  refine ex_iload_n rfl ?_
  refine ex_iconst (v := 1) (by decide) ?_
  by_cases h3 : x1 = 1
  · rw [if_pos h3] at H
    refine ex_icmp_ne_f h3 ?_
    refine ex_iconst (v := 2) (by decide) ?_
    refine ex_goto (ct := am_c238_52) rfl ?_
    exact e238_52 hd H
  · rw [if_neg h3] at H
    refine ex_icmp_ne_j (ct := am_c238_42) h3 rfl ?_
    refine ex_iload_n rfl ?_
    refine ex_iconst (v := 2) (by decide) ?_
    by_cases h4 : x1 = 2
    · rw [if_pos h4] at H
      refine ex_icmp_ne_f h4 ?_
      refine ex_iconst (v := 3) (by decide) ?_
      refine ex_goto (ct := am_c238_52) rfl ?_
      exact e238_52 hd H
    · rw [if_neg h4] at H
      refine ex_icmp_ne_j (ct := am_c238_51) h4 rfl ?_
      refine ex_iconst (v := 4) (by decide) ?_
      exact e238_52 hd H
set_option maxHeartbeats 1000000 in
set_option maxRecDepth 20000 in
theorem e238_15 {Lg : Nat} {xs : Nat → Int32} {d F : Nat} {x1 : Int32} {x2 : Int32} {s0 : Int32} {w3 : Value} {w4 : Value} {w5 : Value} {w6 : Value} {w7 : Value} {w8 : Value} {S : AmT} {q : Int32 × AmT} (hd : 2 ≤ d) (H : g238_15 F x1 x2 s0 S = some q) : Ex (am_X Lg xs) d 238 am_c238_15 [.ref 95, .int x1, .int x2, w3, w4, w5, w6, w7, w8] [.int s0] (hS S) (some q.1, hS q.2) := by
  obtain ⟨d, rfl⟩ : ∃ d2, d = d2 + 1 := ⟨d - 1, by omega⟩
  unfold g238_15 at H
  refine ex_istore_n (L2 := [.ref 95, .int x1, .int x2, .int s0, w4, w5, w6, w7, w8]) (Nat.le_of_ble_eq_true rfl) rfl ?_
  refine ex_iload_n rfl ?_
  by_cases h2 : x2 = 0
  · rw [if_pos h2] at H
    refine ex_if_ne_f h2 ?_
    refine ex_aload_n rfl ?_
    refine ex_gI rfl (by decide) ?_
    refine ex_goto (ct := am_c238_31) rfl ?_
    exact e238_31 hd H
  · rw [if_neg h2] at H
    refine ex_if_ne_j (ct := am_c238_27) h2 rfl ?_
    refine ex_aload_n rfl ?_
    refine ex_gI rfl (by decide) ?_
    exact e238_31 hd H
set_option maxHeartbeats 1000000 in
set_option maxRecDepth 20000 in
theorem r238 {Lg : Nat} {xs : Nat → Int32} {d F : Nat} {x1 : Int32} {x2 : Int32} {S : AmT} {q : Int32 × AmT} (hd : 2 ≤ d) (H : f238 F x1 x2 S = some q) : Ex (am_X Lg xs) d 238 (am_P 238) (am_ini (am_Mi 238).1 [.ref 95, .int x1, .int x2]) [] (hS S) (some q.1, hS q.2) := by
  obtain ⟨d, rfl⟩ : ∃ d2, d = d2 + 1 := ⟨d - 1, by omega⟩
  unfold f238 at H
  show Ex (am_X Lg xs) _ 238 am_c238_0 [.ref 95, .int x1, .int x2, .long 0, .long 0, .long 0, .long 0, .long 0, .long 0] [] (hS S) (some q.1, hS q.2)
  refine ex_iload_n rfl ?_
  by_cases h1 : x2 = 0
  · rw [if_pos h1] at H
    refine ex_if_ne_f h1 ?_
    refine ex_aload_n rfl ?_
    refine ex_gI rfl (by decide) ?_
    refine ex_goto (ct := am_c238_15) rfl ?_
    exact e238_15 hd H
  · rw [if_neg h1] at H
    refine ex_if_ne_j (ct := am_c238_11) h1 rfl ?_
    refine ex_aload_n rfl ?_
    refine ex_gI rfl (by decide) ?_
    exact e238_15 hd H
