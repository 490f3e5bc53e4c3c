/-! printed by wip/gen/gen20.py -/
-- X9_page
def f142 (F : Nat) (x1 : Int32) (S : AmT) : Option (Int32 × AmT) := am_b2 (f81 F S) fun v1 S2 => if v1 = 0 then (am_b2 (f34 F x1 S2) fun v4 S5 => if v4 = 0 then (some ((-2), S5)) else (am_b2 (f36 F x1 S5) fun v7 S8 => if v7 < 24 then ((f58 F S8).bind fun S10 => am_b2 (f41 F x1 S10) fun v11 S12 => some (v11, S12)) else (some ((-3), S8)))) else (some ((-4), S2))
set_option maxHeartbeats 1000000 in
set_option maxRecDepth 20000 in
theorem r142 {Lg : Nat} {xs : Nat → Int32} {d F : Nat} {x1 : Int32} {S : AmT} {q : Int32 × AmT} (hd : 3 ≤ d) (H : f142 F x1 S = some q) : Ex (am_X Lg xs) d 142 (am_P 142) (am_ini (am_Mi 142).1 [.ref 0, .int x1]) [] (hS S) (some q.1, hS q.2) := by
  obtain ⟨d, rfl⟩ : ∃ d2, d = d2 + 1 := ⟨d - 1, by omega⟩
  unfold f142 at H
  show Ex (am_X Lg xs) _ 142 am_c142_0 [.ref 0, .int x1] [] (hS S) (some q.1, hS q.2)
  refine ex_aload_n rfl ?_
  refine ex_getR (w := 86) rfl rfl rfl ?_
  obtain ⟨v1, S2, hp, H⟩ := am_b2_el H
  refine ex_callV rfl rfl (Nat.le_of_ble_eq_true rfl) (Nat.le_of_ble_eq_true rfl) rfl (r81 (by omega) hp) rfl ?_
  by_cases h3 : v1 = 0
  · rw [if_pos h3] at H
    refine ex_if_eq_j (ct := am_c142_13) h3 rfl ?_
    refine ex_aload_n rfl ?_
    refine ex_getR (w := 7) rfl rfl rfl ?_
    refine ex_iload_n rfl ?_
    obtain ⟨v4, S5, hp, H⟩ := am_b2_el H
    refine ex_callV rfl rfl (Nat.le_of_ble_eq_true rfl) (Nat.le_of_ble_eq_true rfl) rfl (r34 (by omega) hp) rfl ?_
    by_cases h6 : v4 = 0
    · rw [if_pos h6] at H
      refine ex_if_ne_f h6 ?_
      refine ex_bipush (v := (-2)) (by decide) ?_
      have H := Option.some.inj H
      subst H
      exact ex_iret (M := 142) (Or.inl rfl)
    · rw [if_neg h6] at H
      refine ex_if_ne_j (ct := am_c142_27) h6 rfl ?_
      refine ex_aload_n rfl ?_
      refine ex_getR (w := 7) rfl rfl rfl ?_
      refine ex_iload_n rfl ?_
      obtain ⟨v7, S8, hp, H⟩ := am_b2_el H
      refine ex_callV rfl rfl (Nat.le_of_ble_eq_true rfl) (Nat.le_of_ble_eq_true rfl) rfl (r36 (by omega) hp) rfl ?_
      refine ex_bipush (v := 24) (by decide) ?_
      by_cases h9 : v7 < 24
      · rw [if_pos h9] at H
        refine ex_icmp_lt_j (ct := am_c142_43) h9 rfl ?_
        refine ex_aload_n rfl ?_
        refine ex_getR (w := 1) rfl rfl rfl ?_
        obtain ⟨S10, hp, H⟩ := Option.bind_eq_some_iff.mp H
        refine ex_callV rfl rfl (Nat.le_of_ble_eq_true rfl) (Nat.le_of_ble_eq_true rfl) rfl (r58 (by omega) hp) rfl ?_
        refine ex_aload_n rfl ?_
        refine ex_getR (w := 7) rfl rfl rfl ?_
        refine ex_iload_n rfl ?_
        obtain ⟨v11, S12, hp, H⟩ := am_b2_el H
        refine ex_callV rfl rfl (Nat.le_of_ble_eq_true rfl) (Nat.le_of_ble_eq_true rfl) rfl (r41 (by omega) hp) rfl ?_
        have H := Option.some.inj H
        subst H
        exact ex_iret (M := 142) (Or.inl rfl)
      · rw [if_neg h9] at H
        refine ex_icmp_lt_f h9 ?_
        refine ex_bipush (v := (-3)) (by decide) ?_
        have H := Option.some.inj H
        subst H
        exact ex_iret (M := 142) (Or.inl rfl)
  · rw [if_neg h3] at H
    refine ex_if_eq_f h3 ?_
    refine ex_bipush (v := (-4)) (by decide) ?_
    have H := Option.some.inj H
    subst H
    exact ex_iret (M := 142) (Or.inl rfl)
-- X9_blank
def f143 (F : Nat) (x1 : Int32) (x2 : Int32) (S : AmT) : Option (Int32 × AmT) := am_b2 (f81 F S) fun v1 S2 => if v1 = 0 then (am_b2 (f35 F x1 x2 S2) fun v4 S5 => if v4 = 0 then (some ((-2), S5)) else ((f58 F S5).bind fun S7 => am_b2 (f39 F x1 x2 S7) fun v8 S9 => am_b2 (f42 F v8 S9) fun v10 S11 => some (v10, S11))) else (some ((-4), S2))
set_option maxHeartbeats 1000000 in
set_option maxRecDepth 20000 in
theorem r143 {Lg : Nat} {xs : Nat → Int32} {d F : Nat} {x1 : Int32} {x2 : Int32} {S : AmT} {q : Int32 × AmT} (hd : 3 ≤ d) (H : f143 F x1 x2 S = some q) : Ex (am_X Lg xs) d 143 (am_P 143) (am_ini (am_Mi 143).1 [.ref 0, .int x1, .int x2]) [] (hS S) (some q.1, hS q.2) := by
  obtain ⟨d, rfl⟩ : ∃ d2, d = d2 + 1 := ⟨d - 1, by omega⟩
  unfold f143 at H
  show Ex (am_X Lg xs) _ 143 am_c143_0 [.ref 0, .int x1, .int x2] [] (hS S) (some q.1, hS q.2)
  refine ex_aload_n rfl ?_
  refine ex_getR (w := 86) rfl rfl rfl ?_
  obtain ⟨v1, S2, hp, H⟩ := am_b2_el H
  refine ex_callV rfl rfl (Nat.le_of_ble_eq_true rfl) (Nat.le_of_ble_eq_true rfl) rfl (r81 (by omega) hp) rfl ?_
  by_cases h3 : v1 = 0
  · rw [if_pos h3] at H
    refine ex_if_eq_j (ct := am_c143_13) h3 rfl ?_
    refine ex_aload_n rfl ?_
    refine ex_getR (w := 7) rfl rfl rfl ?_
    refine ex_iload_n rfl ?_
    refine ex_iload_n rfl ?_
    obtain ⟨v4, S5, hp, H⟩ := am_b2_el H
    refine ex_callV rfl rfl (Nat.le_of_ble_eq_true rfl) (Nat.le_of_ble_eq_true rfl) rfl (r35 (by omega) hp) rfl ?_
    by_cases h6 : v4 = 0
    · rw [if_pos h6] at H
      refine ex_if_ne_f h6 ?_
      refine ex_bipush (v := (-2)) (by decide) ?_
      have H := Option.some.inj H
      subst H
      exact ex_iret (M := 143) (Or.inl rfl)
    · rw [if_neg h6] at H
      refine ex_if_ne_j (ct := am_c143_28) h6 rfl ?_
      refine ex_aload_n rfl ?_
      refine ex_getR (w := 1) rfl rfl rfl ?_
      obtain ⟨S7, hp, H⟩ := Option.bind_eq_some_iff.mp H
      refine ex_callV rfl rfl (Nat.le_of_ble_eq_true rfl) (Nat.le_of_ble_eq_true rfl) rfl (r58 (by omega) hp) rfl ?_
      refine ex_aload_n rfl ?_
      refine ex_getR (w := 7) rfl rfl rfl ?_
      refine ex_aload_n rfl ?_
      refine ex_getR (w := 7) rfl rfl rfl ?_
      refine ex_iload_n rfl ?_
      refine ex_iload_n rfl ?_
      obtain ⟨v8, S9, hp, H⟩ := am_b2_el H
      refine ex_callV rfl rfl (Nat.le_of_ble_eq_true rfl) (Nat.le_of_ble_eq_true rfl) rfl (r39 (by omega) hp) rfl ?_
      obtain ⟨v10, S11, hp, H⟩ := am_b2_el H
      refine ex_callV rfl rfl (Nat.le_of_ble_eq_true rfl) (Nat.le_of_ble_eq_true rfl) rfl (r42 (by omega) hp) rfl ?_
      have H := Option.some.inj H
      subst H
      exact ex_iret (M := 143) (Or.inl rfl)
  · rw [if_neg h3] at H
    refine ex_if_eq_f h3 ?_
    refine ex_bipush (v := (-4)) (by decide) ?_
    have H := Option.some.inj H
    subst H
    exact ex_iret (M := 143) (Or.inl rfl)
-- X9_rows
def f144 (F : Nat) (x1 : Int32) (x2 : Int32) (x3 : Int32) (S : AmT) : Option (Int32 × AmT) := am_b2 (f81 F S) fun v1 S2 => if v1 = 0 then (am_b2 (f35 F x1 x2 S2) fun v4 S5 => if v4 = 0 then (some ((-2), S5)) else ((f58 F S5).bind fun S7 => am_b2 (f39 F x1 x2 S7) fun v8 S9 => am_b2 (f43 F v8 x3 S9) fun v10 S11 => am_b2 (f129 F v10 S11) fun v12 S13 => some (v12, S13))) else (some ((-4), S2))
set_option maxHeartbeats 1000000 in
set_option maxRecDepth 20000 in
theorem r144 {Lg : Nat} {xs : Nat → Int32} {d F : Nat} {x1 : Int32} {x2 : Int32} {x3 : Int32} {S : AmT} {q : Int32 × AmT} (hd : 3 ≤ d) (H : f144 F x1 x2 x3 S = some q) : Ex (am_X Lg xs) d 144 (am_P 144) (am_ini (am_Mi 144).1 [.ref 0, .int x1, .int x2, .int x3]) [] (hS S) (some q.1, hS q.2) := by
  obtain ⟨d, rfl⟩ : ∃ d2, d = d2 + 1 := ⟨d - 1, by omega⟩
  unfold f144 at H
  show Ex (am_X Lg xs) _ 144 am_c144_0 [.ref 0, .int x1, .int x2, .int x3] [] (hS S) (some q.1, hS q.2)
  refine ex_aload_n rfl ?_
  refine ex_getR (w := 86) rfl rfl rfl ?_
  obtain ⟨v1, S2, hp, H⟩ := am_b2_el H
  refine ex_callV rfl rfl (Nat.le_of_ble_eq_true rfl) (Nat.le_of_ble_eq_true rfl) rfl (r81 (by omega) hp) rfl ?_
  by_cases h3 : v1 = 0
  · rw [if_pos h3] at H
    refine ex_if_eq_j (ct := am_c144_13) h3 rfl ?_
    refine ex_aload_n rfl ?_
    refine ex_getR (w := 7) rfl rfl rfl ?_
    refine ex_iload_n rfl ?_
    refine ex_iload_n rfl ?_
    obtain ⟨v4, S5, hp, H⟩ := am_b2_el H
    refine ex_callV rfl rfl (Nat.le_of_ble_eq_true rfl) (Nat.le_of_ble_eq_true rfl) rfl (r35 (by omega) hp) rfl ?_
    by_cases h6 : v4 = 0
    · rw [if_pos h6] at H
      refine ex_if_ne_f h6 ?_
      refine ex_bipush (v := (-2)) (by decide) ?_
      have H := Option.some.inj H
      subst H
      exact ex_iret (M := 144) (Or.inl rfl)
    · rw [if_neg h6] at H
      refine ex_if_ne_j (ct := am_c144_28) h6 rfl ?_
      refine ex_aload_n rfl ?_
      refine ex_getR (w := 1) rfl rfl rfl ?_
      obtain ⟨S7, hp, H⟩ := Option.bind_eq_some_iff.mp H
      refine ex_callV rfl rfl (Nat.le_of_ble_eq_true rfl) (Nat.le_of_ble_eq_true rfl) rfl (r58 (by omega) hp) rfl ?_
      refine ex_aload_n rfl ?_
      refine ex_getR (w := 5) rfl rfl rfl ?_
      refine ex_aload_n rfl ?_
      refine ex_getR (w := 7) rfl rfl rfl ?_
      refine ex_aload_n rfl ?_
      refine ex_getR (w := 7) rfl rfl rfl ?_
      refine ex_iload_n rfl ?_
      refine ex_iload_n rfl ?_
      obtain ⟨v8, S9, hp, H⟩ := am_b2_el H
      refine ex_callV rfl rfl (Nat.le_of_ble_eq_true rfl) (Nat.le_of_ble_eq_true rfl) rfl (r39 (by omega) hp) rfl ?_
      refine ex_iload_n rfl ?_
      obtain ⟨v10, S11, hp, H⟩ := am_b2_el H
      refine ex_callV rfl rfl (Nat.le_of_ble_eq_true rfl) (Nat.le_of_ble_eq_true rfl) rfl (r43 (by omega) hp) rfl ?_
      obtain ⟨v12, S13, hp, H⟩ := am_b2_el H
      refine ex_callV rfl rfl (Nat.le_of_ble_eq_true rfl) (Nat.le_of_ble_eq_true rfl) rfl (r129 (by omega) hp) rfl ?_
      have H := Option.some.inj H
      subst H
      exact ex_iret (M := 144) (Or.inl rfl)
  · rw [if_neg h3] at H
    refine ex_if_eq_f h3 ?_
    refine ex_bipush (v := (-4)) (by decide) ?_
    have H := Option.some.inj H
    subst H
    exact ex_iret (M := 144) (Or.inl rfl)
-- X9_row
def f145 (F : Nat) (x1 : Int32) (x2 : Int32) (x3 : Int32) (x4 : Int32) (S : AmT) : Option (Int32 × AmT) := am_b2 (f81 F S) fun v1 S2 => if v1 = 0 then (am_b2 (f35 F x1 x2 S2) fun v4 S5 => if v4 = 0 then (some ((-2), S5)) else ((f58 F S5).bind fun S7 => am_b2 (f39 F x1 x2 S7) fun v8 S9 => am_b2 (f44 F v8 x3 x4 S9) fun v10 S11 => am_b2 (f129 F v10 S11) fun v12 S13 => some (v12, S13))) else (some ((-4), S2))
set_option maxHeartbeats 1000000 in
set_option maxRecDepth 20000 in
theorem r145 {Lg : Nat} {xs : Nat → Int32} {d F : Nat} {x1 : Int32} {x2 : Int32} {x3 : Int32} {x4 : Int32} {S : AmT} {q : Int32 × AmT} (hd : 3 ≤ d) (H : f145 F x1 x2 x3 x4 S = some q) : Ex (am_X Lg xs) d 145 (am_P 145) (am_ini (am_Mi 145).1 [.ref 0, .int x1, .int x2, .int x3, .int x4]) [] (hS S) (some q.1, hS q.2) := by
  obtain ⟨d, rfl⟩ : ∃ d2, d = d2 + 1 := ⟨d - 1, by omega⟩
  unfold f145 at H
  show Ex (am_X Lg xs) _ 145 am_c145_0 [.ref 0, .int x1, .int x2, .int x3, .int x4] [] (hS S) (some q.1, hS q.2)
  refine ex_aload_n rfl ?_
  refine ex_getR (w := 86) rfl rfl rfl ?_
  obtain ⟨v1, S2, hp, H⟩ := am_b2_el H
  refine ex_callV rfl rfl (Nat.le_of_ble_eq_true rfl) (Nat.le_of_ble_eq_true rfl) rfl (r81 (by omega) hp) rfl ?_
  by_cases h3 : v1 = 0
  · rw [if_pos h3] at H
    refine ex_if_eq_j (ct := am_c145_13) h3 rfl ?_
    refine ex_aload_n rfl ?_
    refine ex_getR (w := 7) rfl rfl rfl ?_
    refine ex_iload_n rfl ?_
    refine ex_iload_n rfl ?_
    obtain ⟨v4, S5, hp, H⟩ := am_b2_el H
    refine ex_callV rfl rfl (Nat.le_of_ble_eq_true rfl) (Nat.le_of_ble_eq_true rfl) rfl (r35 (by omega) hp) rfl ?_
    by_cases h6 : v4 = 0
    · rw [if_pos h6] at H
      refine ex_if_ne_f h6 ?_
      refine ex_bipush (v := (-2)) (by decide) ?_
      have H := Option.some.inj H
      subst H
      exact ex_iret (M := 145) (Or.inl rfl)
    · rw [if_neg h6] at H
      refine ex_if_ne_j (ct := am_c145_28) h6 rfl ?_
      refine ex_aload_n rfl ?_
      refine ex_getR (w := 1) rfl rfl rfl ?_
      obtain ⟨S7, hp, H⟩ := Option.bind_eq_some_iff.mp H
      refine ex_callV rfl rfl (Nat.le_of_ble_eq_true rfl) (Nat.le_of_ble_eq_true rfl) rfl (r58 (by omega) hp) rfl ?_
      refine ex_aload_n rfl ?_
      refine ex_getR (w := 5) rfl rfl rfl ?_
      refine ex_aload_n rfl ?_
      refine ex_getR (w := 7) rfl rfl rfl ?_
      refine ex_aload_n rfl ?_
      refine ex_getR (w := 7) rfl rfl rfl ?_
      refine ex_iload_n rfl ?_
      refine ex_iload_n rfl ?_
      obtain ⟨v8, S9, hp, H⟩ := am_b2_el H
      refine ex_callV rfl rfl (Nat.le_of_ble_eq_true rfl) (Nat.le_of_ble_eq_true rfl) rfl (r39 (by omega) hp) rfl ?_
      refine ex_iload_n rfl ?_
      refine ex_iload rfl ?_
      obtain ⟨v10, S11, hp, H⟩ := am_b2_el H
      refine ex_callV rfl rfl (Nat.le_of_ble_eq_true rfl) (Nat.le_of_ble_eq_true rfl) rfl (r44 (by omega) hp) rfl ?_
      obtain ⟨v12, S13, hp, H⟩ := am_b2_el H
      refine ex_callV rfl rfl (Nat.le_of_ble_eq_true rfl) (Nat.le_of_ble_eq_true rfl) rfl (r129 (by omega) hp) rfl ?_
      have H := Option.some.inj H
      subst H
      exact ex_iret (M := 145) (Or.inl rfl)
  · rw [if_neg h3] at H
    refine ex_if_eq_f h3 ?_
    refine ex_bipush (v := (-4)) (by decide) ?_
    have H := Option.some.inj H
    subst H
    exact ex_iret (M := 145) (Or.inl rfl)
-- X9_miss
def f146 (F : Nat) (x1 : Int32) (x2 : Int32) (x3 : Int32) (S : AmT) : Option (Int32 × AmT) := am_b2 (f81 F S) fun v1 S2 => if v1 = 0 then (am_b2 (f35 F x1 x2 S2) fun v4 S5 => if v4 = 0 then (some ((-2), S5)) else ((f58 F S5).bind fun S7 => am_b2 (f39 F x1 x2 S7) fun v8 S9 => am_b2 (f45 F v8 x3 S9) fun v10 S11 => am_b2 (f129 F v10 S11) fun v12 S13 => some (v12, S13))) else (some ((-4), S2))
set_option maxHeartbeats 1000000 in
set_option maxRecDepth 20000 in
theorem r146 {Lg : Nat} {xs : Nat → Int32} {d F : Nat} {x1 : Int32} {x2 : Int32} {x3 : Int32} {S : AmT} {q : Int32 × AmT} (hd : 3 ≤ d) (H : f146 F x1 x2 x3 S = some q) : Ex (am_X Lg xs) d 146 (am_P 146) (am_ini (am_Mi 146).1 [.ref 0, .int x1, .int x2, .int x3]) [] (hS S) (some q.1, hS q.2) := by
  obtain ⟨d, rfl⟩ : ∃ d2, d = d2 + 1 := ⟨d - 1, by omega⟩
  unfold f146 at H
  show Ex (am_X Lg xs) _ 146 am_c146_0 [.ref 0, .int x1, .int x2, .int x3] [] (hS S) (some q.1, hS q.2)
  refine ex_aload_n rfl ?_
  refine ex_getR (w := 86) rfl rfl rfl ?_
  obtain ⟨v1, S2, hp, H⟩ := am_b2_el H
  refine ex_callV rfl rfl (Nat.le_of_ble_eq_true rfl) (Nat.le_of_ble_eq_true rfl) rfl (r81 (by omega) hp) rfl ?_
  by_cases h3 : v1 = 0
  · rw [if_pos h3] at H
    refine ex_if_eq_j (ct := am_c146_13) h3 rfl ?_
    refine ex_aload_n rfl ?_
    refine ex_getR (w := 7) rfl rfl rfl ?_
    refine ex_iload_n rfl ?_
    refine ex_iload_n rfl ?_
    obtain ⟨v4, S5, hp, H⟩ := am_b2_el H
    refine ex_callV rfl rfl (Nat.le_of_ble_eq_true rfl) (Nat.le_of_ble_eq_true rfl) rfl (r35 (by omega) hp) rfl ?_
    by_cases h6 : v4 = 0
    · rw [if_pos h6] at H
      refine ex_if_ne_f h6 ?_
      refine ex_bipush (v := (-2)) (by decide) ?_
      have H := Option.some.inj H
      subst H
      exact ex_iret (M := 146) (Or.inl rfl)
    · rw [if_neg h6] at H
      refine ex_if_ne_j (ct := am_c146_28) h6 rfl ?_
      refine ex_aload_n rfl ?_
      refine ex_getR (w := 1) rfl rfl rfl ?_
      obtain ⟨S7, hp, H⟩ := Option.bind_eq_some_iff.mp H
      refine ex_callV rfl rfl (Nat.le_of_ble_eq_true rfl) (Nat.le_of_ble_eq_true rfl) rfl (r58 (by omega) hp) rfl ?_
      refine ex_aload_n rfl ?_
      refine ex_getR (w := 5) rfl rfl rfl ?_
      refine ex_aload_n rfl ?_
      refine ex_getR (w := 7) rfl rfl rfl ?_
      refine ex_aload_n rfl ?_
      refine ex_getR (w := 7) rfl rfl rfl ?_
      refine ex_iload_n rfl ?_
      refine ex_iload_n rfl ?_
      obtain ⟨v8, S9, hp, H⟩ := am_b2_el H
      refine ex_callV rfl rfl (Nat.le_of_ble_eq_true rfl) (Nat.le_of_ble_eq_true rfl) rfl (r39 (by omega) hp) rfl ?_
      refine ex_iload_n rfl ?_
      obtain ⟨v10, S11, hp, H⟩ := am_b2_el H
      refine ex_callV rfl rfl (Nat.le_of_ble_eq_true rfl) (Nat.le_of_ble_eq_true rfl) rfl (r45 (by omega) hp) rfl ?_
      obtain ⟨v12, S13, hp, H⟩ := am_b2_el H
      refine ex_callV rfl rfl (Nat.le_of_ble_eq_true rfl) (Nat.le_of_ble_eq_true rfl) rfl (r129 (by omega) hp) rfl ?_
      have H := Option.some.inj H
      subst H
      exact ex_iret (M := 146) (Or.inl rfl)
  · rw [if_neg h3] at H
    refine ex_if_eq_f h3 ?_
    refine ex_bipush (v := (-4)) (by decide) ?_
    have H := Option.some.inj H
    subst H
    exact ex_iret (M := 146) (Or.inl rfl)
-- X9_letter
def f147 (F : Nat) (x1 : Int32) (x2 : Int32) (x3 : Int32) (x4 : Int32) (x5 : Int32) (S : AmT) : Option (Int32 × AmT) := am_b2 (f81 F S) fun v1 S2 => if v1 = 0 then (am_b2 (f35 F x1 x2 S2) fun v4 S5 => if v4 = 0 then (some ((-2), S5)) else (am_b2 (f194 F x5 32 126 S5) fun v7 S8 => if v7 = 0 then (some ((-1), S8)) else ((f58 F S8).bind fun S10 => am_b2 (f39 F x1 x2 S10) fun v11 S12 => am_b2 (f46 F v11 x3 x4 x5 S12) fun v13 S14 => am_b2 (f129 F v13 S14) fun v15 S16 => some (v15, S16)))) else (some ((-4), S2))
set_option maxHeartbeats 1000000 in
set_option maxRecDepth 20000 in
theorem r147 {Lg : Nat} {xs : Nat → Int32} {d F : Nat} {x1 : Int32} {x2 : Int32} {x3 : Int32} {x4 : Int32} {x5 : Int32} {S : AmT} {q : Int32 × AmT} (hd : 3 ≤ d) (H : f147 F x1 x2 x3 x4 x5 S = some q) : Ex (am_X Lg xs) d 147 (am_P 147) (am_ini (am_Mi 147).1 [.ref 0, .int x1, .int x2, .int x3, .int x4, .int x5]) [] (hS S) (some q.1, hS q.2) := by
  obtain ⟨d, rfl⟩ : ∃ d2, d = d2 + 1 := ⟨d - 1, by omega⟩
  unfold f147 at H
  show Ex (am_X Lg xs) _ 147 am_c147_0 [.ref 0, .int x1, .int x2, .int x3, .int x4, .int x5] [] (hS S) (some q.1, hS q.2)
  refine ex_aload_n rfl ?_
  refine ex_getR (w := 86) rfl rfl rfl ?_
  obtain ⟨v1, S2, hp, H⟩ := am_b2_el H
  refine ex_callV rfl rfl (Nat.le_of_ble_eq_true rfl) (Nat.le_of_ble_eq_true rfl) rfl (r81 (by omega) hp) rfl ?_
  by_cases h3 : v1 = 0
  · rw [if_pos h3] at H
    refine ex_if_eq_j (ct := am_c147_13) h3 rfl ?_
    refine ex_aload_n rfl ?_
    refine ex_getR (w := 7) rfl rfl rfl ?_
    refine ex_iload_n rfl ?_
    refine ex_iload_n rfl ?_
    obtain ⟨v4, S5, hp, H⟩ := am_b2_el H
    refine ex_callV rfl rfl (Nat.le_of_ble_eq_true rfl) (Nat.le_of_ble_eq_true rfl) rfl (r35 (by omega) hp) rfl ?_
    by_cases h6 : v4 = 0
    · rw [if_pos h6] at H
      refine ex_if_ne_f h6 ?_
      refine ex_bipush (v := (-2)) (by decide) ?_
      have H := Option.some.inj H
      subst H
      exact ex_iret (M := 147) (Or.inl rfl)
    · rw [if_neg h6] at H
      refine ex_if_ne_j (ct := am_c147_28) h6 rfl ?_
      refine ex_iload rfl ?_
      refine ex_bipush (v := 32) (by decide) ?_
      refine ex_bipush (v := 126) (by decide) ?_
      obtain ⟨v7, S8, hp, H⟩ := am_b2_el H
      refine ex_callS rfl rfl (Nat.le_of_ble_eq_true rfl) (Nat.le_of_ble_eq_true rfl) (r194 (by omega) hp) rfl ?_
      by_cases h9 : v7 = 0
      · rw [if_pos h9] at H
        refine ex_if_ne_f h9 ?_
        refine ex_iconst (v := (-1)) (by decide) ?_
        have H := Option.some.inj H
        subst H
        exact ex_iret (M := 147) (Or.inl rfl)
      · rw [if_neg h9] at H
        refine ex_if_ne_j (ct := am_c147_42) h9 rfl ?_
        refine ex_aload_n rfl ?_
        refine ex_getR (w := 1) rfl rfl rfl ?_
        obtain ⟨S10, hp, H⟩ := Option.bind_eq_some_iff.mp H
        refine ex_callV rfl rfl (Nat.le_of_ble_eq_true rfl) (Nat.le_of_ble_eq_true rfl) rfl (r58 (by omega) hp) rfl ?_
        refine ex_aload_n rfl ?_
        refine ex_getR (w := 5) rfl rfl rfl ?_
        refine ex_aload_n rfl ?_
        refine ex_getR (w := 7) rfl rfl rfl ?_
        refine ex_aload_n rfl ?_
        refine ex_getR (w := 7) rfl rfl rfl ?_
        refine ex_iload_n rfl ?_
        refine ex_iload_n rfl ?_
        obtain ⟨v11, S12, hp, H⟩ := am_b2_el H
        refine ex_callV rfl rfl (Nat.le_of_ble_eq_true rfl) (Nat.le_of_ble_eq_true rfl) rfl (r39 (by omega) hp) rfl ?_
        refine ex_iload_n rfl ?_
        refine ex_iload rfl ?_
        refine ex_iload rfl ?_
        obtain ⟨v13, S14, hp, H⟩ := am_b2_el H
        refine ex_callV rfl rfl (Nat.le_of_ble_eq_true rfl) (Nat.le_of_ble_eq_true rfl) rfl (r46 (by omega) hp) rfl ?_
        obtain ⟨v15, S16, hp, H⟩ := am_b2_el H
        refine ex_callV rfl rfl (Nat.le_of_ble_eq_true rfl) (Nat.le_of_ble_eq_true rfl) rfl (r129 (by omega) hp) rfl ?_
        have H := Option.some.inj H
        subst H
        exact ex_iret (M := 147) (Or.inl rfl)
  · rw [if_neg h3] at H
    refine ex_if_eq_f h3 ?_
    refine ex_bipush (v := (-4)) (by decide) ?_
    have H := Option.some.inj H
    subst H
    exact ex_iret (M := 147) (Or.inl rfl)
-- X9_at
def f148 (F : Nat) (x1 : Int32) (x2 : Int32) (x3 : Int32) (x4 : Int32) (S : AmT) : Option (Int32 × AmT) := am_b2 (f35 F x1 x2 S) fun v1 S2 => if v1 = 0 then (some ((-2), S2)) else (am_b2 (f39 F x1 x2 S2) fun v4 S5 => am_b2 (f47 F v4 x3 x4 S5) fun v6 S7 => am_b2 (f129 F v6 S7) fun v8 S9 => some (v8, S9))
set_option maxHeartbeats 1000000 in
set_option maxRecDepth 20000 in
theorem r148 {Lg : Nat} {xs : Nat → Int32} {d F : Nat} {x1 : Int32} {x2 : Int32} {x3 : Int32} {x4 : Int32} {S : AmT} {q : Int32 × AmT} (hd : 3 ≤ d) (H : f148 F x1 x2 x3 x4 S = some q) : Ex (am_X Lg xs) d 148 (am_P 148) (am_ini (am_Mi 148).1 [.ref 0, .int x1, .int x2, .int x3, .int x4]) [] (hS S) (some q.1, hS q.2) := by
  obtain ⟨d, rfl⟩ : ∃ d2, d = d2 + 1 := ⟨d - 1, by omega⟩
  unfold f148 at H
  show Ex (am_X Lg xs) _ 148 am_c148_0 [.ref 0, .int x1, .int x2, .int x3, .int x4] [] (hS S) (some q.1, hS q.2)
  refine ex_aload_n rfl ?_
  refine ex_getR (w := 7) rfl rfl rfl ?_
  refine ex_iload_n rfl ?_
  refine ex_iload_n rfl ?_
  obtain ⟨v1, S2, hp, H⟩ := am_b2_el H
  refine ex_callV rfl rfl (Nat.le_of_ble_eq_true rfl) (Nat.le_of_ble_eq_true rfl) rfl (r35 (by omega) hp) rfl ?_
  by_cases h3 : v1 = 0
  · rw [if_pos h3] at H
    refine ex_if_ne_f h3 ?_
    refine ex_bipush (v := (-2)) (by decide) ?_
    have H := Option.some.inj H
    subst H
    exact ex_iret (M := 148) (Or.inl rfl)
  · rw [if_neg h3] at H
    refine ex_if_ne_j (ct := am_c148_15) h3 rfl ?_
    refine ex_aload_n rfl ?_
    refine ex_getR (w := 5) rfl rfl rfl ?_
    refine ex_aload_n rfl ?_
    refine ex_getR (w := 7) rfl rfl rfl ?_
    refine ex_aload_n rfl ?_
    refine ex_getR (w := 7) rfl rfl rfl ?_
    refine ex_iload_n rfl ?_
    refine ex_iload_n rfl ?_
    obtain ⟨v4, S5, hp, H⟩ := am_b2_el H
    refine ex_callV rfl rfl (Nat.le_of_ble_eq_true rfl) (Nat.le_of_ble_eq_true rfl) rfl (r39 (by omega) hp) rfl ?_
    refine ex_iload_n rfl ?_
    refine ex_iload rfl ?_
    obtain ⟨v6, S7, hp, H⟩ := am_b2_el H
    refine ex_callV rfl rfl (Nat.le_of_ble_eq_true rfl) (Nat.le_of_ble_eq_true rfl) rfl (r47 (by omega) hp) rfl ?_
    obtain ⟨v8, S9, hp, H⟩ := am_b2_el H
    refine ex_callV rfl rfl (Nat.le_of_ble_eq_true rfl) (Nat.le_of_ble_eq_true rfl) rfl (r129 (by omega) hp) rfl ?_
    have H := Option.some.inj H
    subst H
    exact ex_iret (M := 148) (Or.inl rfl)
def g149_57 (F : Nat) (s1 : Int32) (S : AmT) : Option (Int32 × AmT) := am_b2 (f129 F s1 S) fun v9 S10 => some (v9, S10)
-- X9_size
def f149 (F : Nat) (x1 : Int32) (x2 : Int32) (x3 : Int32) (S : AmT) : Option (Int32 × AmT) := am_b2 (f35 F x1 x2 S) fun v1 S2 => if v1 = 0 then (some ((-2), S2)) else (am_b2 (f39 F x1 x2 S2) fun v4 S5 => if x3 = (-1) then (am_b2 (f48 F v4 S5) fun v11 S12 => g149_57 F v11 S12) else (am_b2 (f49 F v4 x3 S5) fun v7 S8 => g149_57 F v7 S8))
set_option maxHeartbeats 1000000 in
set_option maxRecDepth 20000 in
theorem e149_57 {Lg : Nat} {xs : Nat → Int32} {d F : Nat} {s1 : Int32} {w0 : Value} {w1 : Value} {w2 : Value} {w3 : Value} {w4 : Value} {S : AmT} {q : Int32 × AmT} (hd : 3 ≤ d) (H : g149_57 F s1 S = some q) : Ex (am_X Lg xs) d 149 am_c149_57 [w0, w1, w2, w3, w4] [.int s1, .ref 5] (hS S) (some q.1, hS q.2) := by
  obtain ⟨d, rfl⟩ : ∃ d2, d = d2 + 1 := ⟨d - 1, by omega⟩
  unfold g149_57 at H
  obtain ⟨v9, S10, hp, H⟩ := am_b2_el H
  refine ex_callV rfl rfl (Nat.le_of_ble_eq_true rfl) (Nat.le_of_ble_eq_true rfl) rfl (r129 (by omega) hp) rfl ?_
  have H := Option.some.inj H
  subst H
  exact ex_iret (M := 149) (Or.inl rfl)
set_option maxHeartbeats 1000000 in
set_option maxRecDepth 20000 in
theorem r149 {Lg : Nat} {xs : Nat → Int32} {d F : Nat} {x1 : Int32} {x2 : Int32} {x3 : Int32} {S : AmT} {q : Int32 × AmT} (hd : 3 ≤ d) (H : f149 F x1 x2 x3 S = some q) : Ex (am_X Lg xs) d 149 (am_P 149) (am_ini (am_Mi 149).1 [.ref 0, .int x1, .int x2, .int x3]) [] (hS S) (some q.1, hS q.2) := by
  obtain ⟨d, rfl⟩ : ∃ d2, d = d2 + 1 := ⟨d - 1, by omega⟩
  unfold f149 at H
  show Ex (am_X Lg xs) _ 149 am_c149_0 [.ref 0, .int x1, .int x2, .int x3, .long 0] [] (hS S) (some q.1, hS q.2)
  refine ex_aload_n rfl ?_
  refine ex_getR (w := 7) rfl rfl rfl ?_
  refine ex_iload_n rfl ?_
  refine ex_iload_n rfl ?_
  obtain ⟨v1, S2, hp, H⟩ := am_b2_el H
  refine ex_callV rfl rfl (Nat.le_of_ble_eq_true rfl) (Nat.le_of_ble_eq_true rfl) rfl (r35 (by omega) hp) rfl ?_
  by_cases h3 : v1 = 0
  · rw [if_pos h3] at H
    refine ex_if_ne_f h3 ?_
    refine ex_bipush (v := (-2)) (by decide) ?_
    have H := Option.some.inj H
    subst H
    exact ex_iret (M := 149) (Or.inl rfl)
  · rw [if_neg h3] at H
    refine ex_if_ne_j (ct := am_c149_15) h3 rfl ?_
    refine ex_aload_n rfl ?_
    refine ex_getR (w := 7) rfl rfl rfl ?_
    refine ex_iload_n rfl ?_
    refine ex_iload_n rfl ?_
    obtain ⟨v4, S5, hp, H⟩ := am_b2_el H
    refine ex_callV rfl rfl (Nat.le_of_ble_eq_true rfl) (Nat.le_of_ble_eq_true rfl) rfl (r39 (by omega) hp) rfl ?_
    refine ex_istore (L2 := [.ref 0, .int x1, .int x2, .int x3, .int v4]) (Nat.le_of_ble_eq_true rfl) rfl ?_
    refine ex_aload_n rfl ?_
    refine ex_getR (w := 5) rfl rfl rfl ?_
    refine ex_iload_n rfl ?_
    refine ex_iconst (v := (-1)) (by decide) ?_
    by_cases h6 : x3 = (-1)
    · rw [if_pos h6] at H
      refine ex_icmp_ne_f h6 ?_
      refine ex_aload_n rfl ?_
      refine ex_getR (w := 7) rfl rfl rfl ?_
      refine ex_iload rfl ?_
      obtain ⟨v11, S12, hp, H⟩ := am_b2_el H
      refine ex_callV rfl rfl (Nat.le_of_ble_eq_true rfl) (Nat.le_of_ble_eq_true rfl) rfl (r48 (by omega) hp) rfl ?_
      refine ex_goto (ct := am_c149_57) rfl ?_
      exact e149_57 hd H
    · rw [if_neg h6] at H
      refine ex_icmp_ne_j (ct := am_c149_47) h6 rfl ?_
      refine ex_aload_n rfl ?_
      refine ex_getR (w := 7) rfl rfl rfl ?_
      refine ex_iload rfl ?_
      refine ex_iload_n rfl ?_
      obtain ⟨v7, S8, hp, H⟩ := am_b2_el H
      refine ex_callV rfl rfl (Nat.le_of_ble_eq_true rfl) (Nat.le_of_ble_eq_true rfl) rfl (r49 (by omega) hp) rfl ?_
      exact e149_57 hd H
def g150_71 (F : Nat) : Nat → Int32 → Int32 → Int32 → Int32 → Int32 → Int32 → Int32 → Int32 → AmT → Option (Int32 × AmT)
  | 0, _, _, _, _, _, _, _, _, _ => none
  | n + 1, x1, x2, x3, x4, x5, x6, x7, x8, S => if x6 ≤ x8 then (some (1, S)) else (am_b2 (f39 F x1 x2 S) fun v16 S17 => am_b2 (f39 F x1 x4 S17) fun v18 S19 => am_b2 (f52 F v16 (x3 + x8) v18 (x5 + x8) x7 S19) fun v20 S21 => if v20 = 0 then (am_b2 (f129 F (-15) S21) fun v24 S25 => some (v24, S25)) else ((f138 F S21).bind fun S23 => g150_71 F n x1 x2 x3 x4 x5 x6 x7 (x8 + 1) S23))
-- X9_move
def f150 (F : Nat) (x1 : Int32) (x2 : Int32) (x3 : Int32) (x4 : Int32) (x5 : Int32) (x6 : Int32) (x7 : Int32) (S : AmT) : Option (Int32 × AmT) := am_b2 (f81 F S) fun v1 S2 => if v1 = 0 then (am_b2 (f35 F x1 x2 S2) fun v4 S5 => if v4 = 0 then (some ((-2), S5)) else (am_b2 (f35 F x1 x4 S5) fun v7 S8 => if v7 = 0 then (some ((-2), S8)) else (am_b2 (f194 F x6 0 8 S8) fun v10 S11 => if v10 = 0 then (some ((-1), S11)) else ((f58 F S11).bind fun S13 => (f137 F S13).bind fun S14 => g150_71 F F x1 x2 x3 x4 x5 x6 x7 0 S14)))) else (some ((-4), S2))
set_option maxHeartbeats 1000000 in
set_option maxRecDepth 20000 in
theorem e150_71 {Lg : Nat} {xs : Nat → Int32} {d F : Nat} (hd : 3 ≤ d) : ∀ (n : Nat) (x1 : Int32) (x2 : Int32) (x3 : Int32) (x4 : Int32) (x5 : Int32) (x6 : Int32) (x7 : Int32) (x8 : Int32) (S : AmT) (q : Int32 × AmT), g150_71 F n x1 x2 x3 x4 x5 x6 x7 x8 S = some q → Ex (am_X Lg xs) d 150 am_c150_71 [.ref 0, .int x1, .int x2, .int x3, .int x4, .int x5, .int x6, .int x7, .int x8] [] (hS S) (some q.1, hS q.2) := by
  obtain ⟨d, rfl⟩ : ∃ d2, d = d2 + 1 := ⟨d - 1, by omega⟩
  intro n
  induction n with
  | zero =>
    intro x1 x2 x3 x4 x5 x6 x7 x8 S q H
    cases H
  | succ n ih =>
    intro x1 x2 x3 x4 x5 x6 x7 x8 S q H
    have H : (if x6 ≤ x8 then (some (1, S)) else (am_b2 (f39 F x1 x2 S) fun v16 S17 => am_b2 (f39 F x1 x4 S17) fun v18 S19 => am_b2 (f52 F v16 (x3 + x8) v18 (x5 + x8) x7 S19) fun v20 S21 => if v20 = 0 then (am_b2 (f129 F (-15) S21) fun v24 S25 => some (v24, S25)) else ((f138 F S21).bind fun S23 => g150_71 F n x1 x2 x3 x4 x5 x6 x7 (x8 + 1) S23))) = some q := H
    refine ex_iload rfl ?_
    refine ex_iload rfl ?_
    by_cases h15 : x6 ≤ x8
    · rw [if_pos h15] at H
      refine ex_icmp_ge_j (ct := am_c150_141) h15 rfl ?_
      refine ex_iconst (v := 1) (by decide) ?_
      have H := Option.some.inj H
      subst H
      exact ex_iret (M := 150) (Or.inl rfl)
    · rw [if_neg h15] at H
      refine ex_icmp_ge_f h15 ?_
      refine ex_aload_n rfl ?_
      refine ex_getR (w := 7) rfl rfl rfl ?_
      refine ex_aload_n rfl ?_
      refine ex_getR (w := 7) rfl rfl rfl ?_
      refine ex_iload_n rfl ?_
      refine ex_iload_n rfl ?_
      obtain ⟨v16, S17, hp, H⟩ := am_b2_el H
      refine ex_callV rfl rfl (Nat.le_of_ble_eq_true rfl) (Nat.le_of_ble_eq_true rfl) rfl (r39 (by omega) hp) rfl ?_
      refine ex_iload_n rfl ?_
      refine ex_iload rfl ?_
      refine ex_iadd ?_
      refine ex_aload_n rfl ?_
      refine ex_getR (w := 7) rfl rfl rfl ?_
      refine ex_iload_n rfl ?_
      refine ex_iload rfl ?_
      obtain ⟨v18, S19, hp, H⟩ := am_b2_el H
      refine ex_callV rfl rfl (Nat.le_of_ble_eq_true rfl) (Nat.le_of_ble_eq_true rfl) rfl (r39 (by omega) hp) rfl ?_
      refine ex_iload rfl ?_
      refine ex_iload rfl ?_
      refine ex_iadd ?_
      refine ex_iload rfl ?_
      obtain ⟨v20, S21, hp, H⟩ := am_b2_el H
      refine ex_callV rfl rfl (Nat.le_of_ble_eq_true rfl) (Nat.le_of_ble_eq_true rfl) rfl (r52 (by omega) hp) rfl ?_
      by_cases h22 : v20 = 0
      · rw [if_pos h22] at H
        refine ex_if_ne_f h22 ?_
        refine ex_aload_n rfl ?_
        refine ex_getR (w := 5) rfl rfl rfl ?_
        refine ex_bipush (v := (-15)) (by decide) ?_
        obtain ⟨v24, S25, hp, H⟩ := am_b2_el H
        refine ex_callV rfl rfl (Nat.le_of_ble_eq_true rfl) (Nat.le_of_ble_eq_true rfl) rfl (r129 (by omega) hp) rfl ?_
        have H := Option.some.inj H
        subst H
        exact ex_iret (M := 150) (Or.inl rfl)
      · rw [if_neg h22] at H
        refine ex_if_ne_j (ct := am_c150_128) h22 rfl ?_
        refine ex_aload_n rfl ?_
        refine ex_getR (w := 5) rfl rfl rfl ?_
        obtain ⟨S23, hp, H⟩ := Option.bind_eq_some_iff.mp H
        refine ex_callV rfl rfl (Nat.le_of_ble_eq_true rfl) (Nat.le_of_ble_eq_true rfl) rfl (r138 (by omega) hp) rfl ?_
        refine ex_iinc (L2 := [.ref 0, .int x1, .int x2, .int x3, .int x4, .int x5, .int x6, .int x7, .int (x8 + 1)]) (v := (x8 + 1)) rfl (Nat.le_of_ble_eq_true rfl) (congrArg (fun z => x8 + z) (by decide)) rfl ?_
        refine ex_goto (ct := am_c150_71) rfl ?_
        exact ih _ _ _ _ _ _ _ _ _ _ H
set_option maxHeartbeats 1000000 in
set_option maxRecDepth 20000 in
theorem r150 {Lg : Nat} {xs : Nat → Int32} {d F : Nat} {x1 : Int32} {x2 : Int32} {x3 : Int32} {x4 : Int32} {x5 : Int32} {x6 : Int32} {x7 : Int32} {S : AmT} {q : Int32 × AmT} (hd : 3 ≤ d) (H : f150 F x1 x2 x3 x4 x5 x6 x7 S = some q) : Ex (am_X Lg xs) d 150 (am_P 150) (am_ini (am_Mi 150).1 [.ref 0, .int x1, .int x2, .int x3, .int x4, .int x5, .int x6, .int x7]) [] (hS S) (some q.1, hS q.2) := by
  obtain ⟨d, rfl⟩ : ∃ d2, d = d2 + 1 := ⟨d - 1, by omega⟩
  unfold f150 at H
  show Ex (am_X Lg xs) _ 150 am_c150_0 [.ref 0, .int x1, .int x2, .int x3, .int x4, .int x5, .int x6, .int x7, .long 0] [] (hS S) (some q.1, hS q.2)
  refine ex_aload_n rfl ?_
  refine ex_getR (w := 86) rfl rfl rfl ?_
  obtain ⟨v1, S2, hp, H⟩ := am_b2_el H
  refine ex_callV rfl rfl (Nat.le_of_ble_eq_true rfl) (Nat.le_of_ble_eq_true rfl) rfl (r81 (by omega) hp) rfl ?_
  by_cases h3 : v1 = 0
  · rw [if_pos h3] at H
    refine ex_if_eq_j (ct := am_c150_13) h3 rfl ?_
    refine ex_aload_n rfl ?_
    refine ex_getR (w := 7) rfl rfl rfl ?_
    refine ex_iload_n rfl ?_
    refine ex_iload_n rfl ?_
    obtain ⟨v4, S5, hp, H⟩ := am_b2_el H
    refine ex_callV rfl rfl (Nat.le_of_ble_eq_true rfl) (Nat.le_of_ble_eq_true rfl) rfl (r35 (by omega) hp) rfl ?_
    by_cases h6 : v4 = 0
    · rw [if_pos h6] at H
      refine ex_if_eq_j (ct := am_c150_38) h6 rfl ?_
      refine ex_bipush (v := (-2)) (by decide) ?_
      have H := Option.some.inj H
      subst H
      exact ex_iret (M := 150) (Or.inl rfl)
    · rw [if_neg h6] at H
      refine ex_if_eq_f h6 ?_
      refine ex_aload_n rfl ?_
      refine ex_getR (w := 7) rfl rfl rfl ?_
      refine ex_iload_n rfl ?_
      refine ex_iload rfl ?_
      obtain ⟨v7, S8, hp, H⟩ := am_b2_el H
      refine ex_callV rfl rfl (Nat.le_of_ble_eq_true rfl) (Nat.le_of_ble_eq_true rfl) rfl (r35 (by omega) hp) rfl ?_
      by_cases h9 : v7 = 0
      · rw [if_pos h9] at H
        refine ex_if_ne_f h9 ?_
        refine ex_bipush (v := (-2)) (by decide) ?_
        have H := Option.some.inj H
        subst H
        exact ex_iret (M := 150) (Or.inl rfl)
      · rw [if_neg h9] at H
        refine ex_if_ne_j (ct := am_c150_41) h9 rfl ?_
        refine ex_iload rfl ?_
        refine ex_iconst (v := 0) (by decide) ?_
        refine ex_bipush (v := 8) (by decide) ?_
        obtain ⟨v10, S11, hp, H⟩ := am_b2_el H
        refine ex_callS rfl rfl (Nat.le_of_ble_eq_true rfl) (Nat.le_of_ble_eq_true rfl) (r194 (by omega) hp) rfl ?_
        by_cases h12 : v10 = 0
        · rw [if_pos h12] at H
          refine ex_if_ne_f h12 ?_
          refine ex_iconst (v := (-1)) (by decide) ?_
          have H := Option.some.inj H
          subst H
          exact ex_iret (M := 150) (Or.inl rfl)
        · rw [if_neg h12] at H
          refine ex_if_ne_j (ct := am_c150_54) h12 rfl ?_
          refine ex_aload_n rfl ?_
          refine ex_getR (w := 1) rfl rfl rfl ?_
          obtain ⟨S13, hp, H⟩ := Option.bind_eq_some_iff.mp H
          refine ex_callV rfl rfl (Nat.le_of_ble_eq_true rfl) (Nat.le_of_ble_eq_true rfl) rfl (r58 (by omega) hp) rfl ?_
          refine ex_aload_n rfl ?_
          refine ex_getR (w := 5) rfl rfl rfl ?_
          obtain ⟨S14, hp, H⟩ := Option.bind_eq_some_iff.mp H
          refine ex_callV rfl rfl (Nat.le_of_ble_eq_true rfl) (Nat.le_of_ble_eq_true rfl) rfl (r137 (by omega) hp) rfl ?_
          refine ex_iconst (v := 0) (by decide) ?_
          refine ex_istore (L2 := [.ref 0, .int x1, .int x2, .int x3, .int x4, .int x5, .int x6, .int x7, .int 0]) (Nat.le_of_ble_eq_true rfl) rfl ?_
          exact e150_71 hd _ _ _ _ _ _ _ _ _ _ _ H
  · rw [if_neg h3] at H
    refine ex_if_eq_f h3 ?_
    refine ex_bipush (v := (-4)) (by decide) ?_
    have H := Option.some.inj H
    subst H
    exact ex_iret (M := 150) (Or.inl rfl)
-- X9_join
def f153 (F : Nat) (x1 : Int32) (x2 : Int32) (S : AmT) : Option (Int32 × AmT) := am_b2 (f81 F S) fun v1 S2 => if v1 = 0 then (am_b2 (f34 F x1 S2) fun v4 S5 => if v4 = 0 then (some ((-2), S5)) else (am_b2 (f34 F x2 S5) fun v7 S8 => if v7 = 0 then (some ((-2), S8)) else (am_b2 (f36 F x1 S8) fun v10 S11 => am_b2 (f36 F x2 S11) fun v12 S13 => if (v10 + v12) ≤ 24 then ((f58 F S13).bind fun S15 => am_b2 (f55 F x1 x2 S15) fun v16 S17 => some (v16, S17)) else (some ((-3), S13))))) else (some ((-4), S2))
set_option maxHeartbeats 1000000 in
set_option maxRecDepth 20000 in
theorem r153 {Lg : Nat} {xs : Nat → Int32} {d F : Nat} {x1 : Int32} {x2 : Int32} {S : AmT} {q : Int32 × AmT} (hd : 3 ≤ d) (H : f153 F x1 x2 S = some q) : Ex (am_X Lg xs) d 153 (am_P 153) (am_ini (am_Mi 153).1 [.ref 0, .int x1, .int x2]) [] (hS S) (some q.1, hS q.2) := by
  obtain ⟨d, rfl⟩ : ∃ d2, d = d2 + 1 := ⟨d - 1, by omega⟩
  unfold f153 at H
  show Ex (am_X Lg xs) _ 153 am_c153_0 [.ref 0, .int x1, .int x2] [] (hS S) (some q.1, hS q.2)
  refine ex_aload_n rfl ?_
  refine ex_getR (w := 86) rfl rfl rfl ?_
  obtain ⟨v1, S2, hp, H⟩ := am_b2_el H
  refine ex_callV rfl rfl (Nat.le_of_ble_eq_true rfl) (Nat.le_of_ble_eq_true rfl) rfl (r81 (by omega) hp) rfl ?_
  by_cases h3 : v1 = 0
  · rw [if_pos h3] at H
    refine ex_if_eq_j (ct := am_c153_13) h3 rfl ?_
    refine ex_aload_n rfl ?_
    refine ex_getR (w := 7) rfl rfl rfl ?_
    refine ex_iload_n rfl ?_
    obtain ⟨v4, S5, hp, H⟩ := am_b2_el H
    refine ex_callV rfl rfl (Nat.le_of_ble_eq_true rfl) (Nat.le_of_ble_eq_true rfl) rfl (r34 (by omega) hp) rfl ?_
    by_cases h6 : v4 = 0
    · rw [if_pos h6] at H
      refine ex_if_eq_j (ct := am_c153_35) h6 rfl ?_
      refine ex_bipush (v := (-2)) (by decide) ?_
      have H := Option.some.inj H
      subst H
      exact ex_iret (M := 153) (Or.inl rfl)
    · rw [if_neg h6] at H
      refine ex_if_eq_f h6 ?_
      refine ex_aload_n rfl ?_
      refine ex_getR (w := 7) rfl rfl rfl ?_
      refine ex_iload_n rfl ?_
      obtain ⟨v7, S8, hp, H⟩ := am_b2_el H
      refine ex_callV rfl rfl (Nat.le_of_ble_eq_true rfl) (Nat.le_of_ble_eq_true rfl) rfl (r34 (by omega) hp) rfl ?_
      by_cases h9 : v7 = 0
      · rw [if_pos h9] at H
        refine ex_if_ne_f h9 ?_
        refine ex_bipush (v := (-2)) (by decide) ?_
        have H := Option.some.inj H
        subst H
        exact ex_iret (M := 153) (Or.inl rfl)
      · rw [if_neg h9] at H
        refine ex_if_ne_j (ct := am_c153_38) h9 rfl ?_
        refine ex_aload_n rfl ?_
        refine ex_getR (w := 7) rfl rfl rfl ?_
        refine ex_iload_n rfl ?_
        obtain ⟨v10, S11, hp, H⟩ := am_b2_el H
        refine ex_callV rfl rfl (Nat.le_of_ble_eq_true rfl) (Nat.le_of_ble_eq_true rfl) rfl (r36 (by omega) hp) rfl ?_
        refine ex_aload_n rfl ?_
        refine ex_getR (w := 7) rfl rfl rfl ?_
        refine ex_iload_n rfl ?_
        obtain ⟨v12, S13, hp, H⟩ := am_b2_el H
        refine ex_callV rfl rfl (Nat.le_of_ble_eq_true rfl) (Nat.le_of_ble_eq_true rfl) rfl (r36 (by omega) hp) rfl ?_
        refine ex_iadd ?_
        refine ex_bipush (v := 24) (by decide) ?_
        by_cases h14 : (v10 + v12) ≤ 24
        · rw [if_pos h14] at H
          refine ex_icmp_le_j (ct := am_c153_63) h14 rfl ?_
          refine ex_aload_n rfl ?_
          refine ex_getR (w := 1) rfl rfl rfl ?_
          obtain ⟨S15, hp, H⟩ := Option.bind_eq_some_iff.mp H
          refine ex_callV rfl rfl (Nat.le_of_ble_eq_true rfl) (Nat.le_of_ble_eq_true rfl) rfl (r58 (by omega) hp) rfl ?_
          refine ex_aload_n rfl ?_
          refine ex_getR (w := 7) rfl rfl rfl ?_
          refine ex_iload_n rfl ?_
          refine ex_iload_n rfl ?_
          obtain ⟨v16, S17, hp, H⟩ := am_b2_el H
          refine ex_callV rfl rfl (Nat.le_of_ble_eq_true rfl) (Nat.le_of_ble_eq_true rfl) rfl (r55 (by omega) hp) rfl ?_
          have H := Option.some.inj H
          subst H
          exact ex_iret (M := 153) (Or.inl rfl)
        · rw [if_neg h14] at H
          refine ex_icmp_le_f h14 ?_
          refine ex_bipush (v := (-3)) (by decide) ?_
          have H := Option.some.inj H
          subst H
          exact ex_iret (M := 153) (Or.inl rfl)
  · rw [if_neg h3] at H
    refine ex_if_eq_f h3 ?_
    refine ex_bipush (v := (-4)) (by decide) ?_
    have H := Option.some.inj H
    subst H
    exact ex_iret (M := 153) (Or.inl rfl)
-- X9_fold
def f154 (F : Nat) (x1 : Int32) (x2 : Int32) (S : AmT) : Option (Int32 × AmT) := am_b2 (f81 F S) fun v1 S2 => if v1 = 0 then (am_b2 (f194 F x1 0 4 S2) fun v4 S5 => if v4 = 0 then (some ((-1), S5)) else (am_b2 (f194 F x2 0 1 S5) fun v7 S8 => if v7 = 0 then (some ((-1), S8)) else (am_b2 (f20 F S8) fun v10 S11 => if v10 < 16 then ((f58 F S11).bind fun S13 => am_b2 (f27 F x1 x2 S13) fun v14 S15 => some (v14, S15)) else (some ((-3), S11))))) else (some ((-4), S2))
set_option maxHeartbeats 1000000 in
set_option maxRecDepth 20000 in
theorem r154 {Lg : Nat} {xs : Nat → Int32} {d F : Nat} {x1 : Int32} {x2 : Int32} {S : AmT} {q : Int32 × AmT} (hd : 3 ≤ d) (H : f154 F x1 x2 S = some q) : Ex (am_X Lg xs) d 154 (am_P 154) (am_ini (am_Mi 154).1 [.ref 0, .int x1, .int x2]) [] (hS S) (some q.1, hS q.2) := by
  obtain ⟨d, rfl⟩ : ∃ d2, d = d2 + 1 := ⟨d - 1, by omega⟩
  unfold f154 at H
  show Ex (am_X Lg xs) _ 154 am_c154_0 [.ref 0, .int x1, .int x2] [] (hS S) (some q.1, hS q.2)
  refine ex_aload_n rfl ?_
  refine ex_getR (w := 86) rfl rfl rfl ?_
  obtain ⟨v1, S2, hp, H⟩ := am_b2_el H
  refine ex_callV rfl rfl (Nat.le_of_ble_eq_true rfl) (Nat.le_of_ble_eq_true rfl) rfl (r81 (by omega) hp) rfl ?_
  by_cases h3 : v1 = 0
  · rw [if_pos h3] at H
    refine ex_if_eq_j (ct := am_c154_13) h3 rfl ?_
    refine ex_iload_n rfl ?_
    refine ex_iconst (v := 0) (by decide) ?_
    refine ex_iconst (v := 4) (by decide) ?_
    obtain ⟨v4, S5, hp, H⟩ := am_b2_el H
    refine ex_callS rfl rfl (Nat.le_of_ble_eq_true rfl) (Nat.le_of_ble_eq_true rfl) (r194 (by omega) hp) rfl ?_
    by_cases h6 : v4 = 0
    · rw [if_pos h6] at H
      refine ex_if_eq_j (ct := am_c154_31) h6 rfl ?_
      refine ex_iconst (v := (-1)) (by decide) ?_
      have H := Option.some.inj H
      subst H
      exact ex_iret (M := 154) (Or.inl rfl)
    · rw [if_neg h6] at H
      refine ex_if_eq_f h6 ?_
      refine ex_iload_n rfl ?_
      refine ex_iconst (v := 0) (by decide) ?_
      refine ex_iconst (v := 1) (by decide) ?_
      obtain ⟨v7, S8, hp, H⟩ := am_b2_el H
      refine ex_callS rfl rfl (Nat.le_of_ble_eq_true rfl) (Nat.le_of_ble_eq_true rfl) (r194 (by omega) hp) rfl ?_
      by_cases h9 : v7 = 0
      · rw [if_pos h9] at H
        refine ex_if_ne_f h9 ?_
        refine ex_iconst (v := (-1)) (by decide) ?_
        have H := Option.some.inj H
        subst H
        exact ex_iret (M := 154) (Or.inl rfl)
      · rw [if_neg h9] at H
        refine ex_if_ne_j (ct := am_c154_33) h9 rfl ?_
        refine ex_aload_n rfl ?_
        refine ex_getR (w := 22) rfl rfl rfl ?_
        obtain ⟨v10, S11, hp, H⟩ := am_b2_el H
        refine ex_callV rfl rfl (Nat.le_of_ble_eq_true rfl) (Nat.le_of_ble_eq_true rfl) rfl (r20 (by omega) hp) rfl ?_
        refine ex_bipush (v := 16) (by decide) ?_
        by_cases h12 : v10 < 16
        · rw [if_pos h12] at H
          refine ex_icmp_lt_j (ct := am_c154_48) h12 rfl ?_
          refine ex_aload_n rfl ?_
          refine ex_getR (w := 1) rfl rfl rfl ?_
          obtain ⟨S13, hp, H⟩ := Option.bind_eq_some_iff.mp H
          refine ex_callV rfl rfl (Nat.le_of_ble_eq_true rfl) (Nat.le_of_ble_eq_true rfl) rfl (r58 (by omega) hp) rfl ?_
          refine ex_aload_n rfl ?_
          refine ex_getR (w := 22) rfl rfl rfl ?_
          refine ex_iload_n rfl ?_
          refine ex_iload_n rfl ?_
          obtain ⟨v14, S15, hp, H⟩ := am_b2_el H
          refine ex_callV rfl rfl (Nat.le_of_ble_eq_true rfl) (Nat.le_of_ble_eq_true rfl) rfl (r27 (by omega) hp) rfl ?_
          have H := Option.some.inj H
          subst H
          exact ex_iret (M := 154) (Or.inl rfl)
        · rw [if_neg h12] at H
          refine ex_icmp_lt_f h12 ?_
          refine ex_bipush (v := (-3)) (by decide) ?_
          have H := Option.some.inj H
          subst H
          exact ex_iret (M := 154) (Or.inl rfl)
  · rw [if_neg h3] at H
    refine ex_if_eq_f h3 ?_
    refine ex_bipush (v := (-4)) (by decide) ?_
    have H := Option.some.inj H
    subst H
    exact ex_iret (M := 154) (Or.inl rfl)
-- X9_cross
def f155 (F : Nat) (x1 : Int32) (x2 : Int32) (S : AmT) : Option (Int32 × AmT) := am_b2 (f81 F S) fun v1 S2 => if v1 = 0 then (am_b2 (f21 F x1 S2) fun v4 S5 => if v4 = 0 then (some ((-2), S5)) else (am_b2 (f21 F x2 S5) fun v7 S8 => if v7 = 0 then (some ((-2), S8)) else (am_b2 (f20 F S8) fun v10 S11 => if 16 ≤ v10 then (some ((-3), S11)) else (am_b2 (f22 F x1 S11) fun v13 S14 => am_b2 (f22 F x2 S14) fun v15 S16 => if (v13 + v15) ≤ 8 then ((f58 F S16).bind fun S18 => am_b2 (f28 F x1 x2 S18) fun v19 S20 => some (v19, S20)) else (some ((-3), S16)))))) else (some ((-4), S2))
set_option maxHeartbeats 1000000 in
set_option maxRecDepth 20000 in
theorem r155 {Lg : Nat} {xs : Nat → Int32} {d F : Nat} {x1 : Int32} {x2 : Int32} {S : AmT} {q : Int32 × AmT} (hd : 3 ≤ d) (H : f155 F x1 x2 S = some q) : Ex (am_X Lg xs) d 155 (am_P 155) (am_ini (am_Mi 155).1 [.ref 0, .int x1, .int x2]) [] (hS S) (some q.1, hS q.2) := by
  obtain ⟨d, rfl⟩ : ∃ d2, d = d2 + 1 := ⟨d - 1, by omega⟩
  unfold f155 at H
  show Ex (am_X Lg xs) _ 155 am_c155_0 [.ref 0, .int x1, .int x2] [] (hS S) (some q.1, hS q.2)
  refine ex_aload_n rfl ?_
  refine ex_getR (w := 86) rfl rfl rfl ?_
  obtain ⟨v1, S2, hp, H⟩ := am_b2_el H
  refine ex_callV rfl rfl (Nat.le_of_ble_eq_true rfl) (Nat.le_of_ble_eq_true rfl) rfl (r81 (by omega) hp) rfl ?_
  by_cases h3 : v1 = 0
  · rw [if_pos h3] at H
    refine ex_if_eq_j (ct := am_c155_13) h3 rfl ?_
    refine ex_aload_n rfl ?_
    refine ex_getR (w := 22) rfl rfl rfl ?_
    refine ex_iload_n rfl ?_
    obtain ⟨v4, S5, hp, H⟩ := am_b2_el H
    refine ex_callV rfl rfl (Nat.le_of_ble_eq_true rfl) (Nat.le_of_ble_eq_true rfl) rfl (r21 (by omega) hp) rfl ?_
    by_cases h6 : v4 = 0
    · rw [if_pos h6] at H
      refine ex_if_eq_j (ct := am_c155_35) h6 rfl ?_
      refine ex_bipush (v := (-2)) (by decide) ?_
      have H := Option.some.inj H
      subst H
      exact ex_iret (M := 155) (Or.inl rfl)
    · rw [if_neg h6] at H
      refine ex_if_eq_f h6 ?_
      refine ex_aload_n rfl ?_
      refine ex_getR (w := 22) rfl rfl rfl ?_
      refine ex_iload_n rfl ?_
      obtain ⟨v7, S8, hp, H⟩ := am_b2_el H
      refine ex_callV rfl rfl (Nat.le_of_ble_eq_true rfl) (Nat.le_of_ble_eq_true rfl) rfl (r21 (by omega) hp) rfl ?_
      by_cases h9 : v7 = 0
      · rw [if_pos h9] at H
        refine ex_if_ne_f h9 ?_
        refine ex_bipush (v := (-2)) (by decide) ?_
        have H := Option.some.inj H
        subst H
        exact ex_iret (M := 155) (Or.inl rfl)
      · rw [if_neg h9] at H
        refine ex_if_ne_j (ct := am_c155_38) h9 rfl ?_
        refine ex_aload_n rfl ?_
        refine ex_getR (w := 22) rfl rfl rfl ?_
        obtain ⟨v10, S11, hp, H⟩ := am_b2_el H
        refine ex_callV rfl rfl (Nat.le_of_ble_eq_true rfl) (Nat.le_of_ble_eq_true rfl) rfl (r20 (by omega) hp) rfl ?_
        refine ex_bipush (v := 16) (by decide) ?_
        by_cases h12 : 16 ≤ v10
        · rw [if_pos h12] at H
          refine ex_icmp_ge_j (ct := am_c155_72) h12 rfl ?_
          refine ex_bipush (v := (-3)) (by decide) ?_
          have H := Option.some.inj H
          subst H
          exact ex_iret (M := 155) (Or.inl rfl)
        · rw [if_neg h12] at H
          refine ex_icmp_ge_f h12 ?_
          refine ex_aload_n rfl ?_
          refine ex_getR (w := 22) rfl rfl rfl ?_
          refine ex_iload_n rfl ?_
          obtain ⟨v13, S14, hp, H⟩ := am_b2_el H
          refine ex_callV rfl rfl (Nat.le_of_ble_eq_true rfl) (Nat.le_of_ble_eq_true rfl) rfl (r22 (by omega) hp) rfl ?_
          refine ex_aload_n rfl ?_
          refine ex_getR (w := 22) rfl rfl rfl ?_
          refine ex_iload_n rfl ?_
          obtain ⟨v15, S16, hp, H⟩ := am_b2_el H
          refine ex_callV rfl rfl (Nat.le_of_ble_eq_true rfl) (Nat.le_of_ble_eq_true rfl) rfl (r22 (by omega) hp) rfl ?_
          refine ex_iadd ?_
          refine ex_bipush (v := 8) (by decide) ?_
          by_cases h17 : (v13 + v15) ≤ 8
          · rw [if_pos h17] at H
            refine ex_icmp_le_j (ct := am_c155_75) h17 rfl ?_
            refine ex_aload_n rfl ?_
            refine ex_getR (w := 1) rfl rfl rfl ?_
            obtain ⟨S18, hp, H⟩ := Option.bind_eq_some_iff.mp H
            refine ex_callV rfl rfl (Nat.le_of_ble_eq_true rfl) (Nat.le_of_ble_eq_true rfl) rfl (r58 (by omega) hp) rfl ?_
            refine ex_aload_n rfl ?_
            refine ex_getR (w := 22) rfl rfl rfl ?_
            refine ex_iload_n rfl ?_
            refine ex_iload_n rfl ?_
            obtain ⟨v19, S20, hp, H⟩ := am_b2_el H
            refine ex_callV rfl rfl (Nat.le_of_ble_eq_true rfl) (Nat.le_of_ble_eq_true rfl) rfl (r28 (by omega) hp) rfl ?_
            have H := Option.some.inj H
            subst H
            exact ex_iret (M := 155) (Or.inl rfl)
          · rw [if_neg h17] at H
            refine ex_icmp_le_f h17 ?_
            refine ex_bipush (v := (-3)) (by decide) ?_
            have H := Option.some.inj H
            subst H
            exact ex_iret (M := 155) (Or.inl rfl)
  · rw [if_neg h3] at H
    refine ex_if_eq_f h3 ?_
    refine ex_bipush (v := (-4)) (by decide) ?_
    have H := Option.some.inj H
    subst H
    exact ex_iret (M := 155) (Or.inl rfl)
-- X9_sheet
def f163 (F : Nat) (x1 : Int32) (x2 : Int32) (x3 : Int32) (S : AmT) : Option (Int32 × AmT) := am_b2 (f81 F S) fun v1 S2 => if v1 = 0 then (am_b2 (f34 F x1 S2) fun v4 S5 => if v4 = 0 then (some ((-2), S5)) else (am_b2 (f94 F S5) fun v7 S8 => if v7 < 8 then ((f58 F S8).bind fun S10 => am_b2 (f162 F x2 x3 S10) fun v11 S12 => if 0 ≤ v11 then (am_b2 (f96 F x1 x2 x3 S12) fun v14 S15 => some (v14, S15)) else (am_b2 (f129 F v11 S12) fun v16 S17 => some (v16, S17))) else (some ((-3), S8)))) else (some ((-4), S2))
set_option maxHeartbeats 1000000 in
set_option maxRecDepth 20000 in
theorem r163 {Lg : Nat} {xs : Nat → Int32} {d F : Nat} {x1 : Int32} {x2 : Int32} {x3 : Int32} {S : AmT} {q : Int32 × AmT} (hd : 3 ≤ d) (H : f163 F x1 x2 x3 S = some q) : Ex (am_X Lg xs) d 163 (am_P 163) (am_ini (am_Mi 163).1 [.ref 0, .int x1, .int x2, .int x3]) [] (hS S) (some q.1, hS q.2) := by
  obtain ⟨d, rfl⟩ : ∃ d2, d = d2 + 1 := ⟨d - 1, by omega⟩
  unfold f163 at H
  show Ex (am_X Lg xs) _ 163 am_c163_0 [.ref 0, .int x1, .int x2, .int x3, .long 0] [] (hS S) (some q.1, hS q.2)
  refine ex_aload_n rfl ?_
  refine ex_getR (w := 86) rfl rfl rfl ?_
  obtain ⟨v1, S2, hp, H⟩ := am_b2_el H
  refine ex_callV rfl rfl (Nat.le_of_ble_eq_true rfl) (Nat.le_of_ble_eq_true rfl) rfl (r81 (by omega) hp) rfl ?_
  by_cases h3 : v1 = 0
  · rw [if_pos h3] at H
    refine ex_if_eq_j (ct := am_c163_13) h3 rfl ?_
    refine ex_aload_n rfl ?_
    refine ex_getR (w := 7) rfl rfl rfl ?_
    refine ex_iload_n rfl ?_
    obtain ⟨v4, S5, hp, H⟩ := am_b2_el H
    refine ex_callV rfl rfl (Nat.le_of_ble_eq_true rfl) (Nat.le_of_ble_eq_true rfl) rfl (r34 (by omega) hp) rfl ?_
    by_cases h6 : v4 = 0
    · rw [if_pos h6] at H
      refine ex_if_ne_f h6 ?_
      refine ex_bipush (v := (-2)) (by decide) ?_
      have H := Option.some.inj H
      subst H
      exact ex_iret (M := 163) (Or.inl rfl)
    · rw [if_neg h6] at H
      refine ex_if_ne_j (ct := am_c163_27) h6 rfl ?_
      refine ex_aload_n rfl ?_
      refine ex_getR (w := 46) rfl rfl rfl ?_
      obtain ⟨v7, S8, hp, H⟩ := am_b2_el H
      refine ex_callV rfl rfl (Nat.le_of_ble_eq_true rfl) (Nat.le_of_ble_eq_true rfl) rfl (r94 (by omega) hp) rfl ?_
      refine ex_bipush (v := 8) (by decide) ?_
      by_cases h9 : v7 < 8
      · rw [if_pos h9] at H
        refine ex_icmp_lt_j (ct := am_c163_42) h9 rfl ?_
        refine ex_aload_n rfl ?_
        refine ex_getR (w := 1) rfl rfl rfl ?_
        obtain ⟨S10, hp, H⟩ := Option.bind_eq_some_iff.mp H
        refine ex_callV rfl rfl (Nat.le_of_ble_eq_true rfl) (Nat.le_of_ble_eq_true rfl) rfl (r58 (by omega) hp) rfl ?_
        refine ex_iload_n rfl ?_
        refine ex_iload_n rfl ?_
        obtain ⟨v11, S12, hp, H⟩ := am_b2_el H
        refine ex_callS rfl rfl (Nat.le_of_ble_eq_true rfl) (Nat.le_of_ble_eq_true rfl) (r162 (by omega) hp) rfl ?_
        refine ex_istore (L2 := [.ref 0, .int x1, .int x2, .int x3, .int v11]) (Nat.le_of_ble_eq_true rfl) rfl ?_
        refine ex_iload rfl ?_
        by_cases h13 : 0 ≤ v11
        · rw [if_pos h13] at H
          refine ex_if_ge_j (ct := am_c163_73) h13 rfl ?_
          refine ex_aload_n rfl ?_
          refine ex_getR (w := 46) rfl rfl rfl ?_
          refine ex_iload_n rfl ?_
          refine ex_iload_n rfl ?_
          refine ex_iload_n rfl ?_
          obtain ⟨v14, S15, hp, H⟩ := am_b2_el H
          refine ex_callV rfl rfl (Nat.le_of_ble_eq_true rfl) (Nat.le_of_ble_eq_true rfl) rfl (r96 (by omega) hp) rfl ?_
          have H := Option.some.inj H
          subst H
          exact ex_iret (M := 163) (Or.inl rfl)
        · rw [if_neg h13] at H
          refine ex_if_ge_f h13 ?_
          refine ex_aload_n rfl ?_
          refine ex_getR (w := 5) rfl rfl rfl ?_
          refine ex_iload rfl ?_
          obtain ⟨v16, S17, hp, H⟩ := am_b2_el H
          refine ex_callV rfl rfl (Nat.le_of_ble_eq_true rfl) (Nat.le_of_ble_eq_true rfl) rfl (r129 (by omega) hp) rfl ?_
          refine ex_goto (ct := am_c163_83) rfl ?_
          have H := Option.some.inj H
          subst H
          exact ex_iret (M := 163) (Or.inl rfl)
      · rw [if_neg h9] at H
        refine ex_icmp_lt_f h9 ?_
        refine ex_bipush (v := (-3)) (by decide) ?_
        have H := Option.some.inj H
        subst H
        exact ex_iret (M := 163) (Or.inl rfl)
  · rw [if_neg h3] at H
    refine ex_if_eq_f h3 ?_
    refine ex_bipush (v := (-4)) (by decide) ?_
    have H := Option.some.inj H
    subst H
    exact ex_iret (M := 163) (Or.inl rfl)
