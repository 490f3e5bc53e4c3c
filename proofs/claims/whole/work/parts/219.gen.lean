/-! printed by wip/gen/gen20.py -/
-- X6_work
def f89 (F : Nat) (x1 : Int32) (x2 : Int32) (S : AmT) : Option (Int32 × AmT) := if x2 = 0 then (am_b2 (f90 F S) fun v2 S3 => some (v2, S3)) else if x2 = 1 then (am_b2 (f91 F x1 0 S) fun v5 S6 => some (v5, S6)) else if x2 = 2 then (am_b2 (f91 F x1 1 S) fun v8 S9 => some (v8, S9)) else if x2 = 3 then (am_b2 (f119 F x1 S) fun v11 S12 => am_b2 (f21 F v11 S12) fun v13 S14 => if v13 = 0 then (some ((-11), S14)) else (am_b2 (f97 F x1 S14) fun v16 S17 => am_b2 (f98 F x1 S17) fun v18 S19 => am_b2 (f29 F v11 v16 v18 x1 S19) fun v20 S21 => some (v20, S21))) else (am_b2 (f92 F x1 S) fun v22 S23 => some (v22, S23))
set_option maxHeartbeats 1000000 in
set_option maxRecDepth 20000 in
theorem r89 {Lg : Nat} {xs : Nat → Int32} {d F : Nat} {x1 : Int32} {x2 : Int32} {S : AmT} {q : Int32 × AmT} (hd : 15 ≤ d) (H : f89 F x1 x2 S = some q) : Ex (am_X Lg xs) d 89 (am_P 89) (am_ini (am_Mi 89).1 [.ref 86, .int x1, .int x2]) [] (hS S) (some q.1, hS q.2) := by
  obtain ⟨d, rfl⟩ : ∃ d2, d = d2 + 1 := ⟨d - 1, by omega⟩
  unfold f89 at H
  show Ex (am_X Lg xs) _ 89 am_c89_0 [.ref 86, .int x1, .int x2, .long 0] [] (hS S) (some q.1, hS q.2)
  refine ex_iload_n rfl ?_
  by_cases h1 : x2 = 0
  · rw [if_pos h1] at H
    refine ex_table (off := 31) (ct := am_c89_32) (by rw [h1]; decide) rfl ?_
    refine ex_aload_n rfl ?_
    obtain ⟨v2, S3, hp, H⟩ := am_b2_el H
    refine ex_callV rfl rfl (Nat.le_of_ble_eq_true rfl) (Nat.le_of_ble_eq_true rfl) rfl (r90 (by omega) hp) rfl ?_
    have H := Option.some.inj H
    subst H
    exact ex_iret (M := 89) (Or.inl rfl)
  rw [if_neg h1] at H
  by_cases h4 : x2 = 1
  · rw [if_pos h4] at H
    refine ex_table (off := 36) (ct := am_c89_37) (by rw [h4]; decide) rfl ?_
    refine ex_aload_n rfl ?_
    refine ex_iload_n rfl ?_
    refine ex_iconst (v := 0) (by decide) ?_
    obtain ⟨v5, S6, hp, H⟩ := am_b2_el H
    refine ex_callV rfl rfl (Nat.le_of_ble_eq_true rfl) (Nat.le_of_ble_eq_true rfl) rfl (r91 (by omega) hp) rfl ?_
    have H := Option.some.inj H
    subst H
    exact ex_iret (M := 89) (Or.inl rfl)
  rw [if_neg h4] at H
  by_cases h7 : x2 = 2
  · rw [if_pos h7] at H
    refine ex_table (off := 43) (ct := am_c89_44) (by rw [h7]; decide) rfl ?_
    refine ex_aload_n rfl ?_
    refine ex_iload_n rfl ?_
    refine ex_iconst (v := 1) (by decide) ?_
    obtain ⟨v8, S9, hp, H⟩ := am_b2_el H
    refine ex_callV rfl rfl (Nat.le_of_ble_eq_true rfl) (Nat.le_of_ble_eq_true rfl) rfl (r91 (by omega) hp) rfl ?_
    have H := Option.some.inj H
    subst H
    exact ex_iret (M := 89) (Or.inl rfl)
  rw [if_neg h7] at H
  by_cases h10 : x2 = 3
  · rw [if_pos h10] at H
    refine ex_table (off := 50) (ct := am_c89_51) (by rw [h10]; decide) rfl ?_
    refine ex_aload_n rfl ?_
    refine ex_getR (w := 46) rfl rfl rfl ?_
    refine ex_iload_n rfl ?_
    obtain ⟨v11, S12, hp, H⟩ := am_b2_el H
    refine ex_callV rfl rfl (Nat.le_of_ble_eq_true rfl) (Nat.le_of_ble_eq_true rfl) rfl (r119 (by omega) hp) rfl ?_
    refine ex_istore_n (L2 := [.ref 86, .int x1, .int x2, .int v11]) (Nat.le_of_ble_eq_true rfl) rfl ?_
    refine ex_aload_n rfl ?_
    refine ex_getR (w := 22) rfl rfl rfl ?_
    refine ex_iload_n rfl ?_
    obtain ⟨v13, S14, hp, H⟩ := am_b2_el H
    refine ex_callV rfl rfl (Nat.le_of_ble_eq_true rfl) (Nat.le_of_ble_eq_true rfl) rfl (r21 (by omega) hp) rfl ?_
    by_cases h15 : v13 = 0
    · rw [if_pos h15] at H
      refine ex_if_ne_f h15 ?_
      refine ex_bipush (v := (-11)) (by decide) ?_
      have H := Option.some.inj H
      subst H
      exact ex_iret (M := 89) (Or.inl rfl)
    · rw [if_neg h15] at H
      refine ex_if_ne_j (ct := am_c89_74) h15 rfl ?_
      refine ex_aload_n rfl ?_
      refine ex_getR (w := 22) rfl rfl rfl ?_
      refine ex_iload_n rfl ?_
      refine ex_aload_n rfl ?_
      refine ex_getR (w := 46) rfl rfl rfl ?_
      refine ex_iload_n rfl ?_
      obtain ⟨v16, S17, hp, H⟩ := am_b2_el H
      refine ex_callV rfl rfl (Nat.le_of_ble_eq_true rfl) (Nat.le_of_ble_eq_true rfl) rfl (r97 (by omega) hp) rfl ?_
      refine ex_aload_n rfl ?_
      refine ex_getR (w := 46) rfl rfl rfl ?_
      refine ex_iload_n rfl ?_
      obtain ⟨v18, S19, hp, H⟩ := am_b2_el H
      refine ex_callV rfl rfl (Nat.le_of_ble_eq_true rfl) (Nat.le_of_ble_eq_true rfl) rfl (r98 (by omega) hp) rfl ?_
      refine ex_iload_n rfl ?_
      obtain ⟨v20, S21, hp, H⟩ := am_b2_el H
      refine ex_callV rfl rfl (Nat.le_of_ble_eq_true rfl) (Nat.le_of_ble_eq_true rfl) rfl (r29 (by omega) hp) rfl ?_
      have H := Option.some.inj H
      subst H
      exact ex_iret (M := 89) (Or.inl rfl)
  rw [if_neg h10] at H
  refine ex_table (off := 99) (ct := am_c89_100) (am_sw_out 4 (by decide) (by decide) (by decide) (fun k hk => match k, hk with | 0, _ => h1 | 1, _ => h4 | 2, _ => h7 | 3, _ => h10 | k + 4, hk => absurd hk (by omega))) rfl ?_
  refine ex_aload_n rfl ?_
  refine ex_iload_n rfl ?_
  obtain ⟨v22, S23, hp, H⟩ := am_b2_el H
  refine ex_callV rfl rfl (Nat.le_of_ble_eq_true rfl) (Nat.le_of_ble_eq_true rfl) rfl (r92 (by omega) hp) rfl ?_
  have H := Option.some.inj H
  subst H
  exact ex_iret (M := 89) (Or.inl rfl)
def g110_30 (F : Nat) : Nat → Int32 → Int32 → Int32 → Int32 → AmT → Option (Int32 × AmT)
  | 0, _, _, _, _, _ => none
  | n + 1, x1, x3, x4, x5, S => if x4 ≤ x5 then (some (x4, S)) else (am_b2 (f111 F x1 x5 (x3 + x5) S) fun v4 S5 => if 0 ≤ v4 then (g110_30 F n x1 x3 x4 (x5 + 1) S5) else (some (v4, S5)))
-- X7_layPages
def f110 (F : Nat) (x1 : Int32) (x2 : Int32) (x3 : Int32) (S : AmT) : Option (Int32 × AmT) := am_b2 (f29 F x2 (kg S.1 52 8 x1) (kg S.1 54 8 x1) x1 S) fun v1 S2 => g110_30 F F x1 x3 v1 0 S2
set_option maxHeartbeats 1000000 in
set_option maxRecDepth 20000 in
theorem e110_30 {Lg : Nat} {xs : Nat → Int32} {d F : Nat} (hd : 15 ≤ d) : ∀ (n : Nat) (x1 : Int32) (x3 : Int32) (x4 : Int32) (x5 : Int32) (w2 : Value) (w6 : Value) (S : AmT) (q : Int32 × AmT), g110_30 F n x1 x3 x4 x5 S = some q → Ex (am_X Lg xs) d 110 am_c110_30 [.ref 46, .int x1, w2, .int x3, .int x4, .int x5, w6] [] (hS S) (some q.1, hS q.2) := by
  obtain ⟨d, rfl⟩ : ∃ d2, d = d2 + 1 := ⟨d - 1, by omega⟩
  intro n
  induction n with
  | zero =>
    intro x1 x3 x4 x5 w2 w6 S q H
    cases H
  | succ n ih =>
    intro x1 x3 x4 x5 w2 w6 S q H
    have H : (if x4 ≤ x5 then (some (x4, S)) else (am_b2 (f111 F x1 x5 (x3 + x5) S) fun v4 S5 => if 0 ≤ v4 then (g110_30 F n x1 x3 x4 (x5 + 1) S5) else (some (v4, S5)))) = some q := H
    refine ex_iload rfl ?_
    refine ex_iload rfl ?_
    by_cases h3 : x4 ≤ x5
    · rw [if_pos h3] at H
      refine ex_icmp_ge_j (ct := am_c110_64) h3 rfl ?_
      refine ex_iload rfl ?_
      have H := Option.some.inj H
      subst H
      exact ex_iret (M := 110) (Or.inl rfl)
    · rw [if_neg h3] at H
      refine ex_icmp_ge_f h3 ?_
      refine ex_aload_n rfl ?_
      refine ex_iload_n rfl ?_
      refine ex_iload rfl ?_
      refine ex_iload_n rfl ?_
      refine ex_iload rfl ?_
      refine ex_iadd ?_
      obtain ⟨v4, S5, hp, H⟩ := am_b2_el H
      refine ex_callV rfl rfl (Nat.le_of_ble_eq_true rfl) (Nat.le_of_ble_eq_true rfl) rfl (r111 (by omega) hp) rfl ?_
      refine ex_istore (L2 := [.ref 46, .int x1, w2, .int x3, .int x4, .int x5, .int v4]) (Nat.le_of_ble_eq_true rfl) rfl ?_
      refine ex_iload rfl ?_
      by_cases h6 : 0 ≤ v4
      · rw [if_pos h6] at H
        refine ex_if_ge_j (ct := am_c110_58) h6 rfl ?_
        refine ex_iinc (L2 := [.ref 46, .int x1, w2, .int x3, .int x4, .int (x5 + 1), .int v4]) (v := (x5 + 1)) rfl (Nat.le_of_ble_eq_true rfl) (congrArg (fun z => x5 + z) (by decide)) rfl ?_
        refine ex_goto (ct := am_c110_30) rfl ?_
        exact ih _ _ _ _ _ _ _ _ H
      · rw [if_neg h6] at H
        refine ex_if_ge_f h6 ?_
        refine ex_iload rfl ?_
        have H := Option.some.inj H
        subst H
        exact ex_iret (M := 110) (Or.inl rfl)
set_option maxHeartbeats 1000000 in
set_option maxRecDepth 20000 in
theorem r110 {Lg : Nat} {xs : Nat → Int32} {d F : Nat} {x1 : Int32} {x2 : Int32} {x3 : Int32} {S : AmT} {q : Int32 × AmT} (hd : 15 ≤ d) (H : f110 F x1 x2 x3 S = some q) : Ex (am_X Lg xs) d 110 (am_P 110) (am_ini (am_Mi 110).1 [.ref 46, .int x1, .int x2, .int x3]) [] (hS S) (some q.1, hS q.2) := by
  obtain ⟨d, rfl⟩ : ∃ d2, d = d2 + 1 := ⟨d - 1, by omega⟩
  unfold f110 at H
  show Ex (am_X Lg xs) _ 110 am_c110_0 [.ref 46, .int x1, .int x2, .int x3, .long 0, .long 0, .long 0] [] (hS S) (some q.1, hS q.2)
  refine ex_aload_n rfl ?_
  refine ex_getR (w := 22) rfl rfl rfl ?_
  refine ex_iload_n rfl ?_
  refine ex_aload_n rfl ?_
  refine ex_getR (w := 51) rfl rfl rfl ?_
  refine ex_iload_n rfl ?_
  refine ex_kget (c := 51) (ar := 52) (n := 8) rfl (Nat.le_of_ble_eq_true rfl) ?_
  refine ex_aload_n rfl ?_
  refine ex_getR (w := 53) rfl rfl rfl ?_
  refine ex_iload_n rfl ?_
  refine ex_kget (c := 53) (ar := 54) (n := 8) rfl (Nat.le_of_ble_eq_true rfl) ?_
  refine ex_iload_n rfl ?_
  obtain ⟨v1, S2, hp, H⟩ := am_b2_el H
  refine ex_callV rfl rfl (Nat.le_of_ble_eq_true rfl) (Nat.le_of_ble_eq_true rfl) rfl (r29 (by omega) hp) rfl ?_
  refine ex_istore (L2 := [.ref 46, .int x1, .int x2, .int x3, .int v1, .long 0, .long 0]) (Nat.le_of_ble_eq_true rfl) rfl ?_
  refine ex_iconst (v := 0) (by decide) ?_
  refine ex_istore (L2 := [.ref 46, .int x1, .int x2, .int x3, .int v1, .int 0, .long 0]) (Nat.le_of_ble_eq_true rfl) rfl ?_
  exact e110_30 hd _ _ _ _ _ _ _ _ _ H
def g113_45 (F : Nat) (S : AmT) : Option (Int32 × AmT) := some ((-12), S)
-- X7_readFace
def f113 (F : Nat) (x1 : Int32) (x2 : Int32) (x3 : Int32) (S : AmT) : Option (Int32 × AmT) := am_b2 (f29 F x2 (kg S.1 52 8 x1) (kg S.1 54 8 x1) x1 S) fun v1 S2 => if 0 ≤ v1 then (if x3 < 0 then (g113_45 F S2) else (if x3 < v1 then (am_b2 (f114 F x1 x3 S2) fun v6 S7 => some (v6, S7)) else (g113_45 F S2))) else (some (v1, S2))
set_option maxHeartbeats 1000000 in
set_option maxRecDepth 20000 in
theorem e113_45 {Lg : Nat} {xs : Nat → Int32} {d F : Nat} {w0 : Value} {w1 : Value} {w2 : Value} {w3 : Value} {w4 : Value} {S : AmT} {q : Int32 × AmT} (hd : 15 ≤ d) (H : g113_45 F S = some q) : Ex (am_X Lg xs) d 113 am_c113_45 [w0, w1, w2, w3, w4] [] (hS S) (some q.1, hS q.2) := by
  obtain ⟨d, rfl⟩ : ∃ d2, d = d2 + 1 := ⟨d - 1, by omega⟩
  unfold g113_45 at H
  refine ex_bipush (v := (-12)) (by decide) ?_
  refine ex_goto (ct := am_c113_56) rfl ?_
  have H := Option.some.inj H
  subst H
  exact ex_iret (M := 113) (Or.inl rfl)
set_option maxHeartbeats 1000000 in
set_option maxRecDepth 20000 in
theorem r113 {Lg : Nat} {xs : Nat → Int32} {d F : Nat} {x1 : Int32} {x2 : Int32} {x3 : Int32} {S : AmT} {q : Int32 × AmT} (hd : 15 ≤ d) (H : f113 F x1 x2 x3 S = some q) : Ex (am_X Lg xs) d 113 (am_P 113) (am_ini (am_Mi 113).1 [.ref 46, .int x1, .int x2, .int x3]) [] (hS S) (some q.1, hS q.2) := by
  obtain ⟨d, rfl⟩ : ∃ d2, d = d2 + 1 := ⟨d - 1, by omega⟩
  unfold f113 at H
  show Ex (am_X Lg xs) _ 113 am_c113_0 [.ref 46, .int x1, .int x2, .int x3, .long 0] [] (hS S) (some q.1, hS q.2)
  refine ex_aload_n rfl ?_
  refine ex_getR (w := 22) rfl rfl rfl ?_
  refine ex_iload_n rfl ?_
  refine ex_aload_n rfl ?_
  refine ex_getR (w := 51) rfl rfl rfl ?_
  refine ex_iload_n rfl ?_
  refine ex_kget (c := 51) (ar := 52) (n := 8) rfl (Nat.le_of_ble_eq_true rfl) ?_
  refine ex_aload_n rfl ?_
  refine ex_getR (w := 53) rfl rfl rfl ?_
  refine ex_iload_n rfl ?_
  refine ex_kget (c := 53) (ar := 54) (n := 8) rfl (Nat.le_of_ble_eq_true rfl) ?_
  refine ex_iload_n rfl ?_
  obtain ⟨v1, S2, hp, H⟩ := am_b2_el H
  refine ex_callV rfl rfl (Nat.le_of_ble_eq_true rfl) (Nat.le_of_ble_eq_true rfl) rfl (r29 (by omega) hp) rfl ?_
  refine ex_istore (L2 := [.ref 46, .int x1, .int x2, .int x3, .int v1]) (Nat.le_of_ble_eq_true rfl) rfl ?_
  refine ex_iload rfl ?_
  by_cases h3 : 0 ≤ v1
  · rw [if_pos h3] at H
    refine ex_if_ge_j (ct := am_c113_35) h3 rfl ?_
    refine ex_iload_n rfl ?_
    by_cases h4 : x3 < 0
    · rw [if_pos h4] at H
      refine ex_if_lt_j (ct := am_c113_45) h4 rfl ?_
      exact e113_45 hd H
    · rw [if_neg h4] at H
      refine ex_if_lt_f h4 ?_
      refine ex_iload_n rfl ?_
      refine ex_iload rfl ?_
      by_cases h5 : x3 < v1
      · rw [if_pos h5] at H
        refine ex_icmp_lt_j (ct := am_c113_50) h5 rfl ?_
        refine ex_aload_n rfl ?_
        refine ex_iload_n rfl ?_
        refine ex_iload_n rfl ?_
        obtain ⟨v6, S7, hp, H⟩ := am_b2_el H
        refine ex_callV rfl rfl (Nat.le_of_ble_eq_true rfl) (Nat.le_of_ble_eq_true rfl) rfl (r114 (by omega) hp) rfl ?_
        have H := Option.some.inj H
        subst H
        exact ex_iret (M := 113) (Or.inl rfl)
      · rw [if_neg h5] at H
        refine ex_icmp_lt_f h5 ?_
        exact e113_45 hd H
  · rw [if_neg h3] at H
    refine ex_if_ge_f h3 ?_
    refine ex_iload rfl ?_
    have H := Option.some.inj H
    subst H
    exact ex_iret (M := 113) (Or.inl rfl)
-- X9_foldBare
def f161 (F : Nat) (x1 : Int32) (x2 : Int32) (x3 : Int32) (S : AmT) : Option (Int32 × AmT) := am_b2 (f162 F x2 x3 S) fun v1 S2 => if 0 ≤ v1 then (am_b2 (f29 F x1 x2 x3 0 S2) fun v4 S5 => some (v4, S5)) else (some (v1, S2))
set_option maxHeartbeats 1000000 in
set_option maxRecDepth 20000 in
theorem r161 {Lg : Nat} {xs : Nat → Int32} {d F : Nat} {x1 : Int32} {x2 : Int32} {x3 : Int32} {S : AmT} {q : Int32 × AmT} (hd : 15 ≤ d) (H : f161 F x1 x2 x3 S = some q) : Ex (am_X Lg xs) d 161 (am_P 161) (am_ini (am_Mi 161).1 [.ref 0, .int x1, .int x2, .int x3]) [] (hS S) (some q.1, hS q.2) := by
  obtain ⟨d, rfl⟩ : ∃ d2, d = d2 + 1 := ⟨d - 1, by omega⟩
  unfold f161 at H
  show Ex (am_X Lg xs) _ 161 am_c161_0 [.ref 0, .int x1, .int x2, .int x3, .long 0] [] (hS S) (some q.1, hS q.2)
  refine ex_iload_n rfl ?_
  refine ex_iload_n rfl ?_
  obtain ⟨v1, S2, hp, H⟩ := am_b2_el H
  refine ex_callS rfl rfl (Nat.le_of_ble_eq_true rfl) (Nat.le_of_ble_eq_true rfl) (r162 (by omega) hp) rfl ?_
  refine ex_istore (L2 := [.ref 0, .int x1, .int x2, .int x3, .int v1]) (Nat.le_of_ble_eq_true rfl) rfl ?_
  refine ex_iload rfl ?_
  by_cases h3 : 0 ≤ v1
  · rw [if_pos h3] at H
    refine ex_if_ge_j (ct := am_c161_17) h3 rfl ?_
    refine ex_aload_n rfl ?_
    refine ex_getR (w := 22) rfl rfl rfl ?_
    refine ex_iload_n rfl ?_
    refine ex_iload_n rfl ?_
    refine ex_iload_n rfl ?_
    refine ex_iconst (v := 0) (by decide) ?_
    obtain ⟨v4, S5, hp, H⟩ := am_b2_el H
    refine ex_callV rfl rfl (Nat.le_of_ble_eq_true rfl) (Nat.le_of_ble_eq_true rfl) rfl (r29 (by omega) hp) rfl ?_
    have H := Option.some.inj H
    subst H
    exact ex_iret (M := 161) (Or.inl rfl)
  · rw [if_neg h3] at H
    refine ex_if_ge_f h3 ?_
    refine ex_iload rfl ?_
    refine ex_goto (ct := am_c161_28) rfl ?_
    have H := Option.some.inj H
    subst H
    exact ex_iret (M := 161) (Or.inl rfl)
def g10_60 (F : Nat) (k11 : Int32 → Int32 → Int32 → Int32 → AmT → Option (Int32 × AmT)) (x1 : Int32) (x3 : Int32) (x4 : Int32) (x5 : Int32) (s0 : Int32) (S : AmT) : Option (Int32 × AmT) := if 0 ≤ s0 then (k11 x1 x3 x4 (x5 + 1) S) else (some (s0, S))
def g10_11 (F : Nat) : Nat → Int32 → Int32 → Int32 → Int32 → AmT → Option (Int32 × AmT)
  | 0, _, _, _, _, _ => none
  | n + 1, x1, x3, x4, x5, S => if x4 ≤ x5 then (some (x4, S)) else (am_b2 (f9 F x1 x5 S) fun v4 S5 => if 0 ≤ v4 then (am_b2 (f111 F (v4 / 128) (v4 - v4 / 128 * 128) (x3 + x5) S5) fun v7 S8 => g10_60 F (fun x1 x3 x4 x5 S => g10_11 F n x1 x3 x4 x5 S) x1 x3 x4 x5 v7 S8) else (g10_60 F (fun x1 x3 x4 x5 S => g10_11 F n x1 x3 x4 x5 S) x1 x3 x4 x5 v4 S5))
-- X0_layPages
def f10 (F : Nat) (x1 : Int32) (x2 : Int32) (x3 : Int32) (S : AmT) : Option (Int32 × AmT) := am_b2 (f8 F x1 x2 S) fun v1 S2 => g10_11 F F x1 x3 v1 0 S2
set_option maxHeartbeats 1000000 in
set_option maxRecDepth 20000 in
theorem e10_60 {Lg : Nat} {xs : Nat → Int32} {d F : Nat} {k11 : Int32 → Int32 → Int32 → Int32 → AmT → Option (Int32 × AmT)} {x1 : Int32} {x3 : Int32} {x4 : Int32} {x5 : Int32} {s0 : Int32} {w2 : Value} {w6 : Value} {w7 : Value} {S : AmT} {q : Int32 × AmT} (hd : 16 ≤ d) (hk11 : ∀ (x1 : Int32) (x3 : Int32) (x4 : Int32) (x5 : Int32) (w2 : Value) (w6 : Value) (w7 : Value) (S : AmT) (q : Int32 × AmT), k11 x1 x3 x4 x5 S = some q → Ex (am_X Lg xs) d 10 am_c10_11 [.ref 69, .int x1, w2, .int x3, .int x4, .int x5, w6, w7] [] (hS S) (some q.1, hS q.2)) (H : g10_60 F k11 x1 x3 x4 x5 s0 S = some q) : Ex (am_X Lg xs) d 10 am_c10_60 [.ref 69, .int x1, w2, .int x3, .int x4, .int x5, w6, w7] [.int s0] (hS S) (some q.1, hS q.2) := by
  obtain ⟨d, rfl⟩ : ∃ d2, d = d2 + 1 := ⟨d - 1, by omega⟩
  unfold g10_60 at H
  refine ex_istore (L2 := [.ref 69, .int x1, w2, .int x3, .int x4, .int x5, w6, .int s0]) (Nat.le_of_ble_eq_true rfl) rfl ?_
  refine ex_iload rfl ?_
  by_cases h9 : 0 ≤ s0
  · rw [if_pos h9] at H
    refine ex_if_ge_j (ct := am_c10_70) h9 rfl ?_
    refine ex_iinc (L2 := [.ref 69, .int x1, w2, .int x3, .int x4, .int (x5 + 1), w6, .int s0]) (v := (x5 + 1)) rfl (Nat.le_of_ble_eq_true rfl) (congrArg (fun z => x5 + z) (by decide)) rfl ?_
    refine ex_goto (ct := am_c10_11) rfl ?_
    exact hk11 _ _ _ _ _ _ _ _ _ H
  · rw [if_neg h9] at H
    refine ex_if_ge_f h9 ?_
    refine ex_iload rfl ?_
    have H := Option.some.inj H
    subst H
    exact ex_iret (M := 10) (Or.inl rfl)
set_option maxHeartbeats 1000000 in
set_option maxRecDepth 20000 in
theorem e10_11 {Lg : Nat} {xs : Nat → Int32} {d F : Nat} (hd : 16 ≤ d) : ∀ (n : Nat) (x1 : Int32) (x3 : Int32) (x4 : Int32) (x5 : Int32) (w2 : Value) (w6 : Value) (w7 : Value) (S : AmT) (q : Int32 × AmT), g10_11 F n x1 x3 x4 x5 S = some q → Ex (am_X Lg xs) d 10 am_c10_11 [.ref 69, .int x1, w2, .int x3, .int x4, .int x5, w6, w7] [] (hS S) (some q.1, hS q.2) := by
  obtain ⟨d, rfl⟩ : ∃ d2, d = d2 + 1 := ⟨d - 1, by omega⟩
  intro n
  induction n with
  | zero =>
    intro x1 x3 x4 x5 w2 w6 w7 S q H
    cases H
  | succ n ih =>
    intro x1 x3 x4 x5 w2 w6 w7 S q H
    have H : (if x4 ≤ x5 then (some (x4, S)) else (am_b2 (f9 F x1 x5 S) fun v4 S5 => if 0 ≤ v4 then (am_b2 (f111 F (v4 / 128) (v4 - v4 / 128 * 128) (x3 + x5) S5) fun v7 S8 => g10_60 F (fun x1 x3 x4 x5 S => g10_11 F n x1 x3 x4 x5 S) x1 x3 x4 x5 v7 S8) else (g10_60 F (fun x1 x3 x4 x5 S => g10_11 F n x1 x3 x4 x5 S) x1 x3 x4 x5 v4 S5))) = some q := H
    refine ex_iload rfl ?_
    refine ex_iload rfl ?_
    by_cases h3 : x4 ≤ x5
    · rw [if_pos h3] at H
      refine ex_icmp_ge_j (ct := am_c10_76) h3 rfl ?_
      refine ex_iload rfl ?_
      have H := Option.some.inj H
      subst H
      exact ex_iret (M := 10) (Or.inl rfl)
    · rw [if_neg h3] at H
      refine ex_icmp_ge_f h3 ?_
      refine ex_aload_n rfl ?_
      refine ex_iload_n rfl ?_
      refine ex_iload rfl ?_
      obtain ⟨v4, S5, hp, H⟩ := am_b2_el H
      refine ex_callV rfl rfl (Nat.le_of_ble_eq_true rfl) (Nat.le_of_ble_eq_true rfl) rfl (r9 (by omega) hp) rfl ?_
      refine ex_istore (L2 := [.ref 69, .int x1, w2, .int x3, .int x4, .int x5, .int v4, w7]) (Nat.le_of_ble_eq_true rfl) rfl ?_
      refine ex_iload rfl ?_
      by_cases h6 : 0 ≤ v4
      · rw [if_pos h6] at H
        refine ex_if_ge_j (ct := am_c10_37) h6 rfl ?_
        refine ex_aload_n rfl ?_
        refine ex_getR (w := 46) rfl rfl rfl ?_
        refine ex_iload rfl ?_
        refine ex_sipush (v := 128) (by decide) ?_
        refine ex_idiv (by decide) ?_
        refine ex_iload rfl ?_
        refine ex_sipush (v := 128) (by decide) ?_
        refine ex_irem (by decide) ?_
        refine ex_iload_n rfl ?_
        refine ex_iload rfl ?_
        refine ex_iadd ?_
        obtain ⟨v7, S8, hp, H⟩ := am_b2_el H
        refine ex_callV rfl rfl (Nat.le_of_ble_eq_true rfl) (Nat.le_of_ble_eq_true rfl) rfl (r111 (by omega) hp) rfl ?_
        exact e10_60 hd (fun x1 x3 x4 x5 w2 w6 w7 S q H => ih x1 x3 x4 x5 w2 w6 w7 S q H) H
      · rw [if_neg h6] at H
        refine ex_if_ge_f h6 ?_
        refine ex_iload rfl ?_
        refine ex_goto (ct := am_c10_60) rfl ?_
        exact e10_60 hd (fun x1 x3 x4 x5 w2 w6 w7 S q H => ih x1 x3 x4 x5 w2 w6 w7 S q H) H
set_option maxHeartbeats 1000000 in
set_option maxRecDepth 20000 in
theorem r10 {Lg : Nat} {xs : Nat → Int32} {d F : Nat} {x1 : Int32} {x2 : Int32} {x3 : Int32} {S : AmT} {q : Int32 × AmT} (hd : 16 ≤ d) (H : f10 F x1 x2 x3 S = some q) : Ex (am_X Lg xs) d 10 (am_P 10) (am_ini (am_Mi 10).1 [.ref 69, .int x1, .int x2, .int x3]) [] (hS S) (some q.1, hS q.2) := by
  obtain ⟨d, rfl⟩ : ∃ d2, d = d2 + 1 := ⟨d - 1, by omega⟩
  unfold f10 at H
  show Ex (am_X Lg xs) _ 10 am_c10_0 [.ref 69, .int x1, .int x2, .int x3, .long 0, .long 0, .long 0, .long 0] [] (hS S) (some q.1, hS q.2)
  refine ex_aload_n rfl ?_
  refine ex_iload_n rfl ?_
  refine ex_iload_n rfl ?_
  obtain ⟨v1, S2, hp, H⟩ := am_b2_el H
  refine ex_callV rfl rfl (Nat.le_of_ble_eq_true rfl) (Nat.le_of_ble_eq_true rfl) rfl (r8 (by omega) hp) rfl ?_
  refine ex_istore (L2 := [.ref 69, .int x1, .int x2, .int x3, .int v1, .long 0, .long 0, .long 0]) (Nat.le_of_ble_eq_true rfl) rfl ?_
  refine ex_iconst (v := 0) (by decide) ?_
  refine ex_istore (L2 := [.ref 69, .int x1, .int x2, .int x3, .int v1, .int 0, .long 0, .long 0]) (Nat.le_of_ble_eq_true rfl) rfl ?_
  exact e10_11 hd _ _ _ _ _ _ _ _ _ _ H
def g14_48 (F : Nat) : Nat → Int32 → Int32 → AmT → Option (Int32 × AmT)
  | 0, _, _, _ => none
  | n + 1, x3, x4, S => if (kg S.1 81 1 0) ≤ x4 then (some ((-12), S)) else (am_b2 (f9 F (kg S.1 83 4 x4) x3 S) fun v3 S4 => if v3 < 0 then (am_b2 (f15 F (kg S4.1 83 4 x4) S4) fun v6 S7 => g14_48 F n (x3 - v6) (x4 + 1) S7) else (am_b2 (f114 F (v3 / 128) (v3 - v3 / 128 * 128) S4) fun v8 S9 => some (v8, S9)))
def g14_2 (F : Nat) : Nat → Int32 → Int32 → Int32 → AmT → Option (Int32 × AmT)
  | 0, _, _, _, _ => none
  | n + 1, x1, x2, x3, S => if (kg S.1 81 1 0) ≤ x3 then (g14_48 F F x2 0 S) else (am_b2 (f8 F (kg S.1 83 4 x3) x1 S) fun v10 S11 => if 0 ≤ v10 then (g14_2 F n x1 x2 (x3 + 1) S11) else (some (v10, S11)))
-- X0_readFace
def f14 (F : Nat) (x1 : Int32) (x2 : Int32) (S : AmT) : Option (Int32 × AmT) := g14_2 F F x1 x2 0 S
set_option maxHeartbeats 1000000 in
set_option maxRecDepth 20000 in
theorem e14_48 {Lg : Nat} {xs : Nat → Int32} {d F : Nat} (hd : 16 ≤ d) : ∀ (n : Nat) (x3 : Int32) (x4 : Int32) (w1 : Value) (w2 : Value) (w5 : Value) (S : AmT) (q : Int32 × AmT), g14_48 F n x3 x4 S = some q → Ex (am_X Lg xs) d 14 am_c14_48 [.ref 69, w1, w2, .int x3, .int x4, w5] [] (hS S) (some q.1, hS q.2) := by
  obtain ⟨d, rfl⟩ : ∃ d2, d = d2 + 1 := ⟨d - 1, by omega⟩
  intro n
  induction n with
  | zero =>
    intro x3 x4 w1 w2 w5 S q H
    cases H
  | succ n ih =>
    intro x3 x4 w1 w2 w5 S q H
    have H : (if (kg S.1 81 1 0) ≤ x4 then (some ((-12), S)) else (am_b2 (f9 F (kg S.1 83 4 x4) x3 S) fun v3 S4 => if v3 < 0 then (am_b2 (f15 F (kg S4.1 83 4 x4) S4) fun v6 S7 => g14_48 F n (x3 - v6) (x4 + 1) S7) else (am_b2 (f114 F (v3 / 128) (v3 - v3 / 128 * 128) S4) fun v8 S9 => some (v8, S9)))) = some q := H
    refine ex_iload rfl ?_
    refine ex_aload_n rfl ?_
    refine ex_getR (w := 80) rfl rfl rfl ?_
    refine ex_iconst (v := 0) (by decide) ?_
    refine ex_kget (c := 80) (ar := 81) (n := 1) rfl (Nat.le_of_ble_eq_true rfl) ?_
    by_cases h2 : (kg S.1 81 1 0) ≤ x4
    · rw [if_pos h2] at H
      refine ex_icmp_ge_j (ct := am_c14_124) h2 rfl ?_
      refine ex_bipush (v := (-12)) (by decide) ?_
      have H := Option.some.inj H
      subst H
      exact ex_iret (M := 14) (Or.inl rfl)
    · rw [if_neg h2] at H
      refine ex_icmp_ge_f h2 ?_
      refine ex_aload_n rfl ?_
      refine ex_aload_n rfl ?_
      refine ex_getR (w := 82) rfl rfl rfl ?_
      refine ex_iload rfl ?_
      refine ex_kget (c := 82) (ar := 83) (n := 4) rfl (Nat.le_of_ble_eq_true rfl) ?_
      refine ex_iload_n rfl ?_
      obtain ⟨v3, S4, hp, H⟩ := am_b2_el H
      refine ex_callV rfl rfl (Nat.le_of_ble_eq_true rfl) (Nat.le_of_ble_eq_true rfl) rfl (r9 (by omega) hp) rfl ?_
      refine ex_istore (L2 := [.ref 69, w1, w2, .int x3, .int x4, .int v3]) (Nat.le_of_ble_eq_true rfl) rfl ?_
      refine ex_iload rfl ?_
      by_cases h5 : v3 < 0
      · rw [if_pos h5] at H
        refine ex_if_lt_j (ct := am_c14_102) h5 rfl ?_
        refine ex_iload_n rfl ?_
        refine ex_aload_n rfl ?_
        refine ex_aload_n rfl ?_
        refine ex_getR (w := 82) rfl rfl rfl ?_
        refine ex_iload rfl ?_
        refine ex_kget (c := 82) (ar := 83) (n := 4) rfl (Nat.le_of_ble_eq_true rfl) ?_
        obtain ⟨v6, S7, hp, H⟩ := am_b2_el H
        refine ex_callV rfl rfl (Nat.le_of_ble_eq_true rfl) (Nat.le_of_ble_eq_true rfl) rfl (r15 (by omega) hp) rfl ?_
        refine ex_isub ?_
        refine ex_istore_n (L2 := [.ref 69, w1, w2, .int (x3 - v6), .int x4, .int v3]) (Nat.le_of_ble_eq_true rfl) rfl ?_
        refine ex_iinc (L2 := [.ref 69, w1, w2, .int (x3 - v6), .int (x4 + 1), .int v3]) (v := (x4 + 1)) rfl (Nat.le_of_ble_eq_true rfl) (congrArg (fun z => x4 + z) (by decide)) rfl ?_
        refine ex_goto (ct := am_c14_48) rfl ?_
        exact ih _ _ _ _ _ _ _ H
      · rw [if_neg h5] at H
        refine ex_if_lt_f h5 ?_
        refine ex_aload_n rfl ?_
        refine ex_getR (w := 46) rfl rfl rfl ?_
        refine ex_iload rfl ?_
        refine ex_sipush (v := 128) (by decide) ?_
        refine ex_idiv (by decide) ?_
        refine ex_iload rfl ?_
        refine ex_sipush (v := 128) (by decide) ?_
        refine ex_irem (by decide) ?_
        obtain ⟨v8, S9, hp, H⟩ := am_b2_el H
        refine ex_callV rfl rfl (Nat.le_of_ble_eq_true rfl) (Nat.le_of_ble_eq_true rfl) rfl (r114 (by omega) hp) rfl ?_
        have H := Option.some.inj H
        subst H
        exact ex_iret (M := 14) (Or.inl rfl)
set_option maxHeartbeats 1000000 in
set_option maxRecDepth 20000 in
theorem e14_2 {Lg : Nat} {xs : Nat → Int32} {d F : Nat} (hd : 16 ≤ d) : ∀ (n : Nat) (x1 : Int32) (x2 : Int32) (x3 : Int32) (w4 : Value) (w5 : Value) (S : AmT) (q : Int32 × AmT), g14_2 F n x1 x2 x3 S = some q → Ex (am_X Lg xs) d 14 am_c14_2 [.ref 69, .int x1, .int x2, .int x3, w4, w5] [] (hS S) (some q.1, hS q.2) := by
  obtain ⟨d, rfl⟩ : ∃ d2, d = d2 + 1 := ⟨d - 1, by omega⟩
  intro n
  induction n with
  | zero =>
    intro x1 x2 x3 w4 w5 S q H
    cases H
  | succ n ih =>
    intro x1 x2 x3 w4 w5 S q H
    have H : (if (kg S.1 81 1 0) ≤ x3 then (g14_48 F F x2 0 S) else (am_b2 (f8 F (kg S.1 83 4 x3) x1 S) fun v10 S11 => if 0 ≤ v10 then (g14_2 F n x1 x2 (x3 + 1) S11) else (some (v10, S11)))) = some q := H
    refine ex_iload_n rfl ?_
    refine ex_aload_n rfl ?_
    refine ex_getR (w := 80) rfl rfl rfl ?_
    refine ex_iconst (v := 0) (by decide) ?_
    refine ex_kget (c := 80) (ar := 81) (n := 1) rfl (Nat.le_of_ble_eq_true rfl) ?_
    by_cases h1 : (kg S.1 81 1 0) ≤ x3
    · rw [if_pos h1] at H
      refine ex_icmp_ge_j (ct := am_c14_43) h1 rfl ?_
      refine ex_iload_n rfl ?_
      refine ex_istore_n (L2 := [.ref 69, .int x1, .int x2, .int x2, w4, w5]) (Nat.le_of_ble_eq_true rfl) rfl ?_
      refine ex_iconst (v := 0) (by decide) ?_
      refine ex_istore (L2 := [.ref 69, .int x1, .int x2, .int x2, .int 0, w5]) (Nat.le_of_ble_eq_true rfl) rfl ?_
      exact e14_48 hd _ _ _ _ _ _ _ _ H
    · rw [if_neg h1] at H
      refine ex_icmp_ge_f h1 ?_
      refine ex_aload_n rfl ?_
      refine ex_aload_n rfl ?_
      refine ex_getR (w := 82) rfl rfl rfl ?_
      refine ex_iload_n rfl ?_
      refine ex_kget (c := 82) (ar := 83) (n := 4) rfl (Nat.le_of_ble_eq_true rfl) ?_
      refine ex_iload_n rfl ?_
      obtain ⟨v10, S11, hp, H⟩ := am_b2_el H
      refine ex_callV rfl rfl (Nat.le_of_ble_eq_true rfl) (Nat.le_of_ble_eq_true rfl) rfl (r8 (by omega) hp) rfl ?_
      refine ex_istore (L2 := [.ref 69, .int x1, .int x2, .int x3, .int v10, w5]) (Nat.le_of_ble_eq_true rfl) rfl ?_
      refine ex_iload rfl ?_
      by_cases h12 : 0 ≤ v10
      · rw [if_pos h12] at H
        refine ex_if_ge_j (ct := am_c14_37) h12 rfl ?_
        refine ex_iinc (L2 := [.ref 69, .int x1, .int x2, .int (x3 + 1), .int v10, w5]) (v := (x3 + 1)) rfl (Nat.le_of_ble_eq_true rfl) (congrArg (fun z => x3 + z) (by decide)) rfl ?_
        refine ex_goto (ct := am_c14_2) rfl ?_
        exact ih _ _ _ _ _ _ _ H
      · rw [if_neg h12] at H
        refine ex_if_ge_f h12 ?_
        refine ex_iload rfl ?_
        have H := Option.some.inj H
        subst H
        exact ex_iret (M := 14) (Or.inl rfl)
set_option maxHeartbeats 1000000 in
set_option maxRecDepth 20000 in
theorem r14 {Lg : Nat} {xs : Nat → Int32} {d F : Nat} {x1 : Int32} {x2 : Int32} {S : AmT} {q : Int32 × AmT} (hd : 16 ≤ d) (H : f14 F x1 x2 S = some q) : Ex (am_X Lg xs) d 14 (am_P 14) (am_ini (am_Mi 14).1 [.ref 69, .int x1, .int x2]) [] (hS S) (some q.1, hS q.2) := by
  obtain ⟨d, rfl⟩ : ∃ d2, d = d2 + 1 := ⟨d - 1, by omega⟩
  unfold f14 at H
  show Ex (am_X Lg xs) _ 14 am_c14_0 [.ref 69, .int x1, .int x2, .long 0, .long 0, .long 0] [] (hS S) (some q.1, hS q.2)
  refine ex_iconst (v := 0) (by decide) ?_
  refine ex_istore_n (L2 := [.ref 69, .int x1, .int x2, .int 0, .long 0, .long 0]) (Nat.le_of_ble_eq_true rfl) rfl ?_
  exact e14_2 hd _ _ _ _ _ _ _ _ H
def g87_47 (F : Nat) (x2 : Int32) (s0 : Int32) (S : AmT) : Option (Int32 × AmT) := if 0 ≤ s0 then ((f125 F x2 S).bind fun S9 => some (1, S9)) else (am_b2 (f129 F s0 S) fun v10 S11 => am_b2 (f130 F v10 S11) fun v12 S13 => (f126 F x2 v12 S13).bind fun S14 => some (0, S14))
-- X6_workAt
def f87 (F : Nat) (x1 : Int32) (S : AmT) : Option (Int32 × AmT) := am_b2 (f123 F x1 S) fun v1 S2 => if 0 ≤ v1 then ((f134 F S2).bind fun S4 => if (kg S4.1 88 5 x1) = 0 then (am_b2 (f89 F v1 x1 S4) fun v6 S7 => g87_47 F v1 v6 S7) else (am_b2 (f88 F x1 S4) fun v15 S16 => g87_47 F v1 v15 S16)) else (some (0, S2))
set_option maxHeartbeats 1000000 in
set_option maxRecDepth 20000 in
theorem e87_47 {Lg : Nat} {xs : Nat → Int32} {d F : Nat} {x2 : Int32} {s0 : Int32} {w1 : Value} {w3 : Value} {S : AmT} {q : Int32 × AmT} (hd : 16 ≤ d) (H : g87_47 F x2 s0 S = some q) : Ex (am_X Lg xs) d 87 am_c87_47 [.ref 86, w1, .int x2, w3] [.int s0] (hS S) (some q.1, hS q.2) := by
  obtain ⟨d, rfl⟩ : ∃ d2, d = d2 + 1 := ⟨d - 1, by omega⟩
  unfold g87_47 at H
  refine ex_istore_n (L2 := [.ref 86, w1, .int x2, .int s0]) (Nat.le_of_ble_eq_true rfl) rfl ?_
  refine ex_iload_n rfl ?_
  by_cases h8 : 0 ≤ s0
  · rw [if_pos h8] at H
    refine ex_if_ge_j (ct := am_c87_73) h8 rfl ?_
    refine ex_aload_n rfl ?_
    refine ex_getR (w := 46) rfl rfl rfl ?_
    refine ex_iload_n rfl ?_
    obtain ⟨S9, hp, H⟩ := Option.bind_eq_some_iff.mp H
    refine ex_callV rfl rfl (Nat.le_of_ble_eq_true rfl) (Nat.le_of_ble_eq_true rfl) rfl (r125 (by omega) hp) rfl ?_
    refine ex_iconst (v := 1) (by decide) ?_
    have H := Option.some.inj H
    subst H
    exact ex_iret (M := 87) (Or.inl rfl)
  · rw [if_neg h8] at H
    refine ex_if_ge_f h8 ?_
    refine ex_aload_n rfl ?_
    refine ex_getR (w := 46) rfl rfl rfl ?_
    refine ex_iload_n rfl ?_
    refine ex_aload_n rfl ?_
    refine ex_getR (w := 5) rfl rfl rfl ?_
    refine ex_iload_n rfl ?_
    obtain ⟨v10, S11, hp, H⟩ := am_b2_el H
    refine ex_callV rfl rfl (Nat.le_of_ble_eq_true rfl) (Nat.le_of_ble_eq_true rfl) rfl (r129 (by omega) hp) rfl ?_
    obtain ⟨v12, S13, hp, H⟩ := am_b2_el H
    refine ex_callS rfl rfl (Nat.le_of_ble_eq_true rfl) (Nat.le_of_ble_eq_true rfl) (r130 (by omega) hp) rfl ?_
    obtain ⟨S14, hp, H⟩ := Option.bind_eq_some_iff.mp H
    refine ex_callV rfl rfl (Nat.le_of_ble_eq_true rfl) (Nat.le_of_ble_eq_true rfl) rfl (r126 (by omega) hp) rfl ?_
    refine ex_iconst (v := 0) (by decide) ?_
    have H := Option.some.inj H
    subst H
    exact ex_iret (M := 87) (Or.inl rfl)
set_option maxHeartbeats 1000000 in
set_option maxRecDepth 20000 in
theorem r87 {Lg : Nat} {xs : Nat → Int32} {d F : Nat} {x1 : Int32} {S : AmT} {q : Int32 × AmT} (hd : 16 ≤ d) (H : f87 F x1 S = some q) : Ex (am_X Lg xs) d 87 (am_P 87) (am_ini (am_Mi 87).1 [.ref 86, .int x1]) [] (hS S) (some q.1, hS q.2) := by
  obtain ⟨d, rfl⟩ : ∃ d2, d = d2 + 1 := ⟨d - 1, by omega⟩
  unfold f87 at H
  show Ex (am_X Lg xs) _ 87 am_c87_0 [.ref 86, .int x1, .long 0, .long 0] [] (hS S) (some q.1, hS q.2)
  refine ex_aload_n rfl ?_
  refine ex_getR (w := 46) rfl rfl rfl ?_
  refine ex_iload_n rfl ?_
  obtain ⟨v1, S2, hp, H⟩ := am_b2_el H
  refine ex_callV rfl rfl (Nat.le_of_ble_eq_true rfl) (Nat.le_of_ble_eq_true rfl) rfl (r123 (by omega) hp) rfl ?_
  refine ex_istore_n (L2 := [.ref 86, .int x1, .int v1, .long 0]) (Nat.le_of_ble_eq_true rfl) rfl ?_
  refine ex_iload_n rfl ?_
  by_cases h3 : 0 ≤ v1
  · rw [if_pos h3] at H
    refine ex_if_ge_j (ct := am_c87_15) h3 rfl ?_
    refine ex_aload_n rfl ?_
    refine ex_getR (w := 5) rfl rfl rfl ?_
    obtain ⟨S4, hp, H⟩ := Option.bind_eq_some_iff.mp H
    refine ex_callV rfl rfl (Nat.le_of_ble_eq_true rfl) (Nat.le_of_ble_eq_true rfl) rfl (r134 (by omega) hp) rfl ?_
    refine ex_aload_n rfl ?_
    refine ex_getR (w := 87) rfl rfl rfl ?_
    refine ex_iload_n rfl ?_
    refine ex_kget (c := 87) (ar := 88) (n := 5) rfl (Nat.le_of_ble_eq_true rfl) ?_
    by_cases h5 : (kg S4.1 88 5 x1) = 0
    · rw [if_pos h5] at H
      refine ex_if_eq_j (ct := am_c87_41) h5 rfl ?_
      refine ex_aload_n rfl ?_
      refine ex_iload_n rfl ?_
      refine ex_iload_n rfl ?_
      obtain ⟨v6, S7, hp, H⟩ := am_b2_el H
      refine ex_callV rfl rfl (Nat.le_of_ble_eq_true rfl) (Nat.le_of_ble_eq_true rfl) rfl (r89 (by omega) hp) rfl ?_
      exact e87_47 hd H
    · rw [if_neg h5] at H
      refine ex_if_eq_f h5 ?_
      refine ex_aload_n rfl ?_
      refine ex_iload_n rfl ?_
      obtain ⟨v15, S16, hp, H⟩ := am_b2_el H
      refine ex_callV rfl rfl (Nat.le_of_ble_eq_true rfl) (Nat.le_of_ble_eq_true rfl) rfl (r88 (by omega) hp) rfl ?_
      refine ex_goto (ct := am_c87_47) rfl ?_
      exact e87_47 hd H
  · rw [if_neg h3] at H
    refine ex_if_ge_f h3 ?_
    refine ex_iconst (v := 0) (by decide) ?_
    have H := Option.some.inj H
    subst H
    exact ex_iret (M := 87) (Or.inl rfl)
def g159_62 (F : Nat) (S : AmT) : Option (Int32 × AmT) := am_b2 (f129 F (-12) S) fun v11 S12 => some (v11, S12)
-- X9_face
def f159 (F : Nat) (x1 : Int32) (x2 : Int32) (x3 : Int32) (x4 : Int32) (x5 : Int32) (S : AmT) : Option (Int32 × AmT) := am_b2 (f21 F x1 S) fun v1 S2 => if v1 = 0 then (some ((-2), S2)) else (am_b2 (f194 F x5 0 3 S2) fun v4 S5 => if v4 = 0 then (some ((-1), S5)) else (am_b2 (f161 F x1 x2 x3 S5) fun v7 S8 => if 0 ≤ v7 then (if x4 < 0 then (g159_62 F S8) else (if x4 < v7 then (am_b2 (f31 F 0 x4 x5 S8) fun v14 S15 => some (v14, S15)) else (g159_62 F S8))) else (am_b2 (f129 F v7 S8) fun v16 S17 => some (v16, S17))))
set_option maxHeartbeats 1000000 in
set_option maxRecDepth 20000 in
theorem e159_62 {Lg : Nat} {xs : Nat → Int32} {d F : Nat} {w1 : Value} {w2 : Value} {w3 : Value} {w4 : Value} {w5 : Value} {w6 : Value} {S : AmT} {q : Int32 × AmT} (hd : 16 ≤ d) (H : g159_62 F S = some q) : Ex (am_X Lg xs) d 159 am_c159_62 [.ref 0, w1, w2, w3, w4, w5, w6] [] (hS S) (some q.1, hS q.2) := by
  obtain ⟨d, rfl⟩ : ∃ d2, d = d2 + 1 := ⟨d - 1, by omega⟩
  unfold g159_62 at H
  refine ex_aload_n rfl ?_
  refine ex_getR (w := 5) rfl rfl rfl ?_
  refine ex_bipush (v := (-12)) (by decide) ?_
  obtain ⟨v11, S12, hp, H⟩ := am_b2_el H
  refine ex_callV rfl rfl (Nat.le_of_ble_eq_true rfl) (Nat.le_of_ble_eq_true rfl) rfl (r129 (by omega) hp) rfl ?_
  refine ex_goto (ct := am_c159_86) rfl ?_
  have H := Option.some.inj H
  subst H
  exact ex_iret (M := 159) (Or.inl rfl)
set_option maxHeartbeats 1000000 in
set_option maxRecDepth 20000 in
theorem r159 {Lg : Nat} {xs : Nat → Int32} {d F : Nat} {x1 : Int32} {x2 : Int32} {x3 : Int32} {x4 : Int32} {x5 : Int32} {S : AmT} {q : Int32 × AmT} (hd : 16 ≤ d) (H : f159 F x1 x2 x3 x4 x5 S = some q) : Ex (am_X Lg xs) d 159 (am_P 159) (am_ini (am_Mi 159).1 [.ref 0, .int x1, .int x2, .int x3, .int x4, .int x5]) [] (hS S) (some q.1, hS q.2) := by
  obtain ⟨d, rfl⟩ : ∃ d2, d = d2 + 1 := ⟨d - 1, by omega⟩
  unfold f159 at H
  show Ex (am_X Lg xs) _ 159 am_c159_0 [.ref 0, .int x1, .int x2, .int x3, .int x4, .int x5, .long 0] [] (hS S) (some q.1, hS q.2)
  refine ex_aload_n rfl ?_
  refine ex_getR (w := 22) rfl rfl rfl ?_
  refine ex_iload_n rfl ?_
  obtain ⟨v1, S2, hp, H⟩ := am_b2_el H
  refine ex_callV rfl rfl (Nat.le_of_ble_eq_true rfl) (Nat.le_of_ble_eq_true rfl) rfl (r21 (by omega) hp) rfl ?_
  by_cases h3 : v1 = 0
  · rw [if_pos h3] at H
    refine ex_if_ne_f h3 ?_
    refine ex_bipush (v := (-2)) (by decide) ?_
    have H := Option.some.inj H
    subst H
    exact ex_iret (M := 159) (Or.inl rfl)
  · rw [if_neg h3] at H
    refine ex_if_ne_j (ct := am_c159_14) h3 rfl ?_
    refine ex_iload rfl ?_
    refine ex_iconst (v := 0) (by decide) ?_
    refine ex_iconst (v := 3) (by decide) ?_
    obtain ⟨v4, S5, hp, H⟩ := am_b2_el H
    refine ex_callS rfl rfl (Nat.le_of_ble_eq_true rfl) (Nat.le_of_ble_eq_true rfl) (r194 (by omega) hp) rfl ?_
    by_cases h6 : v4 = 0
    · rw [if_pos h6] at H
      refine ex_if_ne_f h6 ?_
      refine ex_iconst (v := (-1)) (by decide) ?_
      have H := Option.some.inj H
      subst H
      exact ex_iret (M := 159) (Or.inl rfl)
    · rw [if_neg h6] at H
      refine ex_if_ne_j (ct := am_c159_26) h6 rfl ?_
      refine ex_aload_n rfl ?_
      refine ex_iload_n rfl ?_
      refine ex_iload_n rfl ?_
      refine ex_iload_n rfl ?_
      obtain ⟨v7, S8, hp, H⟩ := am_b2_el H
      refine ex_callV rfl rfl (Nat.le_of_ble_eq_true rfl) (Nat.le_of_ble_eq_true rfl) rfl (r161 (by omega) hp) rfl ?_
      refine ex_istore (L2 := [.ref 0, .int x1, .int x2, .int x3, .int x4, .int x5, .int v7]) (Nat.le_of_ble_eq_true rfl) rfl ?_
      refine ex_iload rfl ?_
      by_cases h9 : 0 ≤ v7
      · rw [if_pos h9] at H
        refine ex_if_ge_j (ct := am_c159_50) h9 rfl ?_
        refine ex_iload rfl ?_
        by_cases h10 : x4 < 0
        · rw [if_pos h10] at H
          refine ex_if_lt_j (ct := am_c159_62) h10 rfl ?_
          exact e159_62 hd H
        · rw [if_neg h10] at H
          refine ex_if_lt_f h10 ?_
          refine ex_iload rfl ?_
          refine ex_iload rfl ?_
          by_cases h13 : x4 < v7
          · rw [if_pos h13] at H
            refine ex_icmp_lt_j (ct := am_c159_74) h13 rfl ?_
            refine ex_aload_n rfl ?_
            refine ex_getR (w := 22) rfl rfl rfl ?_
            refine ex_iconst (v := 0) (by decide) ?_
            refine ex_iload rfl ?_
            refine ex_iload rfl ?_
            obtain ⟨v14, S15, hp, H⟩ := am_b2_el H
            refine ex_callV rfl rfl (Nat.le_of_ble_eq_true rfl) (Nat.le_of_ble_eq_true rfl) rfl (r31 (by omega) hp) rfl ?_
            have H := Option.some.inj H
            subst H
            exact ex_iret (M := 159) (Or.inl rfl)
          · rw [if_neg h13] at H
            refine ex_icmp_lt_f h13 ?_
            exact e159_62 hd H
      · rw [if_neg h9] at H
        refine ex_if_ge_f h9 ?_
        refine ex_aload_n rfl ?_
        refine ex_getR (w := 5) rfl rfl rfl ?_
        refine ex_iload rfl ?_
        obtain ⟨v16, S17, hp, H⟩ := am_b2_el H
        refine ex_callV rfl rfl (Nat.le_of_ble_eq_true rfl) (Nat.le_of_ble_eq_true rfl) rfl (r129 (by omega) hp) rfl ?_
        have H := Option.some.inj H
        subst H
        exact ex_iret (M := 159) (Or.inl rfl)
-- X9_faces
def f160 (F : Nat) (x1 : Int32) (x2 : Int32) (x3 : Int32) (S : AmT) : Option (Int32 × AmT) := am_b2 (f21 F x1 S) fun v1 S2 => if v1 = 0 then (some ((-2), S2)) else (am_b2 (f161 F x1 x2 x3 S2) fun v4 S5 => am_b2 (f129 F v4 S5) fun v6 S7 => some (v6, S7))
set_option maxHeartbeats 1000000 in
set_option maxRecDepth 20000 in
theorem r160 {Lg : Nat} {xs : Nat → Int32} {d F : Nat} {x1 : Int32} {x2 : Int32} {x3 : Int32} {S : AmT} {q : Int32 × AmT} (hd : 16 ≤ d) (H : f160 F x1 x2 x3 S = some q) : Ex (am_X Lg xs) d 160 (am_P 160) (am_ini (am_Mi 160).1 [.ref 0, .int x1, .int x2, .int x3]) [] (hS S) (some q.1, hS q.2) := by
  obtain ⟨d, rfl⟩ : ∃ d2, d = d2 + 1 := ⟨d - 1, by omega⟩
  unfold f160 at H
  show Ex (am_X Lg xs) _ 160 am_c160_0 [.ref 0, .int x1, .int x2, .int x3] [] (hS S) (some q.1, hS q.2)
  refine ex_aload_n rfl ?_
  refine ex_getR (w := 22) rfl rfl rfl ?_
  refine ex_iload_n rfl ?_
  obtain ⟨v1, S2, hp, H⟩ := am_b2_el H
  refine ex_callV rfl rfl (Nat.le_of_ble_eq_true rfl) (Nat.le_of_ble_eq_true rfl) rfl (r21 (by omega) hp) rfl ?_
  by_cases h3 : v1 = 0
  · rw [if_pos h3] at H
    refine ex_if_ne_f h3 ?_
    refine ex_bipush (v := (-2)) (by decide) ?_
    have H := Option.some.inj H
    subst H
    exact ex_iret (M := 160) (Or.inl rfl)
  · rw [if_neg h3] at H
    refine ex_if_ne_j (ct := am_c160_14) h3 rfl ?_
    refine ex_aload_n rfl ?_
    refine ex_getR (w := 5) rfl rfl rfl ?_
    refine ex_aload_n rfl ?_
    refine ex_iload_n rfl ?_
    refine ex_iload_n rfl ?_
    refine ex_iload_n rfl ?_
    obtain ⟨v4, S5, hp, H⟩ := am_b2_el H
    refine ex_callV rfl rfl (Nat.le_of_ble_eq_true rfl) (Nat.le_of_ble_eq_true rfl) rfl (r161 (by omega) hp) rfl ?_
    obtain ⟨v6, S7, hp, H⟩ := am_b2_el H
    refine ex_callV rfl rfl (Nat.le_of_ble_eq_true rfl) (Nat.le_of_ble_eq_true rfl) rfl (r129 (by omega) hp) rfl ?_
    have H := Option.some.inj H
    subst H
    exact ex_iret (M := 160) (Or.inl rfl)
-- X9_lay
def f168 (F : Nat) (x1 : Int32) (x2 : Int32) (x3 : Int32) (S : AmT) : Option (Int32 × AmT) := am_b2 (f81 F S) fun v1 S2 => if v1 = 0 then (am_b2 (f95 F x1 S2) fun v4 S5 => if v4 = 0 then (some ((-2), S5)) else (am_b2 (f21 F x2 S5) fun v7 S8 => if v7 = 0 then (some ((-2), S8)) else (am_b2 (f194 F x3 1 24 S8) fun v10 S11 => if v10 = 0 then (some ((-1), S11)) else ((f58 F S11).bind fun S13 => am_b2 (f110 F x1 x2 x3 S13) fun v14 S15 => am_b2 (f129 F v14 S15) fun v16 S17 => some (v16, S17))))) else (some ((-4), S2))
set_option maxHeartbeats 1000000 in
set_option maxRecDepth 20000 in
theorem r168 {Lg : Nat} {xs : Nat → Int32} {d F : Nat} {x1 : Int32} {x2 : Int32} {x3 : Int32} {S : AmT} {q : Int32 × AmT} (hd : 16 ≤ d) (H : f168 F x1 x2 x3 S = some q) : Ex (am_X Lg xs) d 168 (am_P 168) (am_ini (am_Mi 168).1 [.ref 0, .int x1, .int x2, .int x3]) [] (hS S) (some q.1, hS q.2) := by
  obtain ⟨d, rfl⟩ : ∃ d2, d = d2 + 1 := ⟨d - 1, by omega⟩
  unfold f168 at H
  show Ex (am_X Lg xs) _ 168 am_c168_0 [.ref 0, .int x1, .int x2, .int x3] [] (hS S) (some q.1, hS q.2)
  refine ex_aload_n rfl ?_
  refine ex_getR (w := 86) rfl rfl rfl ?_
  obtain ⟨v1, S2, hp, H⟩ := am_b2_el H
  refine ex_callV rfl rfl (Nat.le_of_ble_eq_true rfl) (Nat.le_of_ble_eq_true rfl) rfl (r81 (by omega) hp) rfl ?_
  by_cases h3 : v1 = 0
  · rw [if_pos h3] at H
    refine ex_if_eq_j (ct := am_c168_13) h3 rfl ?_
    refine ex_aload_n rfl ?_
    refine ex_getR (w := 46) rfl rfl rfl ?_
    refine ex_iload_n rfl ?_
    obtain ⟨v4, S5, hp, H⟩ := am_b2_el H
    refine ex_callV rfl rfl (Nat.le_of_ble_eq_true rfl) (Nat.le_of_ble_eq_true rfl) rfl (r95 (by omega) hp) rfl ?_
    by_cases h6 : v4 = 0
    · rw [if_pos h6] at H
      refine ex_if_eq_j (ct := am_c168_35) h6 rfl ?_
      refine ex_bipush (v := (-2)) (by decide) ?_
      have H := Option.some.inj H
      subst H
      exact ex_iret (M := 168) (Or.inl rfl)
    · rw [if_neg h6] at H
      refine ex_if_eq_f h6 ?_
      refine ex_aload_n rfl ?_
      refine ex_getR (w := 22) rfl rfl rfl ?_
      refine ex_iload_n rfl ?_
      obtain ⟨v7, S8, hp, H⟩ := am_b2_el H
      refine ex_callV rfl rfl (Nat.le_of_ble_eq_true rfl) (Nat.le_of_ble_eq_true rfl) rfl (r21 (by omega) hp) rfl ?_
      by_cases h9 : v7 = 0
      · rw [if_pos h9] at H
        refine ex_if_ne_f h9 ?_
        refine ex_bipush (v := (-2)) (by decide) ?_
        have H := Option.some.inj H
        subst H
        exact ex_iret (M := 168) (Or.inl rfl)
      · rw [if_neg h9] at H
        refine ex_if_ne_j (ct := am_c168_38) h9 rfl ?_
        refine ex_iload_n rfl ?_
        refine ex_iconst (v := 1) (by decide) ?_
        refine ex_bipush (v := 24) (by decide) ?_
        obtain ⟨v10, S11, hp, H⟩ := am_b2_el H
        refine ex_callS rfl rfl (Nat.le_of_ble_eq_true rfl) (Nat.le_of_ble_eq_true rfl) (r194 (by omega) hp) rfl ?_
        by_cases h12 : v10 = 0
        · rw [if_pos h12] at H
          refine ex_if_ne_f h12 ?_
          refine ex_iconst (v := (-1)) (by decide) ?_
          have H := Option.some.inj H
          subst H
          exact ex_iret (M := 168) (Or.inl rfl)
        · rw [if_neg h12] at H
          refine ex_if_ne_j (ct := am_c168_50) h12 rfl ?_
          refine ex_aload_n rfl ?_
          refine ex_getR (w := 1) rfl rfl rfl ?_
          obtain ⟨S13, hp, H⟩ := Option.bind_eq_some_iff.mp H
          refine ex_callV rfl rfl (Nat.le_of_ble_eq_true rfl) (Nat.le_of_ble_eq_true rfl) rfl (r58 (by omega) hp) rfl ?_
          refine ex_aload_n rfl ?_
          refine ex_getR (w := 5) rfl rfl rfl ?_
          refine ex_aload_n rfl ?_
          refine ex_getR (w := 46) rfl rfl rfl ?_
          refine ex_iload_n rfl ?_
          refine ex_iload_n rfl ?_
          refine ex_iload_n rfl ?_
          obtain ⟨v14, S15, hp, H⟩ := am_b2_el H
          refine ex_callV rfl rfl (Nat.le_of_ble_eq_true rfl) (Nat.le_of_ble_eq_true rfl) rfl (r110 (by omega) hp) rfl ?_
          obtain ⟨v16, S17, hp, H⟩ := am_b2_el H
          refine ex_callV rfl rfl (Nat.le_of_ble_eq_true rfl) (Nat.le_of_ble_eq_true rfl) rfl (r129 (by omega) hp) rfl ?_
          have H := Option.some.inj H
          subst H
          exact ex_iret (M := 168) (Or.inl rfl)
  · rw [if_neg h3] at H
    refine ex_if_eq_f h3 ?_
    refine ex_bipush (v := (-4)) (by decide) ?_
    have H := Option.some.inj H
    subst H
    exact ex_iret (M := 168) (Or.inl rfl)
-- X9_read
def f169 (F : Nat) (x1 : Int32) (x2 : Int32) (x3 : Int32) (S : AmT) : Option (Int32 × AmT) := am_b2 (f95 F x1 S) fun v1 S2 => if v1 = 0 then (some ((-2), S2)) else (am_b2 (f21 F x2 S2) fun v4 S5 => if v4 = 0 then (some ((-2), S5)) else (am_b2 (f113 F x1 x2 x3 S5) fun v7 S8 => am_b2 (f129 F v7 S8) fun v9 S10 => some (v9, S10)))
set_option maxHeartbeats 1000000 in
set_option maxRecDepth 20000 in
theorem r169 {Lg : Nat} {xs : Nat → Int32} {d F : Nat} {x1 : Int32} {x2 : Int32} {x3 : Int32} {S : AmT} {q : Int32 × AmT} (hd : 16 ≤ d) (H : f169 F x1 x2 x3 S = some q) : Ex (am_X Lg xs) d 169 (am_P 169) (am_ini (am_Mi 169).1 [.ref 0, .int x1, .int x2, .int x3]) [] (hS S) (some q.1, hS q.2) := by
  obtain ⟨d, rfl⟩ : ∃ d2, d = d2 + 1 := ⟨d - 1, by omega⟩
  unfold f169 at H
  show Ex (am_X Lg xs) _ 169 am_c169_0 [.ref 0, .int x1, .int x2, .int x3] [] (hS S) (some q.1, hS q.2)
  refine ex_aload_n rfl ?_
  refine ex_getR (w := 46) rfl rfl rfl ?_
  refine ex_iload_n rfl ?_
  obtain ⟨v1, S2, hp, H⟩ := am_b2_el H
  refine ex_callV rfl rfl (Nat.le_of_ble_eq_true rfl) (Nat.le_of_ble_eq_true rfl) rfl (r95 (by omega) hp) rfl ?_
  by_cases h3 : v1 = 0
  · rw [if_pos h3] at H
    refine ex_if_eq_j (ct := am_c169_22) h3 rfl ?_
    refine ex_bipush (v := (-2)) (by decide) ?_
    have H := Option.some.inj H
    subst H
    exact ex_iret (M := 169) (Or.inl rfl)
  · rw [if_neg h3] at H
    refine ex_if_eq_f h3 ?_
    refine ex_aload_n rfl ?_
    refine ex_getR (w := 22) rfl rfl rfl ?_
    refine ex_iload_n rfl ?_
    obtain ⟨v4, S5, hp, H⟩ := am_b2_el H
    refine ex_callV rfl rfl (Nat.le_of_ble_eq_true rfl) (Nat.le_of_ble_eq_true rfl) rfl (r21 (by omega) hp) rfl ?_
    by_cases h6 : v4 = 0
    · rw [if_pos h6] at H
      refine ex_if_ne_f h6 ?_
      refine ex_bipush (v := (-2)) (by decide) ?_
      have H := Option.some.inj H
      subst H
      exact ex_iret (M := 169) (Or.inl rfl)
    · rw [if_neg h6] at H
      refine ex_if_ne_j (ct := am_c169_25) h6 rfl ?_
      refine ex_aload_n rfl ?_
      refine ex_getR (w := 5) rfl rfl rfl ?_
      refine ex_aload_n rfl ?_
      refine ex_getR (w := 46) rfl rfl rfl ?_
      refine ex_iload_n rfl ?_
      refine ex_iload_n rfl ?_
      refine ex_iload_n rfl ?_
      obtain ⟨v7, S8, hp, H⟩ := am_b2_el H
      refine ex_callV rfl rfl (Nat.le_of_ble_eq_true rfl) (Nat.le_of_ble_eq_true rfl) rfl (r113 (by omega) hp) rfl ?_
      obtain ⟨v9, S10, hp, H⟩ := am_b2_el H
      refine ex_callV rfl rfl (Nat.le_of_ble_eq_true rfl) (Nat.le_of_ble_eq_true rfl) rfl (r129 (by omega) hp) rfl ?_
      have H := Option.some.inj H
      subst H
      exact ex_iret (M := 169) (Or.inl rfl)
def g174_67 (F : Nat) (x4 : Int32) (s0 : Int32) (S : AmT) : Option (Int32 × AmT) := if 0 ≤ s0 then (if x4 = 0 then (some ((s0 / 128), S)) else (some ((s0 - s0 / 128 * 128), S))) else (am_b2 (f129 F s0 S) fun v17 S18 => some (v17, S18))
-- X9_leaf
def f174 (F : Nat) (x1 : Int32) (x2 : Int32) (x3 : Int32) (x4 : Int32) (S : AmT) : Option (Int32 × AmT) := am_b2 (f2 F x1 S) fun v1 S2 => if v1 = 0 then (some ((-2), S2)) else (am_b2 (f21 F x2 S2) fun v4 S5 => if v4 = 0 then (some ((-2), S5)) else (am_b2 (f194 F x4 0 1 S5) fun v7 S8 => if v7 = 0 then (some ((-1), S8)) else (am_b2 (f8 F x1 x2 S8) fun v10 S11 => if 0 ≤ v10 then (am_b2 (f9 F x1 x3 S11) fun v13 S14 => g174_67 F x4 v13 S14) else (g174_67 F x4 v10 S11))))
set_option maxHeartbeats 1000000 in
set_option maxRecDepth 20000 in
theorem e174_67 {Lg : Nat} {xs : Nat → Int32} {d F : Nat} {x4 : Int32} {s0 : Int32} {w1 : Value} {w2 : Value} {w3 : Value} {w5 : Value} {w6 : Value} {S : AmT} {q : Int32 × AmT} (hd : 16 ≤ d) (H : g174_67 F x4 s0 S = some q) : Ex (am_X Lg xs) d 174 am_c174_67 [.ref 0, w1, w2, w3, .int x4, w5, w6] [.int s0] (hS S) (some q.1, hS q.2) := by
  obtain ⟨d, rfl⟩ : ∃ d2, d = d2 + 1 := ⟨d - 1, by omega⟩
  unfold g174_67 at H
  refine ex_istore (L2 := [.ref 0, w1, w2, w3, .int x4, w5, .int s0]) (Nat.le_of_ble_eq_true rfl) rfl ?_
  refine ex_iload rfl ?_
  by_cases h15 : 0 ≤ s0
  · rw [if_pos h15] at H
    refine ex_if_ge_j (ct := am_c174_84) h15 rfl ?_
    refine ex_iload rfl ?_
    by_cases h16 : x4 = 0
    · rw [if_pos h16] at H
      refine ex_if_ne_f h16 ?_
      refine ex_iload rfl ?_
      refine ex_sipush (v := 128) (by decide) ?_
      refine ex_idiv (by decide) ?_
      refine ex_goto (ct := am_c174_104) rfl ?_
      have H := Option.some.inj H
      subst H
      exact ex_iret (M := 174) (Or.inl rfl)
    · rw [if_neg h16] at H
      refine ex_if_ne_j (ct := am_c174_98) h16 rfl ?_
      refine ex_iload rfl ?_
      refine ex_sipush (v := 128) (by decide) ?_
      refine ex_irem (by decide) ?_
      have H := Option.some.inj H
      subst H
      exact ex_iret (M := 174) (Or.inl rfl)
  · rw [if_neg h15] at H
    refine ex_if_ge_f h15 ?_
    refine ex_aload_n rfl ?_
    refine ex_getR (w := 5) rfl rfl rfl ?_
    refine ex_iload rfl ?_
    obtain ⟨v17, S18, hp, H⟩ := am_b2_el H
    refine ex_callV rfl rfl (Nat.le_of_ble_eq_true rfl) (Nat.le_of_ble_eq_true rfl) rfl (r129 (by omega) hp) rfl ?_
    have H := Option.some.inj H
    subst H
    exact ex_iret (M := 174) (Or.inl rfl)
set_option maxHeartbeats 1000000 in
set_option maxRecDepth 20000 in
theorem r174 {Lg : Nat} {xs : Nat → Int32} {d F : Nat} {x1 : Int32} {x2 : Int32} {x3 : Int32} {x4 : Int32} {S : AmT} {q : Int32 × AmT} (hd : 16 ≤ d) (H : f174 F x1 x2 x3 x4 S = some q) : Ex (am_X Lg xs) d 174 (am_P 174) (am_ini (am_Mi 174).1 [.ref 0, .int x1, .int x2, .int x3, .int x4]) [] (hS S) (some q.1, hS q.2) := by
  obtain ⟨d, rfl⟩ : ∃ d2, d = d2 + 1 := ⟨d - 1, by omega⟩
  unfold f174 at H
  show Ex (am_X Lg xs) _ 174 am_c174_0 [.ref 0, .int x1, .int x2, .int x3, .int x4, .long 0, .long 0] [] (hS S) (some q.1, hS q.2)
  refine ex_aload_n rfl ?_
  refine ex_getR (w := 69) rfl rfl rfl ?_
  refine ex_iload_n rfl ?_
  obtain ⟨v1, S2, hp, H⟩ := am_b2_el H
  refine ex_callV rfl rfl (Nat.le_of_ble_eq_true rfl) (Nat.le_of_ble_eq_true rfl) rfl (r2 (by omega) hp) rfl ?_
  by_cases h3 : v1 = 0
  · rw [if_pos h3] at H
    refine ex_if_eq_j (ct := am_c174_22) h3 rfl ?_
    refine ex_bipush (v := (-2)) (by decide) ?_
    have H := Option.some.inj H
    subst H
    exact ex_iret (M := 174) (Or.inl rfl)
  · rw [if_neg h3] at H
    refine ex_if_eq_f h3 ?_
    refine ex_aload_n rfl ?_
    refine ex_getR (w := 22) rfl rfl rfl ?_
    refine ex_iload_n rfl ?_
    obtain ⟨v4, S5, hp, H⟩ := am_b2_el H
    refine ex_callV rfl rfl (Nat.le_of_ble_eq_true rfl) (Nat.le_of_ble_eq_true rfl) rfl (r21 (by omega) hp) rfl ?_
    by_cases h6 : v4 = 0
    · rw [if_pos h6] at H
      refine ex_if_ne_f h6 ?_
      refine ex_bipush (v := (-2)) (by decide) ?_
      have H := Option.some.inj H
      subst H
      exact ex_iret (M := 174) (Or.inl rfl)
    · rw [if_neg h6] at H
      refine ex_if_ne_j (ct := am_c174_25) h6 rfl ?_
      refine ex_iload rfl ?_
      refine ex_iconst (v := 0) (by decide) ?_
      refine ex_iconst (v := 1) (by decide) ?_
      obtain ⟨v7, S8, hp, H⟩ := am_b2_el H
      refine ex_callS rfl rfl (Nat.le_of_ble_eq_true rfl) (Nat.le_of_ble_eq_true rfl) (r194 (by omega) hp) rfl ?_
      by_cases h9 : v7 = 0
      · rw [if_pos h9] at H
        refine ex_if_ne_f h9 ?_
        refine ex_iconst (v := (-1)) (by decide) ?_
        have H := Option.some.inj H
        subst H
        exact ex_iret (M := 174) (Or.inl rfl)
      · rw [if_neg h9] at H
        refine ex_if_ne_j (ct := am_c174_37) h9 rfl ?_
        refine ex_aload_n rfl ?_
        refine ex_getR (w := 69) rfl rfl rfl ?_
        refine ex_iload_n rfl ?_
        refine ex_iload_n rfl ?_
        obtain ⟨v10, S11, hp, H⟩ := am_b2_el H
        refine ex_callV rfl rfl (Nat.le_of_ble_eq_true rfl) (Nat.le_of_ble_eq_true rfl) rfl (r8 (by omega) hp) rfl ?_
        refine ex_istore (L2 := [.ref 0, .int x1, .int x2, .int x3, .int x4, .int v10, .long 0]) (Nat.le_of_ble_eq_true rfl) rfl ?_
        refine ex_iload rfl ?_
        by_cases h12 : 0 ≤ v10
        · rw [if_pos h12] at H
          refine ex_if_ge_j (ct := am_c174_58) h12 rfl ?_
          refine ex_aload_n rfl ?_
          refine ex_getR (w := 69) rfl rfl rfl ?_
          refine ex_iload_n rfl ?_
          refine ex_iload_n rfl ?_
          obtain ⟨v13, S14, hp, H⟩ := am_b2_el H
          refine ex_callV rfl rfl (Nat.le_of_ble_eq_true rfl) (Nat.le_of_ble_eq_true rfl) rfl (r9 (by omega) hp) rfl ?_
          exact e174_67 hd H
        · rw [if_neg h12] at H
          refine ex_if_ge_f h12 ?_
          refine ex_iload rfl ?_
          refine ex_goto (ct := am_c174_67) rfl ?_
          exact e174_67 hd H
