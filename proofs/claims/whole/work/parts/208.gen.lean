/-! printed by wip/gen/gen20.py -/
def g74_24 (F : Nat) : Nat → Int32 → Int32 → Int32 → AmT → Option (Int32 × AmT)
  | 0, _, _, _, _ => none
  | n + 1, x1, x2, x3, S => if x2 ≤ x3 then (am_b2 (f76 F x1 x2 (2 * x2) S) fun v6 S7 => some (v6, S7)) else ((f77 F x1 ((x2 - 1) - x3) (x2 + x3) S).bind fun S8 => (f77 F x1 ((3 * x2) + x3) (((3 * x2) - 1) - x3) S8).bind fun S9 => g74_24 F n x1 x2 (x3 + 1) S9)
-- X5_foldGate
def f74 (F : Nat) (x1 : Int32) (S : AmT) : Option (Int32 × AmT) := (f131 F 4 S).bind fun S1 => am_b2 (f75 F x1 4 S1) fun v2 S3 => if 0 ≤ v2 then (g74_24 F F x1 v2 0 S3) else (some ((-17), S3))
set_option maxHeartbeats 1000000 in
set_option maxRecDepth 20000 in
theorem e74_24 {Lg : Nat} {xs : Nat → Int32} {d F : Nat} (hd : 2 ≤ d) : ∀ (n : Nat) (x1 : Int32) (x2 : Int32) (x3 : Int32) (S : AmT) (q : Int32 × AmT), g74_24 F n x1 x2 x3 S = some q → Ex (am_X Lg xs) d 74 am_c74_24 [.ref 24, .int x1, .int x2, .int x3] [] (hS S) (some q.1, hS q.2) := by
  obtain ⟨d, rfl⟩ : ∃ d2, d = d2 + 1 := ⟨d - 1, by omega⟩
  intro n
  induction n with
  | zero =>
    intro x1 x2 x3 S q H
    cases H
  | succ n ih =>
    intro x1 x2 x3 S q H
    have H : (if x2 ≤ x3 then (am_b2 (f76 F x1 x2 (2 * x2) S) fun v6 S7 => some (v6, S7)) else ((f77 F x1 ((x2 - 1) - x3) (x2 + x3) S).bind fun S8 => (f77 F x1 ((3 * x2) + x3) (((3 * x2) - 1) - x3) S8).bind fun S9 => g74_24 F n x1 x2 (x3 + 1) S9)) = some q := H
    refine ex_iload_n rfl ?_
    refine ex_iload_n rfl ?_
    by_cases h5 : x2 ≤ x3
    · rw [if_pos h5] at H
      refine ex_icmp_ge_j (ct := am_c74_65) h5 rfl ?_
      refine ex_aload_n rfl ?_
      refine ex_iload_n rfl ?_
      refine ex_iload_n rfl ?_
      refine ex_iconst (v := 2) (by decide) ?_
      refine ex_iload_n rfl ?_
      refine ex_imul ?_
      obtain ⟨v6, S7, hp, H⟩ := am_b2_el H
      refine ex_callV rfl rfl (Nat.le_of_ble_eq_true rfl) (Nat.le_of_ble_eq_true rfl) rfl (r76 (by omega) hp) rfl ?_
      have H := Option.some.inj H
      subst H
      exact ex_iret (M := 74) (Or.inl rfl)
    · rw [if_neg h5] at H
      refine ex_icmp_ge_f h5 ?_
      refine ex_aload_n rfl ?_
      refine ex_iload_n rfl ?_
      refine ex_iload_n rfl ?_
      refine ex_iconst (v := 1) (by decide) ?_
      refine ex_isub ?_
      refine ex_iload_n rfl ?_
      refine ex_isub ?_
      refine ex_iload_n rfl ?_
      refine ex_iload_n rfl ?_
      refine ex_iadd ?_
      obtain ⟨S8, hp, H⟩ := Option.bind_eq_some_iff.mp H
      refine ex_callV rfl rfl (Nat.le_of_ble_eq_true rfl) (Nat.le_of_ble_eq_true rfl) rfl (r77 (by omega) hp) rfl ?_
      refine ex_aload_n rfl ?_
      refine ex_iload_n rfl ?_
      refine ex_iconst (v := 3) (by decide) ?_
      refine ex_iload_n rfl ?_
      refine ex_imul ?_
      refine ex_iload_n rfl ?_
      refine ex_iadd ?_
      refine ex_iconst (v := 3) (by decide) ?_
      refine ex_iload_n rfl ?_
      refine ex_imul ?_
      refine ex_iconst (v := 1) (by decide) ?_
      refine ex_isub ?_
      refine ex_iload_n rfl ?_
      refine ex_isub ?_
      obtain ⟨S9, hp, H⟩ := Option.bind_eq_some_iff.mp H
      refine ex_callV rfl rfl (Nat.le_of_ble_eq_true rfl) (Nat.le_of_ble_eq_true rfl) rfl (r77 (by omega) hp) rfl ?_
      refine ex_iinc (L2 := [.ref 24, .int x1, .int x2, .int (x3 + 1)]) (v := (x3 + 1)) rfl (Nat.le_of_ble_eq_true rfl) (congrArg (fun z => x3 + z) (by decide)) rfl ?_
      refine ex_goto (ct := am_c74_24) rfl ?_
      exact ih _ _ _ _ _ H
set_option maxHeartbeats 1000000 in
set_option maxRecDepth 20000 in
theorem r74 {Lg : Nat} {xs : Nat → Int32} {d F : Nat} {x1 : Int32} {S : AmT} {q : Int32 × AmT} (hd : 2 ≤ d) (H : f74 F x1 S = some q) : Ex (am_X Lg xs) d 74 (am_P 74) (am_ini (am_Mi 74).1 [.ref 24, .int x1]) [] (hS S) (some q.1, hS q.2) := by
  obtain ⟨d, rfl⟩ : ∃ d2, d = d2 + 1 := ⟨d - 1, by omega⟩
  unfold f74 at H
  show Ex (am_X Lg xs) _ 74 am_c74_0 [.ref 24, .int x1, .long 0, .long 0] [] (hS S) (some q.1, hS q.2)
  refine ex_aload_n rfl ?_
  refine ex_getR (w := 5) rfl rfl rfl ?_
  refine ex_iconst (v := 4) (by decide) ?_
  obtain ⟨S1, hp, H⟩ := Option.bind_eq_some_iff.mp H
  refine ex_callV rfl rfl (Nat.le_of_ble_eq_true rfl) (Nat.le_of_ble_eq_true rfl) rfl (r131 (by omega) hp) rfl ?_
  refine ex_aload_n rfl ?_
  refine ex_iload_n rfl ?_
  refine ex_iconst (v := 4) (by decide) ?_
  obtain ⟨v2, S3, hp, H⟩ := am_b2_el H
  refine ex_callV rfl rfl (Nat.le_of_ble_eq_true rfl) (Nat.le_of_ble_eq_true rfl) rfl (r75 (by omega) hp) rfl ?_
  refine ex_istore_n (L2 := [.ref 24, .int x1, .int v2, .long 0]) (Nat.le_of_ble_eq_true rfl) rfl ?_
  refine ex_iload_n rfl ?_
  by_cases h4 : 0 ≤ v2
  · rw [if_pos h4] at H
    refine ex_if_ge_j (ct := am_c74_22) h4 rfl ?_
    refine ex_iconst (v := 0) (by decide) ?_
    refine ex_istore_n (L2 := [.ref 24, .int x1, .int v2, .int 0]) (Nat.le_of_ble_eq_true rfl) rfl ?_
    exact e74_24 hd _ _ _ _ _ _ H
  · rw [if_neg h4] at H
    refine ex_if_ge_f h4 ?_
    refine ex_bipush (v := (-17)) (by decide) ?_
    have H := Option.some.inj H
    subst H
    exact ex_iret (M := 74) (Or.inl rfl)
-- X6_endJam
def f82 (F : Nat) (S : AmT) : Option (Int32 × AmT) := am_nn S (am_lt (ks S 91 92 1 0 0) fun S1 => some ((kg S.1 92 1 0), S1))
set_option maxHeartbeats 1000000 in
set_option maxRecDepth 20000 in
theorem r82 {Lg : Nat} {xs : Nat → Int32} {d F : Nat} {S : AmT} {q : Int32 × AmT} (hd : 2 ≤ d) (H : f82 F S = some q) : Ex (am_X Lg xs) d 82 (am_P 82) (am_ini (am_Mi 82).1 [.ref 86]) [] (hS S) (some q.1, hS q.2) := by
  obtain ⟨d, rfl⟩ : ∃ d2, d = d2 + 1 := ⟨d - 1, by omega⟩
  unfold f82 at H
  show Ex (am_X Lg xs) _ 82 am_c82_0 [.ref 86, .long 0] [] (hS S) (some q.1, hS q.2)
  refine ex_aload_n rfl ?_
  refine ex_getR (w := 91) rfl rfl rfl ?_
  refine ex_iconst (v := 0) (by decide) ?_
  refine ex_kget (c := 91) (ar := 92) (n := 1) rfl (Nat.le_of_ble_eq_true rfl) ?_
  refine ex_istore_n (L2 := [.ref 86, .int (kg S.1 92 1 0)]) (Nat.le_of_ble_eq_true rfl) rfl ?_
  refine ex_aload_n rfl ?_
  refine ex_getR (w := 91) rfl rfl rfl ?_
  refine ex_iconst (v := 0) (by decide) ?_
  refine ex_iconst (v := 0) (by decide) ?_
  obtain ⟨hnn, H⟩ := am_nn_el H
  refine ex_kset (c := 91) (ar := 92) (n := 1) rfl hnn (by omega) (Nat.le_of_ble_eq_true rfl) ?_
  generalize (ks S 91 92 1 0 0) = S1 at H ⊢
  have H := am_lt_el H
  refine ex_iload_n rfl ?_
  have H := Option.some.inj H
  subst H
  exact ex_iret (M := 82) (Or.inl rfl)
-- X6_changeMargin
def f84 (F : Nat) (x1 : Int32) (S : AmT) : Option (Int32 × AmT) := am_nn S (am_lt (ks S 93 94 1 0 x1) fun S1 => some ((kg S.1 94 1 0), S1))
set_option maxHeartbeats 1000000 in
set_option maxRecDepth 20000 in
theorem r84 {Lg : Nat} {xs : Nat → Int32} {d F : Nat} {x1 : Int32} {S : AmT} {q : Int32 × AmT} (hd : 2 ≤ d) (H : f84 F x1 S = some q) : Ex (am_X Lg xs) d 84 (am_P 84) (am_ini (am_Mi 84).1 [.ref 86, .int x1]) [] (hS S) (some q.1, hS q.2) := by
  obtain ⟨d, rfl⟩ : ∃ d2, d = d2 + 1 := ⟨d - 1, by omega⟩
  unfold f84 at H
  show Ex (am_X Lg xs) _ 84 am_c84_0 [.ref 86, .int x1, .long 0] [] (hS S) (some q.1, hS q.2)
  refine ex_aload_n rfl ?_
  refine ex_getR (w := 93) rfl rfl rfl ?_
  refine ex_iconst (v := 0) (by decide) ?_
  refine ex_kget (c := 93) (ar := 94) (n := 1) rfl (Nat.le_of_ble_eq_true rfl) ?_
  refine ex_istore_n (L2 := [.ref 86, .int x1, .int (kg S.1 94 1 0)]) (Nat.le_of_ble_eq_true rfl) rfl ?_
  refine ex_aload_n rfl ?_
  refine ex_getR (w := 93) rfl rfl rfl ?_
  refine ex_iconst (v := 0) (by decide) ?_
  refine ex_iload_n rfl ?_
  obtain ⟨hnn, H⟩ := am_nn_el H
  refine ex_kset (c := 93) (ar := 94) (n := 1) rfl hnn (by omega) (Nat.le_of_ble_eq_true rfl) ?_
  generalize (ks S 93 94 1 0 x1) = S1 at H ⊢
  have H := am_lt_el H
  refine ex_iload_n rfl ?_
  have H := Option.some.inj H
  subst H
  exact ex_iret (M := 84) (Or.inl rfl)
-- X6_tellDouble
def f85 (F : Nat) (S : AmT) : Option (Int32 × AmT) := am_nn S (am_lt (ks S 89 90 1 0 1) fun S1 => some (1, S1))
set_option maxHeartbeats 1000000 in
set_option maxRecDepth 20000 in
theorem r85 {Lg : Nat} {xs : Nat → Int32} {d F : Nat} {S : AmT} {q : Int32 × AmT} (hd : 2 ≤ d) (H : f85 F S = some q) : Ex (am_X Lg xs) d 85 (am_P 85) (am_ini (am_Mi 85).1 [.ref 86]) [] (hS S) (some q.1, hS q.2) := by
  obtain ⟨d, rfl⟩ : ∃ d2, d = d2 + 1 := ⟨d - 1, by omega⟩
  unfold f85 at H
  show Ex (am_X Lg xs) _ 85 am_c85_0 [.ref 86] [] (hS S) (some q.1, hS q.2)
  refine ex_aload_n rfl ?_
  refine ex_getR (w := 89) rfl rfl rfl ?_
  refine ex_iconst (v := 0) (by decide) ?_
  refine ex_iconst (v := 1) (by decide) ?_
  obtain ⟨hnn, H⟩ := am_nn_el H
  refine ex_kset (c := 89) (ar := 90) (n := 1) rfl hnn (by omega) (Nat.le_of_ble_eq_true rfl) ?_
  generalize (ks S 89 90 1 0 1) = S1 at H ⊢
  have H := am_lt_el H
  refine ex_iconst (v := 1) (by decide) ?_
  have H := Option.some.inj H
  subst H
  exact ex_iret (M := 85) (Or.inl rfl)
-- X6_tellJam
def f86 (F : Nat) (x1 : Int32) (S : AmT) : Option (Int32 × AmT) := am_nn S (am_lt (ks S 87 88 5 x1 1) fun S1 => some (1, S1))
set_option maxHeartbeats 1000000 in
set_option maxRecDepth 20000 in
theorem r86 {Lg : Nat} {xs : Nat → Int32} {d F : Nat} {x1 : Int32} {S : AmT} {q : Int32 × AmT} (hd : 2 ≤ d) (H : f86 F x1 S = some q) : Ex (am_X Lg xs) d 86 (am_P 86) (am_ini (am_Mi 86).1 [.ref 86, .int x1]) [] (hS S) (some q.1, hS q.2) := by
  obtain ⟨d, rfl⟩ : ∃ d2, d = d2 + 1 := ⟨d - 1, by omega⟩
  unfold f86 at H
  show Ex (am_X Lg xs) _ 86 am_c86_0 [.ref 86, .int x1] [] (hS S) (some q.1, hS q.2)
  refine ex_aload_n rfl ?_
  refine ex_getR (w := 87) rfl rfl rfl ?_
  refine ex_iload_n rfl ?_
  refine ex_iconst (v := 1) (by decide) ?_
  obtain ⟨hnn, H⟩ := am_nn_el H
  refine ex_kset (c := 87) (ar := 88) (n := 5) rfl hnn (by omega) (Nat.le_of_ble_eq_true rfl) ?_
  generalize (ks S 87 88 5 x1 1) = S1 at H ⊢
  have H := am_lt_el H
  refine ex_iconst (v := 1) (by decide) ?_
  have H := Option.some.inj H
  subst H
  exact ex_iret (M := 86) (Or.inl rfl)
-- X6_block
def f88 (F : Nat) (x1 : Int32) (S : AmT) : Option (Int32 × AmT) := am_nn S (am_lt (ks S 87 88 5 x1 0) fun S1 => am_nn S1 (am_lt (ks S1 91 92 1 0 1) fun S2 => some ((-20), S2)))
set_option maxHeartbeats 1000000 in
set_option maxRecDepth 20000 in
theorem r88 {Lg : Nat} {xs : Nat → Int32} {d F : Nat} {x1 : Int32} {S : AmT} {q : Int32 × AmT} (hd : 2 ≤ d) (H : f88 F x1 S = some q) : Ex (am_X Lg xs) d 88 (am_P 88) (am_ini (am_Mi 88).1 [.ref 86, .int x1]) [] (hS S) (some q.1, hS q.2) := by
  obtain ⟨d, rfl⟩ : ∃ d2, d = d2 + 1 := ⟨d - 1, by omega⟩
  unfold f88 at H
  show Ex (am_X Lg xs) _ 88 am_c88_0 [.ref 86, .int x1] [] (hS S) (some q.1, hS q.2)
  refine ex_aload_n rfl ?_
  refine ex_getR (w := 87) rfl rfl rfl ?_
  refine ex_iload_n rfl ?_
  refine ex_iconst (v := 0) (by decide) ?_
  obtain ⟨hnn, H⟩ := am_nn_el H
  refine ex_kset (c := 87) (ar := 88) (n := 5) rfl hnn (by omega) (Nat.le_of_ble_eq_true rfl) ?_
  generalize (ks S 87 88 5 x1 0) = S1 at H ⊢
  have H := am_lt_el H
  refine ex_aload_n rfl ?_
  refine ex_getR (w := 91) rfl rfl rfl ?_
  refine ex_iconst (v := 0) (by decide) ?_
  refine ex_iconst (v := 1) (by decide) ?_
  obtain ⟨hnn, H⟩ := am_nn_el H
  refine ex_kset (c := 91) (ar := 92) (n := 1) rfl hnn (by omega) (Nat.le_of_ble_eq_true rfl) ?_
  generalize (ks S1 91 92 1 0 1) = S2 at H ⊢
  have H := am_lt_el H
  refine ex_bipush (v := (-20)) (by decide) ?_
  have H := Option.some.inj H
  subst H
  exact ex_iret (M := 88) (Or.inl rfl)
def g90_16 (F : Nat) (s0 : Int32) (S : AmT) : Option (Int32 × AmT) := am_nn S (am_lt (ks S 89 90 1 0 0) fun S2 => if s0 = 0 then (some (1, S2)) else (some ((-19), S2)))
-- X6_separate
def f90 (F : Nat) (S : AmT) : Option (Int32 × AmT) := if (kg S.1 90 1 0) = 0 then (g90_16 F 0 S) else (g90_16 F 1 S)
set_option maxHeartbeats 1000000 in
set_option maxRecDepth 20000 in
theorem e90_16 {Lg : Nat} {xs : Nat → Int32} {d F : Nat} {s0 : Int32} {w1 : Value} {S : AmT} {q : Int32 × AmT} (hd : 2 ≤ d) (H : g90_16 F s0 S = some q) : Ex (am_X Lg xs) d 90 am_c90_16 [.ref 86, w1] [.int s0] (hS S) (some q.1, hS q.2) := by
  obtain ⟨d, rfl⟩ : ∃ d2, d = d2 + 1 := ⟨d - 1, by omega⟩
  unfold g90_16 at H
  refine ex_istore_n (L2 := [.ref 86, .int s0]) (Nat.le_of_ble_eq_true rfl) rfl ?_
  refine ex_aload_n rfl ?_
  refine ex_getR (w := 89) rfl rfl rfl ?_
  refine ex_iconst (v := 0) (by decide) ?_
  refine ex_iconst (v := 0) (by decide) ?_
  obtain ⟨hnn, H⟩ := am_nn_el H
  refine ex_kset (c := 89) (ar := 90) (n := 1) rfl hnn (by omega) (Nat.le_of_ble_eq_true rfl) ?_
  generalize (ks S 89 90 1 0 0) = S2 at H ⊢
  have H := am_lt_el H
  refine ex_iload_n rfl ?_
  by_cases h3 : s0 = 0
  · rw [if_pos h3] at H
    refine ex_if_eq_j (ct := am_c90_35) h3 rfl ?_
    refine ex_iconst (v := 1) (by decide) ?_
    have H := Option.some.inj H
    subst H
    exact ex_iret (M := 90) (Or.inl rfl)
  · rw [if_neg h3] at H
    refine ex_if_eq_f h3 ?_
    refine ex_bipush (v := (-19)) (by decide) ?_
    refine ex_goto (ct := am_c90_36) rfl ?_
    have H := Option.some.inj H
    subst H
    exact ex_iret (M := 90) (Or.inl rfl)
set_option maxHeartbeats 1000000 in
set_option maxRecDepth 20000 in
theorem r90 {Lg : Nat} {xs : Nat → Int32} {d F : Nat} {S : AmT} {q : Int32 × AmT} (hd : 2 ≤ d) (H : f90 F S = some q) : Ex (am_X Lg xs) d 90 (am_P 90) (am_ini (am_Mi 90).1 [.ref 86]) [] (hS S) (some q.1, hS q.2) := by
  obtain ⟨d, rfl⟩ : ∃ d2, d = d2 + 1 := ⟨d - 1, by omega⟩
  unfold f90 at H
  show Ex (am_X Lg xs) _ 90 am_c90_0 [.ref 86, .long 0] [] (hS S) (some q.1, hS q.2)
  refine ex_aload_n rfl ?_
  refine ex_getR (w := 89) rfl rfl rfl ?_
  refine ex_iconst (v := 0) (by decide) ?_
  refine ex_kget (c := 89) (ar := 90) (n := 1) rfl (Nat.le_of_ble_eq_true rfl) ?_
  by_cases h1 : (kg S.1 90 1 0) = 0
  · rw [if_pos h1] at H
    refine ex_if_eq_j (ct := am_c90_15) h1 rfl ?_
    refine ex_iconst (v := 0) (by decide) ?_
    exact e90_16 hd H
  · rw [if_neg h1] at H
    refine ex_if_eq_f h1 ?_
    refine ex_iconst (v := 1) (by decide) ?_
    refine ex_goto (ct := am_c90_16) rfl ?_
    exact e90_16 hd H
-- X6_trimEdge
def f92 (F : Nat) (x1 : Int32) (S : AmT) : Option (Int32 × AmT) := am_b2 (f119 F x1 S) fun v1 S2 => am_b2 (f21 F v1 S2) fun v3 S4 => if v3 = 0 then (some ((-11), S4)) else (am_b2 (f24 F v1 S4) fun v6 S7 => if v6 ≤ (kg S4.1 94 1 0) then (some (1, S7)) else (some ((-13), S7)))
set_option maxHeartbeats 1000000 in
set_option maxRecDepth 20000 in
theorem r92 {Lg : Nat} {xs : Nat → Int32} {d F : Nat} {x1 : Int32} {S : AmT} {q : Int32 × AmT} (hd : 2 ≤ d) (H : f92 F x1 S = some q) : Ex (am_X Lg xs) d 92 (am_P 92) (am_ini (am_Mi 92).1 [.ref 86, .int x1]) [] (hS S) (some q.1, hS q.2) := by
  obtain ⟨d, rfl⟩ : ∃ d2, d = d2 + 1 := ⟨d - 1, by omega⟩
  unfold f92 at H
  show Ex (am_X Lg xs) _ 92 am_c92_0 [.ref 86, .int x1, .long 0] [] (hS S) (some q.1, hS q.2)
  refine ex_aload_n rfl ?_
  refine ex_getR (w := 46) rfl rfl rfl ?_
  refine ex_iload_n rfl ?_
  obtain ⟨v1, S2, hp, H⟩ := am_b2_el H
  refine ex_callV rfl rfl (Nat.le_of_ble_eq_true rfl) (Nat.le_of_ble_eq_true rfl) rfl (r119 (by omega) hp) rfl ?_
  refine ex_istore_n (L2 := [.ref 86, .int x1, .int v1]) (Nat.le_of_ble_eq_true rfl) rfl ?_
  refine ex_aload_n rfl ?_
  refine ex_getR (w := 22) rfl rfl rfl ?_
  refine ex_iload_n rfl ?_
  obtain ⟨v3, S4, hp, H⟩ := am_b2_el H
  refine ex_callV rfl rfl (Nat.le_of_ble_eq_true rfl) (Nat.le_of_ble_eq_true rfl) rfl (r21 (by omega) hp) rfl ?_
  by_cases h5 : v3 = 0
  · rw [if_pos h5] at H
    refine ex_if_ne_f h5 ?_
    refine ex_bipush (v := (-11)) (by decide) ?_
    have H := Option.some.inj H
    subst H
    exact ex_iret (M := 92) (Or.inl rfl)
  · rw [if_neg h5] at H
    refine ex_if_ne_j (ct := am_c92_23) h5 rfl ?_
    refine ex_aload_n rfl ?_
    refine ex_getR (w := 93) rfl rfl rfl ?_
    refine ex_iconst (v := 0) (by decide) ?_
    refine ex_kget (c := 93) (ar := 94) (n := 1) rfl (Nat.le_of_ble_eq_true rfl) ?_
    refine ex_aload_n rfl ?_
    refine ex_getR (w := 22) rfl rfl rfl ?_
    refine ex_iload_n rfl ?_
    obtain ⟨v6, S7, hp, H⟩ := am_b2_el H
    refine ex_callV rfl rfl (Nat.le_of_ble_eq_true rfl) (Nat.le_of_ble_eq_true rfl) rfl (r24 (by omega) hp) rfl ?_
    by_cases h8 : v6 ≤ (kg S4.1 94 1 0)
    · rw [if_pos h8] at H
      refine ex_icmp_ge_j (ct := am_c92_47) h8 rfl ?_
      refine ex_iconst (v := 1) (by decide) ?_
      have H := Option.some.inj H
      subst H
      exact ex_iret (M := 92) (Or.inl rfl)
    · rw [if_neg h8] at H
      refine ex_icmp_ge_f h8 ?_
      refine ex_bipush (v := (-13)) (by decide) ?_
      refine ex_goto (ct := am_c92_48) rfl ?_
      have H := Option.some.inj H
      subst H
      exact ex_iret (M := 92) (Or.inl rfl)
-- X7_make
def f96 (F : Nat) (x1 : Int32) (x2 : Int32) (x3 : Int32) (S : AmT) : Option (Int32 × AmT) := am_nn S (am_lt (ks S 49 50 8 (kg S.1 48 1 0) x1) fun S1 => am_nn S1 (am_lt (ks S1 51 52 8 (kg S.1 48 1 0) x2) fun S2 => am_nn S2 (am_lt (ks S2 53 54 8 (kg S.1 48 1 0) x3) fun S3 => am_nn S3 (am_lt (ks S3 61 62 8 (kg S.1 48 1 0) (-1)) fun S4 => am_nn S4 (am_lt (ks S4 63 64 8 (kg S.1 48 1 0) (-1)) fun S5 => am_nn S5 (am_lt (ks S5 65 66 8 (kg S.1 48 1 0) (-1)) fun S6 => am_nn S6 (am_lt (ks S6 47 48 1 0 ((kg S.1 48 1 0) + 1)) fun S7 => some ((kg S.1 48 1 0), S7))))))))
set_option maxHeartbeats 1000000 in
set_option maxRecDepth 20000 in
theorem r96 {Lg : Nat} {xs : Nat → Int32} {d F : Nat} {x1 : Int32} {x2 : Int32} {x3 : Int32} {S : AmT} {q : Int32 × AmT} (hd : 2 ≤ d) (H : f96 F x1 x2 x3 S = some q) : Ex (am_X Lg xs) d 96 (am_P 96) (am_ini (am_Mi 96).1 [.ref 46, .int x1, .int x2, .int x3]) [] (hS S) (some q.1, hS q.2) := by
  obtain ⟨d, rfl⟩ : ∃ d2, d = d2 + 1 := ⟨d - 1, by omega⟩
  unfold f96 at H
  show Ex (am_X Lg xs) _ 96 am_c96_0 [.ref 46, .int x1, .int x2, .int x3, .long 0] [] (hS S) (some q.1, hS q.2)
  refine ex_aload_n rfl ?_
  refine ex_getR (w := 47) rfl rfl rfl ?_
  refine ex_iconst (v := 0) (by decide) ?_
  refine ex_kget (c := 47) (ar := 48) (n := 1) rfl (Nat.le_of_ble_eq_true rfl) ?_
  refine ex_istore (L2 := [.ref 46, .int x1, .int x2, .int x3, .int (kg S.1 48 1 0)]) (Nat.le_of_ble_eq_true rfl) rfl ?_
  refine ex_aload_n rfl ?_
  refine ex_getR (w := 49) rfl rfl rfl ?_
  refine ex_iload rfl ?_
  refine ex_iload_n rfl ?_
  obtain ⟨hnn, H⟩ := am_nn_el H
  refine ex_kset (c := 49) (ar := 50) (n := 8) rfl hnn (by omega) (Nat.le_of_ble_eq_true rfl) ?_
  generalize (ks S 49 50 8 (kg S.1 48 1 0) x1) = S1 at H ⊢
  have H := am_lt_el H
  refine ex_aload_n rfl ?_
  refine ex_getR (w := 51) rfl rfl rfl ?_
  refine ex_iload rfl ?_
  refine ex_iload_n rfl ?_
  obtain ⟨hnn, H⟩ := am_nn_el H
  refine ex_kset (c := 51) (ar := 52) (n := 8) rfl hnn (by omega) (Nat.le_of_ble_eq_true rfl) ?_
  generalize (ks S1 51 52 8 (kg S.1 48 1 0) x2) = S2 at H ⊢
  have H := am_lt_el H
  refine ex_aload_n rfl ?_
  refine ex_getR (w := 53) rfl rfl rfl ?_
  refine ex_iload rfl ?_
  refine ex_iload_n rfl ?_
  obtain ⟨hnn, H⟩ := am_nn_el H
  refine ex_kset (c := 53) (ar := 54) (n := 8) rfl hnn (by omega) (Nat.le_of_ble_eq_true rfl) ?_
  generalize (ks S2 53 54 8 (kg S.1 48 1 0) x3) = S3 at H ⊢
  have H := am_lt_el H
  refine ex_aload_n rfl ?_
  refine ex_getR (w := 61) rfl rfl rfl ?_
  refine ex_iload rfl ?_
  refine ex_iconst (v := (-1)) (by decide) ?_
  obtain ⟨hnn, H⟩ := am_nn_el H
  refine ex_kset (c := 61) (ar := 62) (n := 8) rfl hnn (by omega) (Nat.le_of_ble_eq_true rfl) ?_
  generalize (ks S3 61 62 8 (kg S.1 48 1 0) (-1)) = S4 at H ⊢
  have H := am_lt_el H
  refine ex_aload_n rfl ?_
  refine ex_getR (w := 63) rfl rfl rfl ?_
  refine ex_iload rfl ?_
  refine ex_iconst (v := (-1)) (by decide) ?_
  obtain ⟨hnn, H⟩ := am_nn_el H
  refine ex_kset (c := 63) (ar := 64) (n := 8) rfl hnn (by omega) (Nat.le_of_ble_eq_true rfl) ?_
  generalize (ks S4 63 64 8 (kg S.1 48 1 0) (-1)) = S5 at H ⊢
  have H := am_lt_el H
  refine ex_aload_n rfl ?_
  refine ex_getR (w := 65) rfl rfl rfl ?_
  refine ex_iload rfl ?_
  refine ex_iconst (v := (-1)) (by decide) ?_
  obtain ⟨hnn, H⟩ := am_nn_el H
  refine ex_kset (c := 65) (ar := 66) (n := 8) rfl hnn (by omega) (Nat.le_of_ble_eq_true rfl) ?_
  generalize (ks S5 65 66 8 (kg S.1 48 1 0) (-1)) = S6 at H ⊢
  have H := am_lt_el H
  refine ex_aload_n rfl ?_
  refine ex_getR (w := 47) rfl rfl rfl ?_
  refine ex_iconst (v := 0) (by decide) ?_
  refine ex_iload rfl ?_
  refine ex_iconst (v := 1) (by decide) ?_
  refine ex_iadd ?_
  obtain ⟨hnn, H⟩ := am_nn_el H
  refine ex_kset (c := 47) (ar := 48) (n := 1) rfl hnn (by omega) (Nat.le_of_ble_eq_true rfl) ?_
  generalize (ks S6 47 48 1 0 ((kg S.1 48 1 0) + 1)) = S7 at H ⊢
  have H := am_lt_el H
  refine ex_iload rfl ?_
  have H := Option.some.inj H
  subst H
  exact ex_iret (M := 96) (Or.inl rfl)
-- X7_tearRow
def f103 (F : Nat) (x1 : Int32) (x2 : Int32) (x3 : Int32) (S : AmT) : Option (Int32 × AmT) := am_b2 (f101 F x1 x3 S) fun v1 S2 => if v1 = 0 then (some ((-12), S2)) else (am_b2 (f100 F x1 x2 x3 S2) fun v4 S5 => am_nn S5 (am_lt (ks S5 55 56 128 v4 1) fun S6 => some (1, S6)))
set_option maxHeartbeats 1000000 in
set_option maxRecDepth 20000 in
theorem r103 {Lg : Nat} {xs : Nat → Int32} {d F : Nat} {x1 : Int32} {x2 : Int32} {x3 : Int32} {S : AmT} {q : Int32 × AmT} (hd : 2 ≤ d) (H : f103 F x1 x2 x3 S = some q) : Ex (am_X Lg xs) d 103 (am_P 103) (am_ini (am_Mi 103).1 [.ref 46, .int x1, .int x2, .int x3]) [] (hS S) (some q.1, hS q.2) := by
  obtain ⟨d, rfl⟩ : ∃ d2, d = d2 + 1 := ⟨d - 1, by omega⟩
  unfold f103 at H
  show Ex (am_X Lg xs) _ 103 am_c103_0 [.ref 46, .int x1, .int x2, .int x3] [] (hS S) (some q.1, hS q.2)
  refine ex_aload_n rfl ?_
  refine ex_iload_n rfl ?_
  refine ex_iload_n rfl ?_
  obtain ⟨v1, S2, hp, H⟩ := am_b2_el H
  refine ex_callV rfl rfl (Nat.le_of_ble_eq_true rfl) (Nat.le_of_ble_eq_true rfl) rfl (r101 (by omega) hp) rfl ?_
  by_cases h3 : v1 = 0
  · rw [if_pos h3] at H
    refine ex_if_ne_f h3 ?_
    refine ex_bipush (v := (-12)) (by decide) ?_
    have H := Option.some.inj H
    subst H
    exact ex_iret (M := 103) (Or.inl rfl)
  · rw [if_neg h3] at H
    refine ex_if_ne_j (ct := am_c103_12) h3 rfl ?_
    refine ex_aload_n rfl ?_
    refine ex_getR (w := 55) rfl rfl rfl ?_
    refine ex_iload_n rfl ?_
    refine ex_iload_n rfl ?_
    refine ex_iload_n rfl ?_
    obtain ⟨v4, S5, hp, H⟩ := am_b2_el H
    refine ex_callS rfl rfl (Nat.le_of_ble_eq_true rfl) (Nat.le_of_ble_eq_true rfl) (r100 (by omega) hp) rfl ?_
    refine ex_iconst (v := 1) (by decide) ?_
    obtain ⟨hnn, H⟩ := am_nn_el H
    refine ex_kset (c := 55) (ar := 56) (n := 128) rfl hnn (by omega) (Nat.le_of_ble_eq_true rfl) ?_
    generalize (ks S5 55 56 128 v4 1) = S6 at H ⊢
    have H := am_lt_el H
    refine ex_iconst (v := 1) (by decide) ?_
    have H := Option.some.inj H
    subst H
    exact ex_iret (M := 103) (Or.inl rfl)
-- X7_cellSpot
def f104 (F : Nat) (x1 : Int32) (x2 : Int32) (x3 : Int32) (x4 : Int32) (S : AmT) : Option (Int32 × AmT) := am_b2 (f101 F x1 x3 S) fun v1 S2 => if v1 = 0 then (some ((-12), S2)) else (am_b2 (f102 F x1 x2 x3 S2) fun v4 S5 => if v4 = 0 then (if x4 < 0 then (some ((-12), S5)) else (if x4 < (kg S5.1 54 8 x1) then (am_b2 (f100 F x1 x2 x3 S5) fun v9 S10 => some (((v9 * 8) + x4), S10)) else (some ((-12), S5)))) else (some ((-11), S5)))
set_option maxHeartbeats 1000000 in
set_option maxRecDepth 20000 in
theorem r104 {Lg : Nat} {xs : Nat → Int32} {d F : Nat} {x1 : Int32} {x2 : Int32} {x3 : Int32} {x4 : Int32} {S : AmT} {q : Int32 × AmT} (hd : 2 ≤ d) (H : f104 F x1 x2 x3 x4 S = some q) : Ex (am_X Lg xs) d 104 (am_P 104) (am_ini (am_Mi 104).1 [.ref 46, .int x1, .int x2, .int x3, .int x4]) [] (hS S) (some q.1, hS q.2) := by
  obtain ⟨d, rfl⟩ : ∃ d2, d = d2 + 1 := ⟨d - 1, by omega⟩
  unfold f104 at H
  show Ex (am_X Lg xs) _ 104 am_c104_0 [.ref 46, .int x1, .int x2, .int x3, .int x4] [] (hS S) (some q.1, hS q.2)
  refine ex_aload_n rfl ?_
  refine ex_iload_n rfl ?_
  refine ex_iload_n rfl ?_
  obtain ⟨v1, S2, hp, H⟩ := am_b2_el H
  refine ex_callV rfl rfl (Nat.le_of_ble_eq_true rfl) (Nat.le_of_ble_eq_true rfl) rfl (r101 (by omega) hp) rfl ?_
  by_cases h3 : v1 = 0
  · rw [if_pos h3] at H
    refine ex_if_ne_f h3 ?_
    refine ex_bipush (v := (-12)) (by decide) ?_
    have H := Option.some.inj H
    subst H
    exact ex_iret (M := 104) (Or.inl rfl)
  · rw [if_neg h3] at H
    refine ex_if_ne_j (ct := am_c104_12) h3 rfl ?_
    refine ex_aload_n rfl ?_
    refine ex_iload_n rfl ?_
    refine ex_iload_n rfl ?_
    refine ex_iload_n rfl ?_
    obtain ⟨v4, S5, hp, H⟩ := am_b2_el H
    refine ex_callV rfl rfl (Nat.le_of_ble_eq_true rfl) (Nat.le_of_ble_eq_true rfl) rfl (r102 (by omega) hp) rfl ?_
    by_cases h6 : v4 = 0
    · rw [if_pos h6] at H
      refine ex_if_eq_j (ct := am_c104_25) h6 rfl ?_
      refine ex_iload rfl ?_
      by_cases h7 : x4 < 0
      · rw [if_pos h7] at H
        refine ex_if_lt_j (ct := am_c104_43) h7 rfl ?_
        refine ex_bipush (v := (-12)) (by decide) ?_
        have H := Option.some.inj H
        subst H
        exact ex_iret (M := 104) (Or.inl rfl)
      · rw [if_neg h7] at H
        refine ex_if_lt_f h7 ?_
        refine ex_iload rfl ?_
        refine ex_aload_n rfl ?_
        refine ex_getR (w := 53) rfl rfl rfl ?_
        refine ex_iload_n rfl ?_
        refine ex_kget (c := 53) (ar := 54) (n := 8) rfl (Nat.le_of_ble_eq_true rfl) ?_
        by_cases h8 : x4 < (kg S5.1 54 8 x1)
        · rw [if_pos h8] at H
          refine ex_icmp_lt_j (ct := am_c104_46) h8 rfl ?_
          refine ex_iload_n rfl ?_
          refine ex_iload_n rfl ?_
          refine ex_iload_n rfl ?_
          obtain ⟨v9, S10, hp, H⟩ := am_b2_el H
          refine ex_callS rfl rfl (Nat.le_of_ble_eq_true rfl) (Nat.le_of_ble_eq_true rfl) (r100 (by omega) hp) rfl ?_
          refine ex_bipush (v := 8) (by decide) ?_
          refine ex_imul ?_
          refine ex_iload rfl ?_
          refine ex_iadd ?_
          have H := Option.some.inj H
          subst H
          exact ex_iret (M := 104) (Or.inl rfl)
        · rw [if_neg h8] at H
          refine ex_icmp_lt_f h8 ?_
          refine ex_bipush (v := (-12)) (by decide) ?_
          have H := Option.some.inj H
          subst H
          exact ex_iret (M := 104) (Or.inl rfl)
    · rw [if_neg h6] at H
      refine ex_if_eq_f h6 ?_
      refine ex_bipush (v := (-11)) (by decide) ?_
      have H := Option.some.inj H
      subst H
      exact ex_iret (M := 104) (Or.inl rfl)
-- X7_writeCell
def f105 (F : Nat) (x1 : Int32) (x2 : Int32) (x3 : Int32) (S : AmT) : Option (Int32 × AmT) := am_nn S (am_lt (ks S 57 58 1024 x1 ((2 * x2) + x3)) fun S1 => some (1, S1))
set_option maxHeartbeats 1000000 in
set_option maxRecDepth 20000 in
theorem r105 {Lg : Nat} {xs : Nat → Int32} {d F : Nat} {x1 : Int32} {x2 : Int32} {x3 : Int32} {S : AmT} {q : Int32 × AmT} (hd : 2 ≤ d) (H : f105 F x1 x2 x3 S = some q) : Ex (am_X Lg xs) d 105 (am_P 105) (am_ini (am_Mi 105).1 [.ref 46, .int x1, .int x2, .int x3]) [] (hS S) (some q.1, hS q.2) := by
  obtain ⟨d, rfl⟩ : ∃ d2, d = d2 + 1 := ⟨d - 1, by omega⟩
  unfold f105 at H
  show Ex (am_X Lg xs) _ 105 am_c105_0 [.ref 46, .int x1, .int x2, .int x3] [] (hS S) (some q.1, hS q.2)
  refine ex_aload_n rfl ?_
  refine ex_getR (w := 57) rfl rfl rfl ?_
  refine ex_iload_n rfl ?_
  refine ex_iconst (v := 2) (by decide) ?_
  refine ex_iload_n rfl ?_
  refine ex_imul ?_
  refine ex_iload_n rfl ?_
  refine ex_iadd ?_
  obtain ⟨hnn, H⟩ := am_nn_el H
  refine ex_kset (c := 57) (ar := 58) (n := 1024) rfl hnn (by omega) (Nat.le_of_ble_eq_true rfl) ?_
  generalize (ks S 57 58 1024 x1 ((2 * x2) + x3)) = S1 at H ⊢
  have H := am_lt_el H
  refine ex_iconst (v := 1) (by decide) ?_
  have H := Option.some.inj H
  subst H
  exact ex_iret (M := 105) (Or.inl rfl)
-- X7_filledRow
def f108 (F : Nat) (x1 : Int32) (x2 : Int32) (x3 : Int32) (x4 : Int32) (S : AmT) : Option (Int32 × AmT) := if x4 < 0 then (some ((-15), S)) else (if (kg S.1 54 8 x1) < x4 then (some ((-15), S)) else (am_b2 (f101 F x1 x3 S) fun v3 S4 => if v3 = 0 then (some ((-15), S4)) else (am_b2 (f102 F x1 x2 x3 S4) fun v6 S7 => if v6 = 0 then (am_b2 (f100 F x1 x2 x3 S7) fun v9 S10 => some ((v9 * 8), S10)) else (some ((-15), S7)))))
set_option maxHeartbeats 1000000 in
set_option maxRecDepth 20000 in
theorem r108 {Lg : Nat} {xs : Nat → Int32} {d F : Nat} {x1 : Int32} {x2 : Int32} {x3 : Int32} {x4 : Int32} {S : AmT} {q : Int32 × AmT} (hd : 2 ≤ d) (H : f108 F x1 x2 x3 x4 S = some q) : Ex (am_X Lg xs) d 108 (am_P 108) (am_ini (am_Mi 108).1 [.ref 46, .int x1, .int x2, .int x3, .int x4]) [] (hS S) (some q.1, hS q.2) := by
  obtain ⟨d, rfl⟩ : ∃ d2, d = d2 + 1 := ⟨d - 1, by omega⟩
  unfold f108 at H
  show Ex (am_X Lg xs) _ 108 am_c108_0 [.ref 46, .int x1, .int x2, .int x3, .int x4] [] (hS S) (some q.1, hS q.2)
  refine ex_iload rfl ?_
  by_cases h1 : x4 < 0
  · rw [if_pos h1] at H
    refine ex_if_lt_j (ct := am_c108_37) h1 rfl ?_
    refine ex_bipush (v := (-15)) (by decide) ?_
    have H := Option.some.inj H
    subst H
    exact ex_iret (M := 108) (Or.inl rfl)
  · rw [if_neg h1] at H
    refine ex_if_lt_f h1 ?_
    refine ex_iload rfl ?_
    refine ex_aload_n rfl ?_
    refine ex_getR (w := 53) rfl rfl rfl ?_
    refine ex_iload_n rfl ?_
    refine ex_kget (c := 53) (ar := 54) (n := 8) rfl (Nat.le_of_ble_eq_true rfl) ?_
    by_cases h2 : (kg S.1 54 8 x1) < x4
    · rw [if_pos h2] at H
      refine ex_icmp_gt_j (ct := am_c108_37) h2 rfl ?_
      refine ex_bipush (v := (-15)) (by decide) ?_
      have H := Option.some.inj H
      subst H
      exact ex_iret (M := 108) (Or.inl rfl)
    · rw [if_neg h2] at H
      refine ex_icmp_gt_f h2 ?_
      refine ex_aload_n rfl ?_
      refine ex_iload_n rfl ?_
      refine ex_iload_n rfl ?_
      obtain ⟨v3, S4, hp, H⟩ := am_b2_el H
      refine ex_callV rfl rfl (Nat.le_of_ble_eq_true rfl) (Nat.le_of_ble_eq_true rfl) rfl (r101 (by omega) hp) rfl ?_
      by_cases h5 : v3 = 0
      · rw [if_pos h5] at H
        refine ex_if_eq_j (ct := am_c108_37) h5 rfl ?_
        refine ex_bipush (v := (-15)) (by decide) ?_
        have H := Option.some.inj H
        subst H
        exact ex_iret (M := 108) (Or.inl rfl)
      · rw [if_neg h5] at H
        refine ex_if_eq_f h5 ?_
        refine ex_aload_n rfl ?_
        refine ex_iload_n rfl ?_
        refine ex_iload_n rfl ?_
        refine ex_iload_n rfl ?_
        obtain ⟨v6, S7, hp, H⟩ := am_b2_el H
        refine ex_callV rfl rfl (Nat.le_of_ble_eq_true rfl) (Nat.le_of_ble_eq_true rfl) rfl (r102 (by omega) hp) rfl ?_
        by_cases h8 : v6 = 0
        · rw [if_pos h8] at H
          refine ex_if_eq_j (ct := am_c108_40) h8 rfl ?_
          refine ex_iload_n rfl ?_
          refine ex_iload_n rfl ?_
          refine ex_iload_n rfl ?_
          obtain ⟨v9, S10, hp, H⟩ := am_b2_el H
          refine ex_callS rfl rfl (Nat.le_of_ble_eq_true rfl) (Nat.le_of_ble_eq_true rfl) (r100 (by omega) hp) rfl ?_
          refine ex_bipush (v := 8) (by decide) ?_
          refine ex_imul ?_
          have H := Option.some.inj H
          subst H
          exact ex_iret (M := 108) (Or.inl rfl)
        · rw [if_neg h8] at H
          refine ex_if_eq_f h8 ?_
          refine ex_bipush (v := (-15)) (by decide) ?_
          have H := Option.some.inj H
          subst H
          exact ex_iret (M := 108) (Or.inl rfl)
def g109_3 (F : Nat) : Nat → Int32 → Int32 → Int32 → Int32 → AmT → Option AmT
  | 0, _, _, _, _, _ => none
  | n + 1, x1, x2, x3, x4, S => if x3 ≤ x4 then (some S) else (am_nn S (am_lt (ks S 57 58 1024 (x2 + x4) (kg S.1 58 1024 (x1 + x4))) fun S2 => g109_3 F n x1 x2 x3 (x4 + 1) S2))
-- X7_copyCells
def f109 (F : Nat) (x1 : Int32) (x2 : Int32) (x3 : Int32) (S : AmT) : Option AmT := g109_3 F F x1 x2 x3 0 S
set_option maxHeartbeats 1000000 in
set_option maxRecDepth 20000 in
theorem e109_3 {Lg : Nat} {xs : Nat → Int32} {d F : Nat} (hd : 2 ≤ d) : ∀ (n : Nat) (x1 : Int32) (x2 : Int32) (x3 : Int32) (x4 : Int32) (S : AmT) (q : AmT), g109_3 F n x1 x2 x3 x4 S = some q → Ex (am_X Lg xs) d 109 am_c109_3 [.ref 46, .int x1, .int x2, .int x3, .int x4] [] (hS S) (none, hS q) := by
  obtain ⟨d, rfl⟩ : ∃ d2, d = d2 + 1 := ⟨d - 1, by omega⟩
  intro n
  induction n with
  | zero =>
    intro x1 x2 x3 x4 S q H
    cases H
  | succ n ih =>
    intro x1 x2 x3 x4 S q H
    have H : (if x3 ≤ x4 then (some S) else (am_nn S (am_lt (ks S 57 58 1024 (x2 + x4) (kg S.1 58 1024 (x1 + x4))) fun S2 => g109_3 F n x1 x2 x3 (x4 + 1) S2))) = some q := H
    refine ex_iload rfl ?_
    refine ex_iload_n rfl ?_
    by_cases h1 : x3 ≤ x4
    · rw [if_pos h1] at H
      refine ex_icmp_ge_j (ct := am_c109_37) h1 rfl ?_
      have H := Option.some.inj H
      subst H
      exact ex_vret (M := 109) rfl
    · rw [if_neg h1] at H
      refine ex_icmp_ge_f h1 ?_
      refine ex_aload_n rfl ?_
      refine ex_getR (w := 57) rfl rfl rfl ?_
      refine ex_iload_n rfl ?_
      refine ex_iload rfl ?_
      refine ex_iadd ?_
      refine ex_aload_n rfl ?_
      refine ex_getR (w := 57) rfl rfl rfl ?_
      refine ex_iload_n rfl ?_
      refine ex_iload rfl ?_
      refine ex_iadd ?_
      refine ex_kget (c := 57) (ar := 58) (n := 1024) rfl (Nat.le_of_ble_eq_true rfl) ?_
      obtain ⟨hnn, H⟩ := am_nn_el H
      refine ex_kset (c := 57) (ar := 58) (n := 1024) rfl hnn (by omega) (Nat.le_of_ble_eq_true rfl) ?_
      generalize (ks S 57 58 1024 (x2 + x4) (kg S.1 58 1024 (x1 + x4))) = S2 at H ⊢
      have H := am_lt_el H
      refine ex_iinc (L2 := [.ref 46, .int x1, .int x2, .int x3, .int (x4 + 1)]) (v := (x4 + 1)) rfl (Nat.le_of_ble_eq_true rfl) (congrArg (fun z => x4 + z) (by decide)) rfl ?_
      refine ex_goto (ct := am_c109_3) rfl ?_
      exact ih _ _ _ _ _ _ H
set_option maxHeartbeats 1000000 in
set_option maxRecDepth 20000 in
theorem r109 {Lg : Nat} {xs : Nat → Int32} {d F : Nat} {x1 : Int32} {x2 : Int32} {x3 : Int32} {S : AmT} {q : AmT} (hd : 2 ≤ d) (H : f109 F x1 x2 x3 S = some q) : Ex (am_X Lg xs) d 109 (am_P 109) (am_ini (am_Mi 109).1 [.ref 46, .int x1, .int x2, .int x3]) [] (hS S) (none, hS q) := by
  obtain ⟨d, rfl⟩ : ∃ d2, d = d2 + 1 := ⟨d - 1, by omega⟩
  unfold f109 at H
  show Ex (am_X Lg xs) _ 109 am_c109_0 [.ref 46, .int x1, .int x2, .int x3, .long 0] [] (hS S) (none, hS q)
  refine ex_iconst (v := 0) (by decide) ?_
  refine ex_istore (L2 := [.ref 46, .int x1, .int x2, .int x3, .int 0]) (Nat.le_of_ble_eq_true rfl) rfl ?_
  exact e109_3 hd _ _ _ _ _ _ _ H
-- X7_markGathered
def f117 (F : Nat) (x1 : Int32) (S : AmT) : Option AmT := am_nn S (am_lt (ks S 59 60 8 x1 1) fun S1 => some S1)
set_option maxHeartbeats 1000000 in
set_option maxRecDepth 20000 in
theorem r117 {Lg : Nat} {xs : Nat → Int32} {d F : Nat} {x1 : Int32} {S : AmT} {q : AmT} (hd : 2 ≤ d) (H : f117 F x1 S = some q) : Ex (am_X Lg xs) d 117 (am_P 117) (am_ini (am_Mi 117).1 [.ref 46, .int x1]) [] (hS S) (none, hS q) := by
  obtain ⟨d, rfl⟩ : ∃ d2, d = d2 + 1 := ⟨d - 1, by omega⟩
  unfold f117 at H
  show Ex (am_X Lg xs) _ 117 am_c117_0 [.ref 46, .int x1] [] (hS S) (none, hS q)
  refine ex_aload_n rfl ?_
  refine ex_getR (w := 59) rfl rfl rfl ?_
  refine ex_iload_n rfl ?_
  refine ex_iconst (v := 1) (by decide) ?_
  obtain ⟨hnn, H⟩ := am_nn_el H
  refine ex_kset (c := 59) (ar := 60) (n := 8) rfl hnn (by omega) (Nat.le_of_ble_eq_true rfl) ?_
  generalize (ks S 59 60 8 x1 1) = S1 at H ⊢
  have H := am_lt_el H
  have H := Option.some.inj H
  subst H
  exact ex_vret (M := 117) rfl
-- X7_tellFold
def f118 (F : Nat) (x1 : Int32) (x2 : Int32) (S : AmT) : Option (Int32 × AmT) := am_nn S (am_lt (ks S 61 62 8 x1 x2) fun S1 => some (1, S1))
set_option maxHeartbeats 1000000 in
set_option maxRecDepth 20000 in
theorem r118 {Lg : Nat} {xs : Nat → Int32} {d F : Nat} {x1 : Int32} {x2 : Int32} {S : AmT} {q : Int32 × AmT} (hd : 2 ≤ d) (H : f118 F x1 x2 S = some q) : Ex (am_X Lg xs) d 118 (am_P 118) (am_ini (am_Mi 118).1 [.ref 46, .int x1, .int x2]) [] (hS S) (some q.1, hS q.2) := by
  obtain ⟨d, rfl⟩ : ∃ d2, d = d2 + 1 := ⟨d - 1, by omega⟩
  unfold f118 at H
  show Ex (am_X Lg xs) _ 118 am_c118_0 [.ref 46, .int x1, .int x2] [] (hS S) (some q.1, hS q.2)
  refine ex_aload_n rfl ?_
  refine ex_getR (w := 61) rfl rfl rfl ?_
  refine ex_iload_n rfl ?_
  refine ex_iload_n rfl ?_
  obtain ⟨hnn, H⟩ := am_nn_el H
  refine ex_kset (c := 61) (ar := 62) (n := 8) rfl hnn (by omega) (Nat.le_of_ble_eq_true rfl) ?_
  generalize (ks S 61 62 8 x1 x2) = S1 at H ⊢
  have H := am_lt_el H
  refine ex_iconst (v := 1) (by decide) ?_
  have H := Option.some.inj H
  subst H
  exact ex_iret (M := 118) (Or.inl rfl)
-- X7_enter
def f124 (F : Nat) (x1 : Int32) (x2 : Int32) (S : AmT) : Option (Int32 × AmT) := am_nn S (am_lt (ks S 63 64 8 x1 0) fun S1 => am_nn S1 (am_lt (ks S1 65 66 8 x1 x2) fun S2 => some (x2, S2)))
set_option maxHeartbeats 1000000 in
set_option maxRecDepth 20000 in
theorem r124 {Lg : Nat} {xs : Nat → Int32} {d F : Nat} {x1 : Int32} {x2 : Int32} {S : AmT} {q : Int32 × AmT} (hd : 2 ≤ d) (H : f124 F x1 x2 S = some q) : Ex (am_X Lg xs) d 124 (am_P 124) (am_ini (am_Mi 124).1 [.ref 46, .int x1, .int x2]) [] (hS S) (some q.1, hS q.2) := by
  obtain ⟨d, rfl⟩ : ∃ d2, d = d2 + 1 := ⟨d - 1, by omega⟩
  unfold f124 at H
  show Ex (am_X Lg xs) _ 124 am_c124_0 [.ref 46, .int x1, .int x2] [] (hS S) (some q.1, hS q.2)
  refine ex_aload_n rfl ?_
  refine ex_getR (w := 63) rfl rfl rfl ?_
  refine ex_iload_n rfl ?_
  refine ex_iconst (v := 0) (by decide) ?_
  obtain ⟨hnn, H⟩ := am_nn_el H
  refine ex_kset (c := 63) (ar := 64) (n := 8) rfl hnn (by omega) (Nat.le_of_ble_eq_true rfl) ?_
  generalize (ks S 63 64 8 x1 0) = S1 at H ⊢
  have H := am_lt_el H
  refine ex_aload_n rfl ?_
  refine ex_getR (w := 65) rfl rfl rfl ?_
  refine ex_iload_n rfl ?_
  refine ex_iload_n rfl ?_
  obtain ⟨hnn, H⟩ := am_nn_el H
  refine ex_kset (c := 65) (ar := 66) (n := 8) rfl hnn (by omega) (Nat.le_of_ble_eq_true rfl) ?_
  generalize (ks S1 65 66 8 x1 x2) = S2 at H ⊢
  have H := am_lt_el H
  refine ex_iload_n rfl ?_
  have H := Option.some.inj H
  subst H
  exact ex_iret (M := 124) (Or.inl rfl)
-- X7_passOn
def f125 (F : Nat) (x1 : Int32) (S : AmT) : Option AmT := am_nn S (am_lt (ks S 63 64 8 x1 ((kg S.1 64 8 x1) + 1)) fun S1 => some S1)
set_option maxHeartbeats 1000000 in
set_option maxRecDepth 20000 in
theorem r125 {Lg : Nat} {xs : Nat → Int32} {d F : Nat} {x1 : Int32} {S : AmT} {q : AmT} (hd : 2 ≤ d) (H : f125 F x1 S = some q) : Ex (am_X Lg xs) d 125 (am_P 125) (am_ini (am_Mi 125).1 [.ref 46, .int x1]) [] (hS S) (none, hS q) := by
  obtain ⟨d, rfl⟩ : ∃ d2, d = d2 + 1 := ⟨d - 1, by omega⟩
  unfold f125 at H
  show Ex (am_X Lg xs) _ 125 am_c125_0 [.ref 46, .int x1] [] (hS S) (none, hS q)
  refine ex_aload_n rfl ?_
  refine ex_getR (w := 63) rfl rfl rfl ?_
  refine ex_iload_n rfl ?_
  refine ex_aload_n rfl ?_
  refine ex_getR (w := 63) rfl rfl rfl ?_
  refine ex_iload_n rfl ?_
  refine ex_kget (c := 63) (ar := 64) (n := 8) rfl (Nat.le_of_ble_eq_true rfl) ?_
  refine ex_iconst (v := 1) (by decide) ?_
  refine ex_iadd ?_
  obtain ⟨hnn, H⟩ := am_nn_el H
  refine ex_kset (c := 63) (ar := 64) (n := 8) rfl hnn (by omega) (Nat.le_of_ble_eq_true rfl) ?_
  generalize (ks S 63 64 8 x1 ((kg S.1 64 8 x1) + 1)) = S1 at H ⊢
  have H := am_lt_el H
  have H := Option.some.inj H
  subst H
  exact ex_vret (M := 125) rfl
-- X7_spoil
def f126 (F : Nat) (x1 : Int32) (x2 : Int32) (S : AmT) : Option AmT := am_nn S (am_lt (ks S 63 64 8 x1 6) fun S1 => am_nn S1 (am_lt (ks S1 67 68 8 x1 x2) fun S2 => some S2))
set_option maxHeartbeats 1000000 in
set_option maxRecDepth 20000 in
theorem r126 {Lg : Nat} {xs : Nat → Int32} {d F : Nat} {x1 : Int32} {x2 : Int32} {S : AmT} {q : AmT} (hd : 2 ≤ d) (H : f126 F x1 x2 S = some q) : Ex (am_X Lg xs) d 126 (am_P 126) (am_ini (am_Mi 126).1 [.ref 46, .int x1, .int x2]) [] (hS S) (none, hS q) := by
  obtain ⟨d, rfl⟩ : ∃ d2, d = d2 + 1 := ⟨d - 1, by omega⟩
  unfold f126 at H
  show Ex (am_X Lg xs) _ 126 am_c126_0 [.ref 46, .int x1, .int x2] [] (hS S) (none, hS q)
  refine ex_aload_n rfl ?_
  refine ex_getR (w := 63) rfl rfl rfl ?_
  refine ex_iload_n rfl ?_
  refine ex_bipush (v := 6) (by decide) ?_
  obtain ⟨hnn, H⟩ := am_nn_el H
  refine ex_kset (c := 63) (ar := 64) (n := 8) rfl hnn (by omega) (Nat.le_of_ble_eq_true rfl) ?_
  generalize (ks S 63 64 8 x1 6) = S1 at H ⊢
  have H := am_lt_el H
  refine ex_aload_n rfl ?_
  refine ex_getR (w := 67) rfl rfl rfl ?_
  refine ex_iload_n rfl ?_
  refine ex_iload_n rfl ?_
  obtain ⟨hnn, H⟩ := am_nn_el H
  refine ex_kset (c := 67) (ar := 68) (n := 8) rfl hnn (by omega) (Nat.le_of_ble_eq_true rfl) ?_
  generalize (ks S1 67 68 8 x1 x2) = S2 at H ⊢
  have H := am_lt_el H
  have H := Option.some.inj H
  subst H
  exact ex_vret (M := 126) rfl
-- X7_layToRest
def f127 (F : Nat) (x1 : Int32) (S : AmT) : Option (Int32 × AmT) := am_nn S (am_lt (ks S 63 64 8 x1 (-1)) fun S1 => am_nn S1 (am_lt (ks S1 67 68 8 x1 0) fun S2 => some (1, S2)))
set_option maxHeartbeats 1000000 in
set_option maxRecDepth 20000 in
theorem r127 {Lg : Nat} {xs : Nat → Int32} {d F : Nat} {x1 : Int32} {S : AmT} {q : Int32 × AmT} (hd : 2 ≤ d) (H : f127 F x1 S = some q) : Ex (am_X Lg xs) d 127 (am_P 127) (am_ini (am_Mi 127).1 [.ref 46, .int x1]) [] (hS S) (some q.1, hS q.2) := by
  obtain ⟨d, rfl⟩ : ∃ d2, d = d2 + 1 := ⟨d - 1, by omega⟩
  unfold f127 at H
  show Ex (am_X Lg xs) _ 127 am_c127_0 [.ref 46, .int x1] [] (hS S) (some q.1, hS q.2)
  refine ex_aload_n rfl ?_
  refine ex_getR (w := 63) rfl rfl rfl ?_
  refine ex_iload_n rfl ?_
  refine ex_iconst (v := (-1)) (by decide) ?_
  obtain ⟨hnn, H⟩ := am_nn_el H
  refine ex_kset (c := 63) (ar := 64) (n := 8) rfl hnn (by omega) (Nat.le_of_ble_eq_true rfl) ?_
  generalize (ks S 63 64 8 x1 (-1)) = S1 at H ⊢
  have H := am_lt_el H
  refine ex_aload_n rfl ?_
  refine ex_getR (w := 67) rfl rfl rfl ?_
  refine ex_iload_n rfl ?_
  refine ex_iconst (v := 0) (by decide) ?_
  obtain ⟨hnn, H⟩ := am_nn_el H
  refine ex_kset (c := 67) (ar := 68) (n := 8) rfl hnn (by omega) (Nat.le_of_ble_eq_true rfl) ?_
  generalize (ks S1 67 68 8 x1 0) = S2 at H ⊢
  have H := am_lt_el H
  refine ex_iconst (v := 1) (by decide) ?_
  have H := Option.some.inj H
  subst H
  exact ex_iret (M := 127) (Or.inl rfl)
-- X9_lips
def f156 (F : Nat) (x1 : Int32) (S : AmT) : Option (Int32 × AmT) := am_b2 (f21 F x1 S) fun v1 S2 => if v1 = 0 then (some ((-2), S2)) else (am_b2 (f25 F x1 S2) fun v4 S5 => am_b2 (f129 F v4 S5) fun v6 S7 => some (v6, S7))
set_option maxHeartbeats 1000000 in
set_option maxRecDepth 20000 in
theorem r156 {Lg : Nat} {xs : Nat → Int32} {d F : Nat} {x1 : Int32} {S : AmT} {q : Int32 × AmT} (hd : 2 ≤ d) (H : f156 F x1 S = some q) : Ex (am_X Lg xs) d 156 (am_P 156) (am_ini (am_Mi 156).1 [.ref 0, .int x1]) [] (hS S) (some q.1, hS q.2) := by
  obtain ⟨d, rfl⟩ : ∃ d2, d = d2 + 1 := ⟨d - 1, by omega⟩
  unfold f156 at H
  show Ex (am_X Lg xs) _ 156 am_c156_0 [.ref 0, .int x1] [] (hS S) (some q.1, hS q.2)
  refine ex_aload_n rfl ?_
  refine ex_getR (w := 22) rfl rfl rfl ?_
  refine ex_iload_n rfl ?_
  obtain ⟨v1, S2, hp, H⟩ := am_b2_el H
  refine ex_callV rfl rfl (Nat.le_of_ble_eq_true rfl) (Nat.le_of_ble_eq_true rfl) rfl (r21 (by omega) hp) rfl ?_
  by_cases h3 : v1 = 0
  · rw [if_pos h3] at H
    refine ex_if_ne_f h3 ?_
    refine ex_bipush (v := (-2)) (by decide) ?_
    have H := Option.some.inj H
    subst H
    exact ex_iret (M := 156) (Or.inl rfl)
  · rw [if_neg h3] at H
    refine ex_if_ne_j (ct := am_c156_14) h3 rfl ?_
    refine ex_aload_n rfl ?_
    refine ex_getR (w := 5) rfl rfl rfl ?_
    refine ex_aload_n rfl ?_
    refine ex_getR (w := 22) rfl rfl rfl ?_
    refine ex_iload_n rfl ?_
    obtain ⟨v4, S5, hp, H⟩ := am_b2_el H
    refine ex_callV rfl rfl (Nat.le_of_ble_eq_true rfl) (Nat.le_of_ble_eq_true rfl) rfl (r25 (by omega) hp) rfl ?_
    obtain ⟨v6, S7, hp, H⟩ := am_b2_el H
    refine ex_callV rfl rfl (Nat.le_of_ble_eq_true rfl) (Nat.le_of_ble_eq_true rfl) rfl (r129 (by omega) hp) rfl ?_
    have H := Option.some.inj H
    subst H
    exact ex_iret (M := 156) (Or.inl rfl)
-- X9_inner
def f157 (F : Nat) (x1 : Int32) (x2 : Int32) (S : AmT) : Option (Int32 × AmT) := am_b2 (f21 F x1 S) fun v1 S2 => if v1 = 0 then (some ((-2), S2)) else (am_b2 (f194 F x2 0 1 S2) fun v4 S5 => if v4 = 0 then (some ((-1), S5)) else (am_b2 (f26 F x1 x2 S5) fun v7 S8 => am_b2 (f129 F v7 S8) fun v9 S10 => some (v9, S10)))
set_option maxHeartbeats 1000000 in
set_option maxRecDepth 20000 in
theorem r157 {Lg : Nat} {xs : Nat → Int32} {d F : Nat} {x1 : Int32} {x2 : Int32} {S : AmT} {q : Int32 × AmT} (hd : 2 ≤ d) (H : f157 F x1 x2 S = some q) : Ex (am_X Lg xs) d 157 (am_P 157) (am_ini (am_Mi 157).1 [.ref 0, .int x1, .int x2]) [] (hS S) (some q.1, hS q.2) := by
  obtain ⟨d, rfl⟩ : ∃ d2, d = d2 + 1 := ⟨d - 1, by omega⟩
  unfold f157 at H
  show Ex (am_X Lg xs) _ 157 am_c157_0 [.ref 0, .int x1, .int x2] [] (hS S) (some q.1, hS q.2)
  refine ex_aload_n rfl ?_
  refine ex_getR (w := 22) rfl rfl rfl ?_
  refine ex_iload_n rfl ?_
  obtain ⟨v1, S2, hp, H⟩ := am_b2_el H
  refine ex_callV rfl rfl (Nat.le_of_ble_eq_true rfl) (Nat.le_of_ble_eq_true rfl) rfl (r21 (by omega) hp) rfl ?_
  by_cases h3 : v1 = 0
  · rw [if_pos h3] at H
    refine ex_if_ne_f h3 ?_
    refine ex_bipush (v := (-2)) (by decide) ?_
    have H := Option.some.inj H
    subst H
    exact ex_iret (M := 157) (Or.inl rfl)
  · rw [if_neg h3] at H
    refine ex_if_ne_j (ct := am_c157_14) h3 rfl ?_
    refine ex_iload_n rfl ?_
    refine ex_iconst (v := 0) (by decide) ?_
    refine ex_iconst (v := 1) (by decide) ?_
    obtain ⟨v4, S5, hp, H⟩ := am_b2_el H
    refine ex_callS rfl rfl (Nat.le_of_ble_eq_true rfl) (Nat.le_of_ble_eq_true rfl) (r194 (by omega) hp) rfl ?_
    by_cases h6 : v4 = 0
    · rw [if_pos h6] at H
      refine ex_if_ne_f h6 ?_
      refine ex_iconst (v := (-1)) (by decide) ?_
      have H := Option.some.inj H
      subst H
      exact ex_iret (M := 157) (Or.inl rfl)
    · rw [if_neg h6] at H
      refine ex_if_ne_j (ct := am_c157_25) h6 rfl ?_
      refine ex_aload_n rfl ?_
      refine ex_getR (w := 5) rfl rfl rfl ?_
      refine ex_aload_n rfl ?_
      refine ex_getR (w := 22) rfl rfl rfl ?_
      refine ex_iload_n rfl ?_
      refine ex_iload_n rfl ?_
      obtain ⟨v7, S8, hp, H⟩ := am_b2_el H
      refine ex_callV rfl rfl (Nat.le_of_ble_eq_true rfl) (Nat.le_of_ble_eq_true rfl) rfl (r26 (by omega) hp) rfl ?_
      obtain ⟨v9, S10, hp, H⟩ := am_b2_el H
      refine ex_callV rfl rfl (Nat.le_of_ble_eq_true rfl) (Nat.le_of_ble_eq_true rfl) rfl (r129 (by omega) hp) rfl ?_
      have H := Option.some.inj H
      subst H
      exact ex_iret (M := 157) (Or.inl rfl)
-- X9_worth
def f158 (F : Nat) (x1 : Int32) (x2 : Int32) (S : AmT) : Option (Int32 × AmT) := am_b2 (f21 F x1 S) fun v1 S2 => if v1 = 0 then (some ((-2), S2)) else (am_b2 (f194 F x2 0 1 S2) fun v4 S5 => if v4 = 0 then (some ((-1), S5)) else (if x2 = 0 then (am_b2 (f23 F x1 S5) fun v10 S11 => some (v10, S11)) else (am_b2 (f24 F x1 S5) fun v8 S9 => some (v8, S9))))
set_option maxHeartbeats 1000000 in
set_option maxRecDepth 20000 in
theorem r158 {Lg : Nat} {xs : Nat → Int32} {d F : Nat} {x1 : Int32} {x2 : Int32} {S : AmT} {q : Int32 × AmT} (hd : 2 ≤ d) (H : f158 F x1 x2 S = some q) : Ex (am_X Lg xs) d 158 (am_P 158) (am_ini (am_Mi 158).1 [.ref 0, .int x1, .int x2]) [] (hS S) (some q.1, hS q.2) := by
  obtain ⟨d, rfl⟩ : ∃ d2, d = d2 + 1 := ⟨d - 1, by omega⟩
  unfold f158 at H
  show Ex (am_X Lg xs) _ 158 am_c158_0 [.ref 0, .int x1, .int x2] [] (hS S) (some q.1, hS q.2)
  refine ex_aload_n rfl ?_
  refine ex_getR (w := 22) rfl rfl rfl ?_
  refine ex_iload_n rfl ?_
  obtain ⟨v1, S2, hp, H⟩ := am_b2_el H
  refine ex_callV rfl rfl (Nat.le_of_ble_eq_true rfl) (Nat.le_of_ble_eq_true rfl) rfl (r21 (by omega) hp) rfl ?_
  by_cases h3 : v1 = 0
  · rw [if_pos h3] at H
    refine ex_if_ne_f h3 ?_
    refine ex_bipush (v := (-2)) (by decide) ?_
    have H := Option.some.inj H
    subst H
    exact ex_iret (M := 158) (Or.inl rfl)
  · rw [if_neg h3] at H
    refine ex_if_ne_j (ct := am_c158_14) h3 rfl ?_
    refine ex_iload_n rfl ?_
    refine ex_iconst (v := 0) (by decide) ?_
    refine ex_iconst (v := 1) (by decide) ?_
    obtain ⟨v4, S5, hp, H⟩ := am_b2_el H
    refine ex_callS rfl rfl (Nat.le_of_ble_eq_true rfl) (Nat.le_of_ble_eq_true rfl) (r194 (by omega) hp) rfl ?_
    by_cases h6 : v4 = 0
    · rw [if_pos h6] at H
      refine ex_if_ne_f h6 ?_
      refine ex_iconst (v := (-1)) (by decide) ?_
      have H := Option.some.inj H
      subst H
      exact ex_iret (M := 158) (Or.inl rfl)
    · rw [if_neg h6] at H
      refine ex_if_ne_j (ct := am_c158_25) h6 rfl ?_
      refine ex_iload_n rfl ?_
      by_cases h7 : x2 = 0
      · rw [if_pos h7] at H
        refine ex_if_ne_f h7 ?_
        refine ex_aload_n rfl ?_
        refine ex_getR (w := 22) rfl rfl rfl ?_
        refine ex_iload_n rfl ?_
        obtain ⟨v10, S11, hp, H⟩ := am_b2_el H
        refine ex_callV rfl rfl (Nat.le_of_ble_eq_true rfl) (Nat.le_of_ble_eq_true rfl) rfl (r23 (by omega) hp) rfl ?_
        refine ex_goto (ct := am_c158_48) rfl ?_
        have H := Option.some.inj H
        subst H
        exact ex_iret (M := 158) (Or.inl rfl)
      · rw [if_neg h7] at H
        refine ex_if_ne_j (ct := am_c158_40) h7 rfl ?_
        refine ex_aload_n rfl ?_
        refine ex_getR (w := 22) rfl rfl rfl ?_
        refine ex_iload_n rfl ?_
        obtain ⟨v8, S9, hp, H⟩ := am_b2_el H
        refine ex_callV rfl rfl (Nat.le_of_ble_eq_true rfl) (Nat.le_of_ble_eq_true rfl) rfl (r24 (by omega) hp) rfl ?_
        have H := Option.some.inj H
        subst H
        exact ex_iret (M := 158) (Or.inl rfl)
def g175_41 (F : Nat) (S : AmT) : Option (Int32 × AmT) := am_b2 (f129 F (-12) S) fun v8 S9 => some (v8, S9)
-- X9_creep
def f175 (F : Nat) (x1 : Int32) (x2 : Int32) (x3 : Int32) (S : AmT) : Option (Int32 × AmT) := am_b2 (f2 F x1 S) fun v1 S2 => if v1 = 0 then (some ((-2), S2)) else (am_b2 (f21 F x2 S2) fun v4 S5 => if v4 = 0 then (some ((-2), S5)) else (if x3 < 0 then (g175_41 F S5) else (am_b2 (f4 F x1 S5) fun v10 S11 => if x3 < v10 then (am_b2 (f5 F x1 S11) fun v13 S14 => if v13 = 0 then (some (0, S14)) else (am_b2 (f23 F x2 S14) fun v16 S17 => some ((x3 * v16), S17))) else (g175_41 F S11))))
set_option maxHeartbeats 1000000 in
set_option maxRecDepth 20000 in
theorem e175_41 {Lg : Nat} {xs : Nat → Int32} {d F : Nat} {w1 : Value} {w2 : Value} {w3 : Value} {S : AmT} {q : Int32 × AmT} (hd : 2 ≤ d) (H : g175_41 F S = some q) : Ex (am_X Lg xs) d 175 am_c175_41 [.ref 0, w1, w2, w3] [] (hS S) (some q.1, hS q.2) := by
  obtain ⟨d, rfl⟩ : ∃ d2, d = d2 + 1 := ⟨d - 1, by omega⟩
  unfold g175_41 at H
  refine ex_aload_n rfl ?_
  refine ex_getR (w := 5) rfl rfl rfl ?_
  refine ex_bipush (v := (-12)) (by decide) ?_
  obtain ⟨v8, S9, hp, H⟩ := am_b2_el H
  refine ex_callV rfl rfl (Nat.le_of_ble_eq_true rfl) (Nat.le_of_ble_eq_true rfl) rfl (r129 (by omega) hp) rfl ?_
  have H := Option.some.inj H
  subst H
  exact ex_iret (M := 175) (Or.inl rfl)
set_option maxHeartbeats 1000000 in
set_option maxRecDepth 20000 in
theorem r175 {Lg : Nat} {xs : Nat → Int32} {d F : Nat} {x1 : Int32} {x2 : Int32} {x3 : Int32} {S : AmT} {q : Int32 × AmT} (hd : 2 ≤ d) (H : f175 F x1 x2 x3 S = some q) : Ex (am_X Lg xs) d 175 (am_P 175) (am_ini (am_Mi 175).1 [.ref 0, .int x1, .int x2, .int x3]) [] (hS S) (some q.1, hS q.2) := by
  obtain ⟨d, rfl⟩ : ∃ d2, d = d2 + 1 := ⟨d - 1, by omega⟩
  unfold f175 at H
  show Ex (am_X Lg xs) _ 175 am_c175_0 [.ref 0, .int x1, .int x2, .int x3] [] (hS S) (some q.1, hS q.2)
  refine ex_aload_n rfl ?_
  refine ex_getR (w := 69) rfl rfl rfl ?_
  refine ex_iload_n rfl ?_
  obtain ⟨v1, S2, hp, H⟩ := am_b2_el H
  refine ex_callV rfl rfl (Nat.le_of_ble_eq_true rfl) (Nat.le_of_ble_eq_true rfl) rfl (r2 (by omega) hp) rfl ?_
  by_cases h3 : v1 = 0
  · rw [if_pos h3] at H
    refine ex_if_eq_j (ct := am_c175_22) h3 rfl ?_
    refine ex_bipush (v := (-2)) (by decide) ?_
    have H := Option.some.inj H
    subst H
    exact ex_iret (M := 175) (Or.inl rfl)
  · rw [if_neg h3] at H
    refine ex_if_eq_f h3 ?_
    refine ex_aload_n rfl ?_
    refine ex_getR (w := 22) rfl rfl rfl ?_
    refine ex_iload_n rfl ?_
    obtain ⟨v4, S5, hp, H⟩ := am_b2_el H
    refine ex_callV rfl rfl (Nat.le_of_ble_eq_true rfl) (Nat.le_of_ble_eq_true rfl) rfl (r21 (by omega) hp) rfl ?_
    by_cases h6 : v4 = 0
    · rw [if_pos h6] at H
      refine ex_if_ne_f h6 ?_
      refine ex_bipush (v := (-2)) (by decide) ?_
      have H := Option.some.inj H
      subst H
      exact ex_iret (M := 175) (Or.inl rfl)
    · rw [if_neg h6] at H
      refine ex_if_ne_j (ct := am_c175_25) h6 rfl ?_
      refine ex_iload_n rfl ?_
      by_cases h7 : x3 < 0
      · rw [if_pos h7] at H
        refine ex_if_lt_j (ct := am_c175_41) h7 rfl ?_
        exact e175_41 hd H
      · rw [if_neg h7] at H
        refine ex_if_lt_f h7 ?_
        refine ex_iload_n rfl ?_
        refine ex_aload_n rfl ?_
        refine ex_getR (w := 69) rfl rfl rfl ?_
        refine ex_iload_n rfl ?_
        obtain ⟨v10, S11, hp, H⟩ := am_b2_el H
        refine ex_callV rfl rfl (Nat.le_of_ble_eq_true rfl) (Nat.le_of_ble_eq_true rfl) rfl (r4 (by omega) hp) rfl ?_
        by_cases h12 : x3 < v10
        · rw [if_pos h12] at H
          refine ex_icmp_lt_j (ct := am_c175_51) h12 rfl ?_
          refine ex_aload_n rfl ?_
          refine ex_getR (w := 69) rfl rfl rfl ?_
          refine ex_iload_n rfl ?_
          obtain ⟨v13, S14, hp, H⟩ := am_b2_el H
          refine ex_callV rfl rfl (Nat.le_of_ble_eq_true rfl) (Nat.le_of_ble_eq_true rfl) rfl (r5 (by omega) hp) rfl ?_
          by_cases h15 : v13 = 0
          · rw [if_pos h15] at H
            refine ex_if_eq_j (ct := am_c175_75) h15 rfl ?_
            refine ex_iconst (v := 0) (by decide) ?_
            have H := Option.some.inj H
            subst H
            exact ex_iret (M := 175) (Or.inl rfl)
          · rw [if_neg h15] at H
            refine ex_if_eq_f h15 ?_
            refine ex_iload_n rfl ?_
            refine ex_aload_n rfl ?_
            refine ex_getR (w := 22) rfl rfl rfl ?_
            refine ex_iload_n rfl ?_
            obtain ⟨v16, S17, hp, H⟩ := am_b2_el H
            refine ex_callV rfl rfl (Nat.le_of_ble_eq_true rfl) (Nat.le_of_ble_eq_true rfl) rfl (r23 (by omega) hp) rfl ?_
            refine ex_imul ?_
            refine ex_goto (ct := am_c175_76) rfl ?_
            have H := Option.some.inj H
            subst H
            exact ex_iret (M := 175) (Or.inl rfl)
        · rw [if_neg h12] at H
          refine ex_icmp_lt_f h12 ?_
          exact e175_41 hd H
