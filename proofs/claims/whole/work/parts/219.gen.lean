/-! printed by wip/gen/gen20.py -/
def g14_48 (F : Nat) : Nat → Int32 → Int32 → AmT → Option (Int32 × AmT)
  | 0, _, _, _ => none
  | n + 1, x3, x4, S => if (kg S.1 81 1 0) ≤ x4 then (some ((-12), S)) else (am_b2 (f9 F (kg S.1 83 4 x4) x3 S) fun v3 S4 => if v3 < 0 then (am_b2 (f15 F (kg S4.1 83 4 x4) S4) fun v6 S7 => g14_48 F n (x3 - v6) (x4 + 1) S7) else (am_b2 (f114 F (v3 / 128) (v3 - v3 / 128 * 128) S4) fun v8 S9 => some (v8, S9)))
def g14_2 (F : Nat) : Nat → Int32 → Int32 → Int32 → AmT → Option (Int32 × AmT)
  | 0, _, _, _, _ => none
  | n + 1, x1, x2, x3, S => if (kg S.1 81 1 0) ≤ x3 then (g14_48 F F x2 0 S) else (am_b2 (f8 F (kg S.1 83 4 x3) x1 S) fun v10 S11 => if 0 ≤ v10 then (g14_2 F n x1 x2 (x3 + 1) S11) else (some (v10, S11)))
-- X0_readFace
def f14 (F : Nat) (x1 : Int32) (x2 : Int32) (S : AmT) : Option (Int32 × AmT) := g14_2 F F x1 x2 0 S
set_option maxHeartbeats 1000000 in
set_option maxRecDepth 20000 in
theorem e14_48 {Lg : Nat} {xs : Nat → Int32} {d F : Nat} (hd : 6 ≤ d) : ∀ (n : Nat) (x3 : Int32) (x4 : Int32) (w1 : Value) (w2 : Value) (w5 : Value) (S : AmT) (q : Int32 × AmT), g14_48 F n x3 x4 S = some q → Ex (am_X Lg xs) d 14 am_c14_48 [.ref 69, w1, w2, .int x3, .int x4, w5] [] (hS S) (some q.1, hS q.2) := by
  obtain ⟨d, rfl⟩ : ∃ d2, d = d2 + 1 := ⟨d - 1, by omega⟩
  intro n
  induction n with
  | zero =>
    intro x3 x4 w1 w2 w5 S q H
    cases H
  | succ n ih =>
    intro x3 x4 w1 w2 w5 S q H
    have H : (if (kg S.1 81 1 0) ≤ x4 then (some ((-12), S)) else (am_b2 (f9 F (kg S.1 83 4 x4) x3 S) fun v3 S4 => if v3 < 0 then (am_b2 (f15 F (kg S4.1 83 4 x4) S4) fun v6 S7 => g14_48 F n (x3 - v6) (x4 + 1) S7) else (am_b2 (f114 F (v3 / 128) (v3 - v3 / 128 * 128) S4) fun v8 S9 => some (v8, S9)))) = some q := H
    refine ex_iload rfl ?_
    refine ex_aload_n rfl ?_
    refine ex_getR (w := 80) rfl rfl rfl ?_
    refine ex_iconst (v := 0) (by decide) ?_
    refine ex_kget (c := 80) (ar := 81) (n := 1) rfl (Nat.le_of_ble_eq_true rfl) ?_
    by_cases h2 : (kg S.1 81 1 0) ≤ x4
    · rw [if_pos h2] at H
      refine ex_icmp_ge_j (ct := am_c14_124) h2 rfl ?_
      refine ex_bipush (v := (-12)) (by decide) ?_
      have H := Option.some.inj H
      subst H
      exact ex_iret (M := 14) (Or.inl rfl)
    · rw [if_neg h2] at H
      refine ex_icmp_ge_f h2 ?_
      refine ex_aload_n rfl ?_
      refine ex_aload_n rfl ?_
      refine ex_getR (w := 82) rfl rfl rfl ?_
      refine ex_iload rfl ?_
      refine ex_kget (c := 82) (ar := 83) (n := 4) rfl (Nat.le_of_ble_eq_true rfl) ?_
      refine ex_iload_n rfl ?_
      obtain ⟨v3, S4, hp, H⟩ := am_b2_el H
      refine ex_callV rfl rfl (Nat.le_of_ble_eq_true rfl) (Nat.le_of_ble_eq_true rfl) rfl (r9 (by omega) hp) rfl ?_
      refine ex_istore (L2 := [.ref 69, w1, w2, .int x3, .int x4, .int v3]) (Nat.le_of_ble_eq_true rfl) rfl ?_
      refine ex_iload rfl ?_
      by_cases h5 : v3 < 0
      · rw [if_pos h5] at H
        refine ex_if_lt_j (ct := am_c14_102) h5 rfl ?_
        refine ex_iload_n rfl ?_
        refine ex_aload_n rfl ?_
        refine ex_aload_n rfl ?_
        refine ex_getR (w := 82) rfl rfl rfl ?_
        refine ex_iload rfl ?_
        refine ex_kget (c := 82) (ar := 83) (n := 4) rfl (Nat.le_of_ble_eq_true rfl) ?_
        obtain ⟨v6, S7, hp, H⟩ := am_b2_el H
        refine ex_callV rfl rfl (Nat.le_of_ble_eq_true rfl) (Nat.le_of_ble_eq_true rfl) rfl (r15 (by omega) hp) rfl ?_
        refine ex_isub ?_
        refine ex_istore_n (L2 := [.ref 69, w1, w2, .int (x3 - v6), .int x4, .int v3]) (Nat.le_of_ble_eq_true rfl) rfl ?_
        refine ex_iinc (L2 := [.ref 69, w1, w2, .int (x3 - v6), .int (x4 + 1), .int v3]) (v := (x4 + 1)) rfl (Nat.le_of_ble_eq_true rfl) (congrArg (fun z => x4 + z) (by decide)) rfl ?_
        refine ex_goto (ct := am_c14_48) rfl ?_
        exact ih _ _ _ _ _ _ _ H
      · rw [if_neg h5] at H
        refine ex_if_lt_f h5 ?_
        refine ex_aload_n rfl ?_
        refine ex_getR (w := 46) rfl rfl rfl ?_
        refine ex_iload rfl ?_
        refine ex_sipush (v := 128) (by decide) ?_
        refine ex_idiv (by decide) ?_
        refine ex_iload rfl ?_
        refine ex_sipush (v := 128) (by decide) ?_
        refine ex_irem (by decide) ?_
        obtain ⟨v8, S9, hp, H⟩ := am_b2_el H
        refine ex_callV rfl rfl (Nat.le_of_ble_eq_true rfl) (Nat.le_of_ble_eq_true rfl) rfl (r114 (by omega) hp) rfl ?_
        have H := Option.some.inj H
        subst H
        exact ex_iret (M := 14) (Or.inl rfl)
set_option maxHeartbeats 1000000 in
set_option maxRecDepth 20000 in
theorem e14_2 {Lg : Nat} {xs : Nat → Int32} {d F : Nat} (hd : 6 ≤ d) : ∀ (n : Nat) (x1 : Int32) (x2 : Int32) (x3 : Int32) (w4 : Value) (w5 : Value) (S : AmT) (q : Int32 × AmT), g14_2 F n x1 x2 x3 S = some q → Ex (am_X Lg xs) d 14 am_c14_2 [.ref 69, .int x1, .int x2, .int x3, w4, w5] [] (hS S) (some q.1, hS q.2) := by
  obtain ⟨d, rfl⟩ : ∃ d2, d = d2 + 1 := ⟨d - 1, by omega⟩
  intro n
  induction n with
  | zero =>
    intro x1 x2 x3 w4 w5 S q H
    cases H
  | succ n ih =>
    intro x1 x2 x3 w4 w5 S q H
    have H : (if (kg S.1 81 1 0) ≤ x3 then (g14_48 F F x2 0 S) else (am_b2 (f8 F (kg S.1 83 4 x3) x1 S) fun v10 S11 => if 0 ≤ v10 then (g14_2 F n x1 x2 (x3 + 1) S11) else (some (v10, S11)))) = some q := H
    refine ex_iload_n rfl ?_
    refine ex_aload_n rfl ?_
    refine ex_getR (w := 80) rfl rfl rfl ?_
    refine ex_iconst (v := 0) (by decide) ?_
    refine ex_kget (c := 80) (ar := 81) (n := 1) rfl (Nat.le_of_ble_eq_true rfl) ?_
    by_cases h1 : (kg S.1 81 1 0) ≤ x3
    · rw [if_pos h1] at H
      refine ex_icmp_ge_j (ct := am_c14_43) h1 rfl ?_
      refine ex_iload_n rfl ?_
      refine ex_istore_n (L2 := [.ref 69, .int x1, .int x2, .int x2, w4, w5]) (Nat.le_of_ble_eq_true rfl) rfl ?_
      refine ex_iconst (v := 0) (by decide) ?_
      refine ex_istore (L2 := [.ref 69, .int x1, .int x2, .int x2, .int 0, w5]) (Nat.le_of_ble_eq_true rfl) rfl ?_
      exact e14_48 hd _ _ _ _ _ _ _ _ H
    · rw [if_neg h1] at H
      refine ex_icmp_ge_f h1 ?_
      refine ex_aload_n rfl ?_
      refine ex_aload_n rfl ?_
      refine ex_getR (w := 82) rfl rfl rfl ?_
      refine ex_iload_n rfl ?_
      refine ex_kget (c := 82) (ar := 83) (n := 4) rfl (Nat.le_of_ble_eq_true rfl) ?_
      refine ex_iload_n rfl ?_
      obtain ⟨v10, S11, hp, H⟩ := am_b2_el H
      refine ex_callV rfl rfl (Nat.le_of_ble_eq_true rfl) (Nat.le_of_ble_eq_true rfl) rfl (r8 (by omega) hp) rfl ?_
      refine ex_istore (L2 := [.ref 69, .int x1, .int x2, .int x3, .int v10, w5]) (Nat.le_of_ble_eq_true rfl) rfl ?_
      refine ex_iload rfl ?_
      by_cases h12 : 0 ≤ v10
      · rw [if_pos h12] at H
        refine ex_if_ge_j (ct := am_c14_37) h12 rfl ?_
        refine ex_iinc (L2 := [.ref 69, .int x1, .int x2, .int (x3 + 1), .int v10, w5]) (v := (x3 + 1)) rfl (Nat.le_of_ble_eq_true rfl) (congrArg (fun z => x3 + z) (by decide)) rfl ?_
        refine ex_goto (ct := am_c14_2) rfl ?_
        exact ih _ _ _ _ _ _ _ H
      · rw [if_neg h12] at H
        refine ex_if_ge_f h12 ?_
        refine ex_iload rfl ?_
        have H := Option.some.inj H
        subst H
        exact ex_iret (M := 14) (Or.inl rfl)
set_option maxHeartbeats 1000000 in
set_option maxRecDepth 20000 in
theorem r14 {Lg : Nat} {xs : Nat → Int32} {d F : Nat} {x1 : Int32} {x2 : Int32} {S : AmT} {q : Int32 × AmT} (hd : 6 ≤ d) (H : f14 F x1 x2 S = some q) : Ex (am_X Lg xs) d 14 (am_P 14) (am_ini (am_Mi 14).1 [.ref 69, .int x1, .int x2]) [] (hS S) (some q.1, hS q.2) := by
  obtain ⟨d, rfl⟩ : ∃ d2, d = d2 + 1 := ⟨d - 1, by omega⟩
  unfold f14 at H
  show Ex (am_X Lg xs) _ 14 am_c14_0 [.ref 69, .int x1, .int x2, .long 0, .long 0, .long 0] [] (hS S) (some q.1, hS q.2)
  refine ex_iconst (v := 0) (by decide) ?_
  refine ex_istore_n (L2 := [.ref 69, .int x1, .int x2, .int 0, .long 0, .long 0]) (Nat.le_of_ble_eq_true rfl) rfl ?_
  exact e14_2 hd _ _ _ _ _ _ _ _ H
def g87_47 (F : Nat) (x2 : Int32) (s0 : Int32) (S : AmT) : Option (Int32 × AmT) := if 0 ≤ s0 then ((f125 F x2 S).bind fun S9 => some (1, S9)) else (am_b2 (f129 F s0 S) fun v10 S11 => am_b2 (f130 F v10 S11) fun v12 S13 => (f126 F x2 v12 S13).bind fun S14 => some (0, S14))
-- X6_workAt
def f87 (F : Nat) (x1 : Int32) (S : AmT) : Option (Int32 × AmT) := am_b2 (f123 F x1 S) fun v1 S2 => if 0 ≤ v1 then ((f134 F S2).bind fun S4 => if (kg S4.1 88 5 x1) = 0 then (am_b2 (f89 F v1 x1 S4) fun v6 S7 => g87_47 F v1 v6 S7) else (am_b2 (f88 F x1 S4) fun v15 S16 => g87_47 F v1 v15 S16)) else (some (0, S2))
set_option maxHeartbeats 1000000 in
set_option maxRecDepth 20000 in
theorem e87_47 {Lg : Nat} {xs : Nat → Int32} {d F : Nat} {x2 : Int32} {s0 : Int32} {w1 : Value} {w3 : Value} {S : AmT} {q : Int32 × AmT} (hd : 6 ≤ d) (H : g87_47 F x2 s0 S = some q) : Ex (am_X Lg xs) d 87 am_c87_47 [.ref 86, w1, .int x2, w3] [.int s0] (hS S) (some q.1, hS q.2) := by
  obtain ⟨d, rfl⟩ : ∃ d2, d = d2 + 1 := ⟨d - 1, by omega⟩
  unfold g87_47 at H
  refine ex_istore_n (L2 := [.ref 86, w1, .int x2, .int s0]) (Nat.le_of_ble_eq_true rfl) rfl ?_
  refine ex_iload_n rfl ?_
  by_cases h8 : 0 ≤ s0
  · rw [if_pos h8] at H
    refine ex_if_ge_j (ct := am_c87_73) h8 rfl ?_
    refine ex_aload_n rfl ?_
    refine ex_getR (w := 46) rfl rfl rfl ?_
    refine ex_iload_n rfl ?_
    obtain ⟨S9, hp, H⟩ := Option.bind_eq_some_iff.mp H
    refine ex_callV rfl rfl (Nat.le_of_ble_eq_true rfl) (Nat.le_of_ble_eq_true rfl) rfl (r125 (by omega) hp) rfl ?_
    refine ex_iconst (v := 1) (by decide) ?_
    have H := Option.some.inj H
    subst H
    exact ex_iret (M := 87) (Or.inl rfl)
  · rw [if_neg h8] at H
    refine ex_if_ge_f h8 ?_
    refine ex_aload_n rfl ?_
    refine ex_getR (w := 46) rfl rfl rfl ?_
    refine ex_iload_n rfl ?_
    refine ex_aload_n rfl ?_
    refine ex_getR (w := 5) rfl rfl rfl ?_
    refine ex_iload_n rfl ?_
    obtain ⟨v10, S11, hp, H⟩ := am_b2_el H
    refine ex_callV rfl rfl (Nat.le_of_ble_eq_true rfl) (Nat.le_of_ble_eq_true rfl) rfl (r129 (by omega) hp) rfl ?_
    obtain ⟨v12, S13, hp, H⟩ := am_b2_el H
    refine ex_callS rfl rfl (Nat.le_of_ble_eq_true rfl) (Nat.le_of_ble_eq_true rfl) (r130 (by omega) hp) rfl ?_
    obtain ⟨S14, hp, H⟩ := Option.bind_eq_some_iff.mp H
    refine ex_callV rfl rfl (Nat.le_of_ble_eq_true rfl) (Nat.le_of_ble_eq_true rfl) rfl (r126 (by omega) hp) rfl ?_
    refine ex_iconst (v := 0) (by decide) ?_
    have H := Option.some.inj H
    subst H
    exact ex_iret (M := 87) (Or.inl rfl)
set_option maxHeartbeats 1000000 in
set_option maxRecDepth 20000 in
theorem r87 {Lg : Nat} {xs : Nat → Int32} {d F : Nat} {x1 : Int32} {S : AmT} {q : Int32 × AmT} (hd : 6 ≤ d) (H : f87 F x1 S = some q) : Ex (am_X Lg xs) d 87 (am_P 87) (am_ini (am_Mi 87).1 [.ref 86, .int x1]) [] (hS S) (some q.1, hS q.2) := by
  obtain ⟨d, rfl⟩ : ∃ d2, d = d2 + 1 := ⟨d - 1, by omega⟩
  unfold f87 at H
  show Ex (am_X Lg xs) _ 87 am_c87_0 [.ref 86, .int x1, .long 0, .long 0] [] (hS S) (some q.1, hS q.2)
  refine ex_aload_n rfl ?_
  refine ex_getR (w := 46) rfl rfl rfl ?_
  refine ex_iload_n rfl ?_
  obtain ⟨v1, S2, hp, H⟩ := am_b2_el H
  refine ex_callV rfl rfl (Nat.le_of_ble_eq_true rfl) (Nat.le_of_ble_eq_true rfl) rfl (r123 (by omega) hp) rfl ?_
  refine ex_istore_n (L2 := [.ref 86, .int x1, .int v1, .long 0]) (Nat.le_of_ble_eq_true rfl) rfl ?_
  refine ex_iload_n rfl ?_
  by_cases h3 : 0 ≤ v1
  · rw [if_pos h3] at H
    refine ex_if_ge_j (ct := am_c87_15) h3 rfl ?_
    refine ex_aload_n rfl ?_
    refine ex_getR (w := 5) rfl rfl rfl ?_
    obtain ⟨S4, hp, H⟩ := Option.bind_eq_some_iff.mp H
    refine ex_callV rfl rfl (Nat.le_of_ble_eq_true rfl) (Nat.le_of_ble_eq_true rfl) rfl (r134 (by omega) hp) rfl ?_
    refine ex_aload_n rfl ?_
    refine ex_getR (w := 87) rfl rfl rfl ?_
    refine ex_iload_n rfl ?_
    refine ex_kget (c := 87) (ar := 88) (n := 5) rfl (Nat.le_of_ble_eq_true rfl) ?_
    by_cases h5 : (kg S4.1 88 5 x1) = 0
    · rw [if_pos h5] at H
      refine ex_if_eq_j (ct := am_c87_41) h5 rfl ?_
      refine ex_aload_n rfl ?_
      refine ex_iload_n rfl ?_
      refine ex_iload_n rfl ?_
      obtain ⟨v6, S7, hp, H⟩ := am_b2_el H
      refine ex_callV rfl rfl (Nat.le_of_ble_eq_true rfl) (Nat.le_of_ble_eq_true rfl) rfl (r89 (by omega) hp) rfl ?_
      exact e87_47 hd H
    · rw [if_neg h5] at H
      refine ex_if_eq_f h5 ?_
      refine ex_aload_n rfl ?_
      refine ex_iload_n rfl ?_
      obtain ⟨v15, S16, hp, H⟩ := am_b2_el H
      refine ex_callV rfl rfl (Nat.le_of_ble_eq_true rfl) (Nat.le_of_ble_eq_true rfl) rfl (r88 (by omega) hp) rfl ?_
      refine ex_goto (ct := am_c87_47) rfl ?_
      exact e87_47 hd H
  · rw [if_neg h3] at H
    refine ex_if_ge_f h3 ?_
    refine ex_iconst (v := 0) (by decide) ?_
    have H := Option.some.inj H
    subst H
    exact ex_iret (M := 87) (Or.inl rfl)
def g159_62 (F : Nat) (S : AmT) : Option (Int32 × AmT) := am_b2 (f129 F (-12) S) fun v11 S12 => some (v11, S12)
-- X9_face
def f159 (F : Nat) (x1 : Int32) (x2 : Int32) (x3 : Int32) (x4 : Int32) (x5 : Int32) (S : AmT) : Option (Int32 × AmT) := am_b2 (f21 F x1 S) fun v1 S2 => if v1 = 0 then (some ((-2), S2)) else (am_b2 (f194 F x5 0 3 S2) fun v4 S5 => if v4 = 0 then (some ((-1), S5)) else (am_b2 (f161 F x1 x2 x3 S5) fun v7 S8 => if 0 ≤ v7 then (if x4 < 0 then (g159_62 F S8) else (if x4 < v7 then (am_b2 (f31 F 0 x4 x5 S8) fun v14 S15 => some (v14, S15)) else (g159_62 F S8))) else (am_b2 (f129 F v7 S8) fun v16 S17 => some (v16, S17))))
set_option maxHeartbeats 1000000 in
set_option maxRecDepth 20000 in
theorem e159_62 {Lg : Nat} {xs : Nat → Int32} {d F : Nat} {w1 : Value} {w2 : Value} {w3 : Value} {w4 : Value} {w5 : Value} {w6 : Value} {S : AmT} {q : Int32 × AmT} (hd : 6 ≤ d) (H : g159_62 F S = some q) : Ex (am_X Lg xs) d 159 am_c159_62 [.ref 0, w1, w2, w3, w4, w5, w6] [] (hS S) (some q.1, hS q.2) := by
  obtain ⟨d, rfl⟩ : ∃ d2, d = d2 + 1 := ⟨d - 1, by omega⟩
  unfold g159_62 at H
  refine ex_aload_n rfl ?_
  refine ex_getR (w := 5) rfl rfl rfl ?_
  refine ex_bipush (v := (-12)) (by decide) ?_
  obtain ⟨v11, S12, hp, H⟩ := am_b2_el H
  refine ex_callV rfl rfl (Nat.le_of_ble_eq_true rfl) (Nat.le_of_ble_eq_true rfl) rfl (r129 (by omega) hp) rfl ?_
  refine ex_goto (ct := am_c159_86) rfl ?_
  have H := Option.some.inj H
  subst H
  exact ex_iret (M := 159) (Or.inl rfl)
set_option maxHeartbeats 1000000 in
set_option maxRecDepth 20000 in
theorem r159 {Lg : Nat} {xs : Nat → Int32} {d F : Nat} {x1 : Int32} {x2 : Int32} {x3 : Int32} {x4 : Int32} {x5 : Int32} {S : AmT} {q : Int32 × AmT} (hd : 6 ≤ d) (H : f159 F x1 x2 x3 x4 x5 S = some q) : Ex (am_X Lg xs) d 159 (am_P 159) (am_ini (am_Mi 159).1 [.ref 0, .int x1, .int x2, .int x3, .int x4, .int x5]) [] (hS S) (some q.1, hS q.2) := by
  obtain ⟨d, rfl⟩ : ∃ d2, d = d2 + 1 := ⟨d - 1, by omega⟩
  unfold f159 at H
  show Ex (am_X Lg xs) _ 159 am_c159_0 [.ref 0, .int x1, .int x2, .int x3, .int x4, .int x5, .long 0] [] (hS S) (some q.1, hS q.2)
  refine ex_aload_n rfl ?_
  refine ex_getR (w := 22) rfl rfl rfl ?_
  refine ex_iload_n rfl ?_
  obtain ⟨v1, S2, hp, H⟩ := am_b2_el H
  refine ex_callV rfl rfl (Nat.le_of_ble_eq_true rfl) (Nat.le_of_ble_eq_true rfl) rfl (r21 (by omega) hp) rfl ?_
  by_cases h3 : v1 = 0
  · rw [if_pos h3] at H
    refine ex_if_ne_f h3 ?_
    refine ex_bipush (v := (-2)) (by decide) ?_
    have H := Option.some.inj H
    subst H
    exact ex_iret (M := 159) (Or.inl rfl)
  · rw [if_neg h3] at H
    refine ex_if_ne_j (ct := am_c159_14) h3 rfl ?_
    refine ex_iload rfl ?_
    refine ex_iconst (v := 0) (by decide) ?_
    refine ex_iconst (v := 3) (by decide) ?_
    obtain ⟨v4, S5, hp, H⟩ := am_b2_el H
    refine ex_callS rfl rfl (Nat.le_of_ble_eq_true rfl) (Nat.le_of_ble_eq_true rfl) (r194 (by omega) hp) rfl ?_
    by_cases h6 : v4 = 0
    · rw [if_pos h6] at H
      refine ex_if_ne_f h6 ?_
      refine ex_iconst (v := (-1)) (by decide) ?_
      have H := Option.some.inj H
      subst H
      exact ex_iret (M := 159) (Or.inl rfl)
    · rw [if_neg h6] at H
      refine ex_if_ne_j (ct := am_c159_26) h6 rfl ?_
      refine ex_aload_n rfl ?_
      refine ex_iload_n rfl ?_
      refine ex_iload_n rfl ?_
      refine ex_iload_n rfl ?_
      obtain ⟨v7, S8, hp, H⟩ := am_b2_el H
      refine ex_callV rfl rfl (Nat.le_of_ble_eq_true rfl) (Nat.le_of_ble_eq_true rfl) rfl (r161 (by omega) hp) rfl ?_
      refine ex_istore (L2 := [.ref 0, .int x1, .int x2, .int x3, .int x4, .int x5, .int v7]) (Nat.le_of_ble_eq_true rfl) rfl ?_
      refine ex_iload rfl ?_
      by_cases h9 : 0 ≤ v7
      · rw [if_pos h9] at H
        refine ex_if_ge_j (ct := am_c159_50) h9 rfl ?_
        refine ex_iload rfl ?_
        by_cases h10 : x4 < 0
        · rw [if_pos h10] at H
          refine ex_if_lt_j (ct := am_c159_62) h10 rfl ?_
          exact e159_62 hd H
        · rw [if_neg h10] at H
          refine ex_if_lt_f h10 ?_
          refine ex_iload rfl ?_
          refine ex_iload rfl ?_
          by_cases h13 : x4 < v7
          · rw [if_pos h13] at H
            refine ex_icmp_lt_j (ct := am_c159_74) h13 rfl ?_
            refine ex_aload_n rfl ?_
            refine ex_getR (w := 22) rfl rfl rfl ?_
            refine ex_iconst (v := 0) (by decide) ?_
            refine ex_iload rfl ?_
            refine ex_iload rfl ?_
            obtain ⟨v14, S15, hp, H⟩ := am_b2_el H
            refine ex_callV rfl rfl (Nat.le_of_ble_eq_true rfl) (Nat.le_of_ble_eq_true rfl) rfl (r31 (by omega) hp) rfl ?_
            have H := Option.some.inj H
            subst H
            exact ex_iret (M := 159) (Or.inl rfl)
          · rw [if_neg h13] at H
            refine ex_icmp_lt_f h13 ?_
            exact e159_62 hd H
      · rw [if_neg h9] at H
        refine ex_if_ge_f h9 ?_
        refine ex_aload_n rfl ?_
        refine ex_getR (w := 5) rfl rfl rfl ?_
        refine ex_iload rfl ?_
        obtain ⟨v16, S17, hp, H⟩ := am_b2_el H
        refine ex_callV rfl rfl (Nat.le_of_ble_eq_true rfl) (Nat.le_of_ble_eq_true rfl) rfl (r129 (by omega) hp) rfl ?_
        have H := Option.some.inj H
        subst H
        exact ex_iret (M := 159) (Or.inl rfl)
-- X9_faces
def f160 (F : Nat) (x1 : Int32) (x2 : Int32) (x3 : Int32) (S : AmT) : Option (Int32 × AmT) := am_b2 (f21 F x1 S) fun v1 S2 => if v1 = 0 then (some ((-2), S2)) else (am_b2 (f161 F x1 x2 x3 S2) fun v4 S5 => am_b2 (f129 F v4 S5) fun v6 S7 => some (v6, S7))
set_option maxHeartbeats 1000000 in
set_option maxRecDepth 20000 in
theorem r160 {Lg : Nat} {xs : Nat → Int32} {d F : Nat} {x1 : Int32} {x2 : Int32} {x3 : Int32} {S : AmT} {q : Int32 × AmT} (hd : 6 ≤ d) (H : f160 F x1 x2 x3 S = some q) : Ex (am_X Lg xs) d 160 (am_P 160) (am_ini (am_Mi 160).1 [.ref 0, .int x1, .int x2, .int x3]) [] (hS S) (some q.1, hS q.2) := by
  obtain ⟨d, rfl⟩ : ∃ d2, d = d2 + 1 := ⟨d - 1, by omega⟩
  unfold f160 at H
  show Ex (am_X Lg xs) _ 160 am_c160_0 [.ref 0, .int x1, .int x2, .int x3] [] (hS S) (some q.1, hS q.2)
  refine ex_aload_n rfl ?_
  refine ex_getR (w := 22) rfl rfl rfl ?_
  refine ex_iload_n rfl ?_
  obtain ⟨v1, S2, hp, H⟩ := am_b2_el H
  refine ex_callV rfl rfl (Nat.le_of_ble_eq_true rfl) (Nat.le_of_ble_eq_true rfl) rfl (r21 (by omega) hp) rfl ?_
  by_cases h3 : v1 = 0
  · rw [if_pos h3] at H
    refine ex_if_ne_f h3 ?_
    refine ex_bipush (v := (-2)) (by decide) ?_
    have H := Option.some.inj H
    subst H
    exact ex_iret (M := 160) (Or.inl rfl)
  · rw [if_neg h3] at H
    refine ex_if_ne_j (ct := am_c160_14) h3 rfl ?_
    refine ex_aload_n rfl ?_
    refine ex_getR (w := 5) rfl rfl rfl ?_
    refine ex_aload_n rfl ?_
    refine ex_iload_n rfl ?_
    refine ex_iload_n rfl ?_
    refine ex_iload_n rfl ?_
    obtain ⟨v4, S5, hp, H⟩ := am_b2_el H
    refine ex_callV rfl rfl (Nat.le_of_ble_eq_true rfl) (Nat.le_of_ble_eq_true rfl) rfl (r161 (by omega) hp) rfl ?_
    obtain ⟨v6, S7, hp, H⟩ := am_b2_el H
    refine ex_callV rfl rfl (Nat.le_of_ble_eq_true rfl) (Nat.le_of_ble_eq_true rfl) rfl (r129 (by omega) hp) rfl ?_
    have H := Option.some.inj H
    subst H
    exact ex_iret (M := 160) (Or.inl rfl)
-- X9_lay
def f168 (F : Nat) (x1 : Int32) (x2 : Int32) (x3 : Int32) (S : AmT) : Option (Int32 × AmT) := am_b2 (f81 F S) fun v1 S2 => if v1 = 0 then (am_b2 (f95 F x1 S2) fun v4 S5 => if v4 = 0 then (some ((-2), S5)) else (am_b2 (f21 F x2 S5) fun v7 S8 => if v7 = 0 then (some ((-2), S8)) else (am_b2 (f194 F x3 1 24 S8) fun v10 S11 => if v10 = 0 then (some ((-1), S11)) else ((f58 F S11).bind fun S13 => am_b2 (f110 F x1 x2 x3 S13) fun v14 S15 => am_b2 (f129 F v14 S15) fun v16 S17 => some (v16, S17))))) else (some ((-4), S2))
set_option maxHeartbeats 1000000 in
set_option maxRecDepth 20000 in
theorem r168 {Lg : Nat} {xs : Nat → Int32} {d F : Nat} {x1 : Int32} {x2 : Int32} {x3 : Int32} {S : AmT} {q : Int32 × AmT} (hd : 6 ≤ d) (H : f168 F x1 x2 x3 S = some q) : Ex (am_X Lg xs) d 168 (am_P 168) (am_ini (am_Mi 168).1 [.ref 0, .int x1, .int x2, .int x3]) [] (hS S) (some q.1, hS q.2) := by
  obtain ⟨d, rfl⟩ : ∃ d2, d = d2 + 1 := ⟨d - 1, by omega⟩
  unfold f168 at H
  show Ex (am_X Lg xs) _ 168 am_c168_0 [.ref 0, .int x1, .int x2, .int x3] [] (hS S) (some q.1, hS q.2)
  refine ex_aload_n rfl ?_
  refine ex_getR (w := 86) rfl rfl rfl ?_
  obtain ⟨v1, S2, hp, H⟩ := am_b2_el H
  refine ex_callV rfl rfl (Nat.le_of_ble_eq_true rfl) (Nat.le_of_ble_eq_true rfl) rfl (r81 (by omega) hp) rfl ?_
  by_cases h3 : v1 = 0
  · rw [if_pos h3] at H
    refine ex_if_eq_j (ct := am_c168_13) h3 rfl ?_
    refine ex_aload_n rfl ?_
    refine ex_getR (w := 46) rfl rfl rfl ?_
    refine ex_iload_n rfl ?_
    obtain ⟨v4, S5, hp, H⟩ := am_b2_el H
    refine ex_callV rfl rfl (Nat.le_of_ble_eq_true rfl) (Nat.le_of_ble_eq_true rfl) rfl (r95 (by omega) hp) rfl ?_
    by_cases h6 : v4 = 0
    · rw [if_pos h6] at H
      refine ex_if_eq_j (ct := am_c168_35) h6 rfl ?_
      refine ex_bipush (v := (-2)) (by decide) ?_
      have H := Option.some.inj H
      subst H
      exact ex_iret (M := 168) (Or.inl rfl)
    · rw [if_neg h6] at H
      refine ex_if_eq_f h6 ?_
      refine ex_aload_n rfl ?_
      refine ex_getR (w := 22) rfl rfl rfl ?_
      refine ex_iload_n rfl ?_
      obtain ⟨v7, S8, hp, H⟩ := am_b2_el H
      refine ex_callV rfl rfl (Nat.le_of_ble_eq_true rfl) (Nat.le_of_ble_eq_true rfl) rfl (r21 (by omega) hp) rfl ?_
      by_cases h9 : v7 = 0
      · rw [if_pos h9] at H
        refine ex_if_ne_f h9 ?_
        refine ex_bipush (v := (-2)) (by decide) ?_
        have H := Option.some.inj H
        subst H
        exact ex_iret (M := 168) (Or.inl rfl)
      · rw [if_neg h9] at H
        refine ex_if_ne_j (ct := am_c168_38) h9 rfl ?_
        refine ex_iload_n rfl ?_
        refine ex_iconst (v := 1) (by decide) ?_
        refine ex_bipush (v := 24) (by decide) ?_
        obtain ⟨v10, S11, hp, H⟩ := am_b2_el H
        refine ex_callS rfl rfl (Nat.le_of_ble_eq_true rfl) (Nat.le_of_ble_eq_true rfl) (r194 (by omega) hp) rfl ?_
        by_cases h12 : v10 = 0
        · rw [if_pos h12] at H
          refine ex_if_ne_f h12 ?_
          refine ex_iconst (v := (-1)) (by decide) ?_
          have H := Option.some.inj H
          subst H
          exact ex_iret (M := 168) (Or.inl rfl)
        · rw [if_neg h12] at H
          refine ex_if_ne_j (ct := am_c168_50) h12 rfl ?_
          refine ex_aload_n rfl ?_
          refine ex_getR (w := 1) rfl rfl rfl ?_
          obtain ⟨S13, hp, H⟩ := Option.bind_eq_some_iff.mp H
          refine ex_callV rfl rfl (Nat.le_of_ble_eq_true rfl) (Nat.le_of_ble_eq_true rfl) rfl (r58 (by omega) hp) rfl ?_
          refine ex_aload_n rfl ?_
          refine ex_getR (w := 5) rfl rfl rfl ?_
          refine ex_aload_n rfl ?_
          refine ex_getR (w := 46) rfl rfl rfl ?_
          refine ex_iload_n rfl ?_
          refine ex_iload_n rfl ?_
          refine ex_iload_n rfl ?_
          obtain ⟨v14, S15, hp, H⟩ := am_b2_el H
          refine ex_callV rfl rfl (Nat.le_of_ble_eq_true rfl) (Nat.le_of_ble_eq_true rfl) rfl (r110 (by omega) hp) rfl ?_
          obtain ⟨v16, S17, hp, H⟩ := am_b2_el H
          refine ex_callV rfl rfl (Nat.le_of_ble_eq_true rfl) (Nat.le_of_ble_eq_true rfl) rfl (r129 (by omega) hp) rfl ?_
          have H := Option.some.inj H
          subst H
          exact ex_iret (M := 168) (Or.inl rfl)
  · rw [if_neg h3] at H
    refine ex_if_eq_f h3 ?_
    refine ex_bipush (v := (-4)) (by decide) ?_
    have H := Option.some.inj H
    subst H
    exact ex_iret (M := 168) (Or.inl rfl)
-- X9_read
def f169 (F : Nat) (x1 : Int32) (x2 : Int32) (x3 : Int32) (S : AmT) : Option (Int32 × AmT) := am_b2 (f95 F x1 S) fun v1 S2 => if v1 = 0 then (some ((-2), S2)) else (am_b2 (f21 F x2 S2) fun v4 S5 => if v4 = 0 then (some ((-2), S5)) else (am_b2 (f113 F x1 x2 x3 S5) fun v7 S8 => am_b2 (f129 F v7 S8) fun v9 S10 => some (v9, S10)))
set_option maxHeartbeats 1000000 in
set_option maxRecDepth 20000 in
theorem r169 {Lg : Nat} {xs : Nat → Int32} {d F : Nat} {x1 : Int32} {x2 : Int32} {x3 : Int32} {S : AmT} {q : Int32 × AmT} (hd : 6 ≤ d) (H : f169 F x1 x2 x3 S = some q) : Ex (am_X Lg xs) d 169 (am_P 169) (am_ini (am_Mi 169).1 [.ref 0, .int x1, .int x2, .int x3]) [] (hS S) (some q.1, hS q.2) := by
  obtain ⟨d, rfl⟩ : ∃ d2, d = d2 + 1 := ⟨d - 1, by omega⟩
  unfold f169 at H
  show Ex (am_X Lg xs) _ 169 am_c169_0 [.ref 0, .int x1, .int x2, .int x3] [] (hS S) (some q.1, hS q.2)
  refine ex_aload_n rfl ?_
  refine ex_getR (w := 46) rfl rfl rfl ?_
  refine ex_iload_n rfl ?_
  obtain ⟨v1, S2, hp, H⟩ := am_b2_el H
  refine ex_callV rfl rfl (Nat.le_of_ble_eq_true rfl) (Nat.le_of_ble_eq_true rfl) rfl (r95 (by omega) hp) rfl ?_
  by_cases h3 : v1 = 0
  · rw [if_pos h3] at H
    refine ex_if_eq_j (ct := am_c169_22) h3 rfl ?_
    refine ex_bipush (v := (-2)) (by decide) ?_
    have H := Option.some.inj H
    subst H
    exact ex_iret (M := 169) (Or.inl rfl)
  · rw [if_neg h3] at H
    refine ex_if_eq_f h3 ?_
    refine ex_aload_n rfl ?_
    refine ex_getR (w := 22) rfl rfl rfl ?_
    refine ex_iload_n rfl ?_
    obtain ⟨v4, S5, hp, H⟩ := am_b2_el H
    refine ex_callV rfl rfl (Nat.le_of_ble_eq_true rfl) (Nat.le_of_ble_eq_true rfl) rfl (r21 (by omega) hp) rfl ?_
    by_cases h6 : v4 = 0
    · rw [if_pos h6] at H
      refine ex_if_ne_f h6 ?_
      refine ex_bipush (v := (-2)) (by decide) ?_
      have H := Option.some.inj H
      subst H
      exact ex_iret (M := 169) (Or.inl rfl)
    · rw [if_neg h6] at H
      refine ex_if_ne_j (ct := am_c169_25) h6 rfl ?_
      refine ex_aload_n rfl ?_
      refine ex_getR (w := 5) rfl rfl rfl ?_
      refine ex_aload_n rfl ?_
      refine ex_getR (w := 46) rfl rfl rfl ?_
      refine ex_iload_n rfl ?_
      refine ex_iload_n rfl ?_
      refine ex_iload_n rfl ?_
      obtain ⟨v7, S8, hp, H⟩ := am_b2_el H
      refine ex_callV rfl rfl (Nat.le_of_ble_eq_true rfl) (Nat.le_of_ble_eq_true rfl) rfl (r113 (by omega) hp) rfl ?_
      obtain ⟨v9, S10, hp, H⟩ := am_b2_el H
      refine ex_callV rfl rfl (Nat.le_of_ble_eq_true rfl) (Nat.le_of_ble_eq_true rfl) rfl (r129 (by omega) hp) rfl ?_
      have H := Option.some.inj H
      subst H
      exact ex_iret (M := 169) (Or.inl rfl)
def g174_67 (F : Nat) (x4 : Int32) (s0 : Int32) (S : AmT) : Option (Int32 × AmT) := if 0 ≤ s0 then (if x4 = 0 then (some ((s0 / 128), S)) else (some ((s0 - s0 / 128 * 128), S))) else (am_b2 (f129 F s0 S) fun v17 S18 => some (v17, S18))
-- X9_leaf
def f174 (F : Nat) (x1 : Int32) (x2 : Int32) (x3 : Int32) (x4 : Int32) (S : AmT) : Option (Int32 × AmT) := am_b2 (f2 F x1 S) fun v1 S2 => if v1 = 0 then (some ((-2), S2)) else (am_b2 (f21 F x2 S2) fun v4 S5 => if v4 = 0 then (some ((-2), S5)) else (am_b2 (f194 F x4 0 1 S5) fun v7 S8 => if v7 = 0 then (some ((-1), S8)) else (am_b2 (f8 F x1 x2 S8) fun v10 S11 => if 0 ≤ v10 then (am_b2 (f9 F x1 x3 S11) fun v13 S14 => g174_67 F x4 v13 S14) else (g174_67 F x4 v10 S11))))
set_option maxHeartbeats 1000000 in
set_option maxRecDepth 20000 in
theorem e174_67 {Lg : Nat} {xs : Nat → Int32} {d F : Nat} {x4 : Int32} {s0 : Int32} {w1 : Value} {w2 : Value} {w3 : Value} {w5 : Value} {w6 : Value} {S : AmT} {q : Int32 × AmT} (hd : 6 ≤ d) (H : g174_67 F x4 s0 S = some q) : Ex (am_X Lg xs) d 174 am_c174_67 [.ref 0, w1, w2, w3, .int x4, w5, w6] [.int s0] (hS S) (some q.1, hS q.2) := by
  obtain ⟨d, rfl⟩ : ∃ d2, d = d2 + 1 := ⟨d - 1, by omega⟩
  unfold g174_67 at H
  refine ex_istore (L2 := [.ref 0, w1, w2, w3, .int x4, w5, .int s0]) (Nat.le_of_ble_eq_true rfl) rfl ?_
  refine ex_iload rfl ?_
  by_cases h15 : 0 ≤ s0
  · rw [if_pos h15] at H
    refine ex_if_ge_j (ct := am_c174_84) h15 rfl ?_
    refine ex_iload rfl ?_
    by_cases h16 : x4 = 0
    · rw [if_pos h16] at H
      refine ex_if_ne_f h16 ?_
      refine ex_iload rfl ?_
      refine ex_sipush (v := 128) (by decide) ?_
      refine ex_idiv (by decide) ?_
      refine ex_goto (ct := am_c174_104) rfl ?_
      have H := Option.some.inj H
      subst H
      exact ex_iret (M := 174) (Or.inl rfl)
    · rw [if_neg h16] at H
      refine ex_if_ne_j (ct := am_c174_98) h16 rfl ?_
      refine ex_iload rfl ?_
      refine ex_sipush (v := 128) (by decide) ?_
      refine ex_irem (by decide) ?_
      have H := Option.some.inj H
      subst H
      exact ex_iret (M := 174) (Or.inl rfl)
  · rw [if_neg h15] at H
    refine ex_if_ge_f h15 ?_
    refine ex_aload_n rfl ?_
    refine ex_getR (w := 5) rfl rfl rfl ?_
    refine ex_iload rfl ?_
    obtain ⟨v17, S18, hp, H⟩ := am_b2_el H
    refine ex_callV rfl rfl (Nat.le_of_ble_eq_true rfl) (Nat.le_of_ble_eq_true rfl) rfl (r129 (by omega) hp) rfl ?_
    have H := Option.some.inj H
    subst H
    exact ex_iret (M := 174) (Or.inl rfl)
set_option maxHeartbeats 1000000 in
set_option maxRecDepth 20000 in
theorem r174 {Lg : Nat} {xs : Nat → Int32} {d F : Nat} {x1 : Int32} {x2 : Int32} {x3 : Int32} {x4 : Int32} {S : AmT} {q : Int32 × AmT} (hd : 6 ≤ d) (H : f174 F x1 x2 x3 x4 S = some q) : Ex (am_X Lg xs) d 174 (am_P 174) (am_ini (am_Mi 174).1 [.ref 0, .int x1, .int x2, .int x3, .int x4]) [] (hS S) (some q.1, hS q.2) := by
  obtain ⟨d, rfl⟩ : ∃ d2, d = d2 + 1 := ⟨d - 1, by omega⟩
  unfold f174 at H
  show Ex (am_X Lg xs) _ 174 am_c174_0 [.ref 0, .int x1, .int x2, .int x3, .int x4, .long 0, .long 0] [] (hS S) (some q.1, hS q.2)
  refine ex_aload_n rfl ?_
  refine ex_getR (w := 69) rfl rfl rfl ?_
  refine ex_iload_n rfl ?_
  obtain ⟨v1, S2, hp, H⟩ := am_b2_el H
  refine ex_callV rfl rfl (Nat.le_of_ble_eq_true rfl) (Nat.le_of_ble_eq_true rfl) rfl (r2 (by omega) hp) rfl ?_
  by_cases h3 : v1 = 0
  · rw [if_pos h3] at H
    refine ex_if_eq_j (ct := am_c174_22) h3 rfl ?_
    refine ex_bipush (v := (-2)) (by decide) ?_
    have H := Option.some.inj H
    subst H
    exact ex_iret (M := 174) (Or.inl rfl)
  · rw [if_neg h3] at H
    refine ex_if_eq_f h3 ?_
    refine ex_aload_n rfl ?_
    refine ex_getR (w := 22) rfl rfl rfl ?_
    refine ex_iload_n rfl ?_
    obtain ⟨v4, S5, hp, H⟩ := am_b2_el H
    refine ex_callV rfl rfl (Nat.le_of_ble_eq_true rfl) (Nat.le_of_ble_eq_true rfl) rfl (r21 (by omega) hp) rfl ?_
    by_cases h6 : v4 = 0
    · rw [if_pos h6] at H
      refine ex_if_ne_f h6 ?_
      refine ex_bipush (v := (-2)) (by decide) ?_
      have H := Option.some.inj H
      subst H
      exact ex_iret (M := 174) (Or.inl rfl)
    · rw [if_neg h6] at H
      refine ex_if_ne_j (ct := am_c174_25) h6 rfl ?_
      refine ex_iload rfl ?_
      refine ex_iconst (v := 0) (by decide) ?_
      refine ex_iconst (v := 1) (by decide) ?_
      obtain ⟨v7, S8, hp, H⟩ := am_b2_el H
      refine ex_callS rfl rfl (Nat.le_of_ble_eq_true rfl) (Nat.le_of_ble_eq_true rfl) (r194 (by omega) hp) rfl ?_
      by_cases h9 : v7 = 0
      · rw [if_pos h9] at H
        refine ex_if_ne_f h9 ?_
        refine ex_iconst (v := (-1)) (by decide) ?_
        have H := Option.some.inj H
        subst H
        exact ex_iret (M := 174) (Or.inl rfl)
      · rw [if_neg h9] at H
        refine ex_if_ne_j (ct := am_c174_37) h9 rfl ?_
        refine ex_aload_n rfl ?_
        refine ex_getR (w := 69) rfl rfl rfl ?_
        refine ex_iload_n rfl ?_
        refine ex_iload_n rfl ?_
        obtain ⟨v10, S11, hp, H⟩ := am_b2_el H
        refine ex_callV rfl rfl (Nat.le_of_ble_eq_true rfl) (Nat.le_of_ble_eq_true rfl) rfl (r8 (by omega) hp) rfl ?_
        refine ex_istore (L2 := [.ref 0, .int x1, .int x2, .int x3, .int x4, .int v10, .long 0]) (Nat.le_of_ble_eq_true rfl) rfl ?_
        refine ex_iload rfl ?_
        by_cases h12 : 0 ≤ v10
        · rw [if_pos h12] at H
          refine ex_if_ge_j (ct := am_c174_58) h12 rfl ?_
          refine ex_aload_n rfl ?_
          refine ex_getR (w := 69) rfl rfl rfl ?_
          refine ex_iload_n rfl ?_
          refine ex_iload_n rfl ?_
          obtain ⟨v13, S14, hp, H⟩ := am_b2_el H
          refine ex_callV rfl rfl (Nat.le_of_ble_eq_true rfl) (Nat.le_of_ble_eq_true rfl) rfl (r9 (by omega) hp) rfl ?_
          exact e174_67 hd H
        · rw [if_neg h12] at H
          refine ex_if_ge_f h12 ?_
          refine ex_iload rfl ?_
          refine ex_goto (ct := am_c174_67) rfl ?_
          exact e174_67 hd H
def g179_46 (F : Nat) (s1 : Int32) (S : AmT) : Option (Int32 × AmT) := am_b2 (f129 F s1 S) fun v9 S10 => some (v9, S10)
-- X9_wrap
def f179 (F : Nat) (x1 : Int32) (x2 : Int32) (S : AmT) : Option (Int32 × AmT) := am_b2 (f21 F x1 S) fun v1 S2 => if v1 = 0 then (some ((-2), S2)) else (am_b2 (f17 F S2) fun v4 S5 => if v4 = (-1) then (g179_46 F (-11) S5) else (am_b2 (f113 F v4 x1 x2 S5) fun v7 S8 => g179_46 F v7 S8))
set_option maxHeartbeats 1000000 in
set_option maxRecDepth 20000 in
theorem e179_46 {Lg : Nat} {xs : Nat → Int32} {d F : Nat} {s1 : Int32} {w0 : Value} {w1 : Value} {w2 : Value} {w3 : Value} {S : AmT} {q : Int32 × AmT} (hd : 6 ≤ d) (H : g179_46 F s1 S = some q) : Ex (am_X Lg xs) d 179 am_c179_46 [w0, w1, w2, w3] [.int s1, .ref 5] (hS S) (some q.1, hS q.2) := by
  obtain ⟨d, rfl⟩ : ∃ d2, d = d2 + 1 := ⟨d - 1, by omega⟩
  unfold g179_46 at H
  obtain ⟨v9, S10, hp, H⟩ := am_b2_el H
  refine ex_callV rfl rfl (Nat.le_of_ble_eq_true rfl) (Nat.le_of_ble_eq_true rfl) rfl (r129 (by omega) hp) rfl ?_
  have H := Option.some.inj H
  subst H
  exact ex_iret (M := 179) (Or.inl rfl)
set_option maxHeartbeats 1000000 in
set_option maxRecDepth 20000 in
theorem r179 {Lg : Nat} {xs : Nat → Int32} {d F : Nat} {x1 : Int32} {x2 : Int32} {S : AmT} {q : Int32 × AmT} (hd : 6 ≤ d) (H : f179 F x1 x2 S = some q) : Ex (am_X Lg xs) d 179 (am_P 179) (am_ini (am_Mi 179).1 [.ref 0, .int x1, .int x2]) [] (hS S) (some q.1, hS q.2) := by
  obtain ⟨d, rfl⟩ : ∃ d2, d = d2 + 1 := ⟨d - 1, by omega⟩
  unfold f179 at H
  show Ex (am_X Lg xs) _ 179 am_c179_0 [.ref 0, .int x1, .int x2, .long 0] [] (hS S) (some q.1, hS q.2)
  refine ex_aload_n rfl ?_
  refine ex_getR (w := 22) rfl rfl rfl ?_
  refine ex_iload_n rfl ?_
  obtain ⟨v1, S2, hp, H⟩ := am_b2_el H
  refine ex_callV rfl rfl (Nat.le_of_ble_eq_true rfl) (Nat.le_of_ble_eq_true rfl) rfl (r21 (by omega) hp) rfl ?_
  by_cases h3 : v1 = 0
  · rw [if_pos h3] at H
    refine ex_if_ne_f h3 ?_
    refine ex_bipush (v := (-2)) (by decide) ?_
    have H := Option.some.inj H
    subst H
    exact ex_iret (M := 179) (Or.inl rfl)
  · rw [if_neg h3] at H
    refine ex_if_ne_j (ct := am_c179_14) h3 rfl ?_
    refine ex_aload_n rfl ?_
    refine ex_getR (w := 69) rfl rfl rfl ?_
    obtain ⟨v4, S5, hp, H⟩ := am_b2_el H
    refine ex_callV rfl rfl (Nat.le_of_ble_eq_true rfl) (Nat.le_of_ble_eq_true rfl) rfl (r17 (by omega) hp) rfl ?_
    refine ex_istore_n (L2 := [.ref 0, .int x1, .int x2, .int v4]) (Nat.le_of_ble_eq_true rfl) rfl ?_
    refine ex_aload_n rfl ?_
    refine ex_getR (w := 5) rfl rfl rfl ?_
    refine ex_iload_n rfl ?_
    refine ex_iconst (v := (-1)) (by decide) ?_
    by_cases h6 : v4 = (-1)
    · rw [if_pos h6] at H
      refine ex_icmp_ne_f h6 ?_
      refine ex_bipush (v := (-11)) (by decide) ?_
      refine ex_goto (ct := am_c179_46) rfl ?_
      exact e179_46 hd H
    · rw [if_neg h6] at H
      refine ex_icmp_ne_j (ct := am_c179_36) h6 rfl ?_
      refine ex_aload_n rfl ?_
      refine ex_getR (w := 46) rfl rfl rfl ?_
      refine ex_iload_n rfl ?_
      refine ex_iload_n rfl ?_
      refine ex_iload_n rfl ?_
      obtain ⟨v7, S8, hp, H⟩ := am_b2_el H
      refine ex_callV rfl rfl (Nat.le_of_ble_eq_true rfl) (Nat.le_of_ble_eq_true rfl) rfl (r113 (by omega) hp) rfl ?_
      exact e179_46 hd H
-- X10_lay
def f264 (F : Nat) (x1 : Int32) (x2 : Int32) (x3 : Int32) (S : AmT) : Option (Int32 × AmT) := am_b2 (f202 F S) fun v1 S2 => if v1 = 0 then (am_b2 (f249 F x1 S2) fun v4 S5 => if v4 = 0 then (some ((-2), S5)) else (am_b2 (f224 F x2 S5) fun v7 S8 => if v7 = 0 then (some ((-2), S8)) else (am_b2 (f197 F x3 1 24 S8) fun v10 S11 => if v10 = 0 then (some ((-1), S11)) else ((f201 F S11).bind fun S13 => am_lt ((am_upI S13.1 95 47 0, S13.2) : AmT) fun S14 => am_b2 (f260 F x1 x2 S14) fun v15 S16 => if v15 ≤ 0 then (am_b2 (f262 F x3 S16) fun v18 S19 => some (v18, S19)) else (am_b2 (f203 F v15 S16) fun v20 S21 => some (v20, S21)))))) else (some ((-4), S2))
set_option maxHeartbeats 1000000 in
set_option maxRecDepth 20000 in
theorem r264 {Lg : Nat} {xs : Nat → Int32} {d F : Nat} {x1 : Int32} {x2 : Int32} {x3 : Int32} {S : AmT} {q : Int32 × AmT} (hd : 6 ≤ d) (H : f264 F x1 x2 x3 S = some q) : Ex (am_X Lg xs) d 264 (am_P 264) (am_ini (am_Mi 264).1 [.ref 95, .int x1, .int x2, .int x3]) [] (hS S) (some q.1, hS q.2) := by
  obtain ⟨d, rfl⟩ : ∃ d2, d = d2 + 1 := ⟨d - 1, by omega⟩
  unfold f264 at H
  show Ex (am_X Lg xs) _ 264 am_c264_0 [.ref 95, .int x1, .int x2, .int x3, .long 0] [] (hS S) (some q.1, hS q.2)
  refine ex_aload_n rfl ?_
  obtain ⟨v1, S2, hp, H⟩ := am_b2_el H
  refine ex_callV rfl rfl (Nat.le_of_ble_eq_true rfl) (Nat.le_of_ble_eq_true rfl) rfl (r202 (by omega) hp) rfl ?_
  by_cases h3 : v1 = 0
  · rw [if_pos h3] at H
    refine ex_if_eq_j (ct := am_c264_10) h3 rfl ?_
    refine ex_aload_n rfl ?_
    refine ex_iload_n rfl ?_
    obtain ⟨v4, S5, hp, H⟩ := am_b2_el H
    refine ex_callV rfl rfl (Nat.le_of_ble_eq_true rfl) (Nat.le_of_ble_eq_true rfl) rfl (r249 (by omega) hp) rfl ?_
    by_cases h6 : v4 = 0
    · rw [if_pos h6] at H
      refine ex_if_eq_j (ct := am_c264_26) h6 rfl ?_
      refine ex_bipush (v := (-2)) (by decide) ?_
      have H := Option.some.inj H
      subst H
      exact ex_iret (M := 264) (Or.inl rfl)
    · rw [if_neg h6] at H
      refine ex_if_eq_f h6 ?_
      refine ex_aload_n rfl ?_
      refine ex_iload_n rfl ?_
      obtain ⟨v7, S8, hp, H⟩ := am_b2_el H
      refine ex_callV rfl rfl (Nat.le_of_ble_eq_true rfl) (Nat.le_of_ble_eq_true rfl) rfl (r224 (by omega) hp) rfl ?_
      by_cases h9 : v7 = 0
      · rw [if_pos h9] at H
        refine ex_if_ne_f h9 ?_
        refine ex_bipush (v := (-2)) (by decide) ?_
        have H := Option.some.inj H
        subst H
        exact ex_iret (M := 264) (Or.inl rfl)
      · rw [if_neg h9] at H
        refine ex_if_ne_j (ct := am_c264_29) h9 rfl ?_
        refine ex_iload_n rfl ?_
        refine ex_iconst (v := 1) (by decide) ?_
        refine ex_bipush (v := 24) (by decide) ?_
        obtain ⟨v10, S11, hp, H⟩ := am_b2_el H
        refine ex_callS rfl rfl (Nat.le_of_ble_eq_true rfl) (Nat.le_of_ble_eq_true rfl) (r197 (by omega) hp) rfl ?_
        by_cases h12 : v10 = 0
        · rw [if_pos h12] at H
          refine ex_if_ne_f h12 ?_
          refine ex_iconst (v := (-1)) (by decide) ?_
          have H := Option.some.inj H
          subst H
          exact ex_iret (M := 264) (Or.inl rfl)
        · rw [if_neg h12] at H
          refine ex_if_ne_j (ct := am_c264_41) h12 rfl ?_
          refine ex_aload_n rfl ?_
          obtain ⟨S13, hp, H⟩ := Option.bind_eq_some_iff.mp H
          refine ex_callV rfl rfl (Nat.le_of_ble_eq_true rfl) (Nat.le_of_ble_eq_true rfl) rfl (r201 (by omega) hp) rfl ?_
          refine ex_aload_n rfl ?_
          refine ex_iconst (v := 0) (by decide) ?_
          refine ex_putI rfl (by decide) (fun z => absurd z.1 (by decide)) ?_
          generalize ((am_upI S13.1 95 47 0, S13.2) : AmT) = S14 at H ⊢
          have H := am_lt_el H
          refine ex_aload_n rfl ?_
          refine ex_iload_n rfl ?_
          refine ex_iload_n rfl ?_
          obtain ⟨v15, S16, hp, H⟩ := am_b2_el H
          refine ex_callV rfl rfl (Nat.le_of_ble_eq_true rfl) (Nat.le_of_ble_eq_true rfl) rfl (r260 (by omega) hp) rfl ?_
          refine ex_istore (L2 := [.ref 95, .int x1, .int x2, .int x3, .int v15]) (Nat.le_of_ble_eq_true rfl) rfl ?_
          refine ex_iload rfl ?_
          by_cases h17 : v15 ≤ 0
          · rw [if_pos h17] at H
            refine ex_if_le_j (ct := am_c264_72) h17 rfl ?_
            refine ex_aload_n rfl ?_
            refine ex_iload_n rfl ?_
            obtain ⟨v18, S19, hp, H⟩ := am_b2_el H
            refine ex_callV rfl rfl (Nat.le_of_ble_eq_true rfl) (Nat.le_of_ble_eq_true rfl) rfl (r262 (by omega) hp) rfl ?_
            have H := Option.some.inj H
            subst H
            exact ex_iret (M := 264) (Or.inl rfl)
          · rw [if_neg h17] at H
            refine ex_if_le_f h17 ?_
            refine ex_aload_n rfl ?_
            refine ex_iload rfl ?_
            obtain ⟨v20, S21, hp, H⟩ := am_b2_el H
            refine ex_callV rfl rfl (Nat.le_of_ble_eq_true rfl) (Nat.le_of_ble_eq_true rfl) rfl (r203 (by omega) hp) rfl ?_
            refine ex_goto (ct := am_c264_77) rfl ?_
            have H := Option.some.inj H
            subst H
            exact ex_iret (M := 264) (Or.inl rfl)
  · rw [if_neg h3] at H
    refine ex_if_eq_f h3 ?_
    refine ex_bipush (v := (-4)) (by decide) ?_
    have H := Option.some.inj H
    subst H
    exact ex_iret (M := 264) (Or.inl rfl)
-- X10_read
def f265 (F : Nat) (x1 : Int32) (x2 : Int32) (x3 : Int32) (S : AmT) : Option (Int32 × AmT) := am_b2 (f249 F x1 S) fun v1 S2 => if v1 = 0 then (some ((-2), S2)) else (am_b2 (f224 F x2 S2) fun v4 S5 => if v4 = 0 then (some ((-2), S5)) else (am_lt ((am_upI S5.1 95 47 0, S5.2) : AmT) fun S7 => am_b2 (f260 F x1 x2 S7) fun v8 S9 => if v8 ≤ 0 then (am_b2 (f263 F x3 S9) fun v11 S12 => some (v11, S12)) else (am_b2 (f203 F v8 S9) fun v13 S14 => some (v13, S14))))
set_option maxHeartbeats 1000000 in
set_option maxRecDepth 20000 in
theorem r265 {Lg : Nat} {xs : Nat → Int32} {d F : Nat} {x1 : Int32} {x2 : Int32} {x3 : Int32} {S : AmT} {q : Int32 × AmT} (hd : 6 ≤ d) (H : f265 F x1 x2 x3 S = some q) : Ex (am_X Lg xs) d 265 (am_P 265) (am_ini (am_Mi 265).1 [.ref 95, .int x1, .int x2, .int x3]) [] (hS S) (some q.1, hS q.2) := by
  obtain ⟨d, rfl⟩ : ∃ d2, d = d2 + 1 := ⟨d - 1, by omega⟩
  unfold f265 at H
  show Ex (am_X Lg xs) _ 265 am_c265_0 [.ref 95, .int x1, .int x2, .int x3, .long 0] [] (hS S) (some q.1, hS q.2)
  refine ex_aload_n rfl ?_
  refine ex_iload_n rfl ?_
  obtain ⟨v1, S2, hp, H⟩ := am_b2_el H
  refine ex_callV rfl rfl (Nat.le_of_ble_eq_true rfl) (Nat.le_of_ble_eq_true rfl) rfl (r249 (by omega) hp) rfl ?_
  by_cases h3 : v1 = 0
  · rw [if_pos h3] at H
    refine ex_if_eq_j (ct := am_c265_16) h3 rfl ?_
    refine ex_bipush (v := (-2)) (by decide) ?_
    have H := Option.some.inj H
    subst H
    exact ex_iret (M := 265) (Or.inl rfl)
  · rw [if_neg h3] at H
    refine ex_if_eq_f h3 ?_
    refine ex_aload_n rfl ?_
    refine ex_iload_n rfl ?_
    obtain ⟨v4, S5, hp, H⟩ := am_b2_el H
    refine ex_callV rfl rfl (Nat.le_of_ble_eq_true rfl) (Nat.le_of_ble_eq_true rfl) rfl (r224 (by omega) hp) rfl ?_
    by_cases h6 : v4 = 0
    · rw [if_pos h6] at H
      refine ex_if_ne_f h6 ?_
      refine ex_bipush (v := (-2)) (by decide) ?_
      have H := Option.some.inj H
      subst H
      exact ex_iret (M := 265) (Or.inl rfl)
    · rw [if_neg h6] at H
      refine ex_if_ne_j (ct := am_c265_19) h6 rfl ?_
      refine ex_aload_n rfl ?_
      refine ex_iconst (v := 0) (by decide) ?_
      refine ex_putI rfl (by decide) (fun z => absurd z.1 (by decide)) ?_
      generalize ((am_upI S5.1 95 47 0, S5.2) : AmT) = S7 at H ⊢
      have H := am_lt_el H
      refine ex_aload_n rfl ?_
      refine ex_iload_n rfl ?_
      refine ex_iload_n rfl ?_
      obtain ⟨v8, S9, hp, H⟩ := am_b2_el H
      refine ex_callV rfl rfl (Nat.le_of_ble_eq_true rfl) (Nat.le_of_ble_eq_true rfl) rfl (r260 (by omega) hp) rfl ?_
      refine ex_istore (L2 := [.ref 95, .int x1, .int x2, .int x3, .int v8]) (Nat.le_of_ble_eq_true rfl) rfl ?_
      refine ex_iload rfl ?_
      by_cases h10 : v8 ≤ 0
      · rw [if_pos h10] at H
        refine ex_if_le_j (ct := am_c265_46) h10 rfl ?_
        refine ex_aload_n rfl ?_
        refine ex_iload_n rfl ?_
        obtain ⟨v11, S12, hp, H⟩ := am_b2_el H
        refine ex_callV rfl rfl (Nat.le_of_ble_eq_true rfl) (Nat.le_of_ble_eq_true rfl) rfl (r263 (by omega) hp) rfl ?_
        have H := Option.some.inj H
        subst H
        exact ex_iret (M := 265) (Or.inl rfl)
      · rw [if_neg h10] at H
        refine ex_if_le_f h10 ?_
        refine ex_aload_n rfl ?_
        refine ex_iload rfl ?_
        obtain ⟨v13, S14, hp, H⟩ := am_b2_el H
        refine ex_callV rfl rfl (Nat.le_of_ble_eq_true rfl) (Nat.le_of_ble_eq_true rfl) rfl (r203 (by omega) hp) rfl ?_
        refine ex_goto (ct := am_c265_51) rfl ?_
        have H := Option.some.inj H
        subst H
        exact ex_iret (M := 265) (Or.inl rfl)
-- X10_bind
def f271 (F : Nat) (x1 : Int32) (x2 : Int32) (x3 : Int32) (S : AmT) : Option (Int32 × AmT) := am_b2 (f202 F S) fun v1 S2 => if v1 = 0 then (am_b2 (f268 F x1 S2) fun v4 S5 => if v4 = 0 then (some ((-2), S5)) else (am_b2 (f224 F x2 S5) fun v7 S8 => if v7 = 0 then (some ((-2), S8)) else (am_b2 (f197 F x3 1 24 S8) fun v10 S11 => if v10 = 0 then (some ((-1), S11)) else ((f201 F S11).bind fun S13 => am_lt ((am_upI S13.1 95 47 0, S13.2) : AmT) fun S14 => am_b2 (f261 F x1 x2 S14) fun v15 S16 => if v15 ≤ 0 then (am_b2 (f262 F x3 S16) fun v18 S19 => some (v18, S19)) else (am_b2 (f203 F v15 S16) fun v20 S21 => some (v20, S21)))))) else (some ((-4), S2))
set_option maxHeartbeats 1000000 in
set_option maxRecDepth 20000 in
theorem r271 {Lg : Nat} {xs : Nat → Int32} {d F : Nat} {x1 : Int32} {x2 : Int32} {x3 : Int32} {S : AmT} {q : Int32 × AmT} (hd : 6 ≤ d) (H : f271 F x1 x2 x3 S = some q) : Ex (am_X Lg xs) d 271 (am_P 271) (am_ini (am_Mi 271).1 [.ref 95, .int x1, .int x2, .int x3]) [] (hS S) (some q.1, hS q.2) := by
  obtain ⟨d, rfl⟩ : ∃ d2, d = d2 + 1 := ⟨d - 1, by omega⟩
  unfold f271 at H
  show Ex (am_X Lg xs) _ 271 am_c271_0 [.ref 95, .int x1, .int x2, .int x3, .long 0] [] (hS S) (some q.1, hS q.2)
  refine ex_aload_n rfl ?_
  obtain ⟨v1, S2, hp, H⟩ := am_b2_el H
  refine ex_callV rfl rfl (Nat.le_of_ble_eq_true rfl) (Nat.le_of_ble_eq_true rfl) rfl (r202 (by omega) hp) rfl ?_
  by_cases h3 : v1 = 0
  · rw [if_pos h3] at H
    refine ex_if_eq_j (ct := am_c271_10) h3 rfl ?_
    refine ex_aload_n rfl ?_
    refine ex_iload_n rfl ?_
    obtain ⟨v4, S5, hp, H⟩ := am_b2_el H
    refine ex_callV rfl rfl (Nat.le_of_ble_eq_true rfl) (Nat.le_of_ble_eq_true rfl) rfl (r268 (by omega) hp) rfl ?_
    by_cases h6 : v4 = 0
    · rw [if_pos h6] at H
      refine ex_if_eq_j (ct := am_c271_26) h6 rfl ?_
      refine ex_bipush (v := (-2)) (by decide) ?_
      have H := Option.some.inj H
      subst H
      exact ex_iret (M := 271) (Or.inl rfl)
    · rw [if_neg h6] at H
      refine ex_if_eq_f h6 ?_
      refine ex_aload_n rfl ?_
      refine ex_iload_n rfl ?_
      obtain ⟨v7, S8, hp, H⟩ := am_b2_el H
      refine ex_callV rfl rfl (Nat.le_of_ble_eq_true rfl) (Nat.le_of_ble_eq_true rfl) rfl (r224 (by omega) hp) rfl ?_
      by_cases h9 : v7 = 0
      · rw [if_pos h9] at H
        refine ex_if_ne_f h9 ?_
        refine ex_bipush (v := (-2)) (by decide) ?_
        have H := Option.some.inj H
        subst H
        exact ex_iret (M := 271) (Or.inl rfl)
      · rw [if_neg h9] at H
        refine ex_if_ne_j (ct := am_c271_29) h9 rfl ?_
        refine ex_iload_n rfl ?_
        refine ex_iconst (v := 1) (by decide) ?_
        refine ex_bipush (v := 24) (by decide) ?_
        obtain ⟨v10, S11, hp, H⟩ := am_b2_el H
        refine ex_callS rfl rfl (Nat.le_of_ble_eq_true rfl) (Nat.le_of_ble_eq_true rfl) (r197 (by omega) hp) rfl ?_
        by_cases h12 : v10 = 0
        · rw [if_pos h12] at H
          refine ex_if_ne_f h12 ?_
          refine ex_iconst (v := (-1)) (by decide) ?_
          have H := Option.some.inj H
          subst H
          exact ex_iret (M := 271) (Or.inl rfl)
        · rw [if_neg h12] at H
          refine ex_if_ne_j (ct := am_c271_41) h12 rfl ?_
          refine ex_aload_n rfl ?_
          obtain ⟨S13, hp, H⟩ := Option.bind_eq_some_iff.mp H
          refine ex_callV rfl rfl (Nat.le_of_ble_eq_true rfl) (Nat.le_of_ble_eq_true rfl) rfl (r201 (by omega) hp) rfl ?_
          refine ex_aload_n rfl ?_
          refine ex_iconst (v := 0) (by decide) ?_
          refine ex_putI rfl (by decide) (fun z => absurd z.1 (by decide)) ?_
          generalize ((am_upI S13.1 95 47 0, S13.2) : AmT) = S14 at H ⊢
          have H := am_lt_el H
          refine ex_aload_n rfl ?_
          refine ex_iload_n rfl ?_
          refine ex_iload_n rfl ?_
          obtain ⟨v15, S16, hp, H⟩ := am_b2_el H
          refine ex_callV rfl rfl (Nat.le_of_ble_eq_true rfl) (Nat.le_of_ble_eq_true rfl) rfl (r261 (by omega) hp) rfl ?_
          refine ex_istore (L2 := [.ref 95, .int x1, .int x2, .int x3, .int v15]) (Nat.le_of_ble_eq_true rfl) rfl ?_
          refine ex_iload rfl ?_
          by_cases h17 : v15 ≤ 0
          · rw [if_pos h17] at H
            refine ex_if_le_j (ct := am_c271_72) h17 rfl ?_
            refine ex_aload_n rfl ?_
            refine ex_iload_n rfl ?_
            obtain ⟨v18, S19, hp, H⟩ := am_b2_el H
            refine ex_callV rfl rfl (Nat.le_of_ble_eq_true rfl) (Nat.le_of_ble_eq_true rfl) rfl (r262 (by omega) hp) rfl ?_
            have H := Option.some.inj H
            subst H
            exact ex_iret (M := 271) (Or.inl rfl)
          · rw [if_neg h17] at H
            refine ex_if_le_f h17 ?_
            refine ex_aload_n rfl ?_
            refine ex_iload rfl ?_
            obtain ⟨v20, S21, hp, H⟩ := am_b2_el H
            refine ex_callV rfl rfl (Nat.le_of_ble_eq_true rfl) (Nat.le_of_ble_eq_true rfl) rfl (r203 (by omega) hp) rfl ?_
            refine ex_goto (ct := am_c271_77) rfl ?_
            have H := Option.some.inj H
            subst H
            exact ex_iret (M := 271) (Or.inl rfl)
  · rw [if_neg h3] at H
    refine ex_if_eq_f h3 ?_
    refine ex_bipush (v := (-4)) (by decide) ?_
    have H := Option.some.inj H
    subst H
    exact ex_iret (M := 271) (Or.inl rfl)
def g272_73 (F : Nat) (x3 : Int32) (x4 : Int32) (s0 : Int32) (S : AmT) : Option (Int32 × AmT) := if s0 ≤ 0 then (if x4 = 0 then (am_ck x3 2048 (some ((S.1 129 x3.toNatClampNeg), S))) else (am_ck x3 2048 (some ((S.1 130 x3.toNatClampNeg), S)))) else (am_b2 (f203 F s0 S) fun v19 S20 => some (v19, S20))
-- X10_leaf
def f272 (F : Nat) (x1 : Int32) (x2 : Int32) (x3 : Int32) (x4 : Int32) (S : AmT) : Option (Int32 × AmT) := am_b2 (f268 F x1 S) fun v1 S2 => if v1 = 0 then (some ((-2), S2)) else (am_b2 (f224 F x2 S2) fun v4 S5 => if v4 = 0 then (some ((-2), S5)) else (am_b2 (f197 F x4 0 1 S5) fun v7 S8 => if v7 = 0 then (some ((-1), S8)) else (am_lt ((am_upI S8.1 95 47 0, S8.2) : AmT) fun S10 => am_b2 (f261 F x1 x2 S10) fun v11 S12 => if v11 ≤ 0 then (am_b2 (f197 F x3 0 ((S12.1 95 47) - 1) S12) fun v14 S15 => if v14 = 0 then (g272_73 F x3 x4 2 S15) else (g272_73 F x3 x4 0 S15)) else (g272_73 F x3 x4 v11 S12))))
set_option maxHeartbeats 1000000 in
set_option maxRecDepth 20000 in
theorem e272_73 {Lg : Nat} {xs : Nat → Int32} {d F : Nat} {x3 : Int32} {x4 : Int32} {s0 : Int32} {w1 : Value} {w2 : Value} {w5 : Value} {S : AmT} {q : Int32 × AmT} (hd : 6 ≤ d) (H : g272_73 F x3 x4 s0 S = some q) : Ex (am_X Lg xs) d 272 am_c272_73 [.ref 95, w1, w2, .int x3, .int x4, w5] [.int s0] (hS S) (some q.1, hS q.2) := by
  obtain ⟨d, rfl⟩ : ∃ d2, d = d2 + 1 := ⟨d - 1, by omega⟩
  unfold g272_73 at H
  refine ex_istore (L2 := [.ref 95, w1, w2, .int x3, .int x4, .int s0]) (Nat.le_of_ble_eq_true rfl) rfl ?_
  refine ex_iload rfl ?_
  by_cases h17 : s0 ≤ 0
  · rw [if_pos h17] at H
    refine ex_if_le_j (ct := am_c272_89) h17 rfl ?_
    refine ex_iload rfl ?_
    by_cases h18 : x4 = 0
    · rw [if_pos h18] at H
      refine ex_if_ne_f h18 ?_
      refine ex_aload_n rfl ?_
      refine ex_getR (w := 129) rfl rfl rfl ?_
      refine ex_iload_n rfl ?_
      obtain ⟨hj, H⟩ := am_ck_el H
      refine ex_iald (k := 2048) (v := S.1 129 x3.toNatClampNeg) rfl hj rfl ?_
      refine ex_goto (ct := am_c272_109) rfl ?_
      have H := Option.some.inj H
      subst H
      exact ex_iret (M := 272) (Or.inl rfl)
    · rw [if_neg h18] at H
      refine ex_if_ne_j (ct := am_c272_103) h18 rfl ?_
      refine ex_aload_n rfl ?_
      refine ex_getR (w := 130) rfl rfl rfl ?_
      refine ex_iload_n rfl ?_
      obtain ⟨hj, H⟩ := am_ck_el H
      refine ex_iald (k := 2048) (v := S.1 130 x3.toNatClampNeg) rfl hj rfl ?_
      have H := Option.some.inj H
      subst H
      exact ex_iret (M := 272) (Or.inl rfl)
  · rw [if_neg h17] at H
    refine ex_if_le_f h17 ?_
    refine ex_aload_n rfl ?_
    refine ex_iload rfl ?_
    obtain ⟨v19, S20, hp, H⟩ := am_b2_el H
    refine ex_callV rfl rfl (Nat.le_of_ble_eq_true rfl) (Nat.le_of_ble_eq_true rfl) rfl (r203 (by omega) hp) rfl ?_
    refine ex_goto (ct := am_c272_109) rfl ?_
    have H := Option.some.inj H
    subst H
    exact ex_iret (M := 272) (Or.inl rfl)
set_option maxHeartbeats 1000000 in
set_option maxRecDepth 20000 in
theorem r272 {Lg : Nat} {xs : Nat → Int32} {d F : Nat} {x1 : Int32} {x2 : Int32} {x3 : Int32} {x4 : Int32} {S : AmT} {q : Int32 × AmT} (hd : 6 ≤ d) (H : f272 F x1 x2 x3 x4 S = some q) : Ex (am_X Lg xs) d 272 (am_P 272) (am_ini (am_Mi 272).1 [.ref 95, .int x1, .int x2, .int x3, .int x4]) [] (hS S) (some q.1, hS q.2) := by
  obtain ⟨d, rfl⟩ : ∃ d2, d = d2 + 1 := ⟨d - 1, by omega⟩
  unfold f272 at H
  show Ex (am_X Lg xs) _ 272 am_c272_0 [.ref 95, .int x1, .int x2, .int x3, .int x4, .long 0] [] (hS S) (some q.1, hS q.2)
  refine ex_aload_n rfl ?_
  refine ex_iload_n rfl ?_
  obtain ⟨v1, S2, hp, H⟩ := am_b2_el H
  refine ex_callV rfl rfl (Nat.le_of_ble_eq_true rfl) (Nat.le_of_ble_eq_true rfl) rfl (r268 (by omega) hp) rfl ?_
  by_cases h3 : v1 = 0
  · rw [if_pos h3] at H
    refine ex_if_eq_j (ct := am_c272_16) h3 rfl ?_
    refine ex_bipush (v := (-2)) (by decide) ?_
    have H := Option.some.inj H
    subst H
    exact ex_iret (M := 272) (Or.inl rfl)
  · rw [if_neg h3] at H
    refine ex_if_eq_f h3 ?_
    refine ex_aload_n rfl ?_
    refine ex_iload_n rfl ?_
    obtain ⟨v4, S5, hp, H⟩ := am_b2_el H
    refine ex_callV rfl rfl (Nat.le_of_ble_eq_true rfl) (Nat.le_of_ble_eq_true rfl) rfl (r224 (by omega) hp) rfl ?_
    by_cases h6 : v4 = 0
    · rw [if_pos h6] at H
      refine ex_if_ne_f h6 ?_
      refine ex_bipush (v := (-2)) (by decide) ?_
      have H := Option.some.inj H
      subst H
      exact ex_iret (M := 272) (Or.inl rfl)
    · rw [if_neg h6] at H
      refine ex_if_ne_j (ct := am_c272_19) h6 rfl ?_
      refine ex_iload rfl ?_
      refine ex_iconst (v := 0) (by decide) ?_
      refine ex_iconst (v := 1) (by decide) ?_
      obtain ⟨v7, S8, hp, H⟩ := am_b2_el H
      refine ex_callS rfl rfl (Nat.le_of_ble_eq_true rfl) (Nat.le_of_ble_eq_true rfl) (r197 (by omega) hp) rfl ?_
      by_cases h9 : v7 = 0
      · rw [if_pos h9] at H
        refine ex_if_ne_f h9 ?_
        refine ex_iconst (v := (-1)) (by decide) ?_
        have H := Option.some.inj H
        subst H
        exact ex_iret (M := 272) (Or.inl rfl)
      · rw [if_neg h9] at H
        refine ex_if_ne_j (ct := am_c272_31) h9 rfl ?_
        refine ex_aload_n rfl ?_
        refine ex_iconst (v := 0) (by decide) ?_
        refine ex_putI rfl (by decide) (fun z => absurd z.1 (by decide)) ?_
        generalize ((am_upI S8.1 95 47 0, S8.2) : AmT) = S10 at H ⊢
        have H := am_lt_el H
        refine ex_aload_n rfl ?_
        refine ex_iload_n rfl ?_
        refine ex_iload_n rfl ?_
        obtain ⟨v11, S12, hp, H⟩ := am_b2_el H
        refine ex_callV rfl rfl (Nat.le_of_ble_eq_true rfl) (Nat.le_of_ble_eq_true rfl) rfl (r261 (by omega) hp) rfl ?_
        refine ex_istore (L2 := [.ref 95, .int x1, .int x2, .int x3, .int x4, .int v11]) (Nat.le_of_ble_eq_true rfl) rfl ?_
        refine ex_iload rfl ?_
        by_cases h13 : v11 ≤ 0
        · rw [if_pos h13] at H
          refine ex_if_le_j (ct := am_c272_54) h13 rfl ?_
          refine ex_iload_n rfl ?_
          refine ex_iconst (v := 0) (by decide) ?_
          refine ex_aload_n rfl ?_
          refine ex_gI rfl (by decide) ?_
          refine ex_iconst (v := 1) (by decide) ?_
          refine ex_isub ?_
          obtain ⟨v14, S15, hp, H⟩ := am_b2_el H
          refine ex_callS rfl rfl (Nat.le_of_ble_eq_true rfl) (Nat.le_of_ble_eq_true rfl) (r197 (by omega) hp) rfl ?_
          by_cases h16 : v14 = 0
          · rw [if_pos h16] at H
            refine ex_if_eq_j (ct := am_c272_72) h16 rfl ?_
            refine ex_iconst (v := 2) (by decide) ?_
            exact e272_73 hd H
          · rw [if_neg h16] at H
            refine ex_if_eq_f h16 ?_
            refine ex_iconst (v := 0) (by decide) ?_
            refine ex_goto (ct := am_c272_73) rfl ?_
            exact e272_73 hd H
        · rw [if_neg h13] at H
          refine ex_if_le_f h13 ?_
          refine ex_iload rfl ?_
          refine ex_goto (ct := am_c272_73) rfl ?_
          exact e272_73 hd H
