/-! printed by wip/gen/gen20.py -/
def g179_46 (F : Nat) (s1 : Int32) (S : AmT) : Option (Int32 × AmT) := am_b2 (f129 F s1 S) fun v9 S10 => some (v9, S10)
-- X9_wrap
def f179 (F : Nat) (x1 : Int32) (x2 : Int32) (S : AmT) : Option (Int32 × AmT) := am_b2 (f21 F x1 S) fun v1 S2 => if v1 = 0 then (some ((-2), S2)) else (am_b2 (f17 F S2) fun v4 S5 => if v4 = (-1) then (g179_46 F (-11) S5) else (am_b2 (f113 F v4 x1 x2 S5) fun v7 S8 => g179_46 F v7 S8))
set_option maxHeartbeats 1000000 in
set_option maxRecDepth 20000 in
theorem e179_46 {Lg : Nat} {xs : Nat → Int32} {d F : Nat} {s1 : Int32} {w0 : Value} {w1 : Value} {w2 : Value} {w3 : Value} {S : AmT} {q : Int32 × AmT} (hd : 16 ≤ d) (H : g179_46 F s1 S = some q) : Ex (am_X Lg xs) d 179 am_c179_46 [w0, w1, w2, w3] [.int s1, .ref 5] (hS S) (some q.1, hS q.2) := by
  obtain ⟨d, rfl⟩ : ∃ d2, d = d2 + 1 := ⟨d - 1, by omega⟩
  unfold g179_46 at H
  obtain ⟨v9, S10, hp, H⟩ := am_b2_el H
  refine ex_callV rfl rfl (Nat.le_of_ble_eq_true rfl) (Nat.le_of_ble_eq_true rfl) rfl (r129 (by omega) hp) rfl ?_
  have H := Option.some.inj H
  subst H
  exact ex_iret (M := 179) (Or.inl rfl)
set_option maxHeartbeats 1000000 in
set_option maxRecDepth 20000 in
theorem r179 {Lg : Nat} {xs : Nat → Int32} {d F : Nat} {x1 : Int32} {x2 : Int32} {S : AmT} {q : Int32 × AmT} (hd : 16 ≤ d) (H : f179 F x1 x2 S = some q) : Ex (am_X Lg xs) d 179 (am_P 179) (am_ini (am_Mi 179).1 [.ref 0, .int x1, .int x2]) [] (hS S) (some q.1, hS q.2) := by
  obtain ⟨d, rfl⟩ : ∃ d2, d = d2 + 1 := ⟨d - 1, by omega⟩
  unfold f179 at H
  show Ex (am_X Lg xs) _ 179 am_c179_0 [.ref 0, .int x1, .int x2, .long 0] [] (hS S) (some q.1, hS q.2)
  refine ex_aload_n rfl ?_
  refine ex_getR (w := 22) rfl rfl rfl ?_
  refine ex_iload_n rfl ?_
  obtain ⟨v1, S2, hp, H⟩ := am_b2_el H
  refine ex_callV rfl rfl (Nat.le_of_ble_eq_true rfl) (Nat.le_of_ble_eq_true rfl) rfl (r21 (by omega) hp) rfl ?_
  by_cases h3 : v1 = 0
  · rw [if_pos h3] at H
    refine ex_if_ne_f h3 ?_
    refine ex_bipush (v := (-2)) (by decide) ?_
    have H := Option.some.inj H
    subst H
    exact ex_iret (M := 179) (Or.inl rfl)
  · rw [if_neg h3] at H
    refine ex_if_ne_j (ct := am_c179_14) h3 rfl ?_
    refine ex_aload_n rfl ?_
    refine ex_getR (w := 69) rfl rfl rfl ?_
    obtain ⟨v4, S5, hp, H⟩ := am_b2_el H
    refine ex_callV rfl rfl (Nat.le_of_ble_eq_true rfl) (Nat.le_of_ble_eq_true rfl) rfl (r17 (by omega) hp) rfl ?_
    refine ex_istore_n (L2 := [.ref 0, .int x1, .int x2, .int v4]) (Nat.le_of_ble_eq_true rfl) rfl ?_
    refine ex_aload_n rfl ?_
    refine ex_getR (w := 5) rfl rfl rfl ?_
    refine ex_iload_n rfl ?_
    refine ex_iconst (v := (-1)) (by decide) ?_
    by_cases h6 : v4 = (-1)
    · rw [if_pos h6] at H
      refine ex_icmp_ne_f h6 ?_
      refine ex_bipush (v := (-11)) (by decide) ?_
      refine ex_goto (ct := am_c179_46) rfl ?_
      exact e179_46 hd H
    · rw [if_neg h6] at H
      refine ex_icmp_ne_j (ct := am_c179_36) h6 rfl ?_
      refine ex_aload_n rfl ?_
      refine ex_getR (w := 46) rfl rfl rfl ?_
      refine ex_iload_n rfl ?_
      refine ex_iload_n rfl ?_
      refine ex_iload_n rfl ?_
      obtain ⟨v7, S8, hp, H⟩ := am_b2_el H
      refine ex_callV rfl rfl (Nat.le_of_ble_eq_true rfl) (Nat.le_of_ble_eq_true rfl) rfl (r113 (by omega) hp) rfl ?_
      exact e179_46 hd H
-- X9_bind
def f173 (F : Nat) (x1 : Int32) (x2 : Int32) (x3 : Int32) (S : AmT) : Option (Int32 × AmT) := am_b2 (f81 F S) fun v1 S2 => if v1 = 0 then (am_b2 (f2 F x1 S2) fun v4 S5 => if v4 = 0 then (some ((-2), S5)) else (am_b2 (f21 F x2 S5) fun v7 S8 => if v7 = 0 then (some ((-2), S8)) else (am_b2 (f194 F x3 1 24 S8) fun v10 S11 => if v10 = 0 then (some ((-1), S11)) else ((f58 F S11).bind fun S13 => am_b2 (f10 F x1 x2 x3 S13) fun v14 S15 => am_b2 (f129 F v14 S15) fun v16 S17 => some (v16, S17))))) else (some ((-4), S2))
set_option maxHeartbeats 1000000 in
set_option maxRecDepth 20000 in
theorem r173 {Lg : Nat} {xs : Nat → Int32} {d F : Nat} {x1 : Int32} {x2 : Int32} {x3 : Int32} {S : AmT} {q : Int32 × AmT} (hd : 17 ≤ d) (H : f173 F x1 x2 x3 S = some q) : Ex (am_X Lg xs) d 173 (am_P 173) (am_ini (am_Mi 173).1 [.ref 0, .int x1, .int x2, .int x3]) [] (hS S) (some q.1, hS q.2) := by
  obtain ⟨d, rfl⟩ : ∃ d2, d = d2 + 1 := ⟨d - 1, by omega⟩
  unfold f173 at H
  show Ex (am_X Lg xs) _ 173 am_c173_0 [.ref 0, .int x1, .int x2, .int x3] [] (hS S) (some q.1, hS q.2)
  refine ex_aload_n rfl ?_
  refine ex_getR (w := 86) rfl rfl rfl ?_
  obtain ⟨v1, S2, hp, H⟩ := am_b2_el H
  refine ex_callV rfl rfl (Nat.le_of_ble_eq_true rfl) (Nat.le_of_ble_eq_true rfl) rfl (r81 (by omega) hp) rfl ?_
  by_cases h3 : v1 = 0
  · rw [if_pos h3] at H
    refine ex_if_eq_j (ct := am_c173_13) h3 rfl ?_
    refine ex_aload_n rfl ?_
    refine ex_getR (w := 69) rfl rfl rfl ?_
    refine ex_iload_n rfl ?_
    obtain ⟨v4, S5, hp, H⟩ := am_b2_el H
    refine ex_callV rfl rfl (Nat.le_of_ble_eq_true rfl) (Nat.le_of_ble_eq_true rfl) rfl (r2 (by omega) hp) rfl ?_
    by_cases h6 : v4 = 0
    · rw [if_pos h6] at H
      refine ex_if_eq_j (ct := am_c173_35) h6 rfl ?_
      refine ex_bipush (v := (-2)) (by decide) ?_
      have H := Option.some.inj H
      subst H
      exact ex_iret (M := 173) (Or.inl rfl)
    · rw [if_neg h6] at H
      refine ex_if_eq_f h6 ?_
      refine ex_aload_n rfl ?_
      refine ex_getR (w := 22) rfl rfl rfl ?_
      refine ex_iload_n rfl ?_
      obtain ⟨v7, S8, hp, H⟩ := am_b2_el H
      refine ex_callV rfl rfl (Nat.le_of_ble_eq_true rfl) (Nat.le_of_ble_eq_true rfl) rfl (r21 (by omega) hp) rfl ?_
      by_cases h9 : v7 = 0
      · rw [if_pos h9] at H
        refine ex_if_ne_f h9 ?_
        refine ex_bipush (v := (-2)) (by decide) ?_
        have H := Option.some.inj H
        subst H
        exact ex_iret (M := 173) (Or.inl rfl)
      · rw [if_neg h9] at H
        refine ex_if_ne_j (ct := am_c173_38) h9 rfl ?_
        refine ex_iload_n rfl ?_
        refine ex_iconst (v := 1) (by decide) ?_
        refine ex_bipush (v := 24) (by decide) ?_
        obtain ⟨v10, S11, hp, H⟩ := am_b2_el H
        refine ex_callS rfl rfl (Nat.le_of_ble_eq_true rfl) (Nat.le_of_ble_eq_true rfl) (r194 (by omega) hp) rfl ?_
        by_cases h12 : v10 = 0
        · rw [if_pos h12] at H
          refine ex_if_ne_f h12 ?_
          refine ex_iconst (v := (-1)) (by decide) ?_
          have H := Option.some.inj H
          subst H
          exact ex_iret (M := 173) (Or.inl rfl)
        · rw [if_neg h12] at H
          refine ex_if_ne_j (ct := am_c173_50) h12 rfl ?_
          refine ex_aload_n rfl ?_
          refine ex_getR (w := 1) rfl rfl rfl ?_
          obtain ⟨S13, hp, H⟩ := Option.bind_eq_some_iff.mp H
          refine ex_callV rfl rfl (Nat.le_of_ble_eq_true rfl) (Nat.le_of_ble_eq_true rfl) rfl (r58 (by omega) hp) rfl ?_
          refine ex_aload_n rfl ?_
          refine ex_getR (w := 5) rfl rfl rfl ?_
          refine ex_aload_n rfl ?_
          refine ex_getR (w := 69) rfl rfl rfl ?_
          refine ex_iload_n rfl ?_
          refine ex_iload_n rfl ?_
          refine ex_iload_n rfl ?_
          obtain ⟨v14, S15, hp, H⟩ := am_b2_el H
          refine ex_callV rfl rfl (Nat.le_of_ble_eq_true rfl) (Nat.le_of_ble_eq_true rfl) rfl (r10 (by omega) hp) rfl ?_
          obtain ⟨v16, S17, hp, H⟩ := am_b2_el H
          refine ex_callV rfl rfl (Nat.le_of_ble_eq_true rfl) (Nat.le_of_ble_eq_true rfl) rfl (r129 (by omega) hp) rfl ?_
          have H := Option.some.inj H
          subst H
          exact ex_iret (M := 173) (Or.inl rfl)
  · rw [if_neg h3] at H
    refine ex_if_eq_f h3 ?_
    refine ex_bipush (v := (-4)) (by decide) ?_
    have H := Option.some.inj H
    subst H
    exact ex_iret (M := 173) (Or.inl rfl)
-- X9_pageAt
def f178 (F : Nat) (x1 : Int32) (x2 : Int32) (S : AmT) : Option (Int32 × AmT) := am_b2 (f21 F x1 S) fun v1 S2 => if v1 = 0 then (some ((-2), S2)) else (am_b2 (f14 F x1 x2 S2) fun v4 S5 => am_b2 (f129 F v4 S5) fun v6 S7 => some (v6, S7))
set_option maxHeartbeats 1000000 in
set_option maxRecDepth 20000 in
theorem r178 {Lg : Nat} {xs : Nat → Int32} {d F : Nat} {x1 : Int32} {x2 : Int32} {S : AmT} {q : Int32 × AmT} (hd : 17 ≤ d) (H : f178 F x1 x2 S = some q) : Ex (am_X Lg xs) d 178 (am_P 178) (am_ini (am_Mi 178).1 [.ref 0, .int x1, .int x2]) [] (hS S) (some q.1, hS q.2) := by
  obtain ⟨d, rfl⟩ : ∃ d2, d = d2 + 1 := ⟨d - 1, by omega⟩
  unfold f178 at H
  show Ex (am_X Lg xs) _ 178 am_c178_0 [.ref 0, .int x1, .int x2] [] (hS S) (some q.1, hS q.2)
  refine ex_aload_n rfl ?_
  refine ex_getR (w := 22) rfl rfl rfl ?_
  refine ex_iload_n rfl ?_
  obtain ⟨v1, S2, hp, H⟩ := am_b2_el H
  refine ex_callV rfl rfl (Nat.le_of_ble_eq_true rfl) (Nat.le_of_ble_eq_true rfl) rfl (r21 (by omega) hp) rfl ?_
  by_cases h3 : v1 = 0
  · rw [if_pos h3] at H
    refine ex_if_ne_f h3 ?_
    refine ex_bipush (v := (-2)) (by decide) ?_
    have H := Option.some.inj H
    subst H
    exact ex_iret (M := 178) (Or.inl rfl)
  · rw [if_neg h3] at H
    refine ex_if_ne_j (ct := am_c178_14) h3 rfl ?_
    refine ex_aload_n rfl ?_
    refine ex_getR (w := 5) rfl rfl rfl ?_
    refine ex_aload_n rfl ?_
    refine ex_getR (w := 69) rfl rfl rfl ?_
    refine ex_iload_n rfl ?_
    refine ex_iload_n rfl ?_
    obtain ⟨v4, S5, hp, H⟩ := am_b2_el H
    refine ex_callV rfl rfl (Nat.le_of_ble_eq_true rfl) (Nat.le_of_ble_eq_true rfl) rfl (r14 (by omega) hp) rfl ?_
    obtain ⟨v6, S7, hp, H⟩ := am_b2_el H
    refine ex_callV rfl rfl (Nat.le_of_ble_eq_true rfl) (Nat.le_of_ble_eq_true rfl) rfl (r129 (by omega) hp) rfl ?_
    have H := Option.some.inj H
    subst H
    exact ex_iret (M := 178) (Or.inl rfl)
def g185_24 (F : Nat) : Nat → Int32 → Int32 → AmT → Option (Int32 × AmT)
  | 0, _, _, _ => none
  | n + 1, x1, x2, S => if x2 < 0 then (some (x1, S)) else (am_b2 (f81 F S) fun v6 S7 => if v6 = 0 then (am_b2 (f87 F x2 S7) fun v9 S10 => g185_24 F n (x1 + v9) (x2 + (-1)) S10) else (some (x1, S7)))
-- X9_step
def f185 (F : Nat) (S : AmT) : Option (Int32 × AmT) := am_b2 (f81 F S) fun v1 S2 => if v1 = 0 then ((f58 F S2).bind fun S4 => g185_24 F F 0 4 S4) else (some ((-4), S2))
set_option maxHeartbeats 1000000 in
set_option maxRecDepth 20000 in
theorem e185_24 {Lg : Nat} {xs : Nat → Int32} {d F : Nat} (hd : 17 ≤ d) : ∀ (n : Nat) (x1 : Int32) (x2 : Int32) (S : AmT) (q : Int32 × AmT), g185_24 F n x1 x2 S = some q → Ex (am_X Lg xs) d 185 am_c185_24 [.ref 0, .int x1, .int x2] [] (hS S) (some q.1, hS q.2) := by
  obtain ⟨d, rfl⟩ : ∃ d2, d = d2 + 1 := ⟨d - 1, by omega⟩
  intro n
  induction n with
  | zero =>
    intro x1 x2 S q H
    cases H
  | succ n ih =>
    intro x1 x2 S q H
    have H : (if x2 < 0 then (some (x1, S)) else (am_b2 (f81 F S) fun v6 S7 => if v6 = 0 then (am_b2 (f87 F x2 S7) fun v9 S10 => g185_24 F n (x1 + v9) (x2 + (-1)) S10) else (some (x1, S7)))) = some q := H
    refine ex_iload_n rfl ?_
    by_cases h5 : x2 < 0
    · rw [if_pos h5] at H
      refine ex_if_lt_j (ct := am_c185_55) h5 rfl ?_
      refine ex_iload_n rfl ?_
      have H := Option.some.inj H
      subst H
      exact ex_iret (M := 185) (Or.inl rfl)
    · rw [if_neg h5] at H
      refine ex_if_lt_f h5 ?_
      refine ex_aload_n rfl ?_
      refine ex_getR (w := 86) rfl rfl rfl ?_
      obtain ⟨v6, S7, hp, H⟩ := am_b2_el H
      refine ex_callV rfl rfl (Nat.le_of_ble_eq_true rfl) (Nat.le_of_ble_eq_true rfl) rfl (r81 (by omega) hp) rfl ?_
      by_cases h8 : v6 = 0
      · rw [if_pos h8] at H
        refine ex_if_ne_f h8 ?_
        refine ex_iload_n rfl ?_
        refine ex_aload_n rfl ?_
        refine ex_getR (w := 86) rfl rfl rfl ?_
        refine ex_iload_n rfl ?_
        obtain ⟨v9, S10, hp, H⟩ := am_b2_el H
        refine ex_callV rfl rfl (Nat.le_of_ble_eq_true rfl) (Nat.le_of_ble_eq_true rfl) rfl (r87 (by omega) hp) rfl ?_
        refine ex_iadd ?_
        refine ex_istore_n (L2 := [.ref 0, .int (x1 + v9), .int x2]) (Nat.le_of_ble_eq_true rfl) rfl ?_
        refine ex_iinc (L2 := [.ref 0, .int (x1 + v9), .int (x2 + (-1))]) (v := (x2 + (-1))) rfl (Nat.le_of_ble_eq_true rfl) (congrArg (fun z => x2 + z) (by decide)) rfl ?_
        refine ex_goto (ct := am_c185_24) rfl ?_
        exact ih _ _ _ _ H
      · rw [if_neg h8] at H
        refine ex_if_ne_j (ct := am_c185_55) h8 rfl ?_
        refine ex_iload_n rfl ?_
        have H := Option.some.inj H
        subst H
        exact ex_iret (M := 185) (Or.inl rfl)
set_option maxHeartbeats 1000000 in
set_option maxRecDepth 20000 in
theorem r185 {Lg : Nat} {xs : Nat → Int32} {d F : Nat} {S : AmT} {q : Int32 × AmT} (hd : 17 ≤ d) (H : f185 F S = some q) : Ex (am_X Lg xs) d 185 (am_P 185) (am_ini (am_Mi 185).1 [.ref 0]) [] (hS S) (some q.1, hS q.2) := by
  obtain ⟨d, rfl⟩ : ∃ d2, d = d2 + 1 := ⟨d - 1, by omega⟩
  unfold f185 at H
  show Ex (am_X Lg xs) _ 185 am_c185_0 [.ref 0, .long 0, .long 0] [] (hS S) (some q.1, hS q.2)
  refine ex_aload_n rfl ?_
  refine ex_getR (w := 86) rfl rfl rfl ?_
  obtain ⟨v1, S2, hp, H⟩ := am_b2_el H
  refine ex_callV rfl rfl (Nat.le_of_ble_eq_true rfl) (Nat.le_of_ble_eq_true rfl) rfl (r81 (by omega) hp) rfl ?_
  by_cases h3 : v1 = 0
  · rw [if_pos h3] at H
    refine ex_if_eq_j (ct := am_c185_13) h3 rfl ?_
    refine ex_aload_n rfl ?_
    refine ex_getR (w := 1) rfl rfl rfl ?_
    obtain ⟨S4, hp, H⟩ := Option.bind_eq_some_iff.mp H
    refine ex_callV rfl rfl (Nat.le_of_ble_eq_true rfl) (Nat.le_of_ble_eq_true rfl) rfl (r58 (by omega) hp) rfl ?_
    refine ex_iconst (v := 0) (by decide) ?_
    refine ex_istore_n (L2 := [.ref 0, .int 0, .long 0]) (Nat.le_of_ble_eq_true rfl) rfl ?_
    refine ex_iconst (v := 4) (by decide) ?_
    refine ex_istore_n (L2 := [.ref 0, .int 0, .int 4]) (Nat.le_of_ble_eq_true rfl) rfl ?_
    exact e185_24 hd _ _ _ _ _ H
  · rw [if_neg h3] at H
    refine ex_if_eq_f h3 ?_
    refine ex_bipush (v := (-4)) (by decide) ?_
    have H := Option.some.inj H
    subst H
    exact ex_iret (M := 185) (Or.inl rfl)
