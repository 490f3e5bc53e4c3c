/-! printed by wip/gen/gen20.py -/
def g79_15 (F : Nat) : Nat → Int32 → Int32 → Int32 → AmT → Option (Int32 × AmT)
  | 0, _, _, _, _ => none
  | n + 1, x2, x3, x4, S => am_b2 (f298 F x3 S) fun v3 S4 => if v3 = 0 then (some (x4, S4)) else (if 64 ≤ x4 then (some (x4, S4)) else (if x2 < 0 then (some (x4, S4)) else (if 512 ≤ (x2 + x4) then (some (x4, S4)) else (am_ck x3 64 (am_ck (x2 + x4) 512 (am_lt ((am_upI S4.1 23 (x2 + x4).toNatClampNeg ((x3 * 4) + (S4.1 29 x3.toNatClampNeg)), S4.2) : AmT) fun S9 => am_ck x3 64 (g79_15 F n x2 (S9.1 28 x3.toNatClampNeg) (x4 + 1) S9)))))))
-- X5_listLeaves
def f79 (F : Nat) (x2 : Int32) (S : AmT) : Option (Int32 × AmT) := am_b2 (f78 F 0 0 S) fun v1 S2 => am_ck v1 64 (g79_15 F F x2 (S2.1 27 v1.toNatClampNeg) 0 S2)
set_option maxHeartbeats 1000000 in
set_option maxRecDepth 20000 in
theorem e79_15 {Lg : Nat} {xs : Nat → Int32} {d F : Nat} (hd : 1 ≤ d) : ∀ (n : Nat) (x2 : Int32) (x3 : Int32) (x4 : Int32) (S : AmT) (q : Int32 × AmT), g79_15 F n x2 x3 x4 S = some q → Ex (am_X Lg xs) d 79 am_c79_15 [.ref 24, .ref 23, .int x2, .int x3, .int x4] [] (hS S) (some q.1, hS q.2) := by
  obtain ⟨d, rfl⟩ : ∃ d2, d = d2 + 1 := ⟨d - 1, by omega⟩
  intro n
  induction n with
  | zero =>
    intro x2 x3 x4 S q H
    cases H
  | succ n ih =>
    intro x2 x3 x4 S q H
    have H : (am_b2 (f298 F x3 S) fun v3 S4 => if v3 = 0 then (some (x4, S4)) else (if 64 ≤ x4 then (some (x4, S4)) else (if x2 < 0 then (some (x4, S4)) else (if 512 ≤ (x2 + x4) then (some (x4, S4)) else (am_ck x3 64 (am_ck (x2 + x4) 512 (am_lt ((am_upI S4.1 23 (x2 + x4).toNatClampNeg ((x3 * 4) + (S4.1 29 x3.toNatClampNeg)), S4.2) : AmT) fun S9 => am_ck x3 64 (g79_15 F n x2 (S9.1 28 x3.toNatClampNeg) (x4 + 1) S9)))))))) = some q := H
    refine ex_iload_n rfl ?_
    obtain ⟨v3, S4, hp, H⟩ := am_b2_el H
    refine ex_callS rfl rfl (Nat.le_of_ble_eq_true rfl) (Nat.le_of_ble_eq_true rfl) (r298 (by omega) hp) rfl ?_
    by_cases h5 : v3 = 0
    · rw [if_pos h5] at H
      refine ex_if_eq_j (ct := am_c79_71) h5 rfl ?_
      refine ex_iload rfl ?_
      have H := Option.some.inj H
      subst H
      exact ex_iret (M := 79) (Or.inl rfl)
    · rw [if_neg h5] at H
      refine ex_if_eq_f h5 ?_
      refine ex_iload rfl ?_
      refine ex_bipush (v := 64) (by decide) ?_
      by_cases h6 : 64 ≤ x4
      · rw [if_pos h6] at H
        refine ex_icmp_ge_j (ct := am_c79_71) h6 rfl ?_
        refine ex_iload rfl ?_
        have H := Option.some.inj H
        subst H
        exact ex_iret (M := 79) (Or.inl rfl)
      · rw [if_neg h6] at H
        refine ex_icmp_ge_f h6 ?_
        refine ex_iload_n rfl ?_
        by_cases h7 : x2 < 0
        · rw [if_pos h7] at H
          refine ex_if_lt_j (ct := am_c79_71) h7 rfl ?_
          refine ex_iload rfl ?_
          have H := Option.some.inj H
          subst H
          exact ex_iret (M := 79) (Or.inl rfl)
        · rw [if_neg h7] at H
          refine ex_if_lt_f h7 ?_
          refine ex_iload_n rfl ?_
          refine ex_iload rfl ?_
          refine ex_iadd ?_
          refine ex_aload_n rfl ?_
          refine ex_alen (k := 512) (v := 512) rfl (by decide) ?_
          by_cases h8 : 512 ≤ (x2 + x4)
          · rw [if_pos h8] at H
            refine ex_icmp_ge_j (ct := am_c79_71) h8 rfl ?_
            refine ex_iload rfl ?_
            have H := Option.some.inj H
            subst H
            exact ex_iret (M := 79) (Or.inl rfl)
          · rw [if_neg h8] at H
            refine ex_icmp_ge_f h8 ?_
            refine ex_aload_n rfl ?_
            refine ex_iload_n rfl ?_
            refine ex_iload rfl ?_
            refine ex_iadd ?_
            refine ex_iload_n rfl ?_
            refine ex_iconst (v := 4) (by decide) ?_
            refine ex_imul ?_
            refine ex_aload_n rfl ?_
            refine ex_getR (w := 29) rfl rfl rfl ?_
            refine ex_iload_n rfl ?_
            obtain ⟨hj, H⟩ := am_ck_el H
            refine ex_iald (k := 64) (v := S4.1 29 x3.toNatClampNeg) rfl hj rfl ?_
            refine ex_iadd ?_
            obtain ⟨hj, H⟩ := am_ck_el H
            refine ex_iast (k := 512) rfl rfl hj ?_
            generalize ((am_upI S4.1 23 (x2 + x4).toNatClampNeg ((x3 * 4) + (S4.1 29 x3.toNatClampNeg)), S4.2) : AmT) = S9 at H ⊢
            have H := am_lt_el H
            refine ex_aload_n rfl ?_
            refine ex_getR (w := 28) rfl rfl rfl ?_
            refine ex_iload_n rfl ?_
            obtain ⟨hj, H⟩ := am_ck_el H
            refine ex_iald (k := 64) (v := S9.1 28 x3.toNatClampNeg) rfl hj rfl ?_
            refine ex_istore_n (L2 := [.ref 24, .ref 23, .int x2, .int (S9.1 28 x3.toNatClampNeg), .int x4]) (Nat.le_of_ble_eq_true rfl) rfl ?_
            refine ex_iinc (L2 := [.ref 24, .ref 23, .int x2, .int (S9.1 28 x3.toNatClampNeg), .int (x4 + 1)]) (v := (x4 + 1)) rfl (Nat.le_of_ble_eq_true rfl) (congrArg (fun z => x4 + z) (by decide)) rfl ?_
            refine ex_goto (ct := am_c79_15) rfl ?_
            exact ih _ _ _ _ _ H
set_option maxHeartbeats 1000000 in
set_option maxRecDepth 20000 in
theorem r79 {Lg : Nat} {xs : Nat → Int32} {d F : Nat} {x2 : Int32} {S : AmT} {q : Int32 × AmT} (hd : 1 ≤ d) (H : f79 F x2 S = some q) : Ex (am_X Lg xs) d 79 (am_P 79) (am_ini (am_Mi 79).1 [.ref 24, .ref 23, .int x2]) [] (hS S) (some q.1, hS q.2) := by
  obtain ⟨d, rfl⟩ : ∃ d2, d = d2 + 1 := ⟨d - 1, by omega⟩
  unfold f79 at H
  show Ex (am_X Lg xs) _ 79 am_c79_0 [.ref 24, .ref 23, .int x2, .long 0, .long 0] [] (hS S) (some q.1, hS q.2)
  refine ex_aload_n rfl ?_
  refine ex_getR (w := 27) rfl rfl rfl ?_
  refine ex_aload_n rfl ?_
  refine ex_iconst (v := 0) (by decide) ?_
  refine ex_iconst (v := 0) (by decide) ?_
  obtain ⟨v1, S2, hp, H⟩ := am_b2_el H
  refine ex_callV rfl rfl (Nat.le_of_ble_eq_true rfl) (Nat.le_of_ble_eq_true rfl) rfl (r78 (by omega) hp) rfl ?_
  obtain ⟨hj, H⟩ := am_ck_el H
  refine ex_iald (k := 64) (v := S2.1 27 v1.toNatClampNeg) rfl hj rfl ?_
  refine ex_istore_n (L2 := [.ref 24, .ref 23, .int x2, .int (S2.1 27 v1.toNatClampNeg), .long 0]) (Nat.le_of_ble_eq_true rfl) rfl ?_
  refine ex_iconst (v := 0) (by decide) ?_
  refine ex_istore (L2 := [.ref 24, .ref 23, .int x2, .int (S2.1 27 v1.toNatClampNeg), .int 0]) (Nat.le_of_ble_eq_true rfl) rfl ?_
  exact e79_15 hd _ _ _ _ _ _ H
-- X6_isJammed
def f81 (F : Nat) (S : AmT) : Option (Int32 × AmT) := if (kg S.1 92 1 0) = 0 then (some (0, S)) else (some (1, S))
set_option maxHeartbeats 1000000 in
set_option maxRecDepth 20000 in
theorem r81 {Lg : Nat} {xs : Nat → Int32} {d F : Nat} {S : AmT} {q : Int32 × AmT} (hd : 1 ≤ d) (H : f81 F S = some q) : Ex (am_X Lg xs) d 81 (am_P 81) (am_ini (am_Mi 81).1 [.ref 86]) [] (hS S) (some q.1, hS q.2) := by
  obtain ⟨d, rfl⟩ : ∃ d2, d = d2 + 1 := ⟨d - 1, by omega⟩
  unfold f81 at H
  show Ex (am_X Lg xs) _ 81 am_c81_0 [.ref 86] [] (hS S) (some q.1, hS q.2)
  refine ex_aload_n rfl ?_
  refine ex_getR (w := 91) rfl rfl rfl ?_
  refine ex_iconst (v := 0) (by decide) ?_
  refine ex_kget (c := 91) (ar := 92) (n := 1) rfl (Nat.le_of_ble_eq_true rfl) ?_
  by_cases h1 : (kg S.1 92 1 0) = 0
  · rw [if_pos h1] at H
    refine ex_if_eq_j (ct := am_c81_15) h1 rfl ?_
    refine ex_iconst (v := 0) (by decide) ?_
    have H := Option.some.inj H
    subst H
    exact ex_iret (M := 81) (Or.inr ⟨rfl, by decide⟩)
  · rw [if_neg h1] at H
    refine ex_if_eq_f h1 ?_
    refine ex_iconst (v := 1) (by decide) ?_
    refine ex_goto (ct := am_c81_16) rfl ?_
    have H := Option.some.inj H
    subst H
    exact ex_iret (M := 81) (Or.inr ⟨rfl, by decide⟩)
-- X6_currentMargin
def f83 (F : Nat) (S : AmT) : Option (Int32 × AmT) := some ((kg S.1 94 1 0), S)
set_option maxHeartbeats 1000000 in
set_option maxRecDepth 20000 in
theorem r83 {Lg : Nat} {xs : Nat → Int32} {d F : Nat} {S : AmT} {q : Int32 × AmT} (hd : 1 ≤ d) (H : f83 F S = some q) : Ex (am_X Lg xs) d 83 (am_P 83) (am_ini (am_Mi 83).1 [.ref 86]) [] (hS S) (some q.1, hS q.2) := by
  obtain ⟨d, rfl⟩ : ∃ d2, d = d2 + 1 := ⟨d - 1, by omega⟩
  unfold f83 at H
  show Ex (am_X Lg xs) _ 83 am_c83_0 [.ref 86] [] (hS S) (some q.1, hS q.2)
  refine ex_aload_n rfl ?_
  refine ex_getR (w := 93) rfl rfl rfl ?_
  refine ex_iconst (v := 0) (by decide) ?_
  refine ex_kget (c := 93) (ar := 94) (n := 1) rfl (Nat.le_of_ble_eq_true rfl) ?_
  have H := Option.some.inj H
  subst H
  exact ex_iret (M := 83) (Or.inl rfl)
-- X7_count
def f94 (F : Nat) (S : AmT) : Option (Int32 × AmT) := some ((kg S.1 48 1 0), S)
set_option maxHeartbeats 1000000 in
set_option maxRecDepth 20000 in
theorem r94 {Lg : Nat} {xs : Nat → Int32} {d F : Nat} {S : AmT} {q : Int32 × AmT} (hd : 1 ≤ d) (H : f94 F S = some q) : Ex (am_X Lg xs) d 94 (am_P 94) (am_ini (am_Mi 94).1 [.ref 46]) [] (hS S) (some q.1, hS q.2) := by
  obtain ⟨d, rfl⟩ : ∃ d2, d = d2 + 1 := ⟨d - 1, by omega⟩
  unfold f94 at H
  show Ex (am_X Lg xs) _ 94 am_c94_0 [.ref 46] [] (hS S) (some q.1, hS q.2)
  refine ex_aload_n rfl ?_
  refine ex_getR (w := 47) rfl rfl rfl ?_
  refine ex_iconst (v := 0) (by decide) ?_
  refine ex_kget (c := 47) (ar := 48) (n := 1) rfl (Nat.le_of_ble_eq_true rfl) ?_
  have H := Option.some.inj H
  subst H
  exact ex_iret (M := 94) (Or.inl rfl)
-- X7_has
def f95 (F : Nat) (x1 : Int32) (S : AmT) : Option (Int32 × AmT) := if x1 < 0 then (some (0, S)) else (if (kg S.1 48 1 0) ≤ x1 then (some (0, S)) else (some (1, S)))
set_option maxHeartbeats 1000000 in
set_option maxRecDepth 20000 in
theorem r95 {Lg : Nat} {xs : Nat → Int32} {d F : Nat} {x1 : Int32} {S : AmT} {q : Int32 × AmT} (hd : 1 ≤ d) (H : f95 F x1 S = some q) : Ex (am_X Lg xs) d 95 (am_P 95) (am_ini (am_Mi 95).1 [.ref 46, .int x1]) [] (hS S) (some q.1, hS q.2) := by
  obtain ⟨d, rfl⟩ : ∃ d2, d = d2 + 1 := ⟨d - 1, by omega⟩
  unfold f95 at H
  show Ex (am_X Lg xs) _ 95 am_c95_0 [.ref 46, .int x1] [] (hS S) (some q.1, hS q.2)
  refine ex_iload_n rfl ?_
  by_cases h1 : x1 < 0
  · rw [if_pos h1] at H
    refine ex_if_lt_j (ct := am_c95_20) h1 rfl ?_
    refine ex_iconst (v := 0) (by decide) ?_
    have H := Option.some.inj H
    subst H
    exact ex_iret (M := 95) (Or.inr ⟨rfl, by decide⟩)
  · rw [if_neg h1] at H
    refine ex_if_lt_f h1 ?_
    refine ex_iload_n rfl ?_
    refine ex_aload_n rfl ?_
    refine ex_getR (w := 47) rfl rfl rfl ?_
    refine ex_iconst (v := 0) (by decide) ?_
    refine ex_kget (c := 47) (ar := 48) (n := 1) rfl (Nat.le_of_ble_eq_true rfl) ?_
    by_cases h2 : (kg S.1 48 1 0) ≤ x1
    · rw [if_pos h2] at H
      refine ex_icmp_ge_j (ct := am_c95_20) h2 rfl ?_
      refine ex_iconst (v := 0) (by decide) ?_
      have H := Option.some.inj H
      subst H
      exact ex_iret (M := 95) (Or.inr ⟨rfl, by decide⟩)
    · rw [if_neg h2] at H
      refine ex_icmp_ge_f h2 ?_
      refine ex_iconst (v := 1) (by decide) ?_
      refine ex_goto (ct := am_c95_21) rfl ?_
      have H := Option.some.inj H
      subst H
      exact ex_iret (M := 95) (Or.inr ⟨rfl, by decide⟩)
-- X7_rowsOf
def f97 (F : Nat) (x1 : Int32) (S : AmT) : Option (Int32 × AmT) := some ((kg S.1 52 8 x1), S)
set_option maxHeartbeats 1000000 in
set_option maxRecDepth 20000 in
theorem r97 {Lg : Nat} {xs : Nat → Int32} {d F : Nat} {x1 : Int32} {S : AmT} {q : Int32 × AmT} (hd : 1 ≤ d) (H : f97 F x1 S = some q) : Ex (am_X Lg xs) d 97 (am_P 97) (am_ini (am_Mi 97).1 [.ref 46, .int x1]) [] (hS S) (some q.1, hS q.2) := by
  obtain ⟨d, rfl⟩ : ∃ d2, d = d2 + 1 := ⟨d - 1, by omega⟩
  unfold f97 at H
  show Ex (am_X Lg xs) _ 97 am_c97_0 [.ref 46, .int x1] [] (hS S) (some q.1, hS q.2)
  refine ex_aload_n rfl ?_
  refine ex_getR (w := 51) rfl rfl rfl ?_
  refine ex_iload_n rfl ?_
  refine ex_kget (c := 51) (ar := 52) (n := 8) rfl (Nat.le_of_ble_eq_true rfl) ?_
  have H := Option.some.inj H
  subst H
  exact ex_iret (M := 97) (Or.inl rfl)
-- X7_columnsOf
def f98 (F : Nat) (x1 : Int32) (S : AmT) : Option (Int32 × AmT) := some ((kg S.1 54 8 x1), S)
set_option maxHeartbeats 1000000 in
set_option maxRecDepth 20000 in
theorem r98 {Lg : Nat} {xs : Nat → Int32} {d F : Nat} {x1 : Int32} {S : AmT} {q : Int32 × AmT} (hd : 1 ≤ d) (H : f98 F x1 S = some q) : Ex (am_X Lg xs) d 98 (am_P 98) (am_ini (am_Mi 98).1 [.ref 46, .int x1]) [] (hS S) (some q.1, hS q.2) := by
  obtain ⟨d, rfl⟩ : ∃ d2, d = d2 + 1 := ⟨d - 1, by omega⟩
  unfold f98 at H
  show Ex (am_X Lg xs) _ 98 am_c98_0 [.ref 46, .int x1] [] (hS S) (some q.1, hS q.2)
  refine ex_aload_n rfl ?_
  refine ex_getR (w := 53) rfl rfl rfl ?_
  refine ex_iload_n rfl ?_
  refine ex_kget (c := 53) (ar := 54) (n := 8) rfl (Nat.le_of_ble_eq_true rfl) ?_
  have H := Option.some.inj H
  subst H
  exact ex_iret (M := 98) (Or.inl rfl)
-- X7_leavesOf
def f99 (F : Nat) (x1 : Int32) (S : AmT) : Option (Int32 × AmT) := some (((kg S.1 52 8 x1) * (kg S.1 54 8 x1)), S)
set_option maxHeartbeats 1000000 in
set_option maxRecDepth 20000 in
theorem r99 {Lg : Nat} {xs : Nat → Int32} {d F : Nat} {x1 : Int32} {S : AmT} {q : Int32 × AmT} (hd : 1 ≤ d) (H : f99 F x1 S = some q) : Ex (am_X Lg xs) d 99 (am_P 99) (am_ini (am_Mi 99).1 [.ref 46, .int x1]) [] (hS S) (some q.1, hS q.2) := by
  obtain ⟨d, rfl⟩ : ∃ d2, d = d2 + 1 := ⟨d - 1, by omega⟩
  unfold f99 at H
  show Ex (am_X Lg xs) _ 99 am_c99_0 [.ref 46, .int x1] [] (hS S) (some q.1, hS q.2)
  refine ex_aload_n rfl ?_
  refine ex_getR (w := 51) rfl rfl rfl ?_
  refine ex_iload_n rfl ?_
  refine ex_kget (c := 51) (ar := 52) (n := 8) rfl (Nat.le_of_ble_eq_true rfl) ?_
  refine ex_aload_n rfl ?_
  refine ex_getR (w := 53) rfl rfl rfl ?_
  refine ex_iload_n rfl ?_
  refine ex_kget (c := 53) (ar := 54) (n := 8) rfl (Nat.le_of_ble_eq_true rfl) ?_
  refine ex_imul ?_
  have H := Option.some.inj H
  subst H
  exact ex_iret (M := 99) (Or.inl rfl)
-- X7_hasRow
def f101 (F : Nat) (x1 : Int32) (x2 : Int32) (S : AmT) : Option (Int32 × AmT) := if x2 < 0 then (some (0, S)) else (if (kg S.1 52 8 x1) ≤ x2 then (some (0, S)) else (some (1, S)))
set_option maxHeartbeats 1000000 in
set_option maxRecDepth 20000 in
theorem r101 {Lg : Nat} {xs : Nat → Int32} {d F : Nat} {x1 : Int32} {x2 : Int32} {S : AmT} {q : Int32 × AmT} (hd : 1 ≤ d) (H : f101 F x1 x2 S = some q) : Ex (am_X Lg xs) d 101 (am_P 101) (am_ini (am_Mi 101).1 [.ref 46, .int x1, .int x2]) [] (hS S) (some q.1, hS q.2) := by
  obtain ⟨d, rfl⟩ : ∃ d2, d = d2 + 1 := ⟨d - 1, by omega⟩
  unfold f101 at H
  show Ex (am_X Lg xs) _ 101 am_c101_0 [.ref 46, .int x1, .int x2] [] (hS S) (some q.1, hS q.2)
  refine ex_iload_n rfl ?_
  by_cases h1 : x2 < 0
  · rw [if_pos h1] at H
    refine ex_if_lt_j (ct := am_c101_20) h1 rfl ?_
    refine ex_iconst (v := 0) (by decide) ?_
    have H := Option.some.inj H
    subst H
    exact ex_iret (M := 101) (Or.inr ⟨rfl, by decide⟩)
  · rw [if_neg h1] at H
    refine ex_if_lt_f h1 ?_
    refine ex_iload_n rfl ?_
    refine ex_aload_n rfl ?_
    refine ex_getR (w := 51) rfl rfl rfl ?_
    refine ex_iload_n rfl ?_
    refine ex_kget (c := 51) (ar := 52) (n := 8) rfl (Nat.le_of_ble_eq_true rfl) ?_
    by_cases h2 : (kg S.1 52 8 x1) ≤ x2
    · rw [if_pos h2] at H
      refine ex_icmp_ge_j (ct := am_c101_20) h2 rfl ?_
      refine ex_iconst (v := 0) (by decide) ?_
      have H := Option.some.inj H
      subst H
      exact ex_iret (M := 101) (Or.inr ⟨rfl, by decide⟩)
    · rw [if_neg h2] at H
      refine ex_icmp_ge_f h2 ?_
      refine ex_iconst (v := 1) (by decide) ?_
      refine ex_goto (ct := am_c101_21) rfl ?_
      have H := Option.some.inj H
      subst H
      exact ex_iret (M := 101) (Or.inr ⟨rfl, by decide⟩)
-- X7_isTorn
def f102 (F : Nat) (x1 : Int32) (x2 : Int32) (x3 : Int32) (S : AmT) : Option (Int32 × AmT) := am_b2 (f100 F x1 x2 x3 S) fun v1 S2 => if (kg S2.1 56 128 v1) = 0 then (some (0, S2)) else (some (1, S2))
set_option maxHeartbeats 1000000 in
set_option maxRecDepth 20000 in
theorem r102 {Lg : Nat} {xs : Nat → Int32} {d F : Nat} {x1 : Int32} {x2 : Int32} {x3 : Int32} {S : AmT} {q : Int32 × AmT} (hd : 1 ≤ d) (H : f102 F x1 x2 x3 S = some q) : Ex (am_X Lg xs) d 102 (am_P 102) (am_ini (am_Mi 102).1 [.ref 46, .int x1, .int x2, .int x3]) [] (hS S) (some q.1, hS q.2) := by
  obtain ⟨d, rfl⟩ : ∃ d2, d = d2 + 1 := ⟨d - 1, by omega⟩
  unfold f102 at H
  show Ex (am_X Lg xs) _ 102 am_c102_0 [.ref 46, .int x1, .int x2, .int x3] [] (hS S) (some q.1, hS q.2)
  refine ex_aload_n rfl ?_
  refine ex_getR (w := 55) rfl rfl rfl ?_
  refine ex_iload_n rfl ?_
  refine ex_iload_n rfl ?_
  refine ex_iload_n rfl ?_
  obtain ⟨v1, S2, hp, H⟩ := am_b2_el H
  refine ex_callS rfl rfl (Nat.le_of_ble_eq_true rfl) (Nat.le_of_ble_eq_true rfl) (r100 (by omega) hp) rfl ?_
  refine ex_kget (c := 55) (ar := 56) (n := 128) rfl (Nat.le_of_ble_eq_true rfl) ?_
  by_cases h3 : (kg S2.1 56 128 v1) = 0
  · rw [if_pos h3] at H
    refine ex_if_eq_j (ct := am_c102_20) h3 rfl ?_
    refine ex_iconst (v := 0) (by decide) ?_
    have H := Option.some.inj H
    subst H
    exact ex_iret (M := 102) (Or.inr ⟨rfl, by decide⟩)
  · rw [if_neg h3] at H
    refine ex_if_eq_f h3 ?_
    refine ex_iconst (v := 1) (by decide) ?_
    refine ex_goto (ct := am_c102_21) rfl ?_
    have H := Option.some.inj H
    subst H
    exact ex_iret (M := 102) (Or.inr ⟨rfl, by decide⟩)
-- X7_pageIn
def f106 (F : Nat) (x1 : Int32) (S : AmT) : Option (Int32 × AmT) := some (((kg S.1 58 1024 x1) / 2), S)
set_option maxHeartbeats 1000000 in
set_option maxRecDepth 20000 in
theorem r106 {Lg : Nat} {xs : Nat → Int32} {d F : Nat} {x1 : Int32} {S : AmT} {q : Int32 × AmT} (hd : 1 ≤ d) (H : f106 F x1 S = some q) : Ex (am_X Lg xs) d 106 (am_P 106) (am_ini (am_Mi 106).1 [.ref 46, .int x1]) [] (hS S) (some q.1, hS q.2) := by
  obtain ⟨d, rfl⟩ : ∃ d2, d = d2 + 1 := ⟨d - 1, by omega⟩
  unfold f106 at H
  show Ex (am_X Lg xs) _ 106 am_c106_0 [.ref 46, .int x1] [] (hS S) (some q.1, hS q.2)
  refine ex_aload_n rfl ?_
  refine ex_getR (w := 57) rfl rfl rfl ?_
  refine ex_iload_n rfl ?_
  refine ex_kget (c := 57) (ar := 58) (n := 1024) rfl (Nat.le_of_ble_eq_true rfl) ?_
  refine ex_iconst (v := 2) (by decide) ?_
  refine ex_idiv (by decide) ?_
  have H := Option.some.inj H
  subst H
  exact ex_iret (M := 106) (Or.inl rfl)
-- X7_upIn
def f107 (F : Nat) (x1 : Int32) (S : AmT) : Option (Int32 × AmT) := some (((kg S.1 58 1024 x1) - (kg S.1 58 1024 x1) / 2 * 2), S)
set_option maxHeartbeats 1000000 in
set_option maxRecDepth 20000 in
theorem r107 {Lg : Nat} {xs : Nat → Int32} {d F : Nat} {x1 : Int32} {S : AmT} {q : Int32 × AmT} (hd : 1 ≤ d) (H : f107 F x1 S = some q) : Ex (am_X Lg xs) d 107 (am_P 107) (am_ini (am_Mi 107).1 [.ref 46, .int x1]) [] (hS S) (some q.1, hS q.2) := by
  obtain ⟨d, rfl⟩ : ∃ d2, d = d2 + 1 := ⟨d - 1, by omega⟩
  unfold f107 at H
  show Ex (am_X Lg xs) _ 107 am_c107_0 [.ref 46, .int x1] [] (hS S) (some q.1, hS q.2)
  refine ex_aload_n rfl ?_
  refine ex_getR (w := 57) rfl rfl rfl ?_
  refine ex_iload_n rfl ?_
  refine ex_kget (c := 57) (ar := 58) (n := 1024) rfl (Nat.le_of_ble_eq_true rfl) ?_
  refine ex_iconst (v := 2) (by decide) ?_
  refine ex_irem (by decide) ?_
  have H := Option.some.inj H
  subst H
  exact ex_iret (M := 107) (Or.inl rfl)
-- X7_isGathered
def f116 (F : Nat) (x1 : Int32) (S : AmT) : Option (Int32 × AmT) := if (kg S.1 60 8 x1) = 0 then (some (0, S)) else (some (1, S))
set_option maxHeartbeats 1000000 in
set_option maxRecDepth 20000 in
theorem r116 {Lg : Nat} {xs : Nat → Int32} {d F : Nat} {x1 : Int32} {S : AmT} {q : Int32 × AmT} (hd : 1 ≤ d) (H : f116 F x1 S = some q) : Ex (am_X Lg xs) d 116 (am_P 116) (am_ini (am_Mi 116).1 [.ref 46, .int x1]) [] (hS S) (some q.1, hS q.2) := by
  obtain ⟨d, rfl⟩ : ∃ d2, d = d2 + 1 := ⟨d - 1, by omega⟩
  unfold f116 at H
  show Ex (am_X Lg xs) _ 116 am_c116_0 [.ref 46, .int x1] [] (hS S) (some q.1, hS q.2)
  refine ex_aload_n rfl ?_
  refine ex_getR (w := 59) rfl rfl rfl ?_
  refine ex_iload_n rfl ?_
  refine ex_kget (c := 59) (ar := 60) (n := 8) rfl (Nat.le_of_ble_eq_true rfl) ?_
  by_cases h1 : (kg S.1 60 8 x1) = 0
  · rw [if_pos h1] at H
    refine ex_if_eq_j (ct := am_c116_15) h1 rfl ?_
    refine ex_iconst (v := 0) (by decide) ?_
    have H := Option.some.inj H
    subst H
    exact ex_iret (M := 116) (Or.inr ⟨rfl, by decide⟩)
  · rw [if_neg h1] at H
    refine ex_if_eq_f h1 ?_
    refine ex_iconst (v := 1) (by decide) ?_
    refine ex_goto (ct := am_c116_16) rfl ?_
    have H := Option.some.inj H
    subst H
    exact ex_iret (M := 116) (Or.inr ⟨rfl, by decide⟩)
-- X7_toldFold
def f119 (F : Nat) (x1 : Int32) (S : AmT) : Option (Int32 × AmT) := some ((kg S.1 62 8 x1), S)
set_option maxHeartbeats 1000000 in
set_option maxRecDepth 20000 in
theorem r119 {Lg : Nat} {xs : Nat → Int32} {d F : Nat} {x1 : Int32} {S : AmT} {q : Int32 × AmT} (hd : 1 ≤ d) (H : f119 F x1 S = some q) : Ex (am_X Lg xs) d 119 (am_P 119) (am_ini (am_Mi 119).1 [.ref 46, .int x1]) [] (hS S) (some q.1, hS q.2) := by
  obtain ⟨d, rfl⟩ : ∃ d2, d = d2 + 1 := ⟨d - 1, by omega⟩
  unfold f119 at H
  show Ex (am_X Lg xs) _ 119 am_c119_0 [.ref 46, .int x1] [] (hS S) (some q.1, hS q.2)
  refine ex_aload_n rfl ?_
  refine ex_getR (w := 61) rfl rfl rfl ?_
  refine ex_iload_n rfl ?_
  refine ex_kget (c := 61) (ar := 62) (n := 8) rfl (Nat.le_of_ble_eq_true rfl) ?_
  have H := Option.some.inj H
  subst H
  exact ex_iret (M := 119) (Or.inl rfl)
-- X7_placeOf
def f120 (F : Nat) (x1 : Int32) (S : AmT) : Option (Int32 × AmT) := some ((kg S.1 64 8 x1), S)
set_option maxHeartbeats 1000000 in
set_option maxRecDepth 20000 in
theorem r120 {Lg : Nat} {xs : Nat → Int32} {d F : Nat} {x1 : Int32} {S : AmT} {q : Int32 × AmT} (hd : 1 ≤ d) (H : f120 F x1 S = some q) : Ex (am_X Lg xs) d 120 (am_P 120) (am_ini (am_Mi 120).1 [.ref 46, .int x1]) [] (hS S) (some q.1, hS q.2) := by
  obtain ⟨d, rfl⟩ : ∃ d2, d = d2 + 1 := ⟨d - 1, by omega⟩
  unfold f120 at H
  show Ex (am_X Lg xs) _ 120 am_c120_0 [.ref 46, .int x1] [] (hS S) (some q.1, hS q.2)
  refine ex_aload_n rfl ?_
  refine ex_getR (w := 63) rfl rfl rfl ?_
  refine ex_iload_n rfl ?_
  refine ex_kget (c := 63) (ar := 64) (n := 8) rfl (Nat.le_of_ble_eq_true rfl) ?_
  have H := Option.some.inj H
  subst H
  exact ex_iret (M := 120) (Or.inl rfl)
-- X7_numberOf
def f121 (F : Nat) (x1 : Int32) (S : AmT) : Option (Int32 × AmT) := some ((kg S.1 66 8 x1), S)
set_option maxHeartbeats 1000000 in
set_option maxRecDepth 20000 in
theorem r121 {Lg : Nat} {xs : Nat → Int32} {d F : Nat} {x1 : Int32} {S : AmT} {q : Int32 × AmT} (hd : 1 ≤ d) (H : f121 F x1 S = some q) : Ex (am_X Lg xs) d 121 (am_P 121) (am_ini (am_Mi 121).1 [.ref 46, .int x1]) [] (hS S) (some q.1, hS q.2) := by
  obtain ⟨d, rfl⟩ : ∃ d2, d = d2 + 1 := ⟨d - 1, by omega⟩
  unfold f121 at H
  show Ex (am_X Lg xs) _ 121 am_c121_0 [.ref 46, .int x1] [] (hS S) (some q.1, hS q.2)
  refine ex_aload_n rfl ?_
  refine ex_getR (w := 65) rfl rfl rfl ?_
  refine ex_iload_n rfl ?_
  refine ex_kget (c := 65) (ar := 66) (n := 8) rfl (Nat.le_of_ble_eq_true rfl) ?_
  have H := Option.some.inj H
  subst H
  exact ex_iret (M := 121) (Or.inl rfl)
-- X7_causeOf
def f122 (F : Nat) (x1 : Int32) (S : AmT) : Option (Int32 × AmT) := some ((kg S.1 68 8 x1), S)
set_option maxHeartbeats 1000000 in
set_option maxRecDepth 20000 in
theorem r122 {Lg : Nat} {xs : Nat → Int32} {d F : Nat} {x1 : Int32} {S : AmT} {q : Int32 × AmT} (hd : 1 ≤ d) (H : f122 F x1 S = some q) : Ex (am_X Lg xs) d 122 (am_P 122) (am_ini (am_Mi 122).1 [.ref 46, .int x1]) [] (hS S) (some q.1, hS q.2) := by
  obtain ⟨d, rfl⟩ : ∃ d2, d = d2 + 1 := ⟨d - 1, by omega⟩
  unfold f122 at H
  show Ex (am_X Lg xs) _ 122 am_c122_0 [.ref 46, .int x1] [] (hS S) (some q.1, hS q.2)
  refine ex_aload_n rfl ?_
  refine ex_getR (w := 67) rfl rfl rfl ?_
  refine ex_iload_n rfl ?_
  refine ex_kget (c := 67) (ar := 68) (n := 8) rfl (Nat.le_of_ble_eq_true rfl) ?_
  have H := Option.some.inj H
  subst H
  exact ex_iret (M := 122) (Or.inl rfl)
def g123_2 (F : Nat) : Nat → Int32 → Int32 → AmT → Option (Int32 × AmT)
  | 0, _, _, _ => none
  | n + 1, x1, x2, S => if (kg S.1 48 1 0) ≤ x2 then (some ((-1), S)) else (if (kg S.1 64 8 x2) = x1 then (some (x2, S)) else (g123_2 F n x1 (x2 + 1) S))
-- X7_sheetAt
def f123 (F : Nat) (x1 : Int32) (S : AmT) : Option (Int32 × AmT) := g123_2 F F x1 0 S
set_option maxHeartbeats 1000000 in
set_option maxRecDepth 20000 in
theorem e123_2 {Lg : Nat} {xs : Nat → Int32} {d F : Nat} (hd : 1 ≤ d) : ∀ (n : Nat) (x1 : Int32) (x2 : Int32) (S : AmT) (q : Int32 × AmT), g123_2 F n x1 x2 S = some q → Ex (am_X Lg xs) d 123 am_c123_2 [.ref 46, .int x1, .int x2] [] (hS S) (some q.1, hS q.2) := by
  obtain ⟨d, rfl⟩ : ∃ d2, d = d2 + 1 := ⟨d - 1, by omega⟩
  intro n
  induction n with
  | zero =>
    intro x1 x2 S q H
    cases H
  | succ n ih =>
    intro x1 x2 S q H
    have H : (if (kg S.1 48 1 0) ≤ x2 then (some ((-1), S)) else (if (kg S.1 64 8 x2) = x1 then (some (x2, S)) else (g123_2 F n x1 (x2 + 1) S))) = some q := H
    refine ex_iload_n rfl ?_
    refine ex_aload_n rfl ?_
    refine ex_getR (w := 47) rfl rfl rfl ?_
    refine ex_iconst (v := 0) (by decide) ?_
    refine ex_kget (c := 47) (ar := 48) (n := 1) rfl (Nat.le_of_ble_eq_true rfl) ?_
    by_cases h1 : (kg S.1 48 1 0) ≤ x2
    · rw [if_pos h1] at H
      refine ex_icmp_ge_j (ct := am_c123_34) h1 rfl ?_
      refine ex_iconst (v := (-1)) (by decide) ?_
      have H := Option.some.inj H
      subst H
      exact ex_iret (M := 123) (Or.inl rfl)
    · rw [if_neg h1] at H
      refine ex_icmp_ge_f h1 ?_
      refine ex_aload_n rfl ?_
      refine ex_getR (w := 63) rfl rfl rfl ?_
      refine ex_iload_n rfl ?_
      refine ex_kget (c := 63) (ar := 64) (n := 8) rfl (Nat.le_of_ble_eq_true rfl) ?_
      refine ex_iload_n rfl ?_
      by_cases h2 : (kg S.1 64 8 x2) = x1
      · rw [if_pos h2] at H
        refine ex_icmp_ne_f h2 ?_
        refine ex_iload_n rfl ?_
        have H := Option.some.inj H
        subst H
        exact ex_iret (M := 123) (Or.inl rfl)
      · rw [if_neg h2] at H
        refine ex_icmp_ne_j (ct := am_c123_28) h2 rfl ?_
        refine ex_iinc (L2 := [.ref 46, .int x1, .int (x2 + 1)]) (v := (x2 + 1)) rfl (Nat.le_of_ble_eq_true rfl) (congrArg (fun z => x2 + z) (by decide)) rfl ?_
        refine ex_goto (ct := am_c123_2) rfl ?_
        exact ih _ _ _ _ H
set_option maxHeartbeats 1000000 in
set_option maxRecDepth 20000 in
theorem r123 {Lg : Nat} {xs : Nat → Int32} {d F : Nat} {x1 : Int32} {S : AmT} {q : Int32 × AmT} (hd : 1 ≤ d) (H : f123 F x1 S = some q) : Ex (am_X Lg xs) d 123 (am_P 123) (am_ini (am_Mi 123).1 [.ref 46, .int x1]) [] (hS S) (some q.1, hS q.2) := by
  obtain ⟨d, rfl⟩ : ∃ d2, d = d2 + 1 := ⟨d - 1, by omega⟩
  unfold f123 at H
  show Ex (am_X Lg xs) _ 123 am_c123_0 [.ref 46, .int x1, .long 0] [] (hS S) (some q.1, hS q.2)
  refine ex_iconst (v := 0) (by decide) ?_
  refine ex_istore_n (L2 := [.ref 46, .int x1, .int 0]) (Nat.le_of_ble_eq_true rfl) rfl ?_
  exact e123_2 hd _ _ _ _ _ H
-- X8_answer
def f129 (F : Nat) (x1 : Int32) (S : AmT) : Option (Int32 × AmT) := if (-11) < x1 then (some (x1, S)) else (am_lt ((am_upI S.1 5 2 ((S.1 5 2) + 1), S.2) : AmT) fun S2 => am_b2 (f130 F x1 S2) fun v3 S4 => am_lt ((am_upI S4.1 5 3 v3, S4.2) : AmT) fun S5 => some (x1, S5))
set_option maxHeartbeats 1000000 in
set_option maxRecDepth 20000 in
theorem r129 {Lg : Nat} {xs : Nat → Int32} {d F : Nat} {x1 : Int32} {S : AmT} {q : Int32 × AmT} (hd : 1 ≤ d) (H : f129 F x1 S = some q) : Ex (am_X Lg xs) d 129 (am_P 129) (am_ini (am_Mi 129).1 [.ref 5, .int x1]) [] (hS S) (some q.1, hS q.2) := by
  obtain ⟨d, rfl⟩ : ∃ d2, d = d2 + 1 := ⟨d - 1, by omega⟩
  unfold f129 at H
  show Ex (am_X Lg xs) _ 129 am_c129_0 [.ref 5, .int x1] [] (hS S) (some q.1, hS q.2)
  refine ex_iload_n rfl ?_
  refine ex_bipush (v := (-11)) (by decide) ?_
  by_cases h1 : (-11) < x1
  · rw [if_pos h1] at H
    refine ex_icmp_gt_j (ct := am_c129_24) h1 rfl ?_
    refine ex_iload_n rfl ?_
    have H := Option.some.inj H
    subst H
    exact ex_iret (M := 129) (Or.inl rfl)
  · rw [if_neg h1] at H
    refine ex_icmp_gt_f h1 ?_
    refine ex_aload_n rfl ?_
    refine ex_dupr ?_
    refine ex_gI rfl (by decide) ?_
    refine ex_iconst (v := 1) (by decide) ?_
    refine ex_iadd ?_
    refine ex_putI rfl (by decide) (fun z => absurd z.1 (by decide)) ?_
    generalize ((am_upI S.1 5 2 ((S.1 5 2) + 1), S.2) : AmT) = S2 at H ⊢
    have H := am_lt_el H
    refine ex_aload_n rfl ?_
    refine ex_iload_n rfl ?_
    obtain ⟨v3, S4, hp, H⟩ := am_b2_el H
    refine ex_callS rfl rfl (Nat.le_of_ble_eq_true rfl) (Nat.le_of_ble_eq_true rfl) (r130 (by omega) hp) rfl ?_
    refine ex_putI rfl (by decide) (fun z => absurd z.1 (by decide)) ?_
    generalize ((am_upI S4.1 5 3 v3, S4.2) : AmT) = S5 at H ⊢
    have H := am_lt_el H
    refine ex_iload_n rfl ?_
    have H := Option.some.inj H
    subst H
    exact ex_iret (M := 129) (Or.inl rfl)
-- X8_note
def f131 (F : Nat) (x1 : Int32) (S : AmT) : Option AmT := am_b2 (f295 F (S.1 5 1) 40 S) fun v1 S2 => am_ck v1 40 (am_lt ((am_upI S2.1 6 v1.toNatClampNeg x1, S2.2) : AmT) fun S3 => am_lt ((am_upI S3.1 5 1 ((S3.1 5 1) + 1), S3.2) : AmT) fun S4 => some S4)
set_option maxHeartbeats 1000000 in
set_option maxRecDepth 20000 in
theorem r131 {Lg : Nat} {xs : Nat → Int32} {d F : Nat} {x1 : Int32} {S : AmT} {q : AmT} (hd : 1 ≤ d) (H : f131 F x1 S = some q) : Ex (am_X Lg xs) d 131 (am_P 131) (am_ini (am_Mi 131).1 [.ref 5, .int x1]) [] (hS S) (none, hS q) := by
  obtain ⟨d, rfl⟩ : ∃ d2, d = d2 + 1 := ⟨d - 1, by omega⟩
  unfold f131 at H
  show Ex (am_X Lg xs) _ 131 am_c131_0 [.ref 5, .int x1] [] (hS S) (none, hS q)
  refine ex_aload_n rfl ?_
  refine ex_getR (w := 6) rfl rfl rfl ?_
  refine ex_aload_n rfl ?_
  refine ex_gI rfl (by decide) ?_
  refine ex_bipush (v := 40) (by decide) ?_
  obtain ⟨v1, S2, hp, H⟩ := am_b2_el H
  refine ex_callS rfl rfl (Nat.le_of_ble_eq_true rfl) (Nat.le_of_ble_eq_true rfl) (r295 (by omega) hp) rfl ?_
  refine ex_iload_n rfl ?_
  obtain ⟨hj, H⟩ := am_ck_el H
  refine ex_iast (k := 40) rfl rfl hj ?_
  generalize ((am_upI S2.1 6 v1.toNatClampNeg x1, S2.2) : AmT) = S3 at H ⊢
  have H := am_lt_el H
  refine ex_aload_n rfl ?_
  refine ex_dupr ?_
  refine ex_gI rfl (by decide) ?_
  refine ex_iconst (v := 1) (by decide) ?_
  refine ex_iadd ?_
  refine ex_putI rfl (by decide) (fun z => absurd z.1 (by decide)) ?_
  generalize ((am_upI S3.1 5 1 ((S3.1 5 1) + 1), S3.2) : AmT) = S4 at H ⊢
  have H := am_lt_el H
  have H := Option.some.inj H
  subst H
  exact ex_vret (M := 131) rfl
-- X8_traced
def f132 (F : Nat) (x1 : Int32) (S : AmT) : Option (Int32 × AmT) := if x1 < 0 then (some ((-2), S)) else (if 40 ≤ x1 then (some ((-2), S)) else (if x1 < (S.1 5 1) then (am_b2 (f295 F (((S.1 5 1) - 1) - x1) 40 S) fun v4 S5 => am_ck v4 40 (some ((S5.1 6 v4.toNatClampNeg), S5))) else (some ((-2), S))))
set_option maxHeartbeats 1000000 in
set_option maxRecDepth 20000 in
theorem r132 {Lg : Nat} {xs : Nat → Int32} {d F : Nat} {x1 : Int32} {S : AmT} {q : Int32 × AmT} (hd : 1 ≤ d) (H : f132 F x1 S = some q) : Ex (am_X Lg xs) d 132 (am_P 132) (am_ini (am_Mi 132).1 [.ref 5, .int x1]) [] (hS S) (some q.1, hS q.2) := by
  obtain ⟨d, rfl⟩ : ∃ d2, d = d2 + 1 := ⟨d - 1, by omega⟩
  unfold f132 at H
  show Ex (am_X Lg xs) _ 132 am_c132_0 [.ref 5, .int x1] [] (hS S) (some q.1, hS q.2)
  refine ex_iload_n rfl ?_
  by_cases h1 : x1 < 0
  · rw [if_pos h1] at H
    refine ex_if_lt_j (ct := am_c132_18) h1 rfl ?_
    refine ex_bipush (v := (-2)) (by decide) ?_
    have H := Option.some.inj H
    subst H
    exact ex_iret (M := 132) (Or.inl rfl)
  · rw [if_neg h1] at H
    refine ex_if_lt_f h1 ?_
    refine ex_iload_n rfl ?_
    refine ex_bipush (v := 40) (by decide) ?_
    by_cases h2 : 40 ≤ x1
    · rw [if_pos h2] at H
      refine ex_icmp_ge_j (ct := am_c132_18) h2 rfl ?_
      refine ex_bipush (v := (-2)) (by decide) ?_
      have H := Option.some.inj H
      subst H
      exact ex_iret (M := 132) (Or.inl rfl)
    · rw [if_neg h2] at H
      refine ex_icmp_ge_f h2 ?_
      refine ex_iload_n rfl ?_
      refine ex_aload_n rfl ?_
      refine ex_gI rfl (by decide) ?_
      by_cases h3 : x1 < (S.1 5 1)
      · rw [if_pos h3] at H
        refine ex_icmp_lt_j (ct := am_c132_21) h3 rfl ?_
        refine ex_aload_n rfl ?_
        refine ex_getR (w := 6) rfl rfl rfl ?_
        refine ex_aload_n rfl ?_
        refine ex_gI rfl (by decide) ?_
        refine ex_iconst (v := 1) (by decide) ?_
        refine ex_isub ?_
        refine ex_iload_n rfl ?_
        refine ex_isub ?_
        refine ex_bipush (v := 40) (by decide) ?_
        obtain ⟨v4, S5, hp, H⟩ := am_b2_el H
        refine ex_callS rfl rfl (Nat.le_of_ble_eq_true rfl) (Nat.le_of_ble_eq_true rfl) (r295 (by omega) hp) rfl ?_
        obtain ⟨hj, H⟩ := am_ck_el H
        refine ex_iald (k := 40) (v := S5.1 6 v4.toNatClampNeg) rfl hj rfl ?_
        have H := Option.some.inj H
        subst H
        exact ex_iret (M := 132) (Or.inl rfl)
      · rw [if_neg h3] at H
        refine ex_icmp_lt_f h3 ?_
        refine ex_bipush (v := (-2)) (by decide) ?_
        have H := Option.some.inj H
        subst H
        exact ex_iret (M := 132) (Or.inl rfl)
-- X9_moved
def f151 (F : Nat) (S : AmT) : Option (Int32 × AmT) := am_b2 (f139 F S) fun v1 S2 => some (v1, S2)
set_option maxHeartbeats 1000000 in
set_option maxRecDepth 20000 in
theorem r151 {Lg : Nat} {xs : Nat → Int32} {d F : Nat} {S : AmT} {q : Int32 × AmT} (hd : 1 ≤ d) (H : f151 F S = some q) : Ex (am_X Lg xs) d 151 (am_P 151) (am_ini (am_Mi 151).1 [.ref 0]) [] (hS S) (some q.1, hS q.2) := by
  obtain ⟨d, rfl⟩ : ∃ d2, d = d2 + 1 := ⟨d - 1, by omega⟩
  unfold f151 at H
  show Ex (am_X Lg xs) _ 151 am_c151_0 [.ref 0] [] (hS S) (some q.1, hS q.2)
  refine ex_aload_n rfl ?_
  refine ex_getR (w := 5) rfl rfl rfl ?_
  obtain ⟨v1, S2, hp, H⟩ := am_b2_el H
  refine ex_callV rfl rfl (Nat.le_of_ble_eq_true rfl) (Nat.le_of_ble_eq_true rfl) rfl (r139 (by omega) hp) rfl ?_
  have H := Option.some.inj H
  subst H
  exact ex_iret (M := 151) (Or.inl rfl)
-- X9_isSide
def f195 (F : Nat) (x0 : Int32) (S : AmT) : Option (Int32 × AmT) := am_b2 (f194 F x0 0 1 S) fun v1 S2 => am_b01 v1 (some (v1, S2))
set_option maxHeartbeats 1000000 in
set_option maxRecDepth 20000 in
theorem r195 {Lg : Nat} {xs : Nat → Int32} {d F : Nat} {x0 : Int32} {S : AmT} {q : Int32 × AmT} (hd : 1 ≤ d) (H : f195 F x0 S = some q) : Ex (am_X Lg xs) d 195 (am_P 195) (am_ini (am_Mi 195).1 [.int x0]) [] (hS S) (some q.1, hS q.2) := by
  obtain ⟨d, rfl⟩ : ∃ d2, d = d2 + 1 := ⟨d - 1, by omega⟩
  unfold f195 at H
  show Ex (am_X Lg xs) _ 195 am_c195_0 [.int x0] [] (hS S) (some q.1, hS q.2)
  refine ex_iload_n rfl ?_
  refine ex_iconst (v := 0) (by decide) ?_
  refine ex_iconst (v := 1) (by decide) ?_
  obtain ⟨v1, S2, hp, H⟩ := am_b2_el H
  refine ex_callS rfl rfl (Nat.le_of_ble_eq_true rfl) (Nat.le_of_ble_eq_true rfl) (r194 (by omega) hp) rfl ?_
  obtain ⟨hb, H⟩ := am_b01_el H
  have H := Option.some.inj H
  subst H
  exact ex_iret (M := 195) (Or.inr ⟨rfl, hb⟩)
-- X10_copyAll
def f200 (F : Nat) (x1 : Int32) (S : AmT) : Option AmT := (f198c96 F 16 x1 S).bind fun S1 => (f198c97 F 3 x1 S1).bind fun S2 => (f198c98 F 3 x1 S2).bind fun S3 => (f198c99 F 3 x1 S3).bind fun S4 => (f198c100 F 72 x1 S4).bind fun S5 => (f198c101 F 576 x1 S5).bind fun S6 => (f198c102 F 5760 x1 S6).bind fun S7 => (f198c103 F 16 x1 S7).bind fun S8 => (f198c104 F 16 x1 S8).bind fun S9 => (f198c105 F 16 x1 S9).bind fun S10 => (f198c106 F 16 x1 S10).bind fun S11 => (f198c107 F 16 x1 S11).bind fun S12 => (f198c108 F 8 x1 S12).bind fun S13 => (f198c109 F 8 x1 S13).bind fun S14 => (f198c110 F 8 x1 S14).bind fun S15 => (f198c111 F 8 x1 S15).bind fun S16 => (f198c112 F 8 x1 S16).bind fun S17 => (f198c113 F 8 x1 S17).bind fun S18 => (f198c114 F 8 x1 S18).bind fun S19 => (f198c115 F 8 x1 S19).bind fun S20 => (f199c116 F 128 x1 S20).bind fun S21 => (f198c117 F 1024 x1 S21).bind fun S22 => (f198c118 F 1024 x1 S22).bind fun S23 => (f198c119 F 4 x1 S23).bind fun S24 => (f198c120 F 4 x1 S24).bind fun S25 => (f198c121 F 16 x1 S25).bind fun S26 => (f199c122 F 4 x1 S26).bind fun S27 => (f198c123 F 4 x1 S27).bind fun S28 => (f199c124 F 5 x1 S28).bind fun S29 => some S29
set_option maxHeartbeats 1000000 in
set_option maxRecDepth 20000 in
theorem r200 {Lg : Nat} {xs : Nat → Int32} {d F : Nat} {x1 : Int32} {S : AmT} {q : AmT} (hd : 1 ≤ d) (H : f200 F x1 S = some q) : Ex (am_X Lg xs) d 200 (am_P 200) (am_ini (am_Mi 200).1 [.ref 95, .int x1]) [] (hS S) (none, hS q) := by
  obtain ⟨d, rfl⟩ : ∃ d2, d = d2 + 1 := ⟨d - 1, by omega⟩
  unfold f200 at H
  show Ex (am_X Lg xs) _ 200 am_c200_0 [.ref 95, .int x1] [] (hS S) (none, hS q)
  refine ex_aload_n rfl ?_
  refine ex_getR (w := 96) rfl rfl rfl ?_
  refine ex_bipush (v := 16) (by decide) ?_
  refine ex_iload_n rfl ?_
  obtain ⟨S1, hp, H⟩ := Option.bind_eq_some_iff.mp H
  refine ex_callS rfl rfl (Nat.le_of_ble_eq_true rfl) (Nat.le_of_ble_eq_true rfl) (r198c96 (by omega) hp) rfl ?_
  refine ex_aload_n rfl ?_
  refine ex_getR (w := 97) rfl rfl rfl ?_
  refine ex_iconst (v := 3) (by decide) ?_
  refine ex_iload_n rfl ?_
  obtain ⟨S2, hp, H⟩ := Option.bind_eq_some_iff.mp H
  refine ex_callS rfl rfl (Nat.le_of_ble_eq_true rfl) (Nat.le_of_ble_eq_true rfl) (r198c97 (by omega) hp) rfl ?_
  refine ex_aload_n rfl ?_
  refine ex_getR (w := 98) rfl rfl rfl ?_
  refine ex_iconst (v := 3) (by decide) ?_
  refine ex_iload_n rfl ?_
  obtain ⟨S3, hp, H⟩ := Option.bind_eq_some_iff.mp H
  refine ex_callS rfl rfl (Nat.le_of_ble_eq_true rfl) (Nat.le_of_ble_eq_true rfl) (r198c98 (by omega) hp) rfl ?_
  refine ex_aload_n rfl ?_
  refine ex_getR (w := 99) rfl rfl rfl ?_
  refine ex_iconst (v := 3) (by decide) ?_
  refine ex_iload_n rfl ?_
  obtain ⟨S4, hp, H⟩ := Option.bind_eq_some_iff.mp H
  refine ex_callS rfl rfl (Nat.le_of_ble_eq_true rfl) (Nat.le_of_ble_eq_true rfl) (r198c99 (by omega) hp) rfl ?_
  refine ex_aload_n rfl ?_
  refine ex_getR (w := 100) rfl rfl rfl ?_
  refine ex_bipush (v := 72) (by decide) ?_
  refine ex_iload_n rfl ?_
  obtain ⟨S5, hp, H⟩ := Option.bind_eq_some_iff.mp H
  refine ex_callS rfl rfl (Nat.le_of_ble_eq_true rfl) (Nat.le_of_ble_eq_true rfl) (r198c100 (by omega) hp) rfl ?_
  refine ex_aload_n rfl ?_
  refine ex_getR (w := 101) rfl rfl rfl ?_
  refine ex_sipush (v := 576) (by decide) ?_
  refine ex_iload_n rfl ?_
  obtain ⟨S6, hp, H⟩ := Option.bind_eq_some_iff.mp H
  refine ex_callS rfl rfl (Nat.le_of_ble_eq_true rfl) (Nat.le_of_ble_eq_true rfl) (r198c101 (by omega) hp) rfl ?_
  refine ex_aload_n rfl ?_
  refine ex_getR (w := 102) rfl rfl rfl ?_
  refine ex_sipush (v := 5760) (by decide) ?_
  refine ex_iload_n rfl ?_
  obtain ⟨S7, hp, H⟩ := Option.bind_eq_some_iff.mp H
  refine ex_callS rfl rfl (Nat.le_of_ble_eq_true rfl) (Nat.le_of_ble_eq_true rfl) (r198c102 (by omega) hp) rfl ?_
  refine ex_aload_n rfl ?_
  refine ex_getR (w := 103) rfl rfl rfl ?_
  refine ex_bipush (v := 16) (by decide) ?_
  refine ex_iload_n rfl ?_
  obtain ⟨S8, hp, H⟩ := Option.bind_eq_some_iff.mp H
  refine ex_callS rfl rfl (Nat.le_of_ble_eq_true rfl) (Nat.le_of_ble_eq_true rfl) (r198c103 (by omega) hp) rfl ?_
  refine ex_aload_n rfl ?_
  refine ex_getR (w := 104) rfl rfl rfl ?_
  refine ex_bipush (v := 16) (by decide) ?_
  refine ex_iload_n rfl ?_
  obtain ⟨S9, hp, H⟩ := Option.bind_eq_some_iff.mp H
  refine ex_callS rfl rfl (Nat.le_of_ble_eq_true rfl) (Nat.le_of_ble_eq_true rfl) (r198c104 (by omega) hp) rfl ?_
  refine ex_aload_n rfl ?_
  refine ex_getR (w := 105) rfl rfl rfl ?_
  refine ex_bipush (v := 16) (by decide) ?_
  refine ex_iload_n rfl ?_
  obtain ⟨S10, hp, H⟩ := Option.bind_eq_some_iff.mp H
  refine ex_callS rfl rfl (Nat.le_of_ble_eq_true rfl) (Nat.le_of_ble_eq_true rfl) (r198c105 (by omega) hp) rfl ?_
  refine ex_aload_n rfl ?_
  refine ex_getR (w := 106) rfl rfl rfl ?_
  refine ex_bipush (v := 16) (by decide) ?_
  refine ex_iload_n rfl ?_
  obtain ⟨S11, hp, H⟩ := Option.bind_eq_some_iff.mp H
  refine ex_callS rfl rfl (Nat.le_of_ble_eq_true rfl) (Nat.le_of_ble_eq_true rfl) (r198c106 (by omega) hp) rfl ?_
  refine ex_aload_n rfl ?_
  refine ex_getR (w := 107) rfl rfl rfl ?_
  refine ex_bipush (v := 16) (by decide) ?_
  refine ex_iload_n rfl ?_
  obtain ⟨S12, hp, H⟩ := Option.bind_eq_some_iff.mp H
  refine ex_callS rfl rfl (Nat.le_of_ble_eq_true rfl) (Nat.le_of_ble_eq_true rfl) (r198c107 (by omega) hp) rfl ?_
  refine ex_aload_n rfl ?_
  refine ex_getR (w := 108) rfl rfl rfl ?_
  refine ex_bipush (v := 8) (by decide) ?_
  refine ex_iload_n rfl ?_
  obtain ⟨S13, hp, H⟩ := Option.bind_eq_some_iff.mp H
  refine ex_callS rfl rfl (Nat.le_of_ble_eq_true rfl) (Nat.le_of_ble_eq_true rfl) (r198c108 (by omega) hp) rfl ?_
  refine ex_aload_n rfl ?_
  refine ex_getR (w := 109) rfl rfl rfl ?_
  refine ex_bipush (v := 8) (by decide) ?_
  refine ex_iload_n rfl ?_
  obtain ⟨S14, hp, H⟩ := Option.bind_eq_some_iff.mp H
  refine ex_callS rfl rfl (Nat.le_of_ble_eq_true rfl) (Nat.le_of_ble_eq_true rfl) (r198c109 (by omega) hp) rfl ?_
  refine ex_aload_n rfl ?_
  refine ex_getR (w := 110) rfl rfl rfl ?_
  refine ex_bipush (v := 8) (by decide) ?_
  refine ex_iload_n rfl ?_
  obtain ⟨S15, hp, H⟩ := Option.bind_eq_some_iff.mp H
  refine ex_callS rfl rfl (Nat.le_of_ble_eq_true rfl) (Nat.le_of_ble_eq_true rfl) (r198c110 (by omega) hp) rfl ?_
  refine ex_aload_n rfl ?_
  refine ex_getR (w := 111) rfl rfl rfl ?_
  refine ex_bipush (v := 8) (by decide) ?_
  refine ex_iload_n rfl ?_
  obtain ⟨S16, hp, H⟩ := Option.bind_eq_some_iff.mp H
  refine ex_callS rfl rfl (Nat.le_of_ble_eq_true rfl) (Nat.le_of_ble_eq_true rfl) (r198c111 (by omega) hp) rfl ?_
  refine ex_aload_n rfl ?_
  refine ex_getR (w := 112) rfl rfl rfl ?_
  refine ex_bipush (v := 8) (by decide) ?_
  refine ex_iload_n rfl ?_
  obtain ⟨S17, hp, H⟩ := Option.bind_eq_some_iff.mp H
  refine ex_callS rfl rfl (Nat.le_of_ble_eq_true rfl) (Nat.le_of_ble_eq_true rfl) (r198c112 (by omega) hp) rfl ?_
  refine ex_aload_n rfl ?_
  refine ex_getR (w := 113) rfl rfl rfl ?_
  refine ex_bipush (v := 8) (by decide) ?_
  refine ex_iload_n rfl ?_
  obtain ⟨S18, hp, H⟩ := Option.bind_eq_some_iff.mp H
  refine ex_callS rfl rfl (Nat.le_of_ble_eq_true rfl) (Nat.le_of_ble_eq_true rfl) (r198c113 (by omega) hp) rfl ?_
  refine ex_aload_n rfl ?_
  refine ex_getR (w := 114) rfl rfl rfl ?_
  refine ex_bipush (v := 8) (by decide) ?_
  refine ex_iload_n rfl ?_
  obtain ⟨S19, hp, H⟩ := Option.bind_eq_some_iff.mp H
  refine ex_callS rfl rfl (Nat.le_of_ble_eq_true rfl) (Nat.le_of_ble_eq_true rfl) (r198c114 (by omega) hp) rfl ?_
  refine ex_aload_n rfl ?_
  refine ex_getR (w := 115) rfl rfl rfl ?_
  refine ex_bipush (v := 8) (by decide) ?_
  refine ex_iload_n rfl ?_
  obtain ⟨S20, hp, H⟩ := Option.bind_eq_some_iff.mp H
  refine ex_callS rfl rfl (Nat.le_of_ble_eq_true rfl) (Nat.le_of_ble_eq_true rfl) (r198c115 (by omega) hp) rfl ?_
  refine ex_aload_n rfl ?_
  refine ex_getR (w := 116) rfl rfl rfl ?_
  refine ex_sipush (v := 128) (by decide) ?_
  refine ex_iload_n rfl ?_
  obtain ⟨S21, hp, H⟩ := Option.bind_eq_some_iff.mp H
  refine ex_callS rfl rfl (Nat.le_of_ble_eq_true rfl) (Nat.le_of_ble_eq_true rfl) (r199c116 (by omega) hp) rfl ?_
  refine ex_aload_n rfl ?_
  refine ex_getR (w := 117) rfl rfl rfl ?_
  refine ex_sipush (v := 1024) (by decide) ?_
  refine ex_iload_n rfl ?_
  obtain ⟨S22, hp, H⟩ := Option.bind_eq_some_iff.mp H
  refine ex_callS rfl rfl (Nat.le_of_ble_eq_true rfl) (Nat.le_of_ble_eq_true rfl) (r198c117 (by omega) hp) rfl ?_
  refine ex_aload_n rfl ?_
  refine ex_getR (w := 118) rfl rfl rfl ?_
  refine ex_sipush (v := 1024) (by decide) ?_
  refine ex_iload_n rfl ?_
  obtain ⟨S23, hp, H⟩ := Option.bind_eq_some_iff.mp H
  refine ex_callS rfl rfl (Nat.le_of_ble_eq_true rfl) (Nat.le_of_ble_eq_true rfl) (r198c118 (by omega) hp) rfl ?_
  refine ex_aload_n rfl ?_
  refine ex_getR (w := 119) rfl rfl rfl ?_
  refine ex_iconst (v := 4) (by decide) ?_
  refine ex_iload_n rfl ?_
  obtain ⟨S24, hp, H⟩ := Option.bind_eq_some_iff.mp H
  refine ex_callS rfl rfl (Nat.le_of_ble_eq_true rfl) (Nat.le_of_ble_eq_true rfl) (r198c119 (by omega) hp) rfl ?_
  refine ex_aload_n rfl ?_
  refine ex_getR (w := 120) rfl rfl rfl ?_
  refine ex_iconst (v := 4) (by decide) ?_
  refine ex_iload_n rfl ?_
  obtain ⟨S25, hp, H⟩ := Option.bind_eq_some_iff.mp H
  refine ex_callS rfl rfl (Nat.le_of_ble_eq_true rfl) (Nat.le_of_ble_eq_true rfl) (r198c120 (by omega) hp) rfl ?_
  refine ex_aload_n rfl ?_
  refine ex_getR (w := 121) rfl rfl rfl ?_
  refine ex_bipush (v := 16) (by decide) ?_
  refine ex_iload_n rfl ?_
  obtain ⟨S26, hp, H⟩ := Option.bind_eq_some_iff.mp H
  refine ex_callS rfl rfl (Nat.le_of_ble_eq_true rfl) (Nat.le_of_ble_eq_true rfl) (r198c121 (by omega) hp) rfl ?_
  refine ex_aload_n rfl ?_
  refine ex_getR (w := 122) rfl rfl rfl ?_
  refine ex_iconst (v := 4) (by decide) ?_
  refine ex_iload_n rfl ?_
  obtain ⟨S27, hp, H⟩ := Option.bind_eq_some_iff.mp H
  refine ex_callS rfl rfl (Nat.le_of_ble_eq_true rfl) (Nat.le_of_ble_eq_true rfl) (r199c122 (by omega) hp) rfl ?_
  refine ex_aload_n rfl ?_
  refine ex_getR (w := 123) rfl rfl rfl ?_
  refine ex_iconst (v := 4) (by decide) ?_
  refine ex_iload_n rfl ?_
  obtain ⟨S28, hp, H⟩ := Option.bind_eq_some_iff.mp H
  refine ex_callS rfl rfl (Nat.le_of_ble_eq_true rfl) (Nat.le_of_ble_eq_true rfl) (r198c123 (by omega) hp) rfl ?_
  refine ex_aload_n rfl ?_
  refine ex_getR (w := 124) rfl rfl rfl ?_
  refine ex_iconst (v := 5) (by decide) ?_
  refine ex_iload_n rfl ?_
  obtain ⟨S29, hp, H⟩ := Option.bind_eq_some_iff.mp H
  refine ex_callS rfl rfl (Nat.le_of_ble_eq_true rfl) (Nat.le_of_ble_eq_true rfl) (r199c124 (by omega) hp) rfl ?_
  have H := Option.some.inj H
  subst H
  exact ex_vret (M := 200) rfl
-- X10_isJob
def f205 (F : Nat) (x1 : Int32) (S : AmT) : Option (Int32 × AmT) := am_b2 (f197 F x1 0 ((S.1 96 0) - 1) S) fun v1 S2 => am_b01 v1 (some (v1, S2))
set_option maxHeartbeats 1000000 in
set_option maxRecDepth 20000 in
theorem r205 {Lg : Nat} {xs : Nat → Int32} {d F : Nat} {x1 : Int32} {S : AmT} {q : Int32 × AmT} (hd : 1 ≤ d) (H : f205 F x1 S = some q) : Ex (am_X Lg xs) d 205 (am_P 205) (am_ini (am_Mi 205).1 [.ref 95, .int x1]) [] (hS S) (some q.1, hS q.2) := by
  obtain ⟨d, rfl⟩ : ∃ d2, d = d2 + 1 := ⟨d - 1, by omega⟩
  unfold f205 at H
  show Ex (am_X Lg xs) _ 205 am_c205_0 [.ref 95, .int x1] [] (hS S) (some q.1, hS q.2)
  refine ex_iload_n rfl ?_
  refine ex_iconst (v := 0) (by decide) ?_
  refine ex_aload_n rfl ?_
  refine ex_getR (w := 96) rfl rfl rfl ?_
  refine ex_iconst (v := 0) (by decide) ?_
  refine ex_iald (v := S.1 96 0) rfl (by decide) rfl ?_
  refine ex_iconst (v := 1) (by decide) ?_
  refine ex_isub ?_
  obtain ⟨v1, S2, hp, H⟩ := am_b2_el H
  refine ex_callS rfl rfl (Nat.le_of_ble_eq_true rfl) (Nat.le_of_ble_eq_true rfl) (r197 (by omega) hp) rfl ?_
  obtain ⟨hb, H⟩ := am_b01_el H
  have H := Option.some.inj H
  subst H
  exact ex_iret (M := 205) (Or.inr ⟨rfl, hb⟩)
-- X10_lacksRow
def f212 (F : Nat) (x1 : Int32) (x2 : Int32) (S : AmT) : Option (Int32 × AmT) := am_ck x1 144 (if 0 ≤ (S.1 100 x1.toNatClampNeg) then (am_ck x1 144 (am_b2 (f197 F x2 0 ((S.1 100 x1.toNatClampNeg) - 1) S) fun v2 S3 => if v2 = 0 then (some (2, S3)) else (some (0, S3)))) else (some (1, S)))
set_option maxHeartbeats 1000000 in
set_option maxRecDepth 20000 in
theorem r212 {Lg : Nat} {xs : Nat → Int32} {d F : Nat} {x1 : Int32} {x2 : Int32} {S : AmT} {q : Int32 × AmT} (hd : 1 ≤ d) (H : f212 F x1 x2 S = some q) : Ex (am_X Lg xs) d 212 (am_P 212) (am_ini (am_Mi 212).1 [.ref 95, .int x1, .int x2]) [] (hS S) (some q.1, hS q.2) := by
  obtain ⟨d, rfl⟩ : ∃ d2, d = d2 + 1 := ⟨d - 1, by omega⟩
  unfold f212 at H
  show Ex (am_X Lg xs) _ 212 am_c212_0 [.ref 95, .int x1, .int x2] [] (hS S) (some q.1, hS q.2)
  refine ex_aload_n rfl ?_
  refine ex_getR (w := 100) rfl rfl rfl ?_
  refine ex_iload_n rfl ?_
  obtain ⟨hj, H⟩ := am_ck_el H
  refine ex_iald (k := 144) (v := S.1 100 x1.toNatClampNeg) rfl hj rfl ?_
  by_cases h1 : 0 ≤ (S.1 100 x1.toNatClampNeg)
  · rw [if_pos h1] at H
    refine ex_if_ge_j (ct := am_c212_13) h1 rfl ?_
    refine ex_iload_n rfl ?_
    refine ex_iconst (v := 0) (by decide) ?_
    refine ex_aload_n rfl ?_
    refine ex_getR (w := 100) rfl rfl rfl ?_
    refine ex_iload_n rfl ?_
    obtain ⟨hj, H⟩ := am_ck_el H
    refine ex_iald (k := 144) (v := S.1 100 x1.toNatClampNeg) rfl hj rfl ?_
    refine ex_iconst (v := 1) (by decide) ?_
    refine ex_isub ?_
    obtain ⟨v2, S3, hp, H⟩ := am_b2_el H
    refine ex_callS rfl rfl (Nat.le_of_ble_eq_true rfl) (Nat.le_of_ble_eq_true rfl) (r197 (by omega) hp) rfl ?_
    by_cases h4 : v2 = 0
    · rw [if_pos h4] at H
      refine ex_if_ne_f h4 ?_
      refine ex_iconst (v := 2) (by decide) ?_
      refine ex_goto (ct := am_c212_34) rfl ?_
      have H := Option.some.inj H
      subst H
      exact ex_iret (M := 212) (Or.inl rfl)
    · rw [if_neg h4] at H
      refine ex_if_ne_j (ct := am_c212_33) h4 rfl ?_
      refine ex_iconst (v := 0) (by decide) ?_
      have H := Option.some.inj H
      subst H
      exact ex_iret (M := 212) (Or.inl rfl)
  · rw [if_neg h1] at H
    refine ex_if_ge_f h1 ?_
    refine ex_iconst (v := 1) (by decide) ?_
    refine ex_goto (ct := am_c212_34) rfl ?_
    have H := Option.some.inj H
    subst H
    exact ex_iret (M := 212) (Or.inl rfl)
-- X10_isFold
def f224 (F : Nat) (x1 : Int32) (S : AmT) : Option (Int32 × AmT) := am_b2 (f197 F x1 0 ((S.1 96 1) - 1) S) fun v1 S2 => am_b01 v1 (some (v1, S2))
set_option maxHeartbeats 1000000 in
set_option maxRecDepth 20000 in
theorem r224 {Lg : Nat} {xs : Nat → Int32} {d F : Nat} {x1 : Int32} {S : AmT} {q : Int32 × AmT} (hd : 1 ≤ d) (H : f224 F x1 S = some q) : Ex (am_X Lg xs) d 224 (am_P 224) (am_ini (am_Mi 224).1 [.ref 95, .int x1]) [] (hS S) (some q.1, hS q.2) := by
  obtain ⟨d, rfl⟩ : ∃ d2, d = d2 + 1 := ⟨d - 1, by omega⟩
  unfold f224 at H
  show Ex (am_X Lg xs) _ 224 am_c224_0 [.ref 95, .int x1] [] (hS S) (some q.1, hS q.2)
  refine ex_iload_n rfl ?_
  refine ex_iconst (v := 0) (by decide) ?_
  refine ex_aload_n rfl ?_
  refine ex_getR (w := 96) rfl rfl rfl ?_
  refine ex_iconst (v := 1) (by decide) ?_
  refine ex_iald (v := S.1 96 1) rfl (by decide) rfl ?_
  refine ex_iconst (v := 1) (by decide) ?_
  refine ex_isub ?_
  obtain ⟨v1, S2, hp, H⟩ := am_b2_el H
  refine ex_callS rfl rfl (Nat.le_of_ble_eq_true rfl) (Nat.le_of_ble_eq_true rfl) (r197 (by omega) hp) rfl ?_
  obtain ⟨hb, H⟩ := am_b01_el H
  have H := Option.some.inj H
  subst H
  exact ex_iret (M := 224) (Or.inr ⟨rfl, hb⟩)
def g231_161 (F : Nat) (k20 : Int32 → Int32 → AmT → Option (Int32 × AmT)) (x2 : Int32) (x3 : Int32) (S : AmT) : Option (Int32 × AmT) := k20 x2 x3 S
def g231_159 (F : Nat) (k20 : Int32 → Int32 → AmT → Option (Int32 × AmT)) (x2 : Int32) (s0 : Int32) (s1 : Int32) (S : AmT) : Option (Int32 × AmT) := g231_161 F k20 x2 (s0 + s1) S
def g231_123 (F : Nat) (k20 : Int32 → Int32 → AmT → Option (Int32 × AmT)) (x2 : Int32) (s0 : Int32) (s1 : Int32) (S : AmT) : Option (Int32 × AmT) := g231_161 F k20 x2 (s0 * s1) S
def g231_20 (F : Nat) : Nat → Int32 → Int32 → AmT → Option (Int32 × AmT)
  | 0, _, _, _ => none
  | n + 1, x2, x3, S => if (S.1 95 39) ≤ 0 then (some (x3, S)) else (am_lt ((am_upI S.1 95 39 ((S.1 95 39) - 1), S.2) : AmT) fun S5 => am_ck (S5.1 95 39) 64 (am_ck (S5.1 126 (S5.1 95 39).toNatClampNeg) 32 (if (S5.1 103 (S5.1 126 (S5.1 95 39).toNatClampNeg).toNatClampNeg) = 5 then (am_ck (S5.1 126 (S5.1 95 39).toNatClampNeg) 32 ((f230 F (S5.1 106 (S5.1 126 (S5.1 95 39).toNatClampNeg).toNatClampNeg) S5).bind fun S14 => am_ck (S5.1 126 (S5.1 95 39).toNatClampNeg) 32 ((f230 F (S14.1 105 (S5.1 126 (S5.1 95 39).toNatClampNeg).toNatClampNeg) S14).bind fun S15 => g231_161 F (fun x2 x3 S => g231_20 F n x2 x3 S) x2 x3 S15))) else (if x2 = 0 then (if (S5.1 103 (S5.1 126 (S5.1 95 39).toNatClampNeg).toNatClampNeg) = 0 then (g231_123 F (fun x2 x3 S => g231_20 F n x2 x3 S) x2 x3 1 S5) else (if (S5.1 103 (S5.1 126 (S5.1 95 39).toNatClampNeg).toNatClampNeg) = 2 then (g231_123 F (fun x2 x3 S => g231_20 F n x2 x3 S) x2 x3 3 S5) else (if (S5.1 103 (S5.1 126 (S5.1 95 39).toNatClampNeg).toNatClampNeg) = 4 then (g231_123 F (fun x2 x3 S => g231_20 F n x2 x3 S) x2 x3 4 S5) else (g231_123 F (fun x2 x3 S => g231_20 F n x2 x3 S) x2 x3 2 S5)))) else (if (S5.1 103 (S5.1 126 (S5.1 95 39).toNatClampNeg).toNatClampNeg) = 0 then (g231_159 F (fun x2 x3 S => g231_20 F n x2 x3 S) x2 x3 0 S5) else (if (S5.1 103 (S5.1 126 (S5.1 95 39).toNatClampNeg).toNatClampNeg) = 3 then (g231_159 F (fun x2 x3 S => g231_20 F n x2 x3 S) x2 x3 2 S5) else (if (S5.1 103 (S5.1 126 (S5.1 95 39).toNatClampNeg).toNatClampNeg) = 4 then (g231_159 F (fun x2 x3 S => g231_20 F n x2 x3 S) x2 x3 3 S5) else (g231_159 F (fun x2 x3 S => g231_20 F n x2 x3 S) x2 x3 1 S5))))))))
def g231_9 (F : Nat) (x1 : Int32) (x2 : Int32) (s0 : Int32) (S : AmT) : Option (Int32 × AmT) := am_lt ((am_upI S.1 95 39 0, S.2) : AmT) fun S2 => (f230 F x1 S2).bind fun S3 => g231_20 F F x2 s0 S3
-- X10_worthOf
def f231 (F : Nat) (x1 : Int32) (x2 : Int32) (S : AmT) : Option (Int32 × AmT) := if x2 = 0 then (g231_9 F x1 x2 1 S) else (g231_9 F x1 x2 0 S)
set_option maxHeartbeats 1000000 in
set_option maxRecDepth 20000 in
theorem e231_161 {Lg : Nat} {xs : Nat → Int32} {d F : Nat} {k20 : Int32 → Int32 → AmT → Option (Int32 × AmT)} {x2 : Int32} {x3 : Int32} {w1 : Value} {w4 : Value} {w5 : Value} {S : AmT} {q : Int32 × AmT} (hd : 1 ≤ d) (hk20 : ∀ (x2 : Int32) (x3 : Int32) (w1 : Value) (w4 : Value) (w5 : Value) (S : AmT) (q : Int32 × AmT), k20 x2 x3 S = some q → Ex (am_X Lg xs) d 231 am_c231_20 [.ref 95, w1, .int x2, .int x3, w4, w5] [] (hS S) (some q.1, hS q.2)) (H : g231_161 F k20 x2 x3 S = some q) : Ex (am_X Lg xs) d 231 am_c231_161 [.ref 95, w1, .int x2, .int x3, w4, w5] [] (hS S) (some q.1, hS q.2) := by
  obtain ⟨d, rfl⟩ : ∃ d2, d = d2 + 1 := ⟨d - 1, by omega⟩
  unfold g231_161 at H
  refine ex_goto (ct := am_c231_20) rfl ?_
  exact hk20 _ _ _ _ _ _ _ H
set_option maxHeartbeats 1000000 in
set_option maxRecDepth 20000 in
theorem e231_159 {Lg : Nat} {xs : Nat → Int32} {d F : Nat} {k20 : Int32 → Int32 → AmT → Option (Int32 × AmT)} {x2 : Int32} {s0 : Int32} {s1 : Int32} {w1 : Value} {w3 : Value} {w4 : Value} {w5 : Value} {S : AmT} {q : Int32 × AmT} (hd : 1 ≤ d) (hk20 : ∀ (x2 : Int32) (x3 : Int32) (w1 : Value) (w4 : Value) (w5 : Value) (S : AmT) (q : Int32 × AmT), k20 x2 x3 S = some q → Ex (am_X Lg xs) d 231 am_c231_20 [.ref 95, w1, .int x2, .int x3, w4, w5] [] (hS S) (some q.1, hS q.2)) (H : g231_159 F k20 x2 s0 s1 S = some q) : Ex (am_X Lg xs) d 231 am_c231_159 [.ref 95, w1, .int x2, w3, w4, w5] [.int s1, .int s0] (hS S) (some q.1, hS q.2) := by
  obtain ⟨d, rfl⟩ : ∃ d2, d = d2 + 1 := ⟨d - 1, by omega⟩
  unfold g231_159 at H
  refine ex_iadd ?_
  refine ex_istore_n (L2 := [.ref 95, w1, .int x2, .int (s0 + s1), w4, w5]) (Nat.le_of_ble_eq_true rfl) rfl ?_
  exact e231_161 hd hk20 H
set_option maxHeartbeats 1000000 in
set_option maxRecDepth 20000 in
theorem e231_123 {Lg : Nat} {xs : Nat → Int32} {d F : Nat} {k20 : Int32 → Int32 → AmT → Option (Int32 × AmT)} {x2 : Int32} {s0 : Int32} {s1 : Int32} {w1 : Value} {w3 : Value} {w4 : Value} {w5 : Value} {S : AmT} {q : Int32 × AmT} (hd : 1 ≤ d) (hk20 : ∀ (x2 : Int32) (x3 : Int32) (w1 : Value) (w4 : Value) (w5 : Value) (S : AmT) (q : Int32 × AmT), k20 x2 x3 S = some q → Ex (am_X Lg xs) d 231 am_c231_20 [.ref 95, w1, .int x2, .int x3, w4, w5] [] (hS S) (some q.1, hS q.2)) (H : g231_123 F k20 x2 s0 s1 S = some q) : Ex (am_X Lg xs) d 231 am_c231_123 [.ref 95, w1, .int x2, w3, w4, w5] [.int s1, .int s0] (hS S) (some q.1, hS q.2) := by
  obtain ⟨d, rfl⟩ : ∃ d2, d = d2 + 1 := ⟨d - 1, by omega⟩
  unfold g231_123 at H
  refine ex_imul ?_
  refine ex_istore_n (L2 := [.ref 95, w1, .int x2, .int (s0 * s1), w4, w5]) (Nat.le_of_ble_eq_true rfl) rfl ?_
  refine ex_goto (ct := am_c231_161) rfl ?_
  exact e231_161 hd hk20 H
set_option maxHeartbeats 1000000 in
set_option maxRecDepth 20000 in
theorem e231_20 {Lg : Nat} {xs : Nat → Int32} {d F : Nat} (hd : 1 ≤ d) : ∀ (n : Nat) (x2 : Int32) (x3 : Int32) (w1 : Value) (w4 : Value) (w5 : Value) (S : AmT) (q : Int32 × AmT), g231_20 F n x2 x3 S = some q → Ex (am_X Lg xs) d 231 am_c231_20 [.ref 95, w1, .int x2, .int x3, w4, w5] [] (hS S) (some q.1, hS q.2) := by
  obtain ⟨d, rfl⟩ : ∃ d2, d = d2 + 1 := ⟨d - 1, by omega⟩
  intro n
  induction n with
  | zero =>
    intro x2 x3 w1 w4 w5 S q H
    cases H
  | succ n ih =>
    intro x2 x3 w1 w4 w5 S q H
    have H : (if (S.1 95 39) ≤ 0 then (some (x3, S)) else (am_lt ((am_upI S.1 95 39 ((S.1 95 39) - 1), S.2) : AmT) fun S5 => am_ck (S5.1 95 39) 64 (am_ck (S5.1 126 (S5.1 95 39).toNatClampNeg) 32 (if (S5.1 103 (S5.1 126 (S5.1 95 39).toNatClampNeg).toNatClampNeg) = 5 then (am_ck (S5.1 126 (S5.1 95 39).toNatClampNeg) 32 ((f230 F (S5.1 106 (S5.1 126 (S5.1 95 39).toNatClampNeg).toNatClampNeg) S5).bind fun S14 => am_ck (S5.1 126 (S5.1 95 39).toNatClampNeg) 32 ((f230 F (S14.1 105 (S5.1 126 (S5.1 95 39).toNatClampNeg).toNatClampNeg) S14).bind fun S15 => g231_161 F (fun x2 x3 S => g231_20 F n x2 x3 S) x2 x3 S15))) else (if x2 = 0 then (if (S5.1 103 (S5.1 126 (S5.1 95 39).toNatClampNeg).toNatClampNeg) = 0 then (g231_123 F (fun x2 x3 S => g231_20 F n x2 x3 S) x2 x3 1 S5) else (if (S5.1 103 (S5.1 126 (S5.1 95 39).toNatClampNeg).toNatClampNeg) = 2 then (g231_123 F (fun x2 x3 S => g231_20 F n x2 x3 S) x2 x3 3 S5) else (if (S5.1 103 (S5.1 126 (S5.1 95 39).toNatClampNeg).toNatClampNeg) = 4 then (g231_123 F (fun x2 x3 S => g231_20 F n x2 x3 S) x2 x3 4 S5) else (g231_123 F (fun x2 x3 S => g231_20 F n x2 x3 S) x2 x3 2 S5)))) else (if (S5.1 103 (S5.1 126 (S5.1 95 39).toNatClampNeg).toNatClampNeg) = 0 then (g231_159 F (fun x2 x3 S => g231_20 F n x2 x3 S) x2 x3 0 S5) else (if (S5.1 103 (S5.1 126 (S5.1 95 39).toNatClampNeg).toNatClampNeg) = 3 then (g231_159 F (fun x2 x3 S => g231_20 F n x2 x3 S) x2 x3 2 S5) else (if (S5.1 103 (S5.1 126 (S5.1 95 39).toNatClampNeg).toNatClampNeg) = 4 then (g231_159 F (fun x2 x3 S => g231_20 F n x2 x3 S) x2 x3 3 S5) else (g231_159 F (fun x2 x3 S => g231_20 F n x2 x3 S) x2 x3 1 S5))))))))) = some q := H
    refine ex_aload_n rfl ?_
    refine ex_gI rfl (by decide) ?_
    by_cases h4 : (S.1 95 39) ≤ 0
    · rw [if_pos h4] at H
      refine ex_if_le_j (ct := am_c231_164) h4 rfl ?_
      refine ex_iload_n rfl ?_
      have H := Option.some.inj H
      subst H
      exact ex_iret (M := 231) (Or.inl rfl)
    · rw [if_neg h4] at H
      refine ex_if_le_f h4 ?_
      refine ex_aload_n rfl ?_
      refine ex_dupr ?_
      refine ex_gI rfl (by decide) ?_
      refine ex_iconst (v := 1) (by decide) ?_
      refine ex_isub ?_
      refine ex_putI rfl (by decide) (fun z => absurd z.1 (by decide)) ?_
      generalize ((am_upI S.1 95 39 ((S.1 95 39) - 1), S.2) : AmT) = S5 at H ⊢
      have H := am_lt_el H
      refine ex_aload_n rfl ?_
      refine ex_getR (w := 126) rfl rfl rfl ?_
      refine ex_aload_n rfl ?_
      refine ex_gI rfl (by decide) ?_
      obtain ⟨hj, H⟩ := am_ck_el H
      refine ex_iald (k := 64) (v := S5.1 126 (S5.1 95 39).toNatClampNeg) rfl hj rfl ?_
      refine ex_istore (L2 := [.ref 95, w1, .int x2, .int x3, .int (S5.1 126 (S5.1 95 39).toNatClampNeg), w5]) (Nat.le_of_ble_eq_true rfl) rfl ?_
      refine ex_aload_n rfl ?_
      refine ex_getR (w := 103) rfl rfl rfl ?_
      refine ex_iload rfl ?_
      obtain ⟨hj, H⟩ := am_ck_el H
      refine ex_iald (k := 32) (v := S5.1 103 (S5.1 126 (S5.1 95 39).toNatClampNeg).toNatClampNeg) rfl hj rfl ?_
      refine ex_istore (L2 := [.ref 95, w1, .int x2, .int x3, .int (S5.1 126 (S5.1 95 39).toNatClampNeg), .int (S5.1 103 (S5.1 126 (S5.1 95 39).toNatClampNeg).toNatClampNeg)]) (Nat.le_of_ble_eq_true rfl) rfl ?_
      refine ex_iload rfl ?_
      refine ex_iconst (v := 5) (by decide) ?_
      by_cases h6 : (S5.1 103 (S5.1 126 (S5.1 95 39).toNatClampNeg).toNatClampNeg) = 5
      · rw [if_pos h6] at H
        refine ex_icmp_ne_f h6 ?_
        refine ex_aload_n rfl ?_
        refine ex_aload_n rfl ?_
        refine ex_getR (w := 106) rfl rfl rfl ?_
        refine ex_iload rfl ?_
        obtain ⟨hj, H⟩ := am_ck_el H
        refine ex_iald (k := 32) (v := S5.1 106 (S5.1 126 (S5.1 95 39).toNatClampNeg).toNatClampNeg) rfl hj rfl ?_
        obtain ⟨S14, hp, H⟩ := Option.bind_eq_some_iff.mp H
        refine ex_callV rfl rfl (Nat.le_of_ble_eq_true rfl) (Nat.le_of_ble_eq_true rfl) rfl (r230 (by omega) hp) rfl ?_
        refine ex_aload_n rfl ?_
        refine ex_aload_n rfl ?_
        refine ex_getR (w := 105) rfl rfl rfl ?_
        refine ex_iload rfl ?_
        obtain ⟨hj, H⟩ := am_ck_el H
        refine ex_iald (k := 32) (v := S14.1 105 (S5.1 126 (S5.1 95 39).toNatClampNeg).toNatClampNeg) rfl hj rfl ?_
        obtain ⟨S15, hp, H⟩ := Option.bind_eq_some_iff.mp H
        refine ex_callV rfl rfl (Nat.le_of_ble_eq_true rfl) (Nat.le_of_ble_eq_true rfl) rfl (r230 (by omega) hp) rfl ?_
        refine ex_goto (ct := am_c231_161) rfl ?_
        exact e231_161 hd (fun x2 x3 w1 w4 w5 S q H => ih x2 x3 w1 w4 w5 S q H) H
      · rw [if_neg h6] at H
        refine ex_icmp_ne_j (ct := am_c231_88) h6 rfl ?_
        refine ex_iload_n rfl ?_
        by_cases h7 : x2 = 0
        · rw [if_pos h7] at H
          refine ex_if_ne_f h7 ?_
          refine ex_iload_n rfl ?_
          refine ex_iload rfl ?_
          by_cases h11 : (S5.1 103 (S5.1 126 (S5.1 95 39).toNatClampNeg).toNatClampNeg) = 0
          · rw [if_pos h11] at H
            refine ex_if_ne_f h11 ?_
            refine ex_iconst (v := 1) (by decide) ?_
            refine ex_goto (ct := am_c231_123) rfl ?_
            exact e231_123 hd (fun x2 x3 w1 w4 w5 S q H => ih x2 x3 w1 w4 w5 S q H) H
          · rw [if_neg h11] at H
            refine ex_if_ne_j (ct := am_c231_102) h11 rfl ?_
            refine ex_iload rfl ?_
            refine ex_iconst (v := 2) (by decide) ?_
            by_cases h12 : (S5.1 103 (S5.1 126 (S5.1 95 39).toNatClampNeg).toNatClampNeg) = 2
            · rw [if_pos h12] at H
              refine ex_icmp_ne_f h12 ?_
              refine ex_iconst (v := 3) (by decide) ?_
              refine ex_goto (ct := am_c231_123) rfl ?_
              exact e231_123 hd (fun x2 x3 w1 w4 w5 S q H => ih x2 x3 w1 w4 w5 S q H) H
            · rw [if_neg h12] at H
              refine ex_icmp_ne_j (ct := am_c231_112) h12 rfl ?_
              refine ex_iload rfl ?_
              refine ex_iconst (v := 4) (by decide) ?_
              by_cases h13 : (S5.1 103 (S5.1 126 (S5.1 95 39).toNatClampNeg).toNatClampNeg) = 4
              · rw [if_pos h13] at H
                refine ex_icmp_ne_f h13 ?_
                refine ex_iconst (v := 4) (by decide) ?_
                refine ex_goto (ct := am_c231_123) rfl ?_
                exact e231_123 hd (fun x2 x3 w1 w4 w5 S q H => ih x2 x3 w1 w4 w5 S q H) H
              · rw [if_neg h13] at H
                refine ex_icmp_ne_j (ct := am_c231_122) h13 rfl ?_
                refine ex_iconst (v := 2) (by decide) ?_
                exact e231_123 hd (fun x2 x3 w1 w4 w5 S q H => ih x2 x3 w1 w4 w5 S q H) H
        · rw [if_neg h7] at H
          refine ex_if_ne_j (ct := am_c231_128) h7 rfl ?_
          refine ex_iload_n rfl ?_
          refine ex_iload rfl ?_
          by_cases h8 : (S5.1 103 (S5.1 126 (S5.1 95 39).toNatClampNeg).toNatClampNeg) = 0
          · rw [if_pos h8] at H
            refine ex_if_ne_f h8 ?_
            refine ex_iconst (v := 0) (by decide) ?_
            refine ex_goto (ct := am_c231_159) rfl ?_
            exact e231_159 hd (fun x2 x3 w1 w4 w5 S q H => ih x2 x3 w1 w4 w5 S q H) H
          · rw [if_neg h8] at H
            refine ex_if_ne_j (ct := am_c231_138) h8 rfl ?_
            refine ex_iload rfl ?_
            refine ex_iconst (v := 3) (by decide) ?_
            by_cases h9 : (S5.1 103 (S5.1 126 (S5.1 95 39).toNatClampNeg).toNatClampNeg) = 3
            · rw [if_pos h9] at H
              refine ex_icmp_ne_f h9 ?_
              refine ex_iconst (v := 2) (by decide) ?_
              refine ex_goto (ct := am_c231_159) rfl ?_
              exact e231_159 hd (fun x2 x3 w1 w4 w5 S q H => ih x2 x3 w1 w4 w5 S q H) H
            · rw [if_neg h9] at H
              refine ex_icmp_ne_j (ct := am_c231_148) h9 rfl ?_
              refine ex_iload rfl ?_
              refine ex_iconst (v := 4) (by decide) ?_
              by_cases h10 : (S5.1 103 (S5.1 126 (S5.1 95 39).toNatClampNeg).toNatClampNeg) = 4
              · rw [if_pos h10] at H
                refine ex_icmp_ne_f h10 ?_
                refine ex_iconst (v := 3) (by decide) ?_
                refine ex_goto (ct := am_c231_159) rfl ?_
                exact e231_159 hd (fun x2 x3 w1 w4 w5 S q H => ih x2 x3 w1 w4 w5 S q H) H
              · rw [if_neg h10] at H
                refine ex_icmp_ne_j (ct := am_c231_158) h10 rfl ?_
                refine ex_iconst (v := 1) (by decide) ?_
                exact e231_159 hd (fun x2 x3 w1 w4 w5 S q H => ih x2 x3 w1 w4 w5 S q H) H
set_option maxHeartbeats 1000000 in
set_option maxRecDepth 20000 in
theorem e231_9 {Lg : Nat} {xs : Nat → Int32} {d F : Nat} {x1 : Int32} {x2 : Int32} {s0 : Int32} {w3 : Value} {w4 : Value} {w5 : Value} {S : AmT} {q : Int32 × AmT} (hd : 1 ≤ d) (H : g231_9 F x1 x2 s0 S = some q) : Ex (am_X Lg xs) d 231 am_c231_9 [.ref 95, .int x1, .int x2, w3, w4, w5] [.int s0] (hS S) (some q.1, hS q.2) := by
  obtain ⟨d, rfl⟩ : ∃ d2, d = d2 + 1 := ⟨d - 1, by omega⟩
  unfold g231_9 at H
  refine ex_istore_n (L2 := [.ref 95, .int x1, .int x2, .int s0, w4, w5]) (Nat.le_of_ble_eq_true rfl) rfl ?_
  refine ex_aload_n rfl ?_
  refine ex_iconst (v := 0) (by decide) ?_
  refine ex_putI rfl (by decide) (fun z => absurd z.1 (by decide)) ?_
  generalize ((am_upI S.1 95 39 0, S.2) : AmT) = S2 at H ⊢
  have H := am_lt_el H
  refine ex_aload_n rfl ?_
  refine ex_iload_n rfl ?_
  obtain ⟨S3, hp, H⟩ := Option.bind_eq_some_iff.mp H
  refine ex_callV rfl rfl (Nat.le_of_ble_eq_true rfl) (Nat.le_of_ble_eq_true rfl) rfl (r230 (by omega) hp) rfl ?_
  exact e231_20 hd _ _ _ _ _ _ _ _ H
set_option maxHeartbeats 1000000 in
set_option maxRecDepth 20000 in
theorem r231 {Lg : Nat} {xs : Nat → Int32} {d F : Nat} {x1 : Int32} {x2 : Int32} {S : AmT} {q : Int32 × AmT} (hd : 1 ≤ d) (H : f231 F x1 x2 S = some q) : Ex (am_X Lg xs) d 231 (am_P 231) (am_ini (am_Mi 231).1 [.ref 95, .int x1, .int x2]) [] (hS S) (some q.1, hS q.2) := by
  obtain ⟨d, rfl⟩ : ∃ d2, d = d2 + 1 := ⟨d - 1, by omega⟩
  unfold f231 at H
  show Ex (am_X Lg xs) _ 231 am_c231_0 [.ref 95, .int x1, .int x2, .long 0, .long 0, .long 0] [] (hS S) (some q.1, hS q.2)
  refine ex_iload_n rfl ?_
  by_cases h1 : x2 = 0
  · rw [if_pos h1] at H
    refine ex_if_ne_f h1 ?_
    refine ex_iconst (v := 1) (by decide) ?_
    refine ex_goto (ct := am_c231_9) rfl ?_
    exact e231_9 hd H
  · rw [if_neg h1] at H
    refine ex_if_ne_j (ct := am_c231_8) h1 rfl ?_
    refine ex_iconst (v := 0) (by decide) ?_
    exact e231_9 hd H
