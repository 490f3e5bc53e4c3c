/-! printed by wip/gen/gen20.py -/
-- X0_count
def f1 (F : Nat) (S : AmT) : Option (Int32 × AmT) := some ((kg S.1 71 1 0), S)
set_option maxHeartbeats 1000000 in
set_option maxRecDepth 20000 in
theorem r1 {Lg : Nat} {xs : Nat → Int32} {d F : Nat} {S : AmT} {q : Int32 × AmT} (hd : 1 ≤ d) (H : f1 F S = some q) : Ex (am_X Lg xs) d 1 (am_P 1) (am_ini (am_Mi 1).1 [.ref 69]) [] (hS S) (some q.1, hS q.2) := by
  obtain ⟨d, rfl⟩ : ∃ d2, d = d2 + 1 := ⟨d - 1, by omega⟩
  unfold f1 at H
  show Ex (am_X Lg xs) _ 1 am_c1_0 [.ref 69] [] (hS S) (some q.1, hS q.2)
  refine ex_aload_n rfl ?_
  refine ex_getR (w := 70) rfl rfl rfl ?_
  refine ex_iconst (v := 0) (by decide) ?_
  refine ex_kget (c := 70) (ar := 71) (n := 1) rfl (Nat.le_of_ble_eq_true rfl) ?_
  have H := Option.some.inj H
  subst H
  exact ex_iret (M := 1) (Or.inl rfl)
-- X0_has
def f2 (F : Nat) (x1 : Int32) (S : AmT) : Option (Int32 × AmT) := if x1 < 0 then (some (0, S)) else (if (kg S.1 71 1 0) ≤ x1 then (some (0, S)) else (some (1, S)))
set_option maxHeartbeats 1000000 in
set_option maxRecDepth 20000 in
theorem r2 {Lg : Nat} {xs : Nat → Int32} {d F : Nat} {x1 : Int32} {S : AmT} {q : Int32 × AmT} (hd : 1 ≤ d) (H : f2 F x1 S = some q) : Ex (am_X Lg xs) d 2 (am_P 2) (am_ini (am_Mi 2).1 [.ref 69, .int x1]) [] (hS S) (some q.1, hS q.2) := by
  obtain ⟨d, rfl⟩ : ∃ d2, d = d2 + 1 := ⟨d - 1, by omega⟩
  unfold f2 at H
  show Ex (am_X Lg xs) _ 2 am_c2_0 [.ref 69, .int x1] [] (hS S) (some q.1, hS q.2)
  refine ex_iload_n rfl ?_
  by_cases h1 : x1 < 0
  · rw [if_pos h1] at H
    refine ex_if_lt_j (ct := am_c2_20) h1 rfl ?_
    refine ex_iconst (v := 0) (by decide) ?_
    have H := Option.some.inj H
    subst H
    exact ex_iret (M := 2) (Or.inr ⟨rfl, by decide⟩)
  · rw [if_neg h1] at H
    refine ex_if_lt_f h1 ?_
    refine ex_iload_n rfl ?_
    refine ex_aload_n rfl ?_
    refine ex_getR (w := 70) rfl rfl rfl ?_
    refine ex_iconst (v := 0) (by decide) ?_
    refine ex_kget (c := 70) (ar := 71) (n := 1) rfl (Nat.le_of_ble_eq_true rfl) ?_
    by_cases h2 : (kg S.1 71 1 0) ≤ x1
    · rw [if_pos h2] at H
      refine ex_icmp_ge_j (ct := am_c2_20) h2 rfl ?_
      refine ex_iconst (v := 0) (by decide) ?_
      have H := Option.some.inj H
      subst H
      exact ex_iret (M := 2) (Or.inr ⟨rfl, by decide⟩)
    · rw [if_neg h2] at H
      refine ex_icmp_ge_f h2 ?_
      refine ex_iconst (v := 1) (by decide) ?_
      refine ex_goto (ct := am_c2_21) rfl ?_
      have H := Option.some.inj H
      subst H
      exact ex_iret (M := 2) (Or.inr ⟨rfl, by decide⟩)
-- X0_sheetsIn
def f4 (F : Nat) (x1 : Int32) (S : AmT) : Option (Int32 × AmT) := some ((kg S.1 75 4 x1), S)
set_option maxHeartbeats 1000000 in
set_option maxRecDepth 20000 in
theorem r4 {Lg : Nat} {xs : Nat → Int32} {d F : Nat} {x1 : Int32} {S : AmT} {q : Int32 × AmT} (hd : 1 ≤ d) (H : f4 F x1 S = some q) : Ex (am_X Lg xs) d 4 (am_P 4) (am_ini (am_Mi 4).1 [.ref 69, .int x1]) [] (hS S) (some q.1, hS q.2) := by
  obtain ⟨d, rfl⟩ : ∃ d2, d = d2 + 1 := ⟨d - 1, by omega⟩
  unfold f4 at H
  show Ex (am_X Lg xs) _ 4 am_c4_0 [.ref 69, .int x1] [] (hS S) (some q.1, hS q.2)
  refine ex_aload_n rfl ?_
  refine ex_getR (w := 74) rfl rfl rfl ?_
  refine ex_iload_n rfl ?_
  refine ex_kget (c := 74) (ar := 75) (n := 4) rfl (Nat.le_of_ble_eq_true rfl) ?_
  have H := Option.some.inj H
  subst H
  exact ex_iret (M := 4) (Or.inl rfl)
-- X0_isInside
def f5 (F : Nat) (x1 : Int32) (S : AmT) : Option (Int32 × AmT) := if (kg S.1 73 4 x1) = 1 then (some (1, S)) else (some (0, S))
set_option maxHeartbeats 1000000 in
set_option maxRecDepth 20000 in
theorem r5 {Lg : Nat} {xs : Nat → Int32} {d F : Nat} {x1 : Int32} {S : AmT} {q : Int32 × AmT} (hd : 1 ≤ d) (H : f5 F x1 S = some q) : Ex (am_X Lg xs) d 5 (am_P 5) (am_ini (am_Mi 5).1 [.ref 69, .int x1]) [] (hS S) (some q.1, hS q.2) := by
  obtain ⟨d, rfl⟩ : ∃ d2, d = d2 + 1 := ⟨d - 1, by omega⟩
  unfold f5 at H
  show Ex (am_X Lg xs) _ 5 am_c5_0 [.ref 69, .int x1] [] (hS S) (some q.1, hS q.2)
  refine ex_aload_n rfl ?_
  refine ex_getR (w := 72) rfl rfl rfl ?_
  refine ex_iload_n rfl ?_
  refine ex_kget (c := 72) (ar := 73) (n := 4) rfl (Nat.le_of_ble_eq_true rfl) ?_
  refine ex_iconst (v := 1) (by decide) ?_
  by_cases h1 : (kg S.1 73 4 x1) = 1
  · rw [if_pos h1] at H
    refine ex_icmp_ne_f h1 ?_
    refine ex_iconst (v := 1) (by decide) ?_
    refine ex_goto (ct := am_c5_17) rfl ?_
    have H := Option.some.inj H
    subst H
    exact ex_iret (M := 5) (Or.inr ⟨rfl, by decide⟩)
  · rw [if_neg h1] at H
    refine ex_icmp_ne_j (ct := am_c5_16) h1 rfl ?_
    refine ex_iconst (v := 0) (by decide) ?_
    have H := Option.some.inj H
    subst H
    exact ex_iret (M := 5) (Or.inr ⟨rfl, by decide⟩)
-- X0_member
def f7 (F : Nat) (x1 : Int32) (x2 : Int32) (S : AmT) : Option (Int32 × AmT) := some ((kg S.1 77 16 ((x1 * 4) + x2)), S)
set_option maxHeartbeats 1000000 in
set_option maxRecDepth 20000 in
theorem r7 {Lg : Nat} {xs : Nat → Int32} {d F : Nat} {x1 : Int32} {x2 : Int32} {S : AmT} {q : Int32 × AmT} (hd : 1 ≤ d) (H : f7 F x1 x2 S = some q) : Ex (am_X Lg xs) d 7 (am_P 7) (am_ini (am_Mi 7).1 [.ref 69, .int x1, .int x2]) [] (hS S) (some q.1, hS q.2) := by
  obtain ⟨d, rfl⟩ : ∃ d2, d = d2 + 1 := ⟨d - 1, by omega⟩
  unfold f7 at H
  show Ex (am_X Lg xs) _ 7 am_c7_0 [.ref 69, .int x1, .int x2] [] (hS S) (some q.1, hS q.2)
  refine ex_aload_n rfl ?_
  refine ex_getR (w := 76) rfl rfl rfl ?_
  refine ex_iload_n rfl ?_
  refine ex_iconst (v := 4) (by decide) ?_
  refine ex_imul ?_
  refine ex_iload_n rfl ?_
  refine ex_iadd ?_
  refine ex_kget (c := 76) (ar := 77) (n := 16) rfl (Nat.le_of_ble_eq_true rfl) ?_
  have H := Option.some.inj H
  subst H
  exact ex_iret (M := 7) (Or.inl rfl)
-- X0_isBooked
def f11 (F : Nat) (x1 : Int32) (S : AmT) : Option (Int32 × AmT) := if (kg S.1 79 4 x1) = 0 then (some (0, S)) else (some (1, S))
set_option maxHeartbeats 1000000 in
set_option maxRecDepth 20000 in
theorem r11 {Lg : Nat} {xs : Nat → Int32} {d F : Nat} {x1 : Int32} {S : AmT} {q : Int32 × AmT} (hd : 1 ≤ d) (H : f11 F x1 S = some q) : Ex (am_X Lg xs) d 11 (am_P 11) (am_ini (am_Mi 11).1 [.ref 69, .int x1]) [] (hS S) (some q.1, hS q.2) := by
  obtain ⟨d, rfl⟩ : ∃ d2, d = d2 + 1 := ⟨d - 1, by omega⟩
  unfold f11 at H
  show Ex (am_X Lg xs) _ 11 am_c11_0 [.ref 69, .int x1] [] (hS S) (some q.1, hS q.2)
  refine ex_aload_n rfl ?_
  refine ex_getR (w := 78) rfl rfl rfl ?_
  refine ex_iload_n rfl ?_
  refine ex_kget (c := 78) (ar := 79) (n := 4) rfl (Nat.le_of_ble_eq_true rfl) ?_
  by_cases h1 : (kg S.1 79 4 x1) = 0
  · rw [if_pos h1] at H
    refine ex_if_eq_j (ct := am_c11_15) h1 rfl ?_
    refine ex_iconst (v := 0) (by decide) ?_
    have H := Option.some.inj H
    subst H
    exact ex_iret (M := 11) (Or.inr ⟨rfl, by decide⟩)
  · rw [if_neg h1] at H
    refine ex_if_eq_f h1 ?_
    refine ex_iconst (v := 1) (by decide) ?_
    refine ex_goto (ct := am_c11_16) rfl ?_
    have H := Option.some.inj H
    subst H
    exact ex_iret (M := 11) (Or.inr ⟨rfl, by decide⟩)
-- X0_bookedCount
def f12 (F : Nat) (S : AmT) : Option (Int32 × AmT) := some ((kg S.1 81 1 0), S)
set_option maxHeartbeats 1000000 in
set_option maxRecDepth 20000 in
theorem r12 {Lg : Nat} {xs : Nat → Int32} {d F : Nat} {S : AmT} {q : Int32 × AmT} (hd : 1 ≤ d) (H : f12 F S = some q) : Ex (am_X Lg xs) d 12 (am_P 12) (am_ini (am_Mi 12).1 [.ref 69]) [] (hS S) (some q.1, hS q.2) := by
  obtain ⟨d, rfl⟩ : ∃ d2, d = d2 + 1 := ⟨d - 1, by omega⟩
  unfold f12 at H
  show Ex (am_X Lg xs) _ 12 am_c12_0 [.ref 69] [] (hS S) (some q.1, hS q.2)
  refine ex_aload_n rfl ?_
  refine ex_getR (w := 80) rfl rfl rfl ?_
  refine ex_iconst (v := 0) (by decide) ?_
  refine ex_kget (c := 80) (ar := 81) (n := 1) rfl (Nat.le_of_ble_eq_true rfl) ?_
  have H := Option.some.inj H
  subst H
  exact ex_iret (M := 12) (Or.inl rfl)
-- X0_coverSheet
def f17 (F : Nat) (S : AmT) : Option (Int32 × AmT) := some ((kg S.1 85 1 0), S)
set_option maxHeartbeats 1000000 in
set_option maxRecDepth 20000 in
theorem r17 {Lg : Nat} {xs : Nat → Int32} {d F : Nat} {S : AmT} {q : Int32 × AmT} (hd : 1 ≤ d) (H : f17 F S = some q) : Ex (am_X Lg xs) d 17 (am_P 17) (am_ini (am_Mi 17).1 [.ref 69]) [] (hS S) (some q.1, hS q.2) := by
  obtain ⟨d, rfl⟩ : ∃ d2, d = d2 + 1 := ⟨d - 1, by omega⟩
  unfold f17 at H
  show Ex (am_X Lg xs) _ 17 am_c17_0 [.ref 69] [] (hS S) (some q.1, hS q.2)
  refine ex_aload_n rfl ?_
  refine ex_getR (w := 84) rfl rfl rfl ?_
  refine ex_iconst (v := 0) (by decide) ?_
  refine ex_kget (c := 84) (ar := 85) (n := 1) rfl (Nat.le_of_ble_eq_true rfl) ?_
  have H := Option.some.inj H
  subst H
  exact ex_iret (M := 17) (Or.inl rfl)
-- X1_count
def f20 (F : Nat) (S : AmT) : Option (Int32 × AmT) := some ((kg S.1 31 1 0), S)
set_option maxHeartbeats 1000000 in
set_option maxRecDepth 20000 in
theorem r20 {Lg : Nat} {xs : Nat → Int32} {d F : Nat} {S : AmT} {q : Int32 × AmT} (hd : 1 ≤ d) (H : f20 F S = some q) : Ex (am_X Lg xs) d 20 (am_P 20) (am_ini (am_Mi 20).1 [.ref 22]) [] (hS S) (some q.1, hS q.2) := by
  obtain ⟨d, rfl⟩ : ∃ d2, d = d2 + 1 := ⟨d - 1, by omega⟩
  unfold f20 at H
  show Ex (am_X Lg xs) _ 20 am_c20_0 [.ref 22] [] (hS S) (some q.1, hS q.2)
  refine ex_aload_n rfl ?_
  refine ex_getR (w := 30) rfl rfl rfl ?_
  refine ex_iconst (v := 0) (by decide) ?_
  refine ex_kget (c := 30) (ar := 31) (n := 1) rfl (Nat.le_of_ble_eq_true rfl) ?_
  have H := Option.some.inj H
  subst H
  exact ex_iret (M := 20) (Or.inl rfl)
-- X1_has
def f21 (F : Nat) (x1 : Int32) (S : AmT) : Option (Int32 × AmT) := if x1 < 0 then (some (0, S)) else (if (kg S.1 31 1 0) ≤ x1 then (some (0, S)) else (some (1, S)))
set_option maxHeartbeats 1000000 in
set_option maxRecDepth 20000 in
theorem r21 {Lg : Nat} {xs : Nat → Int32} {d F : Nat} {x1 : Int32} {S : AmT} {q : Int32 × AmT} (hd : 1 ≤ d) (H : f21 F x1 S = some q) : Ex (am_X Lg xs) d 21 (am_P 21) (am_ini (am_Mi 21).1 [.ref 22, .int x1]) [] (hS S) (some q.1, hS q.2) := by
  obtain ⟨d, rfl⟩ : ∃ d2, d = d2 + 1 := ⟨d - 1, by omega⟩
  unfold f21 at H
  show Ex (am_X Lg xs) _ 21 am_c21_0 [.ref 22, .int x1] [] (hS S) (some q.1, hS q.2)
  refine ex_iload_n rfl ?_
  by_cases h1 : x1 < 0
  · rw [if_pos h1] at H
    refine ex_if_lt_j (ct := am_c21_20) h1 rfl ?_
    refine ex_iconst (v := 0) (by decide) ?_
    have H := Option.some.inj H
    subst H
    exact ex_iret (M := 21) (Or.inr ⟨rfl, by decide⟩)
  · rw [if_neg h1] at H
    refine ex_if_lt_f h1 ?_
    refine ex_iload_n rfl ?_
    refine ex_aload_n rfl ?_
    refine ex_getR (w := 30) rfl rfl rfl ?_
    refine ex_iconst (v := 0) (by decide) ?_
    refine ex_kget (c := 30) (ar := 31) (n := 1) rfl (Nat.le_of_ble_eq_true rfl) ?_
    by_cases h2 : (kg S.1 31 1 0) ≤ x1
    · rw [if_pos h2] at H
      refine ex_icmp_ge_j (ct := am_c21_20) h2 rfl ?_
      refine ex_iconst (v := 0) (by decide) ?_
      have H := Option.some.inj H
      subst H
      exact ex_iret (M := 21) (Or.inr ⟨rfl, by decide⟩)
    · rw [if_neg h2] at H
      refine ex_icmp_ge_f h2 ?_
      refine ex_iconst (v := 1) (by decide) ?_
      refine ex_goto (ct := am_c21_21) rfl ?_
      have H := Option.some.inj H
      subst H
      exact ex_iret (M := 21) (Or.inr ⟨rfl, by decide⟩)
-- X1_plainOf
def f22 (F : Nat) (x1 : Int32) (S : AmT) : Option (Int32 × AmT) := some ((kg S.1 41 16 x1), S)
set_option maxHeartbeats 1000000 in
set_option maxRecDepth 20000 in
theorem r22 {Lg : Nat} {xs : Nat → Int32} {d F : Nat} {x1 : Int32} {S : AmT} {q : Int32 × AmT} (hd : 1 ≤ d) (H : f22 F x1 S = some q) : Ex (am_X Lg xs) d 22 (am_P 22) (am_ini (am_Mi 22).1 [.ref 22, .int x1]) [] (hS S) (some q.1, hS q.2) := by
  obtain ⟨d, rfl⟩ : ∃ d2, d = d2 + 1 := ⟨d - 1, by omega⟩
  unfold f22 at H
  show Ex (am_X Lg xs) _ 22 am_c22_0 [.ref 22, .int x1] [] (hS S) (some q.1, hS q.2)
  refine ex_aload_n rfl ?_
  refine ex_getR (w := 40) rfl rfl rfl ?_
  refine ex_iload_n rfl ?_
  refine ex_kget (c := 40) (ar := 41) (n := 16) rfl (Nat.le_of_ble_eq_true rfl) ?_
  have H := Option.some.inj H
  subst H
  exact ex_iret (M := 22) (Or.inl rfl)
-- X1_thickOf
def f23 (F : Nat) (x1 : Int32) (S : AmT) : Option (Int32 × AmT) := some ((kg S.1 43 16 x1), S)
set_option maxHeartbeats 1000000 in
set_option maxRecDepth 20000 in
theorem r23 {Lg : Nat} {xs : Nat → Int32} {d F : Nat} {x1 : Int32} {S : AmT} {q : Int32 × AmT} (hd : 1 ≤ d) (H : f23 F x1 S = some q) : Ex (am_X Lg xs) d 23 (am_P 23) (am_ini (am_Mi 23).1 [.ref 22, .int x1]) [] (hS S) (some q.1, hS q.2) := by
  obtain ⟨d, rfl⟩ : ∃ d2, d = d2 + 1 := ⟨d - 1, by omega⟩
  unfold f23 at H
  show Ex (am_X Lg xs) _ 23 am_c23_0 [.ref 22, .int x1] [] (hS S) (some q.1, hS q.2)
  refine ex_aload_n rfl ?_
  refine ex_getR (w := 42) rfl rfl rfl ?_
  refine ex_iload_n rfl ?_
  refine ex_kget (c := 42) (ar := 43) (n := 16) rfl (Nat.le_of_ble_eq_true rfl) ?_
  have H := Option.some.inj H
  subst H
  exact ex_iret (M := 23) (Or.inl rfl)
-- X1_trimOf
def f24 (F : Nat) (x1 : Int32) (S : AmT) : Option (Int32 × AmT) := some ((kg S.1 45 16 x1), S)
set_option maxHeartbeats 1000000 in
set_option maxRecDepth 20000 in
theorem r24 {Lg : Nat} {xs : Nat → Int32} {d F : Nat} {x1 : Int32} {S : AmT} {q : Int32 × AmT} (hd : 1 ≤ d) (H : f24 F x1 S = some q) : Ex (am_X Lg xs) d 24 (am_P 24) (am_ini (am_Mi 24).1 [.ref 22, .int x1]) [] (hS S) (some q.1, hS q.2) := by
  obtain ⟨d, rfl⟩ : ∃ d2, d = d2 + 1 := ⟨d - 1, by omega⟩
  unfold f24 at H
  show Ex (am_X Lg xs) _ 24 am_c24_0 [.ref 22, .int x1] [] (hS S) (some q.1, hS q.2)
  refine ex_aload_n rfl ?_
  refine ex_getR (w := 44) rfl rfl rfl ?_
  refine ex_iload_n rfl ?_
  refine ex_kget (c := 44) (ar := 45) (n := 16) rfl (Nat.le_of_ble_eq_true rfl) ?_
  have H := Option.some.inj H
  subst H
  exact ex_iret (M := 24) (Or.inl rfl)
-- X1_lipsOf
def f25 (F : Nat) (x1 : Int32) (S : AmT) : Option (Int32 × AmT) := if (kg S.1 33 16 x1) = 3 then (some (2, S)) else if (kg S.1 33 16 x1) = 4 then (some (3, S)) else (some ((-16), S))
set_option maxHeartbeats 1000000 in
set_option maxRecDepth 20000 in
theorem r25 {Lg : Nat} {xs : Nat → Int32} {d F : Nat} {x1 : Int32} {S : AmT} {q : Int32 × AmT} (hd : 1 ≤ d) (H : f25 F x1 S = some q) : Ex (am_X Lg xs) d 25 (am_P 25) (am_ini (am_Mi 25).1 [.ref 22, .int x1]) [] (hS S) (some q.1, hS q.2) := by
  obtain ⟨d, rfl⟩ : ∃ d2, d = d2 + 1 := ⟨d - 1, by omega⟩
  unfold f25 at H
  show Ex (am_X Lg xs) _ 25 am_c25_0 [.ref 22, .int x1] [] (hS S) (some q.1, hS q.2)
  refine ex_aload_n rfl ?_
  refine ex_getR (w := 32) rfl rfl rfl ?_
  refine ex_iload_n rfl ?_
  refine ex_kget (c := 32) (ar := 33) (n := 16) rfl (Nat.le_of_ble_eq_true rfl) ?_
  by_cases h1 : (kg S.1 33 16 x1) = 3
  · rw [if_pos h1] at H
    refine ex_look (off := 28) (ct := am_c25_36) (by rw [h1]; decide) rfl ?_
    refine ex_iconst (v := 2) (by decide) ?_
    have H := Option.some.inj H
    subst H
    exact ex_iret (M := 25) (Or.inl rfl)
  rw [if_neg h1] at H
  by_cases h2 : (kg S.1 33 16 x1) = 4
  · rw [if_pos h2] at H
    refine ex_look (off := 30) (ct := am_c25_38) (by rw [h2]; decide) rfl ?_
    refine ex_iconst (v := 3) (by decide) ?_
    have H := Option.some.inj H
    subst H
    exact ex_iret (M := 25) (Or.inl rfl)
  rw [if_neg h2] at H
  refine ex_look (off := 32) (ct := am_c25_40) (am_lk_out (by intro z hz; simp only [List.map_cons, List.map_nil, List.mem_cons, List.not_mem_nil, or_false] at hz; rcases hz with rfl | rfl; (intro hq; exact h1 (Int32.toInt_inj.mp (hq.symm.trans (by decide)))); (intro hq; exact h2 (Int32.toInt_inj.mp (hq.symm.trans (by decide)))))) rfl ?_
  refine ex_bipush (v := (-16)) (by decide) ?_
  have H := Option.some.inj H
  subst H
  exact ex_iret (M := 25) (Or.inl rfl)
-- X1_partOf
def f26 (F : Nat) (x1 : Int32) (x2 : Int32) (S : AmT) : Option (Int32 × AmT) := if (kg S.1 33 16 x1) = 5 then (if x2 = 0 then (some ((kg S.1 37 16 x1), S)) else (some ((kg S.1 39 16 x1), S))) else (some ((-16), S))
set_option maxHeartbeats 1000000 in
set_option maxRecDepth 20000 in
theorem r26 {Lg : Nat} {xs : Nat → Int32} {d F : Nat} {x1 : Int32} {x2 : Int32} {S : AmT} {q : Int32 × AmT} (hd : 1 ≤ d) (H : f26 F x1 x2 S = some q) : Ex (am_X Lg xs) d 26 (am_P 26) (am_ini (am_Mi 26).1 [.ref 22, .int x1, .int x2]) [] (hS S) (some q.1, hS q.2) := by
  obtain ⟨d, rfl⟩ : ∃ d2, d = d2 + 1 := ⟨d - 1, by omega⟩
  unfold f26 at H
  show Ex (am_X Lg xs) _ 26 am_c26_0 [.ref 22, .int x1, .int x2] [] (hS S) (some q.1, hS q.2)
  refine ex_aload_n rfl ?_
  refine ex_getR (w := 32) rfl rfl rfl ?_
  refine ex_iload_n rfl ?_
  refine ex_kget (c := 32) (ar := 33) (n := 16) rfl (Nat.le_of_ble_eq_true rfl) ?_
  refine ex_iconst (v := 5) (by decide) ?_
  by_cases h1 : (kg S.1 33 16 x1) = 5
  · rw [if_pos h1] at H
    refine ex_icmp_eq_j (ct := am_c26_15) h1 rfl ?_
    refine ex_iload_n rfl ?_
    by_cases h2 : x2 = 0
    · rw [if_pos h2] at H
      refine ex_if_ne_f h2 ?_
      refine ex_aload_n rfl ?_
      refine ex_getR (w := 36) rfl rfl rfl ?_
      refine ex_iload_n rfl ?_
      refine ex_kget (c := 36) (ar := 37) (n := 16) rfl (Nat.le_of_ble_eq_true rfl) ?_
      refine ex_goto (ct := am_c26_38) rfl ?_
      have H := Option.some.inj H
      subst H
      exact ex_iret (M := 26) (Or.inl rfl)
    · rw [if_neg h2] at H
      refine ex_if_ne_j (ct := am_c26_30) h2 rfl ?_
      refine ex_aload_n rfl ?_
      refine ex_getR (w := 38) rfl rfl rfl ?_
      refine ex_iload_n rfl ?_
      refine ex_kget (c := 38) (ar := 39) (n := 16) rfl (Nat.le_of_ble_eq_true rfl) ?_
      have H := Option.some.inj H
      subst H
      exact ex_iret (M := 26) (Or.inl rfl)
  · rw [if_neg h1] at H
    refine ex_icmp_eq_f h1 ?_
    refine ex_bipush (v := (-16)) (by decide) ?_
    have H := Option.some.inj H
    subst H
    exact ex_iret (M := 26) (Or.inl rfl)
-- X1_faceOf
def f31 (F : Nat) (x1 : Int32) (x2 : Int32) (x3 : Int32) (S : AmT) : Option (Int32 × AmT) := if x2 < 0 then (some (0, S)) else (if ((x1 * 64) + (x2 / 2)) < 0 then (some (0, S)) else (if ((x1 * 64) + (x2 / 2)) < 512 then (am_ck ((x1 * 64) + (x2 / 2)) 512 (if x3 = 0 then (am_b2 (f66 F (S.1 23 ((x1 * 64) + (x2 / 2)).toNatClampNeg) S) fun v5 S6 => some ((v5 ^^^ (x2 - x2 / 2 * 2)), S6)) else if x3 = 1 then (am_b2 (f68 F (S.1 23 ((x1 * 64) + (x2 / 2)).toNatClampNeg) S) fun v8 S9 => some (v8, S9)) else if x3 = 2 then (am_b2 (f69 F (S.1 23 ((x1 * 64) + (x2 / 2)).toNatClampNeg) S) fun v11 S12 => some (v11, S12)) else (am_b2 (f67 F (S.1 23 ((x1 * 64) + (x2 / 2)).toNatClampNeg) S) fun v13 S14 => some (v13, S14)))) else (some (0, S))))
set_option maxHeartbeats 1000000 in
set_option maxRecDepth 20000 in
theorem r31 {Lg : Nat} {xs : Nat → Int32} {d F : Nat} {x1 : Int32} {x2 : Int32} {x3 : Int32} {S : AmT} {q : Int32 × AmT} (hd : 1 ≤ d) (H : f31 F x1 x2 x3 S = some q) : Ex (am_X Lg xs) d 31 (am_P 31) (am_ini (am_Mi 31).1 [.ref 22, .int x1, .int x2, .int x3]) [] (hS S) (some q.1, hS q.2) := by
  obtain ⟨d, rfl⟩ : ∃ d2, d = d2 + 1 := ⟨d - 1, by omega⟩
  unfold f31 at H
  show Ex (am_X Lg xs) _ 31 am_c31_0 [.ref 22, .int x1, .int x2, .int x3, .long 0, .long 0] [] (hS S) (some q.1, hS q.2)
  refine ex_iload_n rfl ?_
  refine ex_bipush (v := 64) (by decide) ?_
  refine ex_imul ?_
  refine ex_iload_n rfl ?_
  refine ex_iconst (v := 2) (by decide) ?_
  refine ex_idiv (by decide) ?_
  refine ex_iadd ?_
  refine ex_istore (L2 := [.ref 22, .int x1, .int x2, .int x3, .int ((x1 * 64) + (x2 / 2)), .long 0]) (Nat.le_of_ble_eq_true rfl) rfl ?_
  refine ex_iload_n rfl ?_
  by_cases h1 : x2 < 0
  · rw [if_pos h1] at H
    refine ex_if_lt_j (ct := am_c31_29) h1 rfl ?_
    refine ex_iconst (v := 0) (by decide) ?_
    have H := Option.some.inj H
    subst H
    exact ex_iret (M := 31) (Or.inl rfl)
  · rw [if_neg h1] at H
    refine ex_if_lt_f h1 ?_
    refine ex_iload rfl ?_
    by_cases h2 : ((x1 * 64) + (x2 / 2)) < 0
    · rw [if_pos h2] at H
      refine ex_if_lt_j (ct := am_c31_29) h2 rfl ?_
      refine ex_iconst (v := 0) (by decide) ?_
      have H := Option.some.inj H
      subst H
      exact ex_iret (M := 31) (Or.inl rfl)
    · rw [if_neg h2] at H
      refine ex_if_lt_f h2 ?_
      refine ex_iload rfl ?_
      refine ex_aload_n rfl ?_
      refine ex_getR (w := 23) rfl rfl rfl ?_
      refine ex_alen (k := 512) (v := 512) rfl (by decide) ?_
      by_cases h3 : ((x1 * 64) + (x2 / 2)) < 512
      · rw [if_pos h3] at H
        refine ex_icmp_lt_j (ct := am_c31_31) h3 rfl ?_
        refine ex_aload_n rfl ?_
        refine ex_getR (w := 23) rfl rfl rfl ?_
        refine ex_iload rfl ?_
        obtain ⟨hj, H⟩ := am_ck_el H
        refine ex_iald (k := 512) (v := S.1 23 ((x1 * 64) + (x2 / 2)).toNatClampNeg) rfl hj rfl ?_
        refine ex_istore (L2 := [.ref 22, .int x1, .int x2, .int x3, .int ((x1 * 64) + (x2 / 2)), .int (S.1 23 ((x1 * 64) + (x2 / 2)).toNatClampNeg)]) (Nat.le_of_ble_eq_true rfl) rfl ?_
        refine ex_iload_n rfl ?_
        by_cases h4 : x3 = 0
        · rw [if_pos h4] at H
          refine ex_table (off := 27) (ct := am_c31_68) (by rw [h4]; decide) rfl ?_
          refine ex_iload rfl ?_
          obtain ⟨v5, S6, hp, H⟩ := am_b2_el H
          refine ex_callS rfl rfl (Nat.le_of_ble_eq_true rfl) (Nat.le_of_ble_eq_true rfl) (r66 (by omega) hp) rfl ?_
          refine ex_iload_n rfl ?_
          refine ex_iconst (v := 2) (by decide) ?_
          refine ex_irem (by decide) ?_
          refine ex_ixor ?_
          have H := Option.some.inj H
          subst H
          exact ex_iret (M := 31) (Or.inl rfl)
        rw [if_neg h4] at H
        by_cases h7 : x3 = 1
        · rw [if_pos h7] at H
          refine ex_table (off := 37) (ct := am_c31_78) (by rw [h7]; decide) rfl ?_
          refine ex_iload rfl ?_
          obtain ⟨v8, S9, hp, H⟩ := am_b2_el H
          refine ex_callS rfl rfl (Nat.le_of_ble_eq_true rfl) (Nat.le_of_ble_eq_true rfl) (r68 (by omega) hp) rfl ?_
          have H := Option.some.inj H
          subst H
          exact ex_iret (M := 31) (Or.inl rfl)
        rw [if_neg h7] at H
        by_cases h10 : x3 = 2
        · rw [if_pos h10] at H
          refine ex_table (off := 43) (ct := am_c31_84) (by rw [h10]; decide) rfl ?_
          refine ex_iload rfl ?_
          obtain ⟨v11, S12, hp, H⟩ := am_b2_el H
          refine ex_callS rfl rfl (Nat.le_of_ble_eq_true rfl) (Nat.le_of_ble_eq_true rfl) (r69 (by omega) hp) rfl ?_
          have H := Option.some.inj H
          subst H
          exact ex_iret (M := 31) (Or.inl rfl)
        rw [if_neg h10] at H
        refine ex_table (off := 49) (ct := am_c31_90) (am_sw_out 3 (by decide) (by decide) (by decide) (fun k hk => match k, hk with | 0, _ => h4 | 1, _ => h7 | 2, _ => h10 | k + 3, hk => absurd hk (by omega))) rfl ?_
        refine ex_iload rfl ?_
        obtain ⟨v13, S14, hp, H⟩ := am_b2_el H
        refine ex_callS rfl rfl (Nat.le_of_ble_eq_true rfl) (Nat.le_of_ble_eq_true rfl) (r67 (by omega) hp) rfl ?_
        have H := Option.some.inj H
        subst H
        exact ex_iret (M := 31) (Or.inl rfl)
      · rw [if_neg h3] at H
        refine ex_icmp_lt_f h3 ?_
        refine ex_iconst (v := 0) (by decide) ?_
        have H := Option.some.inj H
        subst H
        exact ex_iret (M := 31) (Or.inl rfl)
-- X2_count
def f33 (F : Nat) (S : AmT) : Option (Int32 × AmT) := some ((kg S.1 9 1 0), S)
set_option maxHeartbeats 1000000 in
set_option maxRecDepth 20000 in
theorem r33 {Lg : Nat} {xs : Nat → Int32} {d F : Nat} {S : AmT} {q : Int32 × AmT} (hd : 1 ≤ d) (H : f33 F S = some q) : Ex (am_X Lg xs) d 33 (am_P 33) (am_ini (am_Mi 33).1 [.ref 7]) [] (hS S) (some q.1, hS q.2) := by
  obtain ⟨d, rfl⟩ : ∃ d2, d = d2 + 1 := ⟨d - 1, by omega⟩
  unfold f33 at H
  show Ex (am_X Lg xs) _ 33 am_c33_0 [.ref 7] [] (hS S) (some q.1, hS q.2)
  refine ex_aload_n rfl ?_
  refine ex_getR (w := 8) rfl rfl rfl ?_
  refine ex_iconst (v := 0) (by decide) ?_
  refine ex_kget (c := 8) (ar := 9) (n := 1) rfl (Nat.le_of_ble_eq_true rfl) ?_
  have H := Option.some.inj H
  subst H
  exact ex_iret (M := 33) (Or.inl rfl)
-- X2_has
def f34 (F : Nat) (x1 : Int32) (S : AmT) : Option (Int32 × AmT) := if x1 < 0 then (some (0, S)) else (if (kg S.1 9 1 0) ≤ x1 then (some (0, S)) else (some (1, S)))
set_option maxHeartbeats 1000000 in
set_option maxRecDepth 20000 in
theorem r34 {Lg : Nat} {xs : Nat → Int32} {d F : Nat} {x1 : Int32} {S : AmT} {q : Int32 × AmT} (hd : 1 ≤ d) (H : f34 F x1 S = some q) : Ex (am_X Lg xs) d 34 (am_P 34) (am_ini (am_Mi 34).1 [.ref 7, .int x1]) [] (hS S) (some q.1, hS q.2) := by
  obtain ⟨d, rfl⟩ : ∃ d2, d = d2 + 1 := ⟨d - 1, by omega⟩
  unfold f34 at H
  show Ex (am_X Lg xs) _ 34 am_c34_0 [.ref 7, .int x1] [] (hS S) (some q.1, hS q.2)
  refine ex_iload_n rfl ?_
  by_cases h1 : x1 < 0
  · rw [if_pos h1] at H
    refine ex_if_lt_j (ct := am_c34_20) h1 rfl ?_
    refine ex_iconst (v := 0) (by decide) ?_
    have H := Option.some.inj H
    subst H
    exact ex_iret (M := 34) (Or.inr ⟨rfl, by decide⟩)
  · rw [if_neg h1] at H
    refine ex_if_lt_f h1 ?_
    refine ex_iload_n rfl ?_
    refine ex_aload_n rfl ?_
    refine ex_getR (w := 8) rfl rfl rfl ?_
    refine ex_iconst (v := 0) (by decide) ?_
    refine ex_kget (c := 8) (ar := 9) (n := 1) rfl (Nat.le_of_ble_eq_true rfl) ?_
    by_cases h2 : (kg S.1 9 1 0) ≤ x1
    · rw [if_pos h2] at H
      refine ex_icmp_ge_j (ct := am_c34_20) h2 rfl ?_
      refine ex_iconst (v := 0) (by decide) ?_
      have H := Option.some.inj H
      subst H
      exact ex_iret (M := 34) (Or.inr ⟨rfl, by decide⟩)
    · rw [if_neg h2] at H
      refine ex_icmp_ge_f h2 ?_
      refine ex_iconst (v := 1) (by decide) ?_
      refine ex_goto (ct := am_c34_21) rfl ?_
      have H := Option.some.inj H
      subst H
      exact ex_iret (M := 34) (Or.inr ⟨rfl, by decide⟩)
-- X2_pagesOf
def f36 (F : Nat) (x1 : Int32) (S : AmT) : Option (Int32 × AmT) := some ((kg S.1 15 3 x1), S)
set_option maxHeartbeats 1000000 in
set_option maxRecDepth 20000 in
theorem r36 {Lg : Nat} {xs : Nat → Int32} {d F : Nat} {x1 : Int32} {S : AmT} {q : Int32 × AmT} (hd : 1 ≤ d) (H : f36 F x1 S = some q) : Ex (am_X Lg xs) d 36 (am_P 36) (am_ini (am_Mi 36).1 [.ref 7, .int x1]) [] (hS S) (some q.1, hS q.2) := by
  obtain ⟨d, rfl⟩ : ∃ d2, d = d2 + 1 := ⟨d - 1, by omega⟩
  unfold f36 at H
  show Ex (am_X Lg xs) _ 36 am_c36_0 [.ref 7, .int x1] [] (hS S) (some q.1, hS q.2)
  refine ex_aload_n rfl ?_
  refine ex_getR (w := 14) rfl rfl rfl ?_
  refine ex_iload_n rfl ?_
  refine ex_kget (c := 14) (ar := 15) (n := 3) rfl (Nat.le_of_ble_eq_true rfl) ?_
  have H := Option.some.inj H
  subst H
  exact ex_iret (M := 36) (Or.inl rfl)
-- X2_linesOf
def f37 (F : Nat) (x1 : Int32) (S : AmT) : Option (Int32 × AmT) := some ((kg S.1 11 3 x1), S)
set_option maxHeartbeats 1000000 in
set_option maxRecDepth 20000 in
theorem r37 {Lg : Nat} {xs : Nat → Int32} {d F : Nat} {x1 : Int32} {S : AmT} {q : Int32 × AmT} (hd : 1 ≤ d) (H : f37 F x1 S = some q) : Ex (am_X Lg xs) d 37 (am_P 37) (am_ini (am_Mi 37).1 [.ref 7, .int x1]) [] (hS S) (some q.1, hS q.2) := by
  obtain ⟨d, rfl⟩ : ∃ d2, d = d2 + 1 := ⟨d - 1, by omega⟩
  unfold f37 at H
  show Ex (am_X Lg xs) _ 37 am_c37_0 [.ref 7, .int x1] [] (hS S) (some q.1, hS q.2)
  refine ex_aload_n rfl ?_
  refine ex_getR (w := 10) rfl rfl rfl ?_
  refine ex_iload_n rfl ?_
  refine ex_kget (c := 10) (ar := 11) (n := 3) rfl (Nat.le_of_ble_eq_true rfl) ?_
  have H := Option.some.inj H
  subst H
  exact ex_iret (M := 37) (Or.inl rfl)
-- X2_widthOf
def f38 (F : Nat) (x1 : Int32) (S : AmT) : Option (Int32 × AmT) := some ((kg S.1 13 3 x1), S)
set_option maxHeartbeats 1000000 in
set_option maxRecDepth 20000 in
theorem r38 {Lg : Nat} {xs : Nat → Int32} {d F : Nat} {x1 : Int32} {S : AmT} {q : Int32 × AmT} (hd : 1 ≤ d) (H : f38 F x1 S = some q) : Ex (am_X Lg xs) d 38 (am_P 38) (am_ini (am_Mi 38).1 [.ref 7, .int x1]) [] (hS S) (some q.1, hS q.2) := by
  obtain ⟨d, rfl⟩ : ∃ d2, d = d2 + 1 := ⟨d - 1, by omega⟩
  unfold f38 at H
  show Ex (am_X Lg xs) _ 38 am_c38_0 [.ref 7, .int x1] [] (hS S) (some q.1, hS q.2)
  refine ex_aload_n rfl ?_
  refine ex_getR (w := 12) rfl rfl rfl ?_
  refine ex_iload_n rfl ?_
  refine ex_kget (c := 12) (ar := 13) (n := 3) rfl (Nat.le_of_ble_eq_true rfl) ?_
  have H := Option.some.inj H
  subst H
  exact ex_iret (M := 38) (Or.inl rfl)
-- X2_rowsOf
def f48 (F : Nat) (x1 : Int32) (S : AmT) : Option (Int32 × AmT) := if (kg S.1 17 72 x1) = (-1) then (some ((-11), S)) else (some ((kg S.1 17 72 x1), S))
set_option maxHeartbeats 1000000 in
set_option maxRecDepth 20000 in
theorem r48 {Lg : Nat} {xs : Nat → Int32} {d F : Nat} {x1 : Int32} {S : AmT} {q : Int32 × AmT} (hd : 1 ≤ d) (H : f48 F x1 S = some q) : Ex (am_X Lg xs) d 48 (am_P 48) (am_ini (am_Mi 48).1 [.ref 7, .int x1]) [] (hS S) (some q.1, hS q.2) := by
  obtain ⟨d, rfl⟩ : ∃ d2, d = d2 + 1 := ⟨d - 1, by omega⟩
  unfold f48 at H
  show Ex (am_X Lg xs) _ 48 am_c48_0 [.ref 7, .int x1, .long 0] [] (hS S) (some q.1, hS q.2)
  refine ex_aload_n rfl ?_
  refine ex_getR (w := 16) rfl rfl rfl ?_
  refine ex_iload_n rfl ?_
  refine ex_kget (c := 16) (ar := 17) (n := 72) rfl (Nat.le_of_ble_eq_true rfl) ?_
  refine ex_istore_n (L2 := [.ref 7, .int x1, .int (kg S.1 17 72 x1)]) (Nat.le_of_ble_eq_true rfl) rfl ?_
  refine ex_iload_n rfl ?_
  refine ex_iconst (v := (-1)) (by decide) ?_
  by_cases h1 : (kg S.1 17 72 x1) = (-1)
  · rw [if_pos h1] at H
    refine ex_icmp_ne_f h1 ?_
    refine ex_bipush (v := (-11)) (by decide) ?_
    refine ex_goto (ct := am_c48_20) rfl ?_
    have H := Option.some.inj H
    subst H
    exact ex_iret (M := 48) (Or.inl rfl)
  · rw [if_neg h1] at H
    refine ex_icmp_ne_j (ct := am_c48_19) h1 rfl ?_
    refine ex_iload_n rfl ?_
    have H := Option.some.inj H
    subst H
    exact ex_iret (M := 48) (Or.inl rfl)
def g50_26 (F : Nat) (S : AmT) : Option (Int32 × AmT) := some ((-12), S)
-- X2_rowSpot
def f50 (F : Nat) (x1 : Int32) (x2 : Int32) (S : AmT) : Option (Int32 × AmT) := if (kg S.1 17 72 x1) = (-1) then (some ((-11), S)) else (if x2 < 0 then (g50_26 F S) else (if x2 < (kg S.1 17 72 x1) then (some (((x1 * 8) + x2), S)) else (g50_26 F S)))
set_option maxHeartbeats 1000000 in
set_option maxRecDepth 20000 in
theorem e50_26 {Lg : Nat} {xs : Nat → Int32} {d F : Nat} {w0 : Value} {w1 : Value} {w2 : Value} {w3 : Value} {S : AmT} {q : Int32 × AmT} (hd : 1 ≤ d) (H : g50_26 F S = some q) : Ex (am_X Lg xs) d 50 am_c50_26 [w0, w1, w2, w3] [] (hS S) (some q.1, hS q.2) := by
  obtain ⟨d, rfl⟩ : ∃ d2, d = d2 + 1 := ⟨d - 1, by omega⟩
  unfold g50_26 at H
  refine ex_bipush (v := (-12)) (by decide) ?_
  refine ex_goto (ct := am_c50_37) rfl ?_
  have H := Option.some.inj H
  subst H
  exact ex_iret (M := 50) (Or.inl rfl)
set_option maxHeartbeats 1000000 in
set_option maxRecDepth 20000 in
theorem r50 {Lg : Nat} {xs : Nat → Int32} {d F : Nat} {x1 : Int32} {x2 : Int32} {S : AmT} {q : Int32 × AmT} (hd : 1 ≤ d) (H : f50 F x1 x2 S = some q) : Ex (am_X Lg xs) d 50 (am_P 50) (am_ini (am_Mi 50).1 [.ref 7, .int x1, .int x2]) [] (hS S) (some q.1, hS q.2) := by
  obtain ⟨d, rfl⟩ : ∃ d2, d = d2 + 1 := ⟨d - 1, by omega⟩
  unfold f50 at H
  show Ex (am_X Lg xs) _ 50 am_c50_0 [.ref 7, .int x1, .int x2, .long 0] [] (hS S) (some q.1, hS q.2)
  refine ex_aload_n rfl ?_
  refine ex_getR (w := 16) rfl rfl rfl ?_
  refine ex_iload_n rfl ?_
  refine ex_kget (c := 16) (ar := 17) (n := 72) rfl (Nat.le_of_ble_eq_true rfl) ?_
  refine ex_istore_n (L2 := [.ref 7, .int x1, .int x2, .int (kg S.1 17 72 x1)]) (Nat.le_of_ble_eq_true rfl) rfl ?_
  refine ex_iload_n rfl ?_
  refine ex_iconst (v := (-1)) (by decide) ?_
  by_cases h1 : (kg S.1 17 72 x1) = (-1)
  · rw [if_pos h1] at H
    refine ex_icmp_ne_f h1 ?_
    refine ex_bipush (v := (-11)) (by decide) ?_
    have H := Option.some.inj H
    subst H
    exact ex_iret (M := 50) (Or.inl rfl)
  · rw [if_neg h1] at H
    refine ex_icmp_ne_j (ct := am_c50_17) h1 rfl ?_
    refine ex_iload_n rfl ?_
    by_cases h2 : x2 < 0
    · rw [if_pos h2] at H
      refine ex_if_lt_j (ct := am_c50_26) h2 rfl ?_
      exact e50_26 hd H
    · rw [if_neg h2] at H
      refine ex_if_lt_f h2 ?_
      refine ex_iload_n rfl ?_
      refine ex_iload_n rfl ?_
      by_cases h3 : x2 < (kg S.1 17 72 x1)
      · rw [if_pos h3] at H
        refine ex_icmp_lt_j (ct := am_c50_31) h3 rfl ?_
        refine ex_iload_n rfl ?_
        refine ex_bipush (v := 8) (by decide) ?_
        refine ex_imul ?_
        refine ex_iload_n rfl ?_
        refine ex_iadd ?_
        have H := Option.some.inj H
        subst H
        exact ex_iret (M := 50) (Or.inl rfl)
      · rw [if_neg h3] at H
        refine ex_icmp_lt_f h3 ?_
        exact e50_26 hd H
def g51_32 (F : Nat) (S : AmT) : Option (Int32 × AmT) := some ((-12), S)
-- X2_letterSpot
def f51 (F : Nat) (x1 : Int32) (x2 : Int32) (S : AmT) : Option (Int32 × AmT) := if 0 ≤ x1 then (if (kg S.1 19 576 x1) = (-1) then (some ((-11), S)) else (if x2 < 0 then (g51_32 F S) else (if x2 < (kg S.1 19 576 x1) then (some (((x1 * 10) + x2), S)) else (g51_32 F S)))) else (some (x1, S))
set_option maxHeartbeats 1000000 in
set_option maxRecDepth 20000 in
theorem e51_32 {Lg : Nat} {xs : Nat → Int32} {d F : Nat} {w0 : Value} {w1 : Value} {w2 : Value} {w3 : Value} {S : AmT} {q : Int32 × AmT} (hd : 1 ≤ d) (H : g51_32 F S = some q) : Ex (am_X Lg xs) d 51 am_c51_32 [w0, w1, w2, w3] [] (hS S) (some q.1, hS q.2) := by
  obtain ⟨d, rfl⟩ : ∃ d2, d = d2 + 1 := ⟨d - 1, by omega⟩
  unfold g51_32 at H
  refine ex_bipush (v := (-12)) (by decide) ?_
  refine ex_goto (ct := am_c51_43) rfl ?_
  have H := Option.some.inj H
  subst H
  exact ex_iret (M := 51) (Or.inl rfl)
set_option maxHeartbeats 1000000 in
set_option maxRecDepth 20000 in
theorem r51 {Lg : Nat} {xs : Nat → Int32} {d F : Nat} {x1 : Int32} {x2 : Int32} {S : AmT} {q : Int32 × AmT} (hd : 1 ≤ d) (H : f51 F x1 x2 S = some q) : Ex (am_X Lg xs) d 51 (am_P 51) (am_ini (am_Mi 51).1 [.ref 7, .int x1, .int x2]) [] (hS S) (some q.1, hS q.2) := by
  obtain ⟨d, rfl⟩ : ∃ d2, d = d2 + 1 := ⟨d - 1, by omega⟩
  unfold f51 at H
  show Ex (am_X Lg xs) _ 51 am_c51_0 [.ref 7, .int x1, .int x2, .long 0] [] (hS S) (some q.1, hS q.2)
  refine ex_iload_n rfl ?_
  by_cases h1 : 0 ≤ x1
  · rw [if_pos h1] at H
    refine ex_if_ge_j (ct := am_c51_6) h1 rfl ?_
    refine ex_aload_n rfl ?_
    refine ex_getR (w := 18) rfl rfl rfl ?_
    refine ex_iload_n rfl ?_
    refine ex_kget (c := 18) (ar := 19) (n := 576) rfl (Nat.le_of_ble_eq_true rfl) ?_
    refine ex_istore_n (L2 := [.ref 7, .int x1, .int x2, .int (kg S.1 19 576 x1)]) (Nat.le_of_ble_eq_true rfl) rfl ?_
    refine ex_iload_n rfl ?_
    refine ex_iconst (v := (-1)) (by decide) ?_
    by_cases h2 : (kg S.1 19 576 x1) = (-1)
    · rw [if_pos h2] at H
      refine ex_icmp_ne_f h2 ?_
      refine ex_bipush (v := (-11)) (by decide) ?_
      have H := Option.some.inj H
      subst H
      exact ex_iret (M := 51) (Or.inl rfl)
    · rw [if_neg h2] at H
      refine ex_icmp_ne_j (ct := am_c51_23) h2 rfl ?_
      refine ex_iload_n rfl ?_
      by_cases h3 : x2 < 0
      · rw [if_pos h3] at H
        refine ex_if_lt_j (ct := am_c51_32) h3 rfl ?_
        exact e51_32 hd H
      · rw [if_neg h3] at H
        refine ex_if_lt_f h3 ?_
        refine ex_iload_n rfl ?_
        refine ex_iload_n rfl ?_
        by_cases h4 : x2 < (kg S.1 19 576 x1)
        · rw [if_pos h4] at H
          refine ex_icmp_lt_j (ct := am_c51_37) h4 rfl ?_
          refine ex_iload_n rfl ?_
          refine ex_bipush (v := 10) (by decide) ?_
          refine ex_imul ?_
          refine ex_iload_n rfl ?_
          refine ex_iadd ?_
          have H := Option.some.inj H
          subst H
          exact ex_iret (M := 51) (Or.inl rfl)
        · rw [if_neg h4] at H
          refine ex_icmp_lt_f h4 ?_
          exact e51_32 hd H
  · rw [if_neg h1] at H
    refine ex_if_ge_f h1 ?_
    refine ex_iload_n rfl ?_
    have H := Option.some.inj H
    subst H
    exact ex_iret (M := 51) (Or.inl rfl)
def g56_67 (F : Nat) (k18 : Int32 → Int32 → Int32 → AmT → Option AmT) : Nat → Int32 → Int32 → Int32 → Int32 → Int32 → Int32 → AmT → Option AmT
  | 0, _, _, _, _, _, _, _ => none
  | n + 1, x1, x2, x3, x4, x5, x6, S => if (kg S.1 19 576 x4) ≤ x6 then (k18 x1 x2 (x3 + 1) S) else (am_lt (ku S 21 5760 ((x5 * 10) + x6) (kg S.1 21 5760 ((x4 * 10) + x6))) fun S5 => g56_67 F k18 n x1 x2 x3 x4 x5 (x6 + 1) S5)
def g56_18 (F : Nat) : Nat → Int32 → Int32 → Int32 → AmT → Option AmT
  | 0, _, _, _, _ => none
  | n + 1, x1, x2, x3, S => if (kg S.1 17 72 x1) ≤ x3 then (some S) else (am_lt (ku S 19 576 ((x2 * 8) + x3) (kg S.1 19 576 ((x1 * 8) + x3))) fun S3 => g56_67 F (fun x1 x2 x3 S => g56_18 F n x1 x2 x3 S) F x1 x2 x3 ((x1 * 8) + x3) ((x2 * 8) + x3) 0 S3)
-- X2_copyPage
def f56 (F : Nat) (x1 : Int32) (x2 : Int32) (S : AmT) : Option AmT := am_lt (ku S 17 72 x2 (kg S.1 17 72 x1)) fun S1 => g56_18 F F x1 x2 0 S1
set_option maxHeartbeats 1000000 in
set_option maxRecDepth 20000 in
theorem e56_67 {Lg : Nat} {xs : Nat → Int32} {d F : Nat} {k18 : Int32 → Int32 → Int32 → AmT → Option AmT} (hd : 1 ≤ d) (hk18 : ∀ (x1 : Int32) (x2 : Int32) (x3 : Int32) (w4 : Value) (w5 : Value) (w6 : Value) (S : AmT) (q : AmT), k18 x1 x2 x3 S = some q → Ex (am_X Lg xs) d 56 am_c56_18 [.ref 7, .int x1, .int x2, .int x3, w4, w5, w6] [] (hS S) (none, hS q)) : ∀ (n : Nat) (x1 : Int32) (x2 : Int32) (x3 : Int32) (x4 : Int32) (x5 : Int32) (x6 : Int32) (S : AmT) (q : AmT), g56_67 F k18 n x1 x2 x3 x4 x5 x6 S = some q → Ex (am_X Lg xs) d 56 am_c56_67 [.ref 7, .int x1, .int x2, .int x3, .int x4, .int x5, .int x6] [] (hS S) (none, hS q) := by
  obtain ⟨d, rfl⟩ : ∃ d2, d = d2 + 1 := ⟨d - 1, by omega⟩
  intro n
  induction n with
  | zero =>
    intro x1 x2 x3 x4 x5 x6 S q H
    cases H
  | succ n ih =>
    intro x1 x2 x3 x4 x5 x6 S q H
    have H : (if (kg S.1 19 576 x4) ≤ x6 then (k18 x1 x2 (x3 + 1) S) else (am_lt (ku S 21 5760 ((x5 * 10) + x6) (kg S.1 21 5760 ((x4 * 10) + x6))) fun S5 => g56_67 F k18 n x1 x2 x3 x4 x5 (x6 + 1) S5)) = some q := H
    refine ex_iload rfl ?_
    refine ex_aload_n rfl ?_
    refine ex_getR (w := 18) rfl rfl rfl ?_
    refine ex_iload rfl ?_
    refine ex_kget (c := 18) (ar := 19) (n := 576) rfl (Nat.le_of_ble_eq_true rfl) ?_
    by_cases h4 : (kg S.1 19 576 x4) ≤ x6
    · rw [if_pos h4] at H
      refine ex_icmp_ge_j (ct := am_c56_117) h4 rfl ?_
      refine ex_iinc (L2 := [.ref 7, .int x1, .int x2, .int (x3 + 1), .int x4, .int x5, .int x6]) (v := (x3 + 1)) rfl (Nat.le_of_ble_eq_true rfl) (congrArg (fun z => x3 + z) (by decide)) rfl ?_
      refine ex_goto (ct := am_c56_18) rfl ?_
      exact hk18 _ _ _ _ _ _ _ _ H
    · rw [if_neg h4] at H
      refine ex_icmp_ge_f h4 ?_
      refine ex_aload_n rfl ?_
      refine ex_getR (w := 20) rfl rfl rfl ?_
      refine ex_iload rfl ?_
      refine ex_bipush (v := 10) (by decide) ?_
      refine ex_imul ?_
      refine ex_iload rfl ?_
      refine ex_iadd ?_
      refine ex_aload_n rfl ?_
      refine ex_getR (w := 20) rfl rfl rfl ?_
      refine ex_iload rfl ?_
      refine ex_bipush (v := 10) (by decide) ?_
      refine ex_imul ?_
      refine ex_iload rfl ?_
      refine ex_iadd ?_
      refine ex_kget (c := 20) (ar := 21) (n := 5760) rfl (Nat.le_of_ble_eq_true rfl) ?_
      refine ex_kun (c := 20) (ar := 21) (n := 5760) rfl (Nat.le_of_ble_eq_true rfl) ?_
      generalize (ku S 21 5760 ((x5 * 10) + x6) (kg S.1 21 5760 ((x4 * 10) + x6))) = S5 at H ⊢
      have H := am_lt_el H
      refine ex_iinc (L2 := [.ref 7, .int x1, .int x2, .int x3, .int x4, .int x5, .int (x6 + 1)]) (v := (x6 + 1)) rfl (Nat.le_of_ble_eq_true rfl) (congrArg (fun z => x6 + z) (by decide)) rfl ?_
      refine ex_goto (ct := am_c56_67) rfl ?_
      exact ih _ _ _ _ _ _ _ _ H
set_option maxHeartbeats 1000000 in
set_option maxRecDepth 20000 in
theorem e56_18 {Lg : Nat} {xs : Nat → Int32} {d F : Nat} (hd : 1 ≤ d) : ∀ (n : Nat) (x1 : Int32) (x2 : Int32) (x3 : Int32) (w4 : Value) (w5 : Value) (w6 : Value) (S : AmT) (q : AmT), g56_18 F n x1 x2 x3 S = some q → Ex (am_X Lg xs) d 56 am_c56_18 [.ref 7, .int x1, .int x2, .int x3, w4, w5, w6] [] (hS S) (none, hS q) := by
  obtain ⟨d, rfl⟩ : ∃ d2, d = d2 + 1 := ⟨d - 1, by omega⟩
  intro n
  induction n with
  | zero =>
    intro x1 x2 x3 w4 w5 w6 S q H
    cases H
  | succ n ih =>
    intro x1 x2 x3 w4 w5 w6 S q H
    have H : (if (kg S.1 17 72 x1) ≤ x3 then (some S) else (am_lt (ku S 19 576 ((x2 * 8) + x3) (kg S.1 19 576 ((x1 * 8) + x3))) fun S3 => g56_67 F (fun x1 x2 x3 S => g56_18 F n x1 x2 x3 S) F x1 x2 x3 ((x1 * 8) + x3) ((x2 * 8) + x3) 0 S3)) = some q := H
    refine ex_iload_n rfl ?_
    refine ex_aload_n rfl ?_
    refine ex_getR (w := 16) rfl rfl rfl ?_
    refine ex_iload_n rfl ?_
    refine ex_kget (c := 16) (ar := 17) (n := 72) rfl (Nat.le_of_ble_eq_true rfl) ?_
    by_cases h2 : (kg S.1 17 72 x1) ≤ x3
    · rw [if_pos h2] at H
      refine ex_icmp_ge_j (ct := am_c56_123) h2 rfl ?_
      have H := Option.some.inj H
      subst H
      exact ex_vret (M := 56) rfl
    · rw [if_neg h2] at H
      refine ex_icmp_ge_f h2 ?_
      refine ex_iload_n rfl ?_
      refine ex_bipush (v := 8) (by decide) ?_
      refine ex_imul ?_
      refine ex_iload_n rfl ?_
      refine ex_iadd ?_
      refine ex_istore (L2 := [.ref 7, .int x1, .int x2, .int x3, .int ((x1 * 8) + x3), w5, w6]) (Nat.le_of_ble_eq_true rfl) rfl ?_
      refine ex_iload_n rfl ?_
      refine ex_bipush (v := 8) (by decide) ?_
      refine ex_imul ?_
      refine ex_iload_n rfl ?_
      refine ex_iadd ?_
      refine ex_istore (L2 := [.ref 7, .int x1, .int x2, .int x3, .int ((x1 * 8) + x3), .int ((x2 * 8) + x3), w6]) (Nat.le_of_ble_eq_true rfl) rfl ?_
      refine ex_aload_n rfl ?_
      refine ex_getR (w := 18) rfl rfl rfl ?_
      refine ex_iload rfl ?_
      refine ex_aload_n rfl ?_
      refine ex_getR (w := 18) rfl rfl rfl ?_
      refine ex_iload rfl ?_
      refine ex_kget (c := 18) (ar := 19) (n := 576) rfl (Nat.le_of_ble_eq_true rfl) ?_
      refine ex_kun (c := 18) (ar := 19) (n := 576) rfl (Nat.le_of_ble_eq_true rfl) ?_
      generalize (ku S 19 576 ((x2 * 8) + x3) (kg S.1 19 576 ((x1 * 8) + x3))) = S3 at H ⊢
      have H := am_lt_el H
      refine ex_iconst (v := 0) (by decide) ?_
      refine ex_istore (L2 := [.ref 7, .int x1, .int x2, .int x3, .int ((x1 * 8) + x3), .int ((x2 * 8) + x3), .int 0]) (Nat.le_of_ble_eq_true rfl) rfl ?_
      exact e56_67 hd (fun x1 x2 x3 w4 w5 w6 S q H => ih x1 x2 x3 w4 w5 w6 S q H) _ _ _ _ _ _ _ _ _ H
set_option maxHeartbeats 1000000 in
set_option maxRecDepth 20000 in
theorem r56 {Lg : Nat} {xs : Nat → Int32} {d F : Nat} {x1 : Int32} {x2 : Int32} {S : AmT} {q : AmT} (hd : 1 ≤ d) (H : f56 F x1 x2 S = some q) : Ex (am_X Lg xs) d 56 (am_P 56) (am_ini (am_Mi 56).1 [.ref 7, .int x1, .int x2]) [] (hS S) (none, hS q) := by
  obtain ⟨d, rfl⟩ : ∃ d2, d = d2 + 1 := ⟨d - 1, by omega⟩
  unfold f56 at H
  show Ex (am_X Lg xs) _ 56 am_c56_0 [.ref 7, .int x1, .int x2, .long 0, .long 0, .long 0, .long 0] [] (hS S) (none, hS q)
  refine ex_aload_n rfl ?_
  refine ex_getR (w := 16) rfl rfl rfl ?_
  refine ex_iload_n rfl ?_
  refine ex_aload_n rfl ?_
  refine ex_getR (w := 16) rfl rfl rfl ?_
  refine ex_iload_n rfl ?_
  refine ex_kget (c := 16) (ar := 17) (n := 72) rfl (Nat.le_of_ble_eq_true rfl) ?_
  refine ex_kun (c := 16) (ar := 17) (n := 72) rfl (Nat.le_of_ble_eq_true rfl) ?_
  generalize (ku S 17 72 x2 (kg S.1 17 72 x1)) = S1 at H ⊢
  have H := am_lt_el H
  refine ex_iconst (v := 0) (by decide) ?_
  refine ex_istore_n (L2 := [.ref 7, .int x1, .int x2, .int 0, .long 0, .long 0, .long 0]) (Nat.le_of_ble_eq_true rfl) rfl ?_
  exact e56_18 hd _ _ _ _ _ _ _ _ _ H
def g77_179 (F : Nat) (k43 : Int32 → Int32 → Int32 → Int32 → Int32 → Int32 → AmT → Option AmT) (x2 : Int32) (x3 : Int32) (x4 : Int32) (x5 : Int32) (x6 : Int32) (x7 : Int32) (x8 : Int32) (S : AmT) : Option AmT := am_ck x8 64 (am_lt ((am_upI S.1 27 x8.toNatClampNeg (-1), S.2) : AmT) fun S12 => k43 x2 x3 x4 x5 x6 (x7 + 1) S12)
def g77_110 (F : Nat) (k43 : Int32 → Int32 → Int32 → Int32 → Int32 → Int32 → AmT → Option AmT) : Nat → Int32 → Int32 → Int32 → Int32 → Int32 → Int32 → Int32 → Int32 → Int32 → Int32 → AmT → Option AmT
  | 0, _, _, _, _, _, _, _, _, _, _, _ => none
  | n + 1, x2, x3, x4, x5, x6, x7, x8, x9, x10, x11, S => if 64 ≤ x11 then (g77_179 F k43 x2 x3 x4 x5 x6 x7 x8 S) else (am_b2 (f298 F x10 S) fun v13 S14 => if v13 = 0 then (g77_179 F k43 x2 x3 x4 x5 x6 x7 x8 S14) else (am_ck x10 64 (am_ck x9 64 (am_ck x10 64 (am_lt ((am_upI S14.1 28 x10.toNatClampNeg (S14.1 27 x9.toNatClampNeg), S14.2) : AmT) fun S16 => am_ck x9 64 (am_lt ((am_upI S16.1 27 x9.toNatClampNeg x10, S16.2) : AmT) fun S17 => am_ck x10 64 (am_ck x10 64 (am_lt ((am_upI S17.1 29 x10.toNatClampNeg ((S17.1 29 x10.toNatClampNeg) ^^^ x6), S17.2) : AmT) fun S18 => g77_110 F k43 n x2 x3 x4 x5 x6 x7 x8 x9 (S14.1 28 x10.toNatClampNeg) (x11 + 1) S18))))))))
def g77_96 (F : Nat) (k43 : Int32 → Int32 → Int32 → Int32 → Int32 → Int32 → AmT → Option AmT) (x2 : Int32) (x3 : Int32) (x4 : Int32) (x5 : Int32) (x6 : Int32) (x7 : Int32) (x8 : Int32) (s0 : Int32) (S : AmT) : Option AmT := am_ck x8 64 (g77_110 F k43 F x2 x3 x4 x5 x6 x7 x8 s0 (S.1 27 x8.toNatClampNeg) 0 S)
def g77_72 (F : Nat) (k43 : Int32 → Int32 → Int32 → Int32 → Int32 → Int32 → AmT → Option AmT) (x2 : Int32) (x3 : Int32) (x4 : Int32) (x5 : Int32) (x6 : Int32) (x7 : Int32) (s0 : Int32) (S : AmT) : Option AmT := if x4 = 0 then (am_b2 (f78 F x7 x3 S) fun v9 S10 => g77_96 F k43 x2 x3 x4 x5 x6 x7 s0 v9 S10) else (am_b2 (f78 F x3 x7 S) fun v19 S20 => g77_96 F k43 x2 x3 x4 x5 x6 x7 s0 v19 S20)
def g77_43 (F : Nat) : Nat → Int32 → Int32 → Int32 → Int32 → Int32 → Int32 → AmT → Option AmT
  | 0, _, _, _, _, _, _, _ => none
  | n + 1, x2, x3, x4, x5, x6, x7, S => if x5 ≤ x7 then (some S) else (if x4 = 0 then (am_b2 (f78 F x7 x2 S) fun v6 S7 => g77_72 F (fun x2 x3 x4 x5 x6 x7 S => g77_43 F n x2 x3 x4 x5 x6 x7 S) x2 x3 x4 x5 x6 x7 v6 S7) else (am_b2 (f78 F x2 x7 S) fun v21 S22 => g77_72 F (fun x2 x3 x4 x5 x6 x7 S => g77_43 F n x2 x3 x4 x5 x6 x7 S) x2 x3 x4 x5 x6 x7 v21 S22))
def g77_38 (F : Nat) (x2 : Int32) (x3 : Int32) (x4 : Int32) (x5 : Int32) (s0 : Int32) (S : AmT) : Option AmT := g77_43 F F x2 x3 x4 x5 s0 0 S
def g77_25 (F : Nat) (x2 : Int32) (x3 : Int32) (x4 : Int32) (s1 : Int32) (S : AmT) : Option AmT := am_ck s1 2 (if x4 = 0 then (g77_38 F x2 x3 x4 (S.1 26 s1.toNatClampNeg) 2 S) else (g77_38 F x2 x3 x4 (S.1 26 s1.toNatClampNeg) 3 S))
def g77_9 (F : Nat) (x2 : Int32) (x3 : Int32) (s0 : Int32) (S : AmT) : Option AmT := if s0 = 0 then (g77_25 F x2 x3 s0 0 S) else (g77_25 F x2 x3 s0 1 S)
-- X5_turnOver
def f77 (F : Nat) (x1 : Int32) (x2 : Int32) (x3 : Int32) (S : AmT) : Option AmT := if x1 = 0 then (g77_9 F x2 x3 1 S) else (g77_9 F x2 x3 0 S)
set_option maxHeartbeats 1000000 in
set_option maxRecDepth 20000 in
theorem e77_179 {Lg : Nat} {xs : Nat → Int32} {d F : Nat} {k43 : Int32 → Int32 → Int32 → Int32 → Int32 → Int32 → AmT → Option AmT} {x2 : Int32} {x3 : Int32} {x4 : Int32} {x5 : Int32} {x6 : Int32} {x7 : Int32} {x8 : Int32} {w1 : Value} {w9 : Value} {w10 : Value} {w11 : Value} {w12 : Value} {S : AmT} {q : AmT} (hd : 1 ≤ d) (hk43 : ∀ (x2 : Int32) (x3 : Int32) (x4 : Int32) (x5 : Int32) (x6 : Int32) (x7 : Int32) (w1 : Value) (w8 : Value) (w9 : Value) (w10 : Value) (w11 : Value) (w12 : Value) (S : AmT) (q : AmT), k43 x2 x3 x4 x5 x6 x7 S = some q → Ex (am_X Lg xs) d 77 am_c77_43 [.ref 24, w1, .int x2, .int x3, .int x4, .int x5, .int x6, .int x7, w8, w9, w10, w11, w12] [] (hS S) (none, hS q)) (H : g77_179 F k43 x2 x3 x4 x5 x6 x7 x8 S = some q) : Ex (am_X Lg xs) d 77 am_c77_179 [.ref 24, w1, .int x2, .int x3, .int x4, .int x5, .int x6, .int x7, .int x8, w9, w10, w11, w12] [] (hS S) (none, hS q) := by
  obtain ⟨d, rfl⟩ : ∃ d2, d = d2 + 1 := ⟨d - 1, by omega⟩
  unfold g77_179 at H
  refine ex_aload_n rfl ?_
  refine ex_getR (w := 27) rfl rfl rfl ?_
  refine ex_iload rfl ?_
  refine ex_iconst (v := (-1)) (by decide) ?_
  obtain ⟨hj, H⟩ := am_ck_el H
  refine ex_iast (k := 64) rfl rfl hj ?_
  generalize ((am_upI S.1 27 x8.toNatClampNeg (-1), S.2) : AmT) = S12 at H ⊢
  have H := am_lt_el H
  refine ex_iinc (L2 := [.ref 24, w1, .int x2, .int x3, .int x4, .int x5, .int x6, .int (x7 + 1), .int x8, w9, w10, w11, w12]) (v := (x7 + 1)) rfl (Nat.le_of_ble_eq_true rfl) (congrArg (fun z => x7 + z) (by decide)) rfl ?_
  refine ex_goto (ct := am_c77_43) rfl ?_
  exact hk43 _ _ _ _ _ _ _ _ _ _ _ _ _ _ H
set_option maxHeartbeats 1000000 in
set_option maxRecDepth 20000 in
theorem e77_110 {Lg : Nat} {xs : Nat → Int32} {d F : Nat} {k43 : Int32 → Int32 → Int32 → Int32 → Int32 → Int32 → AmT → Option AmT} (hd : 1 ≤ d) (hk43 : ∀ (x2 : Int32) (x3 : Int32) (x4 : Int32) (x5 : Int32) (x6 : Int32) (x7 : Int32) (w1 : Value) (w8 : Value) (w9 : Value) (w10 : Value) (w11 : Value) (w12 : Value) (S : AmT) (q : AmT), k43 x2 x3 x4 x5 x6 x7 S = some q → Ex (am_X Lg xs) d 77 am_c77_43 [.ref 24, w1, .int x2, .int x3, .int x4, .int x5, .int x6, .int x7, w8, w9, w10, w11, w12] [] (hS S) (none, hS q)) : ∀ (n : Nat) (x2 : Int32) (x3 : Int32) (x4 : Int32) (x5 : Int32) (x6 : Int32) (x7 : Int32) (x8 : Int32) (x9 : Int32) (x10 : Int32) (x11 : Int32) (w1 : Value) (w12 : Value) (S : AmT) (q : AmT), g77_110 F k43 n x2 x3 x4 x5 x6 x7 x8 x9 x10 x11 S = some q → Ex (am_X Lg xs) d 77 am_c77_110 [.ref 24, w1, .int x2, .int x3, .int x4, .int x5, .int x6, .int x7, .int x8, .int x9, .int x10, .int x11, w12] [] (hS S) (none, hS q) := by
  obtain ⟨d, rfl⟩ : ∃ d2, d = d2 + 1 := ⟨d - 1, by omega⟩
  intro n
  induction n with
  | zero =>
    intro x2 x3 x4 x5 x6 x7 x8 x9 x10 x11 w1 w12 S q H
    cases H
  | succ n ih =>
    intro x2 x3 x4 x5 x6 x7 x8 x9 x10 x11 w1 w12 S q H
    have H : (if 64 ≤ x11 then (g77_179 F k43 x2 x3 x4 x5 x6 x7 x8 S) else (am_b2 (f298 F x10 S) fun v13 S14 => if v13 = 0 then (g77_179 F k43 x2 x3 x4 x5 x6 x7 x8 S14) else (am_ck x10 64 (am_ck x9 64 (am_ck x10 64 (am_lt ((am_upI S14.1 28 x10.toNatClampNeg (S14.1 27 x9.toNatClampNeg), S14.2) : AmT) fun S16 => am_ck x9 64 (am_lt ((am_upI S16.1 27 x9.toNatClampNeg x10, S16.2) : AmT) fun S17 => am_ck x10 64 (am_ck x10 64 (am_lt ((am_upI S17.1 29 x10.toNatClampNeg ((S17.1 29 x10.toNatClampNeg) ^^^ x6), S17.2) : AmT) fun S18 => g77_110 F k43 n x2 x3 x4 x5 x6 x7 x8 x9 (S14.1 28 x10.toNatClampNeg) (x11 + 1) S18))))))))) = some q := H
    refine ex_iload rfl ?_
    refine ex_bipush (v := 64) (by decide) ?_
    by_cases h11 : 64 ≤ x11
    · rw [if_pos h11] at H
      refine ex_icmp_ge_j (ct := am_c77_179) h11 rfl ?_
      exact e77_179 hd hk43 H
    · rw [if_neg h11] at H
      refine ex_icmp_ge_f h11 ?_
      refine ex_iload rfl ?_
      obtain ⟨v13, S14, hp, H⟩ := am_b2_el H
      refine ex_callS rfl rfl (Nat.le_of_ble_eq_true rfl) (Nat.le_of_ble_eq_true rfl) (r298 (by omega) hp) rfl ?_
      by_cases h15 : v13 = 0
      · rw [if_pos h15] at H
        refine ex_if_eq_j (ct := am_c77_179) h15 rfl ?_
        exact e77_179 hd hk43 H
      · rw [if_neg h15] at H
        refine ex_if_eq_f h15 ?_
        refine ex_aload_n rfl ?_
        refine ex_getR (w := 28) rfl rfl rfl ?_
        refine ex_iload rfl ?_
        obtain ⟨hj, H⟩ := am_ck_el H
        refine ex_iald (k := 64) (v := S14.1 28 x10.toNatClampNeg) rfl hj rfl ?_
        refine ex_istore (L2 := [.ref 24, w1, .int x2, .int x3, .int x4, .int x5, .int x6, .int x7, .int x8, .int x9, .int x10, .int x11, .int (S14.1 28 x10.toNatClampNeg)]) (Nat.le_of_ble_eq_true rfl) rfl ?_
        refine ex_aload_n rfl ?_
        refine ex_getR (w := 28) rfl rfl rfl ?_
        refine ex_iload rfl ?_
        refine ex_aload_n rfl ?_
        refine ex_getR (w := 27) rfl rfl rfl ?_
        refine ex_iload rfl ?_
        obtain ⟨hj, H⟩ := am_ck_el H
        refine ex_iald (k := 64) (v := S14.1 27 x9.toNatClampNeg) rfl hj rfl ?_
        obtain ⟨hj, H⟩ := am_ck_el H
        refine ex_iast (k := 64) rfl rfl hj ?_
        generalize ((am_upI S14.1 28 x10.toNatClampNeg (S14.1 27 x9.toNatClampNeg), S14.2) : AmT) = S16 at H ⊢
        have H := am_lt_el H
        refine ex_aload_n rfl ?_
        refine ex_getR (w := 27) rfl rfl rfl ?_
        refine ex_iload rfl ?_
        refine ex_iload rfl ?_
        obtain ⟨hj, H⟩ := am_ck_el H
        refine ex_iast (k := 64) rfl rfl hj ?_
        generalize ((am_upI S16.1 27 x9.toNatClampNeg x10, S16.2) : AmT) = S17 at H ⊢
        have H := am_lt_el H
        refine ex_aload_n rfl ?_
        refine ex_getR (w := 29) rfl rfl rfl ?_
        refine ex_iload rfl ?_
        refine ex_dup2 ?_
        obtain ⟨hj, H⟩ := am_ck_el H
        refine ex_iald (k := 64) (v := S17.1 29 x10.toNatClampNeg) rfl hj rfl ?_
        refine ex_iload rfl ?_
        refine ex_ixor ?_
        obtain ⟨hj, H⟩ := am_ck_el H
        refine ex_iast (k := 64) rfl rfl hj ?_
        generalize ((am_upI S17.1 29 x10.toNatClampNeg ((S17.1 29 x10.toNatClampNeg) ^^^ x6), S17.2) : AmT) = S18 at H ⊢
        have H := am_lt_el H
        refine ex_iload rfl ?_
        refine ex_istore (L2 := [.ref 24, w1, .int x2, .int x3, .int x4, .int x5, .int x6, .int x7, .int x8, .int x9, .int (S14.1 28 x10.toNatClampNeg), .int x11, .int (S14.1 28 x10.toNatClampNeg)]) (Nat.le_of_ble_eq_true rfl) rfl ?_
        refine ex_iinc (L2 := [.ref 24, w1, .int x2, .int x3, .int x4, .int x5, .int x6, .int x7, .int x8, .int x9, .int (S14.1 28 x10.toNatClampNeg), .int (x11 + 1), .int (S14.1 28 x10.toNatClampNeg)]) (v := (x11 + 1)) rfl (Nat.le_of_ble_eq_true rfl) (congrArg (fun z => x11 + z) (by decide)) rfl ?_
        refine ex_goto (ct := am_c77_110) rfl ?_
        exact ih _ _ _ _ _ _ _ _ _ _ _ _ _ _ H
set_option maxHeartbeats 1000000 in
set_option maxRecDepth 20000 in
theorem e77_96 {Lg : Nat} {xs : Nat → Int32} {d F : Nat} {k43 : Int32 → Int32 → Int32 → Int32 → Int32 → Int32 → AmT → Option AmT} {x2 : Int32} {x3 : Int32} {x4 : Int32} {x5 : Int32} {x6 : Int32} {x7 : Int32} {x8 : Int32} {s0 : Int32} {w1 : Value} {w9 : Value} {w10 : Value} {w11 : Value} {w12 : Value} {S : AmT} {q : AmT} (hd : 1 ≤ d) (hk43 : ∀ (x2 : Int32) (x3 : Int32) (x4 : Int32) (x5 : Int32) (x6 : Int32) (x7 : Int32) (w1 : Value) (w8 : Value) (w9 : Value) (w10 : Value) (w11 : Value) (w12 : Value) (S : AmT) (q : AmT), k43 x2 x3 x4 x5 x6 x7 S = some q → Ex (am_X Lg xs) d 77 am_c77_43 [.ref 24, w1, .int x2, .int x3, .int x4, .int x5, .int x6, .int x7, w8, w9, w10, w11, w12] [] (hS S) (none, hS q)) (H : g77_96 F k43 x2 x3 x4 x5 x6 x7 x8 s0 S = some q) : Ex (am_X Lg xs) d 77 am_c77_96 [.ref 24, w1, .int x2, .int x3, .int x4, .int x5, .int x6, .int x7, .int x8, w9, w10, w11, w12] [.int s0] (hS S) (none, hS q) := by
  obtain ⟨d, rfl⟩ : ∃ d2, d = d2 + 1 := ⟨d - 1, by omega⟩
  unfold g77_96 at H
  refine ex_istore (L2 := [.ref 24, w1, .int x2, .int x3, .int x4, .int x5, .int x6, .int x7, .int x8, .int s0, w10, w11, w12]) (Nat.le_of_ble_eq_true rfl) rfl ?_
  refine ex_aload_n rfl ?_
  refine ex_getR (w := 27) rfl rfl rfl ?_
  refine ex_iload rfl ?_
  obtain ⟨hj, H⟩ := am_ck_el H
  refine ex_iald (k := 64) (v := S.1 27 x8.toNatClampNeg) rfl hj rfl ?_
  refine ex_istore (L2 := [.ref 24, w1, .int x2, .int x3, .int x4, .int x5, .int x6, .int x7, .int x8, .int s0, .int (S.1 27 x8.toNatClampNeg), w11, w12]) (Nat.le_of_ble_eq_true rfl) rfl ?_
  refine ex_iconst (v := 0) (by decide) ?_
  refine ex_istore (L2 := [.ref 24, w1, .int x2, .int x3, .int x4, .int x5, .int x6, .int x7, .int x8, .int s0, .int (S.1 27 x8.toNatClampNeg), .int 0, w12]) (Nat.le_of_ble_eq_true rfl) rfl ?_
  exact e77_110 hd hk43 _ _ _ _ _ _ _ _ _ _ _ _ _ _ _ H
set_option maxHeartbeats 1000000 in
set_option maxRecDepth 20000 in
theorem e77_72 {Lg : Nat} {xs : Nat → Int32} {d F : Nat} {k43 : Int32 → Int32 → Int32 → Int32 → Int32 → Int32 → AmT → Option AmT} {x2 : Int32} {x3 : Int32} {x4 : Int32} {x5 : Int32} {x6 : Int32} {x7 : Int32} {s0 : Int32} {w1 : Value} {w8 : Value} {w9 : Value} {w10 : Value} {w11 : Value} {w12 : Value} {S : AmT} {q : AmT} (hd : 1 ≤ d) (hk43 : ∀ (x2 : Int32) (x3 : Int32) (x4 : Int32) (x5 : Int32) (x6 : Int32) (x7 : Int32) (w1 : Value) (w8 : Value) (w9 : Value) (w10 : Value) (w11 : Value) (w12 : Value) (S : AmT) (q : AmT), k43 x2 x3 x4 x5 x6 x7 S = some q → Ex (am_X Lg xs) d 77 am_c77_43 [.ref 24, w1, .int x2, .int x3, .int x4, .int x5, .int x6, .int x7, w8, w9, w10, w11, w12] [] (hS S) (none, hS q)) (H : g77_72 F k43 x2 x3 x4 x5 x6 x7 s0 S = some q) : Ex (am_X Lg xs) d 77 am_c77_72 [.ref 24, w1, .int x2, .int x3, .int x4, .int x5, .int x6, .int x7, w8, w9, w10, w11, w12] [.int s0] (hS S) (none, hS q) := by
  obtain ⟨d, rfl⟩ : ∃ d2, d = d2 + 1 := ⟨d - 1, by omega⟩
  unfold g77_72 at H
  refine ex_istore (L2 := [.ref 24, w1, .int x2, .int x3, .int x4, .int x5, .int x6, .int x7, .int s0, w9, w10, w11, w12]) (Nat.le_of_ble_eq_true rfl) rfl ?_
  refine ex_iload rfl ?_
  by_cases h8 : x4 = 0
  · rw [if_pos h8] at H
    refine ex_if_eq_j (ct := am_c77_89) h8 rfl ?_
    refine ex_aload_n rfl ?_
    refine ex_iload rfl ?_
    refine ex_iload_n rfl ?_
    obtain ⟨v9, S10, hp, H⟩ := am_b2_el H
    refine ex_callV rfl rfl (Nat.le_of_ble_eq_true rfl) (Nat.le_of_ble_eq_true rfl) rfl (r78 (by omega) hp) rfl ?_
    exact e77_96 hd hk43 H
  · rw [if_neg h8] at H
    refine ex_if_eq_f h8 ?_
    refine ex_aload_n rfl ?_
    refine ex_iload_n rfl ?_
    refine ex_iload rfl ?_
    obtain ⟨v19, S20, hp, H⟩ := am_b2_el H
    refine ex_callV rfl rfl (Nat.le_of_ble_eq_true rfl) (Nat.le_of_ble_eq_true rfl) rfl (r78 (by omega) hp) rfl ?_
    refine ex_goto (ct := am_c77_96) rfl ?_
    exact e77_96 hd hk43 H
set_option maxHeartbeats 1000000 in
set_option maxRecDepth 20000 in
theorem e77_43 {Lg : Nat} {xs : Nat → Int32} {d F : Nat} (hd : 1 ≤ d) : ∀ (n : Nat) (x2 : Int32) (x3 : Int32) (x4 : Int32) (x5 : Int32) (x6 : Int32) (x7 : Int32) (w1 : Value) (w8 : Value) (w9 : Value) (w10 : Value) (w11 : Value) (w12 : Value) (S : AmT) (q : AmT), g77_43 F n x2 x3 x4 x5 x6 x7 S = some q → Ex (am_X Lg xs) d 77 am_c77_43 [.ref 24, w1, .int x2, .int x3, .int x4, .int x5, .int x6, .int x7, w8, w9, w10, w11, w12] [] (hS S) (none, hS q) := by
  obtain ⟨d, rfl⟩ : ∃ d2, d = d2 + 1 := ⟨d - 1, by omega⟩
  intro n
  induction n with
  | zero =>
    intro x2 x3 x4 x5 x6 x7 w1 w8 w9 w10 w11 w12 S q H
    cases H
  | succ n ih =>
    intro x2 x3 x4 x5 x6 x7 w1 w8 w9 w10 w11 w12 S q H
    have H : (if x5 ≤ x7 then (some S) else (if x4 = 0 then (am_b2 (f78 F x7 x2 S) fun v6 S7 => g77_72 F (fun x2 x3 x4 x5 x6 x7 S => g77_43 F n x2 x3 x4 x5 x6 x7 S) x2 x3 x4 x5 x6 x7 v6 S7) else (am_b2 (f78 F x2 x7 S) fun v21 S22 => g77_72 F (fun x2 x3 x4 x5 x6 x7 S => g77_43 F n x2 x3 x4 x5 x6 x7 S) x2 x3 x4 x5 x6 x7 v21 S22))) = some q := H
    refine ex_iload rfl ?_
    refine ex_iload rfl ?_
    by_cases h4 : x5 ≤ x7
    · rw [if_pos h4] at H
      refine ex_icmp_ge_j (ct := am_c77_193) h4 rfl ?_
      have H := Option.some.inj H
      subst H
      exact ex_vret (M := 77) rfl
    · rw [if_neg h4] at H
      refine ex_icmp_ge_f h4 ?_
      refine ex_iload rfl ?_
      by_cases h5 : x4 = 0
      · rw [if_pos h5] at H
        refine ex_if_eq_j (ct := am_c77_65) h5 rfl ?_
        refine ex_aload_n rfl ?_
        refine ex_iload rfl ?_
        refine ex_iload_n rfl ?_
        obtain ⟨v6, S7, hp, H⟩ := am_b2_el H
        refine ex_callV rfl rfl (Nat.le_of_ble_eq_true rfl) (Nat.le_of_ble_eq_true rfl) rfl (r78 (by omega) hp) rfl ?_
        exact e77_72 hd (fun x2 x3 x4 x5 x6 x7 w1 w8 w9 w10 w11 w12 S q H => ih x2 x3 x4 x5 x6 x7 w1 w8 w9 w10 w11 w12 S q H) H
      · rw [if_neg h5] at H
        refine ex_if_eq_f h5 ?_
        refine ex_aload_n rfl ?_
        refine ex_iload_n rfl ?_
        refine ex_iload rfl ?_
        obtain ⟨v21, S22, hp, H⟩ := am_b2_el H
        refine ex_callV rfl rfl (Nat.le_of_ble_eq_true rfl) (Nat.le_of_ble_eq_true rfl) rfl (r78 (by omega) hp) rfl ?_
        refine ex_goto (ct := am_c77_72) rfl ?_
        exact e77_72 hd (fun x2 x3 x4 x5 x6 x7 w1 w8 w9 w10 w11 w12 S q H => ih x2 x3 x4 x5 x6 x7 w1 w8 w9 w10 w11 w12 S q H) H
set_option maxHeartbeats 1000000 in
set_option maxRecDepth 20000 in
theorem e77_38 {Lg : Nat} {xs : Nat → Int32} {d F : Nat} {x2 : Int32} {x3 : Int32} {x4 : Int32} {x5 : Int32} {s0 : Int32} {w1 : Value} {w6 : Value} {w7 : Value} {w8 : Value} {w9 : Value} {w10 : Value} {w11 : Value} {w12 : Value} {S : AmT} {q : AmT} (hd : 1 ≤ d) (H : g77_38 F x2 x3 x4 x5 s0 S = some q) : Ex (am_X Lg xs) d 77 am_c77_38 [.ref 24, w1, .int x2, .int x3, .int x4, .int x5, w6, w7, w8, w9, w10, w11, w12] [.int s0] (hS S) (none, hS q) := by
  obtain ⟨d, rfl⟩ : ∃ d2, d = d2 + 1 := ⟨d - 1, by omega⟩
  unfold g77_38 at H
  refine ex_istore (L2 := [.ref 24, w1, .int x2, .int x3, .int x4, .int x5, .int s0, w7, w8, w9, w10, w11, w12]) (Nat.le_of_ble_eq_true rfl) rfl ?_
  refine ex_iconst (v := 0) (by decide) ?_
  refine ex_istore (L2 := [.ref 24, w1, .int x2, .int x3, .int x4, .int x5, .int s0, .int 0, w8, w9, w10, w11, w12]) (Nat.le_of_ble_eq_true rfl) rfl ?_
  exact e77_43 hd _ _ _ _ _ _ _ _ _ _ _ _ _ _ _ H
set_option maxHeartbeats 1000000 in
set_option maxRecDepth 20000 in
theorem e77_25 {Lg : Nat} {xs : Nat → Int32} {d F : Nat} {x2 : Int32} {x3 : Int32} {x4 : Int32} {s1 : Int32} {w1 : Value} {w5 : Value} {w6 : Value} {w7 : Value} {w8 : Value} {w9 : Value} {w10 : Value} {w11 : Value} {w12 : Value} {S : AmT} {q : AmT} (hd : 1 ≤ d) (H : g77_25 F x2 x3 x4 s1 S = some q) : Ex (am_X Lg xs) d 77 am_c77_25 [.ref 24, w1, .int x2, .int x3, .int x4, w5, w6, w7, w8, w9, w10, w11, w12] [.int s1, .ref 26] (hS S) (none, hS q) := by
  obtain ⟨d, rfl⟩ : ∃ d2, d = d2 + 1 := ⟨d - 1, by omega⟩
  unfold g77_25 at H
  obtain ⟨hj, H⟩ := am_ck_el H
  refine ex_iald (k := 2) (v := S.1 26 s1.toNatClampNeg) rfl hj rfl ?_
  refine ex_istore (L2 := [.ref 24, w1, .int x2, .int x3, .int x4, .int (S.1 26 s1.toNatClampNeg), w6, w7, w8, w9, w10, w11, w12]) (Nat.le_of_ble_eq_true rfl) rfl ?_
  refine ex_iload rfl ?_
  by_cases h3 : x4 = 0
  · rw [if_pos h3] at H
    refine ex_if_eq_j (ct := am_c77_37) h3 rfl ?_
    refine ex_iconst (v := 2) (by decide) ?_
    exact e77_38 hd H
  · rw [if_neg h3] at H
    refine ex_if_eq_f h3 ?_
    refine ex_iconst (v := 3) (by decide) ?_
    refine ex_goto (ct := am_c77_38) rfl ?_
    exact e77_38 hd H
set_option maxHeartbeats 1000000 in
set_option maxRecDepth 20000 in
theorem e77_9 {Lg : Nat} {xs : Nat → Int32} {d F : Nat} {x2 : Int32} {x3 : Int32} {s0 : Int32} {w1 : Value} {w4 : Value} {w5 : Value} {w6 : Value} {w7 : Value} {w8 : Value} {w9 : Value} {w10 : Value} {w11 : Value} {w12 : Value} {S : AmT} {q : AmT} (hd : 1 ≤ d) (H : g77_9 F x2 x3 s0 S = some q) : Ex (am_X Lg xs) d 77 am_c77_9 [.ref 24, w1, .int x2, .int x3, w4, w5, w6, w7, w8, w9, w10, w11, w12] [.int s0] (hS S) (none, hS q) := by
  obtain ⟨d, rfl⟩ : ∃ d2, d = d2 + 1 := ⟨d - 1, by omega⟩
  unfold g77_9 at H
  refine ex_istore (L2 := [.ref 24, w1, .int x2, .int x3, .int s0, w5, w6, w7, w8, w9, w10, w11, w12]) (Nat.le_of_ble_eq_true rfl) rfl ?_
  refine ex_aload_n rfl ?_
  refine ex_getR (w := 26) rfl rfl rfl ?_
  refine ex_iload rfl ?_
  by_cases h2 : s0 = 0
  · rw [if_pos h2] at H
    refine ex_if_eq_j (ct := am_c77_24) h2 rfl ?_
    refine ex_iconst (v := 0) (by decide) ?_
    exact e77_25 hd H
  · rw [if_neg h2] at H
    refine ex_if_eq_f h2 ?_
    refine ex_iconst (v := 1) (by decide) ?_
    refine ex_goto (ct := am_c77_25) rfl ?_
    exact e77_25 hd H
set_option maxHeartbeats 1000000 in
set_option maxRecDepth 20000 in
theorem r77 {Lg : Nat} {xs : Nat → Int32} {d F : Nat} {x1 : Int32} {x2 : Int32} {x3 : Int32} {S : AmT} {q : AmT} (hd : 1 ≤ d) (H : f77 F x1 x2 x3 S = some q) : Ex (am_X Lg xs) d 77 (am_P 77) (am_ini (am_Mi 77).1 [.ref 24, .int x1, .int x2, .int x3]) [] (hS S) (none, hS q) := by
  obtain ⟨d, rfl⟩ : ∃ d2, d = d2 + 1 := ⟨d - 1, by omega⟩
  unfold f77 at H
  show Ex (am_X Lg xs) _ 77 am_c77_0 [.ref 24, .int x1, .int x2, .int x3, .long 0, .long 0, .long 0, .long 0, .long 0, .long 0, .long 0, .long 0, .long 0] [] (hS S) (none, hS q)
  refine ex_iload_n rfl ?_
  by_cases h1 : x1 = 0
  · rw [if_pos h1] at H
    refine ex_if_ne_f h1 ?_
    refine ex_iconst (v := 1) (by decide) ?_
    refine ex_goto (ct := am_c77_9) rfl ?_
    exact e77_9 hd H
  · rw [if_neg h1] at H
    refine ex_if_ne_j (ct := am_c77_8) h1 rfl ?_
    refine ex_iconst (v := 0) (by decide) ?_
    exact e77_9 hd H
