/-! printed by wip/gen/gen20.py -/
-- X1_makeCross
def f28 (F : Nat) (x1 : Int32) (x2 : Int32) (S : AmT) : Option (Int32 × AmT) := am_nn S (am_lt (ks S 32 33 16 (kg S.1 31 1 0) 5) fun S1 => am_nn S1 (am_lt (ks S1 36 37 16 (kg S.1 31 1 0) x1) fun S2 => am_nn S2 (am_lt (ks S2 38 39 16 (kg S.1 31 1 0) x2) fun S3 => am_nn S3 (am_lt (ks S3 40 41 16 (kg S.1 31 1 0) ((kg S3.1 41 16 x1) + (kg S3.1 41 16 x2))) fun S4 => am_nn S4 (am_lt (ks S4 42 43 16 (kg S.1 31 1 0) ((kg S4.1 43 16 x1) * (kg S4.1 43 16 x2))) fun S5 => am_nn S5 (am_lt (ks S5 44 45 16 (kg S.1 31 1 0) ((kg S5.1 45 16 x1) + (kg S5.1 45 16 x2))) fun S6 => am_nn S6 (am_lt (ks S6 30 31 1 0 ((kg S.1 31 1 0) + 1)) fun S7 => some ((kg S.1 31 1 0), S7))))))))
set_option maxHeartbeats 1000000 in
set_option maxRecDepth 20000 in
theorem r28 {Lg : Nat} {xs : Nat → Int32} {d F : Nat} {x1 : Int32} {x2 : Int32} {S : AmT} {q : Int32 × AmT} (hd : 2 ≤ d) (H : f28 F x1 x2 S = some q) : Ex (am_X Lg xs) d 28 (am_P 28) (am_ini (am_Mi 28).1 [.ref 22, .int x1, .int x2]) [] (hS S) (some q.1, hS q.2) := by
  obtain ⟨d, rfl⟩ : ∃ d2, d = d2 + 1 := ⟨d - 1, by omega⟩
  unfold f28 at H
  show Ex (am_X Lg xs) _ 28 am_c28_0 [.ref 22, .int x1, .int x2, .long 0] [] (hS S) (some q.1, hS q.2)
  refine ex_aload_n rfl ?_
  refine ex_getR (w := 30) rfl rfl rfl ?_
  refine ex_iconst (v := 0) (by decide) ?_
  refine ex_kget (c := 30) (ar := 31) (n := 1) rfl (Nat.le_of_ble_eq_true rfl) ?_
  refine ex_istore_n (L2 := [.ref 22, .int x1, .int x2, .int (kg S.1 31 1 0)]) (Nat.le_of_ble_eq_true rfl) rfl ?_
  refine ex_aload_n rfl ?_
  refine ex_getR (w := 32) rfl rfl rfl ?_
  refine ex_iload_n rfl ?_
  refine ex_iconst (v := 5) (by decide) ?_
  obtain ⟨hnn, H⟩ := am_nn_el H
  refine ex_kset (c := 32) (ar := 33) (n := 16) rfl hnn (by omega) (Nat.le_of_ble_eq_true rfl) ?_
  generalize (ks S 32 33 16 (kg S.1 31 1 0) 5) = S1 at H ⊢
  have H := am_lt_el H
  refine ex_aload_n rfl ?_
  refine ex_getR (w := 36) rfl rfl rfl ?_
  refine ex_iload_n rfl ?_
  refine ex_iload_n rfl ?_
  obtain ⟨hnn, H⟩ := am_nn_el H
  refine ex_kset (c := 36) (ar := 37) (n := 16) rfl hnn (by omega) (Nat.le_of_ble_eq_true rfl) ?_
  generalize (ks S1 36 37 16 (kg S.1 31 1 0) x1) = S2 at H ⊢
  have H := am_lt_el H
  refine ex_aload_n rfl ?_
  refine ex_getR (w := 38) rfl rfl rfl ?_
  refine ex_iload_n rfl ?_
  refine ex_iload_n rfl ?_
  obtain ⟨hnn, H⟩ := am_nn_el H
  refine ex_kset (c := 38) (ar := 39) (n := 16) rfl hnn (by omega) (Nat.le_of_ble_eq_true rfl) ?_
  generalize (ks S2 38 39 16 (kg S.1 31 1 0) x2) = S3 at H ⊢
  have H := am_lt_el H
  refine ex_aload_n rfl ?_
  refine ex_getR (w := 40) rfl rfl rfl ?_
  refine ex_iload_n rfl ?_
  refine ex_aload_n rfl ?_
  refine ex_getR (w := 40) rfl rfl rfl ?_
  refine ex_iload_n rfl ?_
  refine ex_kget (c := 40) (ar := 41) (n := 16) rfl (Nat.le_of_ble_eq_true rfl) ?_
  refine ex_aload_n rfl ?_
  refine ex_getR (w := 40) rfl rfl rfl ?_
  refine ex_iload_n rfl ?_
  refine ex_kget (c := 40) (ar := 41) (n := 16) rfl (Nat.le_of_ble_eq_true rfl) ?_
  refine ex_iadd ?_
  obtain ⟨hnn, H⟩ := am_nn_el H
  refine ex_kset (c := 40) (ar := 41) (n := 16) rfl hnn (by omega) (Nat.le_of_ble_eq_true rfl) ?_
  generalize (ks S3 40 41 16 (kg S.1 31 1 0) ((kg S3.1 41 16 x1) + (kg S3.1 41 16 x2))) = S4 at H ⊢
  have H := am_lt_el H
  refine ex_aload_n rfl ?_
  refine ex_getR (w := 42) rfl rfl rfl ?_
  refine ex_iload_n rfl ?_
  refine ex_aload_n rfl ?_
  refine ex_getR (w := 42) rfl rfl rfl ?_
  refine ex_iload_n rfl ?_
  refine ex_kget (c := 42) (ar := 43) (n := 16) rfl (Nat.le_of_ble_eq_true rfl) ?_
  refine ex_aload_n rfl ?_
  refine ex_getR (w := 42) rfl rfl rfl ?_
  refine ex_iload_n rfl ?_
  refine ex_kget (c := 42) (ar := 43) (n := 16) rfl (Nat.le_of_ble_eq_true rfl) ?_
  refine ex_imul ?_
  obtain ⟨hnn, H⟩ := am_nn_el H
  refine ex_kset (c := 42) (ar := 43) (n := 16) rfl hnn (by omega) (Nat.le_of_ble_eq_true rfl) ?_
  generalize (ks S4 42 43 16 (kg S.1 31 1 0) ((kg S4.1 43 16 x1) * (kg S4.1 43 16 x2))) = S5 at H ⊢
  have H := am_lt_el H
  refine ex_aload_n rfl ?_
  refine ex_getR (w := 44) rfl rfl rfl ?_
  refine ex_iload_n rfl ?_
  refine ex_aload_n rfl ?_
  refine ex_getR (w := 44) rfl rfl rfl ?_
  refine ex_iload_n rfl ?_
  refine ex_kget (c := 44) (ar := 45) (n := 16) rfl (Nat.le_of_ble_eq_true rfl) ?_
  refine ex_aload_n rfl ?_
  refine ex_getR (w := 44) rfl rfl rfl ?_
  refine ex_iload_n rfl ?_
  refine ex_kget (c := 44) (ar := 45) (n := 16) rfl (Nat.le_of_ble_eq_true rfl) ?_
  refine ex_iadd ?_
  obtain ⟨hnn, H⟩ := am_nn_el H
  refine ex_kset (c := 44) (ar := 45) (n := 16) rfl hnn (by omega) (Nat.le_of_ble_eq_true rfl) ?_
  generalize (ks S5 44 45 16 (kg S.1 31 1 0) ((kg S5.1 45 16 x1) + (kg S5.1 45 16 x2))) = S6 at H ⊢
  have H := am_lt_el H
  refine ex_aload_n rfl ?_
  refine ex_getR (w := 30) rfl rfl rfl ?_
  refine ex_iconst (v := 0) (by decide) ?_
  refine ex_iload_n rfl ?_
  refine ex_iconst (v := 1) (by decide) ?_
  refine ex_iadd ?_
  obtain ⟨hnn, H⟩ := am_nn_el H
  refine ex_kset (c := 30) (ar := 31) (n := 1) rfl hnn (by omega) (Nat.le_of_ble_eq_true rfl) ?_
  generalize (ks S6 30 31 1 0 ((kg S.1 31 1 0) + 1)) = S7 at H ⊢
  have H := am_lt_el H
  refine ex_iload_n rfl ?_
  have H := Option.some.inj H
  subst H
  exact ex_iret (M := 28) (Or.inl rfl)
-- X2_hasPage
def f35 (F : Nat) (x1 : Int32) (x2 : Int32) (S : AmT) : Option (Int32 × AmT) := am_b2 (f34 F x1 S) fun v1 S2 => if v1 = 0 then (some (0, S2)) else (if x2 < 1 then (some (0, S2)) else (if (kg S2.1 15 3 x1) < x2 then (some (0, S2)) else (some (1, S2))))
set_option maxHeartbeats 1000000 in
set_option maxRecDepth 20000 in
theorem r35 {Lg : Nat} {xs : Nat → Int32} {d F : Nat} {x1 : Int32} {x2 : Int32} {S : AmT} {q : Int32 × AmT} (hd : 2 ≤ d) (H : f35 F x1 x2 S = some q) : Ex (am_X Lg xs) d 35 (am_P 35) (am_ini (am_Mi 35).1 [.ref 7, .int x1, .int x2]) [] (hS S) (some q.1, hS q.2) := by
  obtain ⟨d, rfl⟩ : ∃ d2, d = d2 + 1 := ⟨d - 1, by omega⟩
  unfold f35 at H
  show Ex (am_X Lg xs) _ 35 am_c35_0 [.ref 7, .int x1, .int x2] [] (hS S) (some q.1, hS q.2)
  refine ex_aload_n rfl ?_
  refine ex_iload_n rfl ?_
  obtain ⟨v1, S2, hp, H⟩ := am_b2_el H
  refine ex_callV rfl rfl (Nat.le_of_ble_eq_true rfl) (Nat.le_of_ble_eq_true rfl) rfl (r34 (by omega) hp) rfl ?_
  by_cases h3 : v1 = 0
  · rw [if_pos h3] at H
    refine ex_if_eq_j (ct := am_c35_29) h3 rfl ?_
    refine ex_iconst (v := 0) (by decide) ?_
    have H := Option.some.inj H
    subst H
    exact ex_iret (M := 35) (Or.inr ⟨rfl, by decide⟩)
  · rw [if_neg h3] at H
    refine ex_if_eq_f h3 ?_
    refine ex_iload_n rfl ?_
    refine ex_iconst (v := 1) (by decide) ?_
    by_cases h4 : x2 < 1
    · rw [if_pos h4] at H
      refine ex_icmp_lt_j (ct := am_c35_29) h4 rfl ?_
      refine ex_iconst (v := 0) (by decide) ?_
      have H := Option.some.inj H
      subst H
      exact ex_iret (M := 35) (Or.inr ⟨rfl, by decide⟩)
    · rw [if_neg h4] at H
      refine ex_icmp_lt_f h4 ?_
      refine ex_iload_n rfl ?_
      refine ex_aload_n rfl ?_
      refine ex_getR (w := 14) rfl rfl rfl ?_
      refine ex_iload_n rfl ?_
      refine ex_kget (c := 14) (ar := 15) (n := 3) rfl (Nat.le_of_ble_eq_true rfl) ?_
      by_cases h5 : (kg S2.1 15 3 x1) < x2
      · rw [if_pos h5] at H
        refine ex_icmp_gt_j (ct := am_c35_29) h5 rfl ?_
        refine ex_iconst (v := 0) (by decide) ?_
        have H := Option.some.inj H
        subst H
        exact ex_iret (M := 35) (Or.inr ⟨rfl, by decide⟩)
      · rw [if_neg h5] at H
        refine ex_icmp_gt_f h5 ?_
        refine ex_iconst (v := 1) (by decide) ?_
        refine ex_goto (ct := am_c35_30) rfl ?_
        have H := Option.some.inj H
        subst H
        exact ex_iret (M := 35) (Or.inr ⟨rfl, by decide⟩)
-- X2_make
def f40 (F : Nat) (x1 : Int32) (x2 : Int32) (S : AmT) : Option (Int32 × AmT) := am_nn S (am_lt (ks S 10 11 3 (kg S.1 9 1 0) x1) fun S1 => am_nn S1 (am_lt (ks S1 12 13 3 (kg S.1 9 1 0) x2) fun S2 => am_nn S2 (am_lt (ks S2 8 9 1 0 ((kg S.1 9 1 0) + 1)) fun S3 => some ((kg S.1 9 1 0), S3))))
set_option maxHeartbeats 1000000 in
set_option maxRecDepth 20000 in
theorem r40 {Lg : Nat} {xs : Nat → Int32} {d F : Nat} {x1 : Int32} {x2 : Int32} {S : AmT} {q : Int32 × AmT} (hd : 2 ≤ d) (H : f40 F x1 x2 S = some q) : Ex (am_X Lg xs) d 40 (am_P 40) (am_ini (am_Mi 40).1 [.ref 7, .int x1, .int x2]) [] (hS S) (some q.1, hS q.2) := by
  obtain ⟨d, rfl⟩ : ∃ d2, d = d2 + 1 := ⟨d - 1, by omega⟩
  unfold f40 at H
  show Ex (am_X Lg xs) _ 40 am_c40_0 [.ref 7, .int x1, .int x2, .long 0] [] (hS S) (some q.1, hS q.2)
  refine ex_aload_n rfl ?_
  refine ex_getR (w := 8) rfl rfl rfl ?_
  refine ex_iconst (v := 0) (by decide) ?_
  refine ex_kget (c := 8) (ar := 9) (n := 1) rfl (Nat.le_of_ble_eq_true rfl) ?_
  refine ex_istore_n (L2 := [.ref 7, .int x1, .int x2, .int (kg S.1 9 1 0)]) (Nat.le_of_ble_eq_true rfl) rfl ?_
  refine ex_aload_n rfl ?_
  refine ex_getR (w := 10) rfl rfl rfl ?_
  refine ex_iload_n rfl ?_
  refine ex_iload_n rfl ?_
  obtain ⟨hnn, H⟩ := am_nn_el H
  refine ex_kset (c := 10) (ar := 11) (n := 3) rfl hnn (by omega) (Nat.le_of_ble_eq_true rfl) ?_
  generalize (ks S 10 11 3 (kg S.1 9 1 0) x1) = S1 at H ⊢
  have H := am_lt_el H
  refine ex_aload_n rfl ?_
  refine ex_getR (w := 12) rfl rfl rfl ?_
  refine ex_iload_n rfl ?_
  refine ex_iload_n rfl ?_
  obtain ⟨hnn, H⟩ := am_nn_el H
  refine ex_kset (c := 12) (ar := 13) (n := 3) rfl hnn (by omega) (Nat.le_of_ble_eq_true rfl) ?_
  generalize (ks S1 12 13 3 (kg S.1 9 1 0) x2) = S2 at H ⊢
  have H := am_lt_el H
  refine ex_aload_n rfl ?_
  refine ex_getR (w := 8) rfl rfl rfl ?_
  refine ex_iconst (v := 0) (by decide) ?_
  refine ex_iload_n rfl ?_
  refine ex_iconst (v := 1) (by decide) ?_
  refine ex_iadd ?_
  obtain ⟨hnn, H⟩ := am_nn_el H
  refine ex_kset (c := 8) (ar := 9) (n := 1) rfl hnn (by omega) (Nat.le_of_ble_eq_true rfl) ?_
  generalize (ks S2 8 9 1 0 ((kg S.1 9 1 0) + 1)) = S3 at H ⊢
  have H := am_lt_el H
  refine ex_iload_n rfl ?_
  have H := Option.some.inj H
  subst H
  exact ex_iret (M := 40) (Or.inl rfl)
-- X2_makePage
def f41 (F : Nat) (x1 : Int32) (S : AmT) : Option (Int32 × AmT) := am_b2 (f39 F x1 ((kg S.1 15 3 x1) + 1) S) fun v1 S2 => am_nn S2 (am_lt (ks S2 16 17 72 v1 (-1)) fun S3 => am_nn S3 (am_lt (ks S3 14 15 3 x1 ((kg S.1 15 3 x1) + 1)) fun S4 => some (((kg S.1 15 3 x1) + 1), S4)))
set_option maxHeartbeats 1000000 in
set_option maxRecDepth 20000 in
theorem r41 {Lg : Nat} {xs : Nat → Int32} {d F : Nat} {x1 : Int32} {S : AmT} {q : Int32 × AmT} (hd : 2 ≤ d) (H : f41 F x1 S = some q) : Ex (am_X Lg xs) d 41 (am_P 41) (am_ini (am_Mi 41).1 [.ref 7, .int x1]) [] (hS S) (some q.1, hS q.2) := by
  obtain ⟨d, rfl⟩ : ∃ d2, d = d2 + 1 := ⟨d - 1, by omega⟩
  unfold f41 at H
  show Ex (am_X Lg xs) _ 41 am_c41_0 [.ref 7, .int x1, .long 0] [] (hS S) (some q.1, hS q.2)
  refine ex_aload_n rfl ?_
  refine ex_getR (w := 14) rfl rfl rfl ?_
  refine ex_iload_n rfl ?_
  refine ex_kget (c := 14) (ar := 15) (n := 3) rfl (Nat.le_of_ble_eq_true rfl) ?_
  refine ex_iconst (v := 1) (by decide) ?_
  refine ex_iadd ?_
  refine ex_istore_n (L2 := [.ref 7, .int x1, .int ((kg S.1 15 3 x1) + 1)]) (Nat.le_of_ble_eq_true rfl) rfl ?_
  refine ex_aload_n rfl ?_
  refine ex_getR (w := 16) rfl rfl rfl ?_
  refine ex_aload_n rfl ?_
  refine ex_iload_n rfl ?_
  refine ex_iload_n rfl ?_
  obtain ⟨v1, S2, hp, H⟩ := am_b2_el H
  refine ex_callV rfl rfl (Nat.le_of_ble_eq_true rfl) (Nat.le_of_ble_eq_true rfl) rfl (r39 (by omega) hp) rfl ?_
  refine ex_iconst (v := (-1)) (by decide) ?_
  obtain ⟨hnn, H⟩ := am_nn_el H
  refine ex_kset (c := 16) (ar := 17) (n := 72) rfl hnn (by omega) (Nat.le_of_ble_eq_true rfl) ?_
  generalize (ks S2 16 17 72 v1 (-1)) = S3 at H ⊢
  have H := am_lt_el H
  refine ex_aload_n rfl ?_
  refine ex_getR (w := 14) rfl rfl rfl ?_
  refine ex_iload_n rfl ?_
  refine ex_iload_n rfl ?_
  obtain ⟨hnn, H⟩ := am_nn_el H
  refine ex_kset (c := 14) (ar := 15) (n := 3) rfl hnn (by omega) (Nat.le_of_ble_eq_true rfl) ?_
  generalize (ks S3 14 15 3 x1 ((kg S.1 15 3 x1) + 1)) = S4 at H ⊢
  have H := am_lt_el H
  refine ex_iload_n rfl ?_
  have H := Option.some.inj H
  subst H
  exact ex_iret (M := 41) (Or.inl rfl)
-- X2_makeBlank
def f42 (F : Nat) (x1 : Int32) (S : AmT) : Option (Int32 × AmT) := am_nn S (am_lt (ks S 16 17 72 x1 (-1)) fun S1 => some (1, S1))
set_option maxHeartbeats 1000000 in
set_option maxRecDepth 20000 in
theorem r42 {Lg : Nat} {xs : Nat → Int32} {d F : Nat} {x1 : Int32} {S : AmT} {q : Int32 × AmT} (hd : 2 ≤ d) (H : f42 F x1 S = some q) : Ex (am_X Lg xs) d 42 (am_P 42) (am_ini (am_Mi 42).1 [.ref 7, .int x1]) [] (hS S) (some q.1, hS q.2) := by
  obtain ⟨d, rfl⟩ : ∃ d2, d = d2 + 1 := ⟨d - 1, by omega⟩
  unfold f42 at H
  show Ex (am_X Lg xs) _ 42 am_c42_0 [.ref 7, .int x1] [] (hS S) (some q.1, hS q.2)
  refine ex_aload_n rfl ?_
  refine ex_getR (w := 16) rfl rfl rfl ?_
  refine ex_iload_n rfl ?_
  refine ex_iconst (v := (-1)) (by decide) ?_
  obtain ⟨hnn, H⟩ := am_nn_el H
  refine ex_kset (c := 16) (ar := 17) (n := 72) rfl hnn (by omega) (Nat.le_of_ble_eq_true rfl) ?_
  generalize (ks S 16 17 72 x1 (-1)) = S1 at H ⊢
  have H := am_lt_el H
  refine ex_iconst (v := 1) (by decide) ?_
  have H := Option.some.inj H
  subst H
  exact ex_iret (M := 42) (Or.inl rfl)
def g43_27 (F : Nat) : Nat → Int32 → Int32 → Int32 → AmT → Option (Int32 × AmT)
  | 0, _, _, _, _ => none
  | n + 1, x1, x2, x3, S => if x2 ≤ x3 then (some (1, S)) else (am_nn S (am_lt (ks S 18 19 576 ((x1 * 8) + x3) (-1)) fun S5 => g43_27 F n x1 x2 (x3 + 1) S5))
-- X2_makeRows
def f43 (F : Nat) (x1 : Int32) (x2 : Int32) (S : AmT) : Option (Int32 × AmT) := if x2 ≤ 8 then (if 0 ≤ x2 then (am_nn S (am_lt (ks S 16 17 72 x1 x2) fun S3 => g43_27 F F x1 x2 0 S3)) else (some ((-13), S))) else (some ((-14), S))
set_option maxHeartbeats 1000000 in
set_option maxRecDepth 20000 in
theorem e43_27 {Lg : Nat} {xs : Nat → Int32} {d F : Nat} (hd : 2 ≤ d) : ∀ (n : Nat) (x1 : Int32) (x2 : Int32) (x3 : Int32) (S : AmT) (q : Int32 × AmT), g43_27 F n x1 x2 x3 S = some q → Ex (am_X Lg xs) d 43 am_c43_27 [.ref 7, .int x1, .int x2, .int x3] [] (hS S) (some q.1, hS q.2) := by
  obtain ⟨d, rfl⟩ : ∃ d2, d = d2 + 1 := ⟨d - 1, by omega⟩
  intro n
  induction n with
  | zero =>
    intro x1 x2 x3 S q H
    cases H
  | succ n ih =>
    intro x1 x2 x3 S q H
    have H : (if x2 ≤ x3 then (some (1, S)) else (am_nn S (am_lt (ks S 18 19 576 ((x1 * 8) + x3) (-1)) fun S5 => g43_27 F n x1 x2 (x3 + 1) S5))) = some q := H
    refine ex_iload_n rfl ?_
    refine ex_iload_n rfl ?_
    by_cases h4 : x2 ≤ x3
    · rw [if_pos h4] at H
      refine ex_icmp_ge_j (ct := am_c43_52) h4 rfl ?_
      refine ex_iconst (v := 1) (by decide) ?_
      have H := Option.some.inj H
      subst H
      exact ex_iret (M := 43) (Or.inl rfl)
    · rw [if_neg h4] at H
      refine ex_icmp_ge_f h4 ?_
      refine ex_aload_n rfl ?_
      refine ex_getR (w := 18) rfl rfl rfl ?_
      refine ex_iload_n rfl ?_
      refine ex_bipush (v := 8) (by decide) ?_
      refine ex_imul ?_
      refine ex_iload_n rfl ?_
      refine ex_iadd ?_
      refine ex_iconst (v := (-1)) (by decide) ?_
      obtain ⟨hnn, H⟩ := am_nn_el H
      refine ex_kset (c := 18) (ar := 19) (n := 576) rfl hnn (by omega) (Nat.le_of_ble_eq_true rfl) ?_
      generalize (ks S 18 19 576 ((x1 * 8) + x3) (-1)) = S5 at H ⊢
      have H := am_lt_el H
      refine ex_iinc (L2 := [.ref 7, .int x1, .int x2, .int (x3 + 1)]) (v := (x3 + 1)) rfl (Nat.le_of_ble_eq_true rfl) (congrArg (fun z => x3 + z) (by decide)) rfl ?_
      refine ex_goto (ct := am_c43_27) rfl ?_
      exact ih _ _ _ _ _ H
set_option maxHeartbeats 1000000 in
set_option maxRecDepth 20000 in
theorem r43 {Lg : Nat} {xs : Nat → Int32} {d F : Nat} {x1 : Int32} {x2 : Int32} {S : AmT} {q : Int32 × AmT} (hd : 2 ≤ d) (H : f43 F x1 x2 S = some q) : Ex (am_X Lg xs) d 43 (am_P 43) (am_ini (am_Mi 43).1 [.ref 7, .int x1, .int x2]) [] (hS S) (some q.1, hS q.2) := by
  obtain ⟨d, rfl⟩ : ∃ d2, d = d2 + 1 := ⟨d - 1, by omega⟩
  unfold f43 at H
  show Ex (am_X Lg xs) _ 43 am_c43_0 [.ref 7, .int x1, .int x2, .long 0] [] (hS S) (some q.1, hS q.2)
  refine ex_iload_n rfl ?_
  refine ex_bipush (v := 8) (by decide) ?_
  by_cases h1 : x2 ≤ 8
  · rw [if_pos h1] at H
    refine ex_icmp_le_j (ct := am_c43_9) h1 rfl ?_
    refine ex_iload_n rfl ?_
    by_cases h2 : 0 ≤ x2
    · rw [if_pos h2] at H
      refine ex_if_ge_j (ct := am_c43_16) h2 rfl ?_
      refine ex_aload_n rfl ?_
      refine ex_getR (w := 16) rfl rfl rfl ?_
      refine ex_iload_n rfl ?_
      refine ex_iload_n rfl ?_
      obtain ⟨hnn, H⟩ := am_nn_el H
      refine ex_kset (c := 16) (ar := 17) (n := 72) rfl hnn (by omega) (Nat.le_of_ble_eq_true rfl) ?_
      generalize (ks S 16 17 72 x1 x2) = S3 at H ⊢
      have H := am_lt_el H
      refine ex_iconst (v := 0) (by decide) ?_
      refine ex_istore_n (L2 := [.ref 7, .int x1, .int x2, .int 0]) (Nat.le_of_ble_eq_true rfl) rfl ?_
      exact e43_27 hd _ _ _ _ _ _ H
    · rw [if_neg h2] at H
      refine ex_if_ge_f h2 ?_
      refine ex_bipush (v := (-13)) (by decide) ?_
      have H := Option.some.inj H
      subst H
      exact ex_iret (M := 43) (Or.inl rfl)
  · rw [if_neg h1] at H
    refine ex_icmp_le_f h1 ?_
    refine ex_bipush (v := (-14)) (by decide) ?_
    have H := Option.some.inj H
    subst H
    exact ex_iret (M := 43) (Or.inl rfl)
def g44_45 (F : Nat) : Nat → Int32 → Int32 → Int32 → AmT → Option (Int32 × AmT)
  | 0, _, _, _, _ => none
  | n + 1, x3, x4, x5, S => if x3 ≤ x5 then (some (1, S)) else (am_nn S (am_lt (ks S 20 21 5760 ((x4 * 10) + x5) 32) fun S8 => g44_45 F n x3 x4 (x5 + 1) S8))
-- X2_makeRow
def f44 (F : Nat) (x1 : Int32) (x2 : Int32) (x3 : Int32) (S : AmT) : Option (Int32 × AmT) := if x3 ≤ 10 then (if 0 ≤ x3 then (am_b2 (f50 F x1 x2 S) fun v3 S4 => if 0 ≤ v3 then (am_nn S4 (am_lt (ks S4 18 19 576 v3 x3) fun S6 => g44_45 F F x3 v3 0 S6)) else (some (v3, S4))) else (some ((-13), S))) else (some ((-14), S))
set_option maxHeartbeats 1000000 in
set_option maxRecDepth 20000 in
theorem e44_45 {Lg : Nat} {xs : Nat → Int32} {d F : Nat} (hd : 2 ≤ d) : ∀ (n : Nat) (x3 : Int32) (x4 : Int32) (x5 : Int32) (w1 : Value) (w2 : Value) (S : AmT) (q : Int32 × AmT), g44_45 F n x3 x4 x5 S = some q → Ex (am_X Lg xs) d 44 am_c44_45 [.ref 7, w1, w2, .int x3, .int x4, .int x5] [] (hS S) (some q.1, hS q.2) := by
  obtain ⟨d, rfl⟩ : ∃ d2, d = d2 + 1 := ⟨d - 1, by omega⟩
  intro n
  induction n with
  | zero =>
    intro x3 x4 x5 w1 w2 S q H
    cases H
  | succ n ih =>
    intro x3 x4 x5 w1 w2 S q H
    have H : (if x3 ≤ x5 then (some (1, S)) else (am_nn S (am_lt (ks S 20 21 5760 ((x4 * 10) + x5) 32) fun S8 => g44_45 F n x3 x4 (x5 + 1) S8))) = some q := H
    refine ex_iload rfl ?_
    refine ex_iload_n rfl ?_
    by_cases h7 : x3 ≤ x5
    · rw [if_pos h7] at H
      refine ex_icmp_ge_j (ct := am_c44_74) h7 rfl ?_
      refine ex_iconst (v := 1) (by decide) ?_
      have H := Option.some.inj H
      subst H
      exact ex_iret (M := 44) (Or.inl rfl)
    · rw [if_neg h7] at H
      refine ex_icmp_ge_f h7 ?_
      refine ex_aload_n rfl ?_
      refine ex_getR (w := 20) rfl rfl rfl ?_
      refine ex_iload rfl ?_
      refine ex_bipush (v := 10) (by decide) ?_
      refine ex_imul ?_
      refine ex_iload rfl ?_
      refine ex_iadd ?_
      refine ex_bipush (v := 32) (by decide) ?_
      obtain ⟨hnn, H⟩ := am_nn_el H
      refine ex_kset (c := 20) (ar := 21) (n := 5760) rfl hnn (by omega) (Nat.le_of_ble_eq_true rfl) ?_
      generalize (ks S 20 21 5760 ((x4 * 10) + x5) 32) = S8 at H ⊢
      have H := am_lt_el H
      refine ex_iinc (L2 := [.ref 7, w1, w2, .int x3, .int x4, .int (x5 + 1)]) (v := (x5 + 1)) rfl (Nat.le_of_ble_eq_true rfl) (congrArg (fun z => x5 + z) (by decide)) rfl ?_
      refine ex_goto (ct := am_c44_45) rfl ?_
      exact ih _ _ _ _ _ _ _ H
set_option maxHeartbeats 1000000 in
set_option maxRecDepth 20000 in
theorem r44 {Lg : Nat} {xs : Nat → Int32} {d F : Nat} {x1 : Int32} {x2 : Int32} {x3 : Int32} {S : AmT} {q : Int32 × AmT} (hd : 2 ≤ d) (H : f44 F x1 x2 x3 S = some q) : Ex (am_X Lg xs) d 44 (am_P 44) (am_ini (am_Mi 44).1 [.ref 7, .int x1, .int x2, .int x3]) [] (hS S) (some q.1, hS q.2) := by
  obtain ⟨d, rfl⟩ : ∃ d2, d = d2 + 1 := ⟨d - 1, by omega⟩
  unfold f44 at H
  show Ex (am_X Lg xs) _ 44 am_c44_0 [.ref 7, .int x1, .int x2, .int x3, .long 0, .long 0] [] (hS S) (some q.1, hS q.2)
  refine ex_iload_n rfl ?_
  refine ex_bipush (v := 10) (by decide) ?_
  by_cases h1 : x3 ≤ 10
  · rw [if_pos h1] at H
    refine ex_icmp_le_j (ct := am_c44_9) h1 rfl ?_
    refine ex_iload_n rfl ?_
    by_cases h2 : 0 ≤ x3
    · rw [if_pos h2] at H
      refine ex_if_ge_j (ct := am_c44_16) h2 rfl ?_
      refine ex_aload_n rfl ?_
      refine ex_iload_n rfl ?_
      refine ex_iload_n rfl ?_
      obtain ⟨v3, S4, hp, H⟩ := am_b2_el H
      refine ex_callV rfl rfl (Nat.le_of_ble_eq_true rfl) (Nat.le_of_ble_eq_true rfl) rfl (r50 (by omega) hp) rfl ?_
      refine ex_istore (L2 := [.ref 7, .int x1, .int x2, .int x3, .int v3, .long 0]) (Nat.le_of_ble_eq_true rfl) rfl ?_
      refine ex_iload rfl ?_
      by_cases h5 : 0 ≤ v3
      · rw [if_pos h5] at H
        refine ex_if_ge_j (ct := am_c44_32) h5 rfl ?_
        refine ex_aload_n rfl ?_
        refine ex_getR (w := 18) rfl rfl rfl ?_
        refine ex_iload rfl ?_
        refine ex_iload_n rfl ?_
        obtain ⟨hnn, H⟩ := am_nn_el H
        refine ex_kset (c := 18) (ar := 19) (n := 576) rfl hnn (by omega) (Nat.le_of_ble_eq_true rfl) ?_
        generalize (ks S4 18 19 576 v3 x3) = S6 at H ⊢
        have H := am_lt_el H
        refine ex_iconst (v := 0) (by decide) ?_
        refine ex_istore (L2 := [.ref 7, .int x1, .int x2, .int x3, .int v3, .int 0]) (Nat.le_of_ble_eq_true rfl) rfl ?_
        exact e44_45 hd _ _ _ _ _ _ _ _ H
      · rw [if_neg h5] at H
        refine ex_if_ge_f h5 ?_
        refine ex_iload rfl ?_
        have H := Option.some.inj H
        subst H
        exact ex_iret (M := 44) (Or.inl rfl)
    · rw [if_neg h2] at H
      refine ex_if_ge_f h2 ?_
      refine ex_bipush (v := (-13)) (by decide) ?_
      have H := Option.some.inj H
      subst H
      exact ex_iret (M := 44) (Or.inl rfl)
  · rw [if_neg h1] at H
    refine ex_icmp_le_f h1 ?_
    refine ex_bipush (v := (-14)) (by decide) ?_
    have H := Option.some.inj H
    subst H
    exact ex_iret (M := 44) (Or.inl rfl)
-- X2_makeMissing
def f45 (F : Nat) (x1 : Int32) (x2 : Int32) (S : AmT) : Option (Int32 × AmT) := am_b2 (f50 F x1 x2 S) fun v1 S2 => if 0 ≤ v1 then (am_nn S2 (am_lt (ks S2 18 19 576 v1 (-1)) fun S4 => some (1, S4))) else (some (v1, S2))
set_option maxHeartbeats 1000000 in
set_option maxRecDepth 20000 in
theorem r45 {Lg : Nat} {xs : Nat → Int32} {d F : Nat} {x1 : Int32} {x2 : Int32} {S : AmT} {q : Int32 × AmT} (hd : 2 ≤ d) (H : f45 F x1 x2 S = some q) : Ex (am_X Lg xs) d 45 (am_P 45) (am_ini (am_Mi 45).1 [.ref 7, .int x1, .int x2]) [] (hS S) (some q.1, hS q.2) := by
  obtain ⟨d, rfl⟩ : ∃ d2, d = d2 + 1 := ⟨d - 1, by omega⟩
  unfold f45 at H
  show Ex (am_X Lg xs) _ 45 am_c45_0 [.ref 7, .int x1, .int x2, .long 0] [] (hS S) (some q.1, hS q.2)
  refine ex_aload_n rfl ?_
  refine ex_iload_n rfl ?_
  refine ex_iload_n rfl ?_
  obtain ⟨v1, S2, hp, H⟩ := am_b2_el H
  refine ex_callV rfl rfl (Nat.le_of_ble_eq_true rfl) (Nat.le_of_ble_eq_true rfl) rfl (r50 (by omega) hp) rfl ?_
  refine ex_istore_n (L2 := [.ref 7, .int x1, .int x2, .int v1]) (Nat.le_of_ble_eq_true rfl) rfl ?_
  refine ex_iload_n rfl ?_
  by_cases h3 : 0 ≤ v1
  · rw [if_pos h3] at H
    refine ex_if_ge_j (ct := am_c45_13) h3 rfl ?_
    refine ex_aload_n rfl ?_
    refine ex_getR (w := 18) rfl rfl rfl ?_
    refine ex_iload_n rfl ?_
    refine ex_iconst (v := (-1)) (by decide) ?_
    obtain ⟨hnn, H⟩ := am_nn_el H
    refine ex_kset (c := 18) (ar := 19) (n := 576) rfl hnn (by omega) (Nat.le_of_ble_eq_true rfl) ?_
    generalize (ks S2 18 19 576 v1 (-1)) = S4 at H ⊢
    have H := am_lt_el H
    refine ex_iconst (v := 1) (by decide) ?_
    have H := Option.some.inj H
    subst H
    exact ex_iret (M := 45) (Or.inl rfl)
  · rw [if_neg h3] at H
    refine ex_if_ge_f h3 ?_
    refine ex_iload_n rfl ?_
    have H := Option.some.inj H
    subst H
    exact ex_iret (M := 45) (Or.inl rfl)
-- X2_writeLetter
def f46 (F : Nat) (x1 : Int32) (x2 : Int32) (x3 : Int32) (x4 : Int32) (S : AmT) : Option (Int32 × AmT) := am_b2 (f50 F x1 x2 S) fun v1 S2 => am_b2 (f51 F v1 x3 S2) fun v3 S4 => if 0 ≤ v3 then (am_nn S4 (am_lt (ks S4 20 21 5760 v3 x4) fun S6 => some (1, S6))) else (some (v3, S4))
set_option maxHeartbeats 1000000 in
set_option maxRecDepth 20000 in
theorem r46 {Lg : Nat} {xs : Nat → Int32} {d F : Nat} {x1 : Int32} {x2 : Int32} {x3 : Int32} {x4 : Int32} {S : AmT} {q : Int32 × AmT} (hd : 2 ≤ d) (H : f46 F x1 x2 x3 x4 S = some q) : Ex (am_X Lg xs) d 46 (am_P 46) (am_ini (am_Mi 46).1 [.ref 7, .int x1, .int x2, .int x3, .int x4]) [] (hS S) (some q.1, hS q.2) := by
  obtain ⟨d, rfl⟩ : ∃ d2, d = d2 + 1 := ⟨d - 1, by omega⟩
  unfold f46 at H
  show Ex (am_X Lg xs) _ 46 am_c46_0 [.ref 7, .int x1, .int x2, .int x3, .int x4, .long 0] [] (hS S) (some q.1, hS q.2)
  refine ex_aload_n rfl ?_
  refine ex_aload_n rfl ?_
  refine ex_iload_n rfl ?_
  refine ex_iload_n rfl ?_
  obtain ⟨v1, S2, hp, H⟩ := am_b2_el H
  refine ex_callV rfl rfl (Nat.le_of_ble_eq_true rfl) (Nat.le_of_ble_eq_true rfl) rfl (r50 (by omega) hp) rfl ?_
  refine ex_iload_n rfl ?_
  obtain ⟨v3, S4, hp, H⟩ := am_b2_el H
  refine ex_callV rfl rfl (Nat.le_of_ble_eq_true rfl) (Nat.le_of_ble_eq_true rfl) rfl (r51 (by omega) hp) rfl ?_
  refine ex_istore (L2 := [.ref 7, .int x1, .int x2, .int x3, .int x4, .int v3]) (Nat.le_of_ble_eq_true rfl) rfl ?_
  refine ex_iload rfl ?_
  by_cases h5 : 0 ≤ v3
  · rw [if_pos h5] at H
    refine ex_if_ge_j (ct := am_c46_21) h5 rfl ?_
    refine ex_aload_n rfl ?_
    refine ex_getR (w := 20) rfl rfl rfl ?_
    refine ex_iload rfl ?_
    refine ex_iload rfl ?_
    obtain ⟨hnn, H⟩ := am_nn_el H
    refine ex_kset (c := 20) (ar := 21) (n := 5760) rfl hnn (by omega) (Nat.le_of_ble_eq_true rfl) ?_
    generalize (ks S4 20 21 5760 v3 x4) = S6 at H ⊢
    have H := am_lt_el H
    refine ex_iconst (v := 1) (by decide) ?_
    have H := Option.some.inj H
    subst H
    exact ex_iret (M := 46) (Or.inl rfl)
  · rw [if_neg h5] at H
    refine ex_if_ge_f h5 ?_
    refine ex_iload rfl ?_
    have H := Option.some.inj H
    subst H
    exact ex_iret (M := 46) (Or.inl rfl)
-- X2_letterAt
def f47 (F : Nat) (x1 : Int32) (x2 : Int32) (x3 : Int32) (S : AmT) : Option (Int32 × AmT) := am_b2 (f50 F x1 x2 S) fun v1 S2 => am_b2 (f51 F v1 x3 S2) fun v3 S4 => if 0 ≤ v3 then (some ((kg S4.1 21 5760 v3), S4)) else (some (v3, S4))
set_option maxHeartbeats 1000000 in
set_option maxRecDepth 20000 in
theorem r47 {Lg : Nat} {xs : Nat → Int32} {d F : Nat} {x1 : Int32} {x2 : Int32} {x3 : Int32} {S : AmT} {q : Int32 × AmT} (hd : 2 ≤ d) (H : f47 F x1 x2 x3 S = some q) : Ex (am_X Lg xs) d 47 (am_P 47) (am_ini (am_Mi 47).1 [.ref 7, .int x1, .int x2, .int x3]) [] (hS S) (some q.1, hS q.2) := by
  obtain ⟨d, rfl⟩ : ∃ d2, d = d2 + 1 := ⟨d - 1, by omega⟩
  unfold f47 at H
  show Ex (am_X Lg xs) _ 47 am_c47_0 [.ref 7, .int x1, .int x2, .int x3, .long 0] [] (hS S) (some q.1, hS q.2)
  refine ex_aload_n rfl ?_
  refine ex_aload_n rfl ?_
  refine ex_iload_n rfl ?_
  refine ex_iload_n rfl ?_
  obtain ⟨v1, S2, hp, H⟩ := am_b2_el H
  refine ex_callV rfl rfl (Nat.le_of_ble_eq_true rfl) (Nat.le_of_ble_eq_true rfl) rfl (r50 (by omega) hp) rfl ?_
  refine ex_iload_n rfl ?_
  obtain ⟨v3, S4, hp, H⟩ := am_b2_el H
  refine ex_callV rfl rfl (Nat.le_of_ble_eq_true rfl) (Nat.le_of_ble_eq_true rfl) rfl (r51 (by omega) hp) rfl ?_
  refine ex_istore (L2 := [.ref 7, .int x1, .int x2, .int x3, .int v3]) (Nat.le_of_ble_eq_true rfl) rfl ?_
  refine ex_iload rfl ?_
  by_cases h5 : 0 ≤ v3
  · rw [if_pos h5] at H
    refine ex_if_ge_j (ct := am_c47_23) h5 rfl ?_
    refine ex_aload_n rfl ?_
    refine ex_getR (w := 20) rfl rfl rfl ?_
    refine ex_iload rfl ?_
    refine ex_kget (c := 20) (ar := 21) (n := 5760) rfl (Nat.le_of_ble_eq_true rfl) ?_
    have H := Option.some.inj H
    subst H
    exact ex_iret (M := 47) (Or.inl rfl)
  · rw [if_neg h5] at H
    refine ex_if_ge_f h5 ?_
    refine ex_iload rfl ?_
    refine ex_goto (ct := am_c47_32) rfl ?_
    have H := Option.some.inj H
    subst H
    exact ex_iret (M := 47) (Or.inl rfl)
-- X2_lettersOf
def f49 (F : Nat) (x1 : Int32) (x2 : Int32) (S : AmT) : Option (Int32 × AmT) := am_b2 (f50 F x1 x2 S) fun v1 S2 => if 0 ≤ v1 then (if (kg S2.1 19 576 v1) = (-1) then (some ((-11), S2)) else (some ((kg S2.1 19 576 v1), S2))) else (some (v1, S2))
set_option maxHeartbeats 1000000 in
set_option maxRecDepth 20000 in
theorem r49 {Lg : Nat} {xs : Nat → Int32} {d F : Nat} {x1 : Int32} {x2 : Int32} {S : AmT} {q : Int32 × AmT} (hd : 2 ≤ d) (H : f49 F x1 x2 S = some q) : Ex (am_X Lg xs) d 49 (am_P 49) (am_ini (am_Mi 49).1 [.ref 7, .int x1, .int x2]) [] (hS S) (some q.1, hS q.2) := by
  obtain ⟨d, rfl⟩ : ∃ d2, d = d2 + 1 := ⟨d - 1, by omega⟩
  unfold f49 at H
  show Ex (am_X Lg xs) _ 49 am_c49_0 [.ref 7, .int x1, .int x2, .long 0, .long 0] [] (hS S) (some q.1, hS q.2)
  refine ex_aload_n rfl ?_
  refine ex_iload_n rfl ?_
  refine ex_iload_n rfl ?_
  obtain ⟨v1, S2, hp, H⟩ := am_b2_el H
  refine ex_callV rfl rfl (Nat.le_of_ble_eq_true rfl) (Nat.le_of_ble_eq_true rfl) rfl (r50 (by omega) hp) rfl ?_
  refine ex_istore_n (L2 := [.ref 7, .int x1, .int x2, .int v1, .long 0]) (Nat.le_of_ble_eq_true rfl) rfl ?_
  refine ex_iload_n rfl ?_
  by_cases h3 : 0 ≤ v1
  · rw [if_pos h3] at H
    refine ex_if_ge_j (ct := am_c49_13) h3 rfl ?_
    refine ex_aload_n rfl ?_
    refine ex_getR (w := 18) rfl rfl rfl ?_
    refine ex_iload_n rfl ?_
    refine ex_kget (c := 18) (ar := 19) (n := 576) rfl (Nat.le_of_ble_eq_true rfl) ?_
    refine ex_istore (L2 := [.ref 7, .int x1, .int x2, .int v1, .int (kg S2.1 19 576 v1)]) (Nat.le_of_ble_eq_true rfl) rfl ?_
    refine ex_iload rfl ?_
    refine ex_iconst (v := (-1)) (by decide) ?_
    by_cases h4 : (kg S2.1 19 576 v1) = (-1)
    · rw [if_pos h4] at H
      refine ex_icmp_ne_f h4 ?_
      refine ex_bipush (v := (-11)) (by decide) ?_
      refine ex_goto (ct := am_c49_36) rfl ?_
      have H := Option.some.inj H
      subst H
      exact ex_iret (M := 49) (Or.inl rfl)
    · rw [if_neg h4] at H
      refine ex_icmp_ne_j (ct := am_c49_34) h4 rfl ?_
      refine ex_iload rfl ?_
      have H := Option.some.inj H
      subst H
      exact ex_iret (M := 49) (Or.inl rfl)
  · rw [if_neg h3] at H
    refine ex_if_ge_f h3 ?_
    refine ex_iload_n rfl ?_
    have H := Option.some.inj H
    subst H
    exact ex_iret (M := 49) (Or.inl rfl)
def g52_65 (F : Nat) : Nat → Int32 → Int32 → Int32 → Int32 → AmT → Option (Int32 × AmT)
  | 0, _, _, _, _, _ => none
  | n + 1, x5, x6, x7, x8, S => if x5 ≤ x8 then (some (1, S)) else (am_nn S (am_lt (ks S 20 21 5760 ((x7 * 10) + x8) (kg S.1 21 5760 ((x6 * 10) + x8))) fun S11 => g52_65 F n x5 x6 x7 (x8 + 1) S11))
-- X2_copyRow
def f52 (F : Nat) (x1 : Int32) (x2 : Int32) (x3 : Int32) (x4 : Int32) (x5 : Int32) (S : AmT) : Option (Int32 × AmT) := am_b2 (f50 F x1 x2 S) fun v1 S2 => am_b2 (f50 F x3 x4 S2) fun v3 S4 => if x5 < 0 then (some (0, S4)) else (if v1 < 0 then (some (0, S4)) else (if v3 < 0 then (some (0, S4)) else (if (kg S4.1 19 576 v1) < x5 then (some (0, S4)) else (if x5 ≤ (kg S4.1 19 576 v3) then (g52_65 F F x5 v1 v3 0 S4) else (some (0, S4))))))
set_option maxHeartbeats 1000000 in
set_option maxRecDepth 20000 in
theorem e52_65 {Lg : Nat} {xs : Nat → Int32} {d F : Nat} (hd : 2 ≤ d) : ∀ (n : Nat) (x5 : Int32) (x6 : Int32) (x7 : Int32) (x8 : Int32) (w1 : Value) (w2 : Value) (w3 : Value) (w4 : Value) (S : AmT) (q : Int32 × AmT), g52_65 F n x5 x6 x7 x8 S = some q → Ex (am_X Lg xs) d 52 am_c52_65 [.ref 7, w1, w2, w3, w4, .int x5, .int x6, .int x7, .int x8] [] (hS S) (some q.1, hS q.2) := by
  obtain ⟨d, rfl⟩ : ∃ d2, d = d2 + 1 := ⟨d - 1, by omega⟩
  intro n
  induction n with
  | zero =>
    intro x5 x6 x7 x8 w1 w2 w3 w4 S q H
    cases H
  | succ n ih =>
    intro x5 x6 x7 x8 w1 w2 w3 w4 S q H
    have H : (if x5 ≤ x8 then (some (1, S)) else (am_nn S (am_lt (ks S 20 21 5760 ((x7 * 10) + x8) (kg S.1 21 5760 ((x6 * 10) + x8))) fun S11 => g52_65 F n x5 x6 x7 (x8 + 1) S11))) = some q := H
    refine ex_iload rfl ?_
    refine ex_iload rfl ?_
    by_cases h10 : x5 ≤ x8
    · rw [if_pos h10] at H
      refine ex_icmp_ge_j (ct := am_c52_108) h10 rfl ?_
      refine ex_iconst (v := 1) (by decide) ?_
      have H := Option.some.inj H
      subst H
      exact ex_iret (M := 52) (Or.inr ⟨rfl, by decide⟩)
    · rw [if_neg h10] at H
      refine ex_icmp_ge_f h10 ?_
      refine ex_aload_n rfl ?_
      refine ex_getR (w := 20) rfl rfl rfl ?_
      refine ex_iload rfl ?_
      refine ex_bipush (v := 10) (by decide) ?_
      refine ex_imul ?_
      refine ex_iload rfl ?_
      refine ex_iadd ?_
      refine ex_aload_n rfl ?_
      refine ex_getR (w := 20) rfl rfl rfl ?_
      refine ex_iload rfl ?_
      refine ex_bipush (v := 10) (by decide) ?_
      refine ex_imul ?_
      refine ex_iload rfl ?_
      refine ex_iadd ?_
      refine ex_kget (c := 20) (ar := 21) (n := 5760) rfl (Nat.le_of_ble_eq_true rfl) ?_
      obtain ⟨hnn, H⟩ := am_nn_el H
      refine ex_kset (c := 20) (ar := 21) (n := 5760) rfl hnn (by omega) (Nat.le_of_ble_eq_true rfl) ?_
      generalize (ks S 20 21 5760 ((x7 * 10) + x8) (kg S.1 21 5760 ((x6 * 10) + x8))) = S11 at H ⊢
      have H := am_lt_el H
      refine ex_iinc (L2 := [.ref 7, w1, w2, w3, w4, .int x5, .int x6, .int x7, .int (x8 + 1)]) (v := (x8 + 1)) rfl (Nat.le_of_ble_eq_true rfl) (congrArg (fun z => x8 + z) (by decide)) rfl ?_
      refine ex_goto (ct := am_c52_65) rfl ?_
      exact ih _ _ _ _ _ _ _ _ _ _ H
set_option maxHeartbeats 1000000 in
set_option maxRecDepth 20000 in
theorem r52 {Lg : Nat} {xs : Nat → Int32} {d F : Nat} {x1 : Int32} {x2 : Int32} {x3 : Int32} {x4 : Int32} {x5 : Int32} {S : AmT} {q : Int32 × AmT} (hd : 2 ≤ d) (H : f52 F x1 x2 x3 x4 x5 S = some q) : Ex (am_X Lg xs) d 52 (am_P 52) (am_ini (am_Mi 52).1 [.ref 7, .int x1, .int x2, .int x3, .int x4, .int x5]) [] (hS S) (some q.1, hS q.2) := by
  obtain ⟨d, rfl⟩ : ∃ d2, d = d2 + 1 := ⟨d - 1, by omega⟩
  unfold f52 at H
  show Ex (am_X Lg xs) _ 52 am_c52_0 [.ref 7, .int x1, .int x2, .int x3, .int x4, .int x5, .long 0, .long 0, .long 0] [] (hS S) (some q.1, hS q.2)
  refine ex_aload_n rfl ?_
  refine ex_iload_n rfl ?_
  refine ex_iload_n rfl ?_
  obtain ⟨v1, S2, hp, H⟩ := am_b2_el H
  refine ex_callV rfl rfl (Nat.le_of_ble_eq_true rfl) (Nat.le_of_ble_eq_true rfl) rfl (r50 (by omega) hp) rfl ?_
  refine ex_istore (L2 := [.ref 7, .int x1, .int x2, .int x3, .int x4, .int x5, .int v1, .long 0, .long 0]) (Nat.le_of_ble_eq_true rfl) rfl ?_
  refine ex_aload_n rfl ?_
  refine ex_iload_n rfl ?_
  refine ex_iload rfl ?_
  obtain ⟨v3, S4, hp, H⟩ := am_b2_el H
  refine ex_callV rfl rfl (Nat.le_of_ble_eq_true rfl) (Nat.le_of_ble_eq_true rfl) rfl (r50 (by omega) hp) rfl ?_
  refine ex_istore (L2 := [.ref 7, .int x1, .int x2, .int x3, .int x4, .int x5, .int v1, .int v3, .long 0]) (Nat.le_of_ble_eq_true rfl) rfl ?_
  refine ex_iload rfl ?_
  by_cases h5 : x5 < 0
  · rw [if_pos h5] at H
    refine ex_if_lt_j (ct := am_c52_60) h5 rfl ?_
    refine ex_iconst (v := 0) (by decide) ?_
    have H := Option.some.inj H
    subst H
    exact ex_iret (M := 52) (Or.inr ⟨rfl, by decide⟩)
  · rw [if_neg h5] at H
    refine ex_if_lt_f h5 ?_
    refine ex_iload rfl ?_
    by_cases h6 : v1 < 0
    · rw [if_pos h6] at H
      refine ex_if_lt_j (ct := am_c52_60) h6 rfl ?_
      refine ex_iconst (v := 0) (by decide) ?_
      have H := Option.some.inj H
      subst H
      exact ex_iret (M := 52) (Or.inr ⟨rfl, by decide⟩)
    · rw [if_neg h6] at H
      refine ex_if_lt_f h6 ?_
      refine ex_iload rfl ?_
      by_cases h7 : v3 < 0
      · rw [if_pos h7] at H
        refine ex_if_lt_j (ct := am_c52_60) h7 rfl ?_
        refine ex_iconst (v := 0) (by decide) ?_
        have H := Option.some.inj H
        subst H
        exact ex_iret (M := 52) (Or.inr ⟨rfl, by decide⟩)
      · rw [if_neg h7] at H
        refine ex_if_lt_f h7 ?_
        refine ex_aload_n rfl ?_
        refine ex_getR (w := 18) rfl rfl rfl ?_
        refine ex_iload rfl ?_
        refine ex_kget (c := 18) (ar := 19) (n := 576) rfl (Nat.le_of_ble_eq_true rfl) ?_
        refine ex_iload rfl ?_
        by_cases h8 : (kg S4.1 19 576 v1) < x5
        · rw [if_pos h8] at H
          refine ex_icmp_lt_j (ct := am_c52_60) h8 rfl ?_
          refine ex_iconst (v := 0) (by decide) ?_
          have H := Option.some.inj H
          subst H
          exact ex_iret (M := 52) (Or.inr ⟨rfl, by decide⟩)
        · rw [if_neg h8] at H
          refine ex_icmp_lt_f h8 ?_
          refine ex_aload_n rfl ?_
          refine ex_getR (w := 18) rfl rfl rfl ?_
          refine ex_iload rfl ?_
          refine ex_kget (c := 18) (ar := 19) (n := 576) rfl (Nat.le_of_ble_eq_true rfl) ?_
          refine ex_iload rfl ?_
          by_cases h9 : x5 ≤ (kg S4.1 19 576 v3)
          · rw [if_pos h9] at H
            refine ex_icmp_ge_j (ct := am_c52_62) h9 rfl ?_
            refine ex_iconst (v := 0) (by decide) ?_
            refine ex_istore (L2 := [.ref 7, .int x1, .int x2, .int x3, .int x4, .int x5, .int v1, .int v3, .int 0]) (Nat.le_of_ble_eq_true rfl) rfl ?_
            exact e52_65 hd _ _ _ _ _ _ _ _ _ _ _ H
          · rw [if_neg h9] at H
            refine ex_icmp_ge_f h9 ?_
            refine ex_iconst (v := 0) (by decide) ?_
            have H := Option.some.inj H
            subst H
            exact ex_iret (M := 52) (Or.inr ⟨rfl, by decide⟩)
def g54_23 (F : Nat) : Nat → Int32 → Int32 → Int32 → AmT → Option AmT
  | 0, _, _, _, _ => none
  | n + 1, x1, x3, x4, S => if (kg S.1 17 72 x1) ≤ x4 then (some S) else (am_b2 (f297 F (kg S.1 19 576 ((x1 * 8) + x4)) x3 S) fun v5 S6 => am_nn S6 (am_lt (ks S6 18 19 576 ((x1 * 8) + x4) v5) fun S7 => g54_23 F n x1 x3 (x4 + 1) S7))
-- X2_trimPage
def f54 (F : Nat) (x1 : Int32) (x2 : Int32) (x3 : Int32) (S : AmT) : Option AmT := am_b2 (f297 F (kg S.1 17 72 x1) x2 S) fun v1 S2 => am_nn S2 (am_lt (ks S2 16 17 72 x1 v1) fun S3 => g54_23 F F x1 x3 0 S3)
set_option maxHeartbeats 1000000 in
set_option maxRecDepth 20000 in
theorem e54_23 {Lg : Nat} {xs : Nat → Int32} {d F : Nat} (hd : 2 ≤ d) : ∀ (n : Nat) (x1 : Int32) (x3 : Int32) (x4 : Int32) (w2 : Value) (w5 : Value) (S : AmT) (q : AmT), g54_23 F n x1 x3 x4 S = some q → Ex (am_X Lg xs) d 54 am_c54_23 [.ref 7, .int x1, w2, .int x3, .int x4, w5] [] (hS S) (none, hS q) := by
  obtain ⟨d, rfl⟩ : ∃ d2, d = d2 + 1 := ⟨d - 1, by omega⟩
  intro n
  induction n with
  | zero =>
    intro x1 x3 x4 w2 w5 S q H
    cases H
  | succ n ih =>
    intro x1 x3 x4 w2 w5 S q H
    have H : (if (kg S.1 17 72 x1) ≤ x4 then (some S) else (am_b2 (f297 F (kg S.1 19 576 ((x1 * 8) + x4)) x3 S) fun v5 S6 => am_nn S6 (am_lt (ks S6 18 19 576 ((x1 * 8) + x4) v5) fun S7 => g54_23 F n x1 x3 (x4 + 1) S7))) = some q := H
    refine ex_iload rfl ?_
    refine ex_aload_n rfl ?_
    refine ex_getR (w := 16) rfl rfl rfl ?_
    refine ex_iload_n rfl ?_
    refine ex_kget (c := 16) (ar := 17) (n := 72) rfl (Nat.le_of_ble_eq_true rfl) ?_
    by_cases h4 : (kg S.1 17 72 x1) ≤ x4
    · rw [if_pos h4] at H
      refine ex_icmp_ge_j (ct := am_c54_73) h4 rfl ?_
      have H := Option.some.inj H
      subst H
      exact ex_vret (M := 54) rfl
    · rw [if_neg h4] at H
      refine ex_icmp_ge_f h4 ?_
      refine ex_iload_n rfl ?_
      refine ex_bipush (v := 8) (by decide) ?_
      refine ex_imul ?_
      refine ex_iload rfl ?_
      refine ex_iadd ?_
      refine ex_istore (L2 := [.ref 7, .int x1, w2, .int x3, .int x4, .int ((x1 * 8) + x4)]) (Nat.le_of_ble_eq_true rfl) rfl ?_
      refine ex_aload_n rfl ?_
      refine ex_getR (w := 18) rfl rfl rfl ?_
      refine ex_iload rfl ?_
      refine ex_aload_n rfl ?_
      refine ex_getR (w := 18) rfl rfl rfl ?_
      refine ex_iload rfl ?_
      refine ex_kget (c := 18) (ar := 19) (n := 576) rfl (Nat.le_of_ble_eq_true rfl) ?_
      refine ex_iload_n rfl ?_
      obtain ⟨v5, S6, hp, H⟩ := am_b2_el H
      refine ex_callS rfl rfl (Nat.le_of_ble_eq_true rfl) (Nat.le_of_ble_eq_true rfl) (r297 (by omega) hp) rfl ?_
      obtain ⟨hnn, H⟩ := am_nn_el H
      refine ex_kset (c := 18) (ar := 19) (n := 576) rfl hnn (by omega) (Nat.le_of_ble_eq_true rfl) ?_
      generalize (ks S6 18 19 576 ((x1 * 8) + x4) v5) = S7 at H ⊢
      have H := am_lt_el H
      refine ex_iinc (L2 := [.ref 7, .int x1, w2, .int x3, .int (x4 + 1), .int ((x1 * 8) + x4)]) (v := (x4 + 1)) rfl (Nat.le_of_ble_eq_true rfl) (congrArg (fun z => x4 + z) (by decide)) rfl ?_
      refine ex_goto (ct := am_c54_23) rfl ?_
      exact ih _ _ _ _ _ _ _ H
set_option maxHeartbeats 1000000 in
set_option maxRecDepth 20000 in
theorem r54 {Lg : Nat} {xs : Nat → Int32} {d F : Nat} {x1 : Int32} {x2 : Int32} {x3 : Int32} {S : AmT} {q : AmT} (hd : 2 ≤ d) (H : f54 F x1 x2 x3 S = some q) : Ex (am_X Lg xs) d 54 (am_P 54) (am_ini (am_Mi 54).1 [.ref 7, .int x1, .int x2, .int x3]) [] (hS S) (none, hS q) := by
  obtain ⟨d, rfl⟩ : ∃ d2, d = d2 + 1 := ⟨d - 1, by omega⟩
  unfold f54 at H
  show Ex (am_X Lg xs) _ 54 am_c54_0 [.ref 7, .int x1, .int x2, .int x3, .long 0, .long 0] [] (hS S) (none, hS q)
  refine ex_aload_n rfl ?_
  refine ex_getR (w := 16) rfl rfl rfl ?_
  refine ex_iload_n rfl ?_
  refine ex_aload_n rfl ?_
  refine ex_getR (w := 16) rfl rfl rfl ?_
  refine ex_iload_n rfl ?_
  refine ex_kget (c := 16) (ar := 17) (n := 72) rfl (Nat.le_of_ble_eq_true rfl) ?_
  refine ex_iload_n rfl ?_
  obtain ⟨v1, S2, hp, H⟩ := am_b2_el H
  refine ex_callS rfl rfl (Nat.le_of_ble_eq_true rfl) (Nat.le_of_ble_eq_true rfl) (r297 (by omega) hp) rfl ?_
  obtain ⟨hnn, H⟩ := am_nn_el H
  refine ex_kset (c := 16) (ar := 17) (n := 72) rfl hnn (by omega) (Nat.le_of_ble_eq_true rfl) ?_
  generalize (ks S2 16 17 72 x1 v1) = S3 at H ⊢
  have H := am_lt_el H
  refine ex_iconst (v := 0) (by decide) ?_
  refine ex_istore (L2 := [.ref 7, .int x1, .int x2, .int x3, .int 0, .long 0]) (Nat.le_of_ble_eq_true rfl) rfl ?_
  exact e54_23 hd _ _ _ _ _ _ _ _ H
def g55_22 (F : Nat) : Nat → Int32 → Int32 → Int32 → Int32 → Int32 → AmT → Option (Int32 × AmT)
  | 0, _, _, _, _, _, _ => none
  | n + 1, x1, x2, x3, x4, x5, S => if x4 < x5 then (am_nn S (am_lt (ks S 14 15 3 x1 (x3 + x4)) fun S2 => some ((x3 + x4), S2))) else (am_b2 (f39 F x2 x5 S) fun v3 S4 => am_b2 (f39 F x1 (x3 + x5) S4) fun v5 S6 => (f56 F v3 v5 S6).bind fun S7 => g55_22 F n x1 x2 x3 x4 (x5 + 1) S7)
-- X2_append
def f55 (F : Nat) (x1 : Int32) (x2 : Int32) (S : AmT) : Option (Int32 × AmT) := g55_22 F F x1 x2 (kg S.1 15 3 x1) (kg S.1 15 3 x2) 1 S
set_option maxHeartbeats 1000000 in
set_option maxRecDepth 20000 in
theorem e55_22 {Lg : Nat} {xs : Nat → Int32} {d F : Nat} (hd : 2 ≤ d) : ∀ (n : Nat) (x1 : Int32) (x2 : Int32) (x3 : Int32) (x4 : Int32) (x5 : Int32) (S : AmT) (q : Int32 × AmT), g55_22 F n x1 x2 x3 x4 x5 S = some q → Ex (am_X Lg xs) d 55 am_c55_22 [.ref 7, .int x1, .int x2, .int x3, .int x4, .int x5] [] (hS S) (some q.1, hS q.2) := by
  obtain ⟨d, rfl⟩ : ∃ d2, d = d2 + 1 := ⟨d - 1, by omega⟩
  intro n
  induction n with
  | zero =>
    intro x1 x2 x3 x4 x5 S q H
    cases H
  | succ n ih =>
    intro x1 x2 x3 x4 x5 S q H
    have H : (if x4 < x5 then (am_nn S (am_lt (ks S 14 15 3 x1 (x3 + x4)) fun S2 => some ((x3 + x4), S2))) else (am_b2 (f39 F x2 x5 S) fun v3 S4 => am_b2 (f39 F x1 (x3 + x5) S4) fun v5 S6 => (f56 F v3 v5 S6).bind fun S7 => g55_22 F n x1 x2 x3 x4 (x5 + 1) S7)) = some q := H
    refine ex_iload rfl ?_
    refine ex_iload rfl ?_
    by_cases h1 : x4 < x5
    · rw [if_pos h1] at H
      refine ex_icmp_gt_j (ct := am_c55_55) h1 rfl ?_
      refine ex_aload_n rfl ?_
      refine ex_getR (w := 14) rfl rfl rfl ?_
      refine ex_iload_n rfl ?_
      refine ex_iload_n rfl ?_
      refine ex_iload rfl ?_
      refine ex_iadd ?_
      obtain ⟨hnn, H⟩ := am_nn_el H
      refine ex_kset (c := 14) (ar := 15) (n := 3) rfl hnn (by omega) (Nat.le_of_ble_eq_true rfl) ?_
      generalize (ks S 14 15 3 x1 (x3 + x4)) = S2 at H ⊢
      have H := am_lt_el H
      refine ex_iload_n rfl ?_
      refine ex_iload rfl ?_
      refine ex_iadd ?_
      have H := Option.some.inj H
      subst H
      exact ex_iret (M := 55) (Or.inl rfl)
    · rw [if_neg h1] at H
      refine ex_icmp_gt_f h1 ?_
      refine ex_aload_n rfl ?_
      refine ex_aload_n rfl ?_
      refine ex_iload_n rfl ?_
      refine ex_iload rfl ?_
      obtain ⟨v3, S4, hp, H⟩ := am_b2_el H
      refine ex_callV rfl rfl (Nat.le_of_ble_eq_true rfl) (Nat.le_of_ble_eq_true rfl) rfl (r39 (by omega) hp) rfl ?_
      refine ex_aload_n rfl ?_
      refine ex_iload_n rfl ?_
      refine ex_iload_n rfl ?_
      refine ex_iload rfl ?_
      refine ex_iadd ?_
      obtain ⟨v5, S6, hp, H⟩ := am_b2_el H
      refine ex_callV rfl rfl (Nat.le_of_ble_eq_true rfl) (Nat.le_of_ble_eq_true rfl) rfl (r39 (by omega) hp) rfl ?_
      obtain ⟨S7, hp, H⟩ := Option.bind_eq_some_iff.mp H
      refine ex_callV rfl rfl (Nat.le_of_ble_eq_true rfl) (Nat.le_of_ble_eq_true rfl) rfl (r56 (by omega) hp) rfl ?_
      refine ex_iinc (L2 := [.ref 7, .int x1, .int x2, .int x3, .int x4, .int (x5 + 1)]) (v := (x5 + 1)) rfl (Nat.le_of_ble_eq_true rfl) (congrArg (fun z => x5 + z) (by decide)) rfl ?_
      refine ex_goto (ct := am_c55_22) rfl ?_
      exact ih _ _ _ _ _ _ _ H
set_option maxHeartbeats 1000000 in
set_option maxRecDepth 20000 in
theorem r55 {Lg : Nat} {xs : Nat → Int32} {d F : Nat} {x1 : Int32} {x2 : Int32} {S : AmT} {q : Int32 × AmT} (hd : 2 ≤ d) (H : f55 F x1 x2 S = some q) : Ex (am_X Lg xs) d 55 (am_P 55) (am_ini (am_Mi 55).1 [.ref 7, .int x1, .int x2]) [] (hS S) (some q.1, hS q.2) := by
  obtain ⟨d, rfl⟩ : ∃ d2, d = d2 + 1 := ⟨d - 1, by omega⟩
  unfold f55 at H
  show Ex (am_X Lg xs) _ 55 am_c55_0 [.ref 7, .int x1, .int x2, .long 0, .long 0, .long 0] [] (hS S) (some q.1, hS q.2)
  refine ex_aload_n rfl ?_
  refine ex_getR (w := 14) rfl rfl rfl ?_
  refine ex_iload_n rfl ?_
  refine ex_kget (c := 14) (ar := 15) (n := 3) rfl (Nat.le_of_ble_eq_true rfl) ?_
  refine ex_istore_n (L2 := [.ref 7, .int x1, .int x2, .int (kg S.1 15 3 x1), .long 0, .long 0]) (Nat.le_of_ble_eq_true rfl) rfl ?_
  refine ex_aload_n rfl ?_
  refine ex_getR (w := 14) rfl rfl rfl ?_
  refine ex_iload_n rfl ?_
  refine ex_kget (c := 14) (ar := 15) (n := 3) rfl (Nat.le_of_ble_eq_true rfl) ?_
  refine ex_istore (L2 := [.ref 7, .int x1, .int x2, .int (kg S.1 15 3 x1), .int (kg S.1 15 3 x2), .long 0]) (Nat.le_of_ble_eq_true rfl) rfl ?_
  refine ex_iconst (v := 1) (by decide) ?_
  refine ex_istore (L2 := [.ref 7, .int x1, .int x2, .int (kg S.1 15 3 x1), .int (kg S.1 15 3 x2), .int 1]) (Nat.le_of_ble_eq_true rfl) rfl ?_
  exact e55_22 hd _ _ _ _ _ _ _ _ H
def g72_24 (F : Nat) : Nat → Int32 → Int32 → Int32 → AmT → Option (Int32 × AmT)
  | 0, _, _, _, _ => none
  | n + 1, x1, x2, x3, S => if x2 ≤ x3 then (am_b2 (f76 F x1 0 x2 S) fun v6 S7 => some (v6, S7)) else ((f77 F x1 (x2 + x3) ((x2 - 1) - x3) S).bind fun S8 => g72_24 F n x1 x2 (x3 + 1) S8)
-- X5_halve
def f72 (F : Nat) (x1 : Int32) (S : AmT) : Option (Int32 × AmT) := (f131 F 2 S).bind fun S1 => am_b2 (f75 F x1 2 S1) fun v2 S3 => if 0 ≤ v2 then (g72_24 F F x1 v2 0 S3) else (some ((-17), S3))
set_option maxHeartbeats 1000000 in
set_option maxRecDepth 20000 in
theorem e72_24 {Lg : Nat} {xs : Nat → Int32} {d F : Nat} (hd : 2 ≤ d) : ∀ (n : Nat) (x1 : Int32) (x2 : Int32) (x3 : Int32) (S : AmT) (q : Int32 × AmT), g72_24 F n x1 x2 x3 S = some q → Ex (am_X Lg xs) d 72 am_c72_24 [.ref 24, .int x1, .int x2, .int x3] [] (hS S) (some q.1, hS q.2) := by
  obtain ⟨d, rfl⟩ : ∃ d2, d = d2 + 1 := ⟨d - 1, by omega⟩
  intro n
  induction n with
  | zero =>
    intro x1 x2 x3 S q H
    cases H
  | succ n ih =>
    intro x1 x2 x3 S q H
    have H : (if x2 ≤ x3 then (am_b2 (f76 F x1 0 x2 S) fun v6 S7 => some (v6, S7)) else ((f77 F x1 (x2 + x3) ((x2 - 1) - x3) S).bind fun S8 => g72_24 F n x1 x2 (x3 + 1) S8)) = some q := H
    refine ex_iload_n rfl ?_
    refine ex_iload_n rfl ?_
    by_cases h5 : x2 ≤ x3
    · rw [if_pos h5] at H
      refine ex_icmp_ge_j (ct := am_c72_48) h5 rfl ?_
      refine ex_aload_n rfl ?_
      refine ex_iload_n rfl ?_
      refine ex_iconst (v := 0) (by decide) ?_
      refine ex_iload_n rfl ?_
      obtain ⟨v6, S7, hp, H⟩ := am_b2_el H
      refine ex_callV rfl rfl (Nat.le_of_ble_eq_true rfl) (Nat.le_of_ble_eq_true rfl) rfl (r76 (by omega) hp) rfl ?_
      have H := Option.some.inj H
      subst H
      exact ex_iret (M := 72) (Or.inl rfl)
    · rw [if_neg h5] at H
      refine ex_icmp_ge_f h5 ?_
      refine ex_aload_n rfl ?_
      refine ex_iload_n rfl ?_
      refine ex_iload_n rfl ?_
      refine ex_iload_n rfl ?_
      refine ex_iadd ?_
      refine ex_iload_n rfl ?_
      refine ex_iconst (v := 1) (by decide) ?_
      refine ex_isub ?_
      refine ex_iload_n rfl ?_
      refine ex_isub ?_
      obtain ⟨S8, hp, H⟩ := Option.bind_eq_some_iff.mp H
      refine ex_callV rfl rfl (Nat.le_of_ble_eq_true rfl) (Nat.le_of_ble_eq_true rfl) rfl (r77 (by omega) hp) rfl ?_
      refine ex_iinc (L2 := [.ref 24, .int x1, .int x2, .int (x3 + 1)]) (v := (x3 + 1)) rfl (Nat.le_of_ble_eq_true rfl) (congrArg (fun z => x3 + z) (by decide)) rfl ?_
      refine ex_goto (ct := am_c72_24) rfl ?_
      exact ih _ _ _ _ _ H
set_option maxHeartbeats 1000000 in
set_option maxRecDepth 20000 in
theorem r72 {Lg : Nat} {xs : Nat → Int32} {d F : Nat} {x1 : Int32} {S : AmT} {q : Int32 × AmT} (hd : 2 ≤ d) (H : f72 F x1 S = some q) : Ex (am_X Lg xs) d 72 (am_P 72) (am_ini (am_Mi 72).1 [.ref 24, .int x1]) [] (hS S) (some q.1, hS q.2) := by
  obtain ⟨d, rfl⟩ : ∃ d2, d = d2 + 1 := ⟨d - 1, by omega⟩
  unfold f72 at H
  show Ex (am_X Lg xs) _ 72 am_c72_0 [.ref 24, .int x1, .long 0, .long 0] [] (hS S) (some q.1, hS q.2)
  refine ex_aload_n rfl ?_
  refine ex_getR (w := 5) rfl rfl rfl ?_
  refine ex_iconst (v := 2) (by decide) ?_
  obtain ⟨S1, hp, H⟩ := Option.bind_eq_some_iff.mp H
  refine ex_callV rfl rfl (Nat.le_of_ble_eq_true rfl) (Nat.le_of_ble_eq_true rfl) rfl (r131 (by omega) hp) rfl ?_
  refine ex_aload_n rfl ?_
  refine ex_iload_n rfl ?_
  refine ex_iconst (v := 2) (by decide) ?_
  obtain ⟨v2, S3, hp, H⟩ := am_b2_el H
  refine ex_callV rfl rfl (Nat.le_of_ble_eq_true rfl) (Nat.le_of_ble_eq_true rfl) rfl (r75 (by omega) hp) rfl ?_
  refine ex_istore_n (L2 := [.ref 24, .int x1, .int v2, .long 0]) (Nat.le_of_ble_eq_true rfl) rfl ?_
  refine ex_iload_n rfl ?_
  by_cases h4 : 0 ≤ v2
  · rw [if_pos h4] at H
    refine ex_if_ge_j (ct := am_c72_22) h4 rfl ?_
    refine ex_iconst (v := 0) (by decide) ?_
    refine ex_istore_n (L2 := [.ref 24, .int x1, .int v2, .int 0]) (Nat.le_of_ble_eq_true rfl) rfl ?_
    exact e72_24 hd _ _ _ _ _ _ H
  · rw [if_neg h4] at H
    refine ex_if_ge_f h4 ?_
    refine ex_bipush (v := (-17)) (by decide) ?_
    have H := Option.some.inj H
    subst H
    exact ex_iret (M := 72) (Or.inl rfl)
def g73_54 (F : Nat) : Nat → Int32 → Int32 → Int32 → AmT → Option (Int32 × AmT)
  | 0, _, _, _, _ => none
  | n + 1, x1, x2, x3, S => if x2 ≤ x3 then (am_b2 (f76 F x1 x2 x2 S) fun v7 S8 => some (v7, S8)) else ((f77 F x1 ((x2 - 1) - x3) (x2 + x3) S).bind fun S9 => g73_54 F n x1 x2 (x3 + 1) S9)
def g73_24 (F : Nat) : Nat → Int32 → Int32 → Int32 → AmT → Option (Int32 × AmT)
  | 0, _, _, _, _ => none
  | n + 1, x1, x2, x3, S => if x2 ≤ x3 then (g73_54 F F x1 x2 0 S) else ((f77 F x1 ((2 * x2) + x3) (((2 * x2) - 1) - x3) S).bind fun S10 => g73_24 F n x1 x2 (x3 + 1) S10)
-- X5_foldThird
def f73 (F : Nat) (x1 : Int32) (S : AmT) : Option (Int32 × AmT) := (f131 F 3 S).bind fun S1 => am_b2 (f75 F x1 3 S1) fun v2 S3 => if 0 ≤ v2 then (g73_24 F F x1 v2 0 S3) else (some ((-17), S3))
set_option maxHeartbeats 1000000 in
set_option maxRecDepth 20000 in
theorem e73_54 {Lg : Nat} {xs : Nat → Int32} {d F : Nat} (hd : 2 ≤ d) : ∀ (n : Nat) (x1 : Int32) (x2 : Int32) (x3 : Int32) (S : AmT) (q : Int32 × AmT), g73_54 F n x1 x2 x3 S = some q → Ex (am_X Lg xs) d 73 am_c73_54 [.ref 24, .int x1, .int x2, .int x3] [] (hS S) (some q.1, hS q.2) := by
  obtain ⟨d, rfl⟩ : ∃ d2, d = d2 + 1 := ⟨d - 1, by omega⟩
  intro n
  induction n with
  | zero =>
    intro x1 x2 x3 S q H
    cases H
  | succ n ih =>
    intro x1 x2 x3 S q H
    have H : (if x2 ≤ x3 then (am_b2 (f76 F x1 x2 x2 S) fun v7 S8 => some (v7, S8)) else ((f77 F x1 ((x2 - 1) - x3) (x2 + x3) S).bind fun S9 => g73_54 F n x1 x2 (x3 + 1) S9)) = some q := H
    refine ex_iload_n rfl ?_
    refine ex_iload_n rfl ?_
    by_cases h6 : x2 ≤ x3
    · rw [if_pos h6] at H
      refine ex_icmp_ge_j (ct := am_c73_78) h6 rfl ?_
      refine ex_aload_n rfl ?_
      refine ex_iload_n rfl ?_
      refine ex_iload_n rfl ?_
      refine ex_iload_n rfl ?_
      obtain ⟨v7, S8, hp, H⟩ := am_b2_el H
      refine ex_callV rfl rfl (Nat.le_of_ble_eq_true rfl) (Nat.le_of_ble_eq_true rfl) rfl (r76 (by omega) hp) rfl ?_
      have H := Option.some.inj H
      subst H
      exact ex_iret (M := 73) (Or.inl rfl)
    · rw [if_neg h6] at H
      refine ex_icmp_ge_f h6 ?_
      refine ex_aload_n rfl ?_
      refine ex_iload_n rfl ?_
      refine ex_iload_n rfl ?_
      refine ex_iconst (v := 1) (by decide) ?_
      refine ex_isub ?_
      refine ex_iload_n rfl ?_
      refine ex_isub ?_
      refine ex_iload_n rfl ?_
      refine ex_iload_n rfl ?_
      refine ex_iadd ?_
      obtain ⟨S9, hp, H⟩ := Option.bind_eq_some_iff.mp H
      refine ex_callV rfl rfl (Nat.le_of_ble_eq_true rfl) (Nat.le_of_ble_eq_true rfl) rfl (r77 (by omega) hp) rfl ?_
      refine ex_iinc (L2 := [.ref 24, .int x1, .int x2, .int (x3 + 1)]) (v := (x3 + 1)) rfl (Nat.le_of_ble_eq_true rfl) (congrArg (fun z => x3 + z) (by decide)) rfl ?_
      refine ex_goto (ct := am_c73_54) rfl ?_
      exact ih _ _ _ _ _ H
set_option maxHeartbeats 1000000 in
set_option maxRecDepth 20000 in
theorem e73_24 {Lg : Nat} {xs : Nat → Int32} {d F : Nat} (hd : 2 ≤ d) : ∀ (n : Nat) (x1 : Int32) (x2 : Int32) (x3 : Int32) (S : AmT) (q : Int32 × AmT), g73_24 F n x1 x2 x3 S = some q → Ex (am_X Lg xs) d 73 am_c73_24 [.ref 24, .int x1, .int x2, .int x3] [] (hS S) (some q.1, hS q.2) := by
  obtain ⟨d, rfl⟩ : ∃ d2, d = d2 + 1 := ⟨d - 1, by omega⟩
  intro n
  induction n with
  | zero =>
    intro x1 x2 x3 S q H
    cases H
  | succ n ih =>
    intro x1 x2 x3 S q H
    have H : (if x2 ≤ x3 then (g73_54 F F x1 x2 0 S) else ((f77 F x1 ((2 * x2) + x3) (((2 * x2) - 1) - x3) S).bind fun S10 => g73_24 F n x1 x2 (x3 + 1) S10)) = some q := H
    refine ex_iload_n rfl ?_
    refine ex_iload_n rfl ?_
    by_cases h5 : x2 ≤ x3
    · rw [if_pos h5] at H
      refine ex_icmp_ge_j (ct := am_c73_52) h5 rfl ?_
      refine ex_iconst (v := 0) (by decide) ?_
      refine ex_istore_n (L2 := [.ref 24, .int x1, .int x2, .int 0]) (Nat.le_of_ble_eq_true rfl) rfl ?_
      exact e73_54 hd _ _ _ _ _ _ H
    · rw [if_neg h5] at H
      refine ex_icmp_ge_f h5 ?_
      refine ex_aload_n rfl ?_
      refine ex_iload_n rfl ?_
      refine ex_iconst (v := 2) (by decide) ?_
      refine ex_iload_n rfl ?_
      refine ex_imul ?_
      refine ex_iload_n rfl ?_
      refine ex_iadd ?_
      refine ex_iconst (v := 2) (by decide) ?_
      refine ex_iload_n rfl ?_
      refine ex_imul ?_
      refine ex_iconst (v := 1) (by decide) ?_
      refine ex_isub ?_
      refine ex_iload_n rfl ?_
      refine ex_isub ?_
      obtain ⟨S10, hp, H⟩ := Option.bind_eq_some_iff.mp H
      refine ex_callV rfl rfl (Nat.le_of_ble_eq_true rfl) (Nat.le_of_ble_eq_true rfl) rfl (r77 (by omega) hp) rfl ?_
      refine ex_iinc (L2 := [.ref 24, .int x1, .int x2, .int (x3 + 1)]) (v := (x3 + 1)) rfl (Nat.le_of_ble_eq_true rfl) (congrArg (fun z => x3 + z) (by decide)) rfl ?_
      refine ex_goto (ct := am_c73_24) rfl ?_
      exact ih _ _ _ _ _ H
set_option maxHeartbeats 1000000 in
set_option maxRecDepth 20000 in
theorem r73 {Lg : Nat} {xs : Nat → Int32} {d F : Nat} {x1 : Int32} {S : AmT} {q : Int32 × AmT} (hd : 2 ≤ d) (H : f73 F x1 S = some q) : Ex (am_X Lg xs) d 73 (am_P 73) (am_ini (am_Mi 73).1 [.ref 24, .int x1]) [] (hS S) (some q.1, hS q.2) := by
  obtain ⟨d, rfl⟩ : ∃ d2, d = d2 + 1 := ⟨d - 1, by omega⟩
  unfold f73 at H
  show Ex (am_X Lg xs) _ 73 am_c73_0 [.ref 24, .int x1, .long 0, .long 0] [] (hS S) (some q.1, hS q.2)
  refine ex_aload_n rfl ?_
  refine ex_getR (w := 5) rfl rfl rfl ?_
  refine ex_iconst (v := 3) (by decide) ?_
  obtain ⟨S1, hp, H⟩ := Option.bind_eq_some_iff.mp H
  refine ex_callV rfl rfl (Nat.le_of_ble_eq_true rfl) (Nat.le_of_ble_eq_true rfl) rfl (r131 (by omega) hp) rfl ?_
  refine ex_aload_n rfl ?_
  refine ex_iload_n rfl ?_
  refine ex_iconst (v := 3) (by decide) ?_
  obtain ⟨v2, S3, hp, H⟩ := am_b2_el H
  refine ex_callV rfl rfl (Nat.le_of_ble_eq_true rfl) (Nat.le_of_ble_eq_true rfl) rfl (r75 (by omega) hp) rfl ?_
  refine ex_istore_n (L2 := [.ref 24, .int x1, .int v2, .long 0]) (Nat.le_of_ble_eq_true rfl) rfl ?_
  refine ex_iload_n rfl ?_
  by_cases h4 : 0 ≤ v2
  · rw [if_pos h4] at H
    refine ex_if_ge_j (ct := am_c73_22) h4 rfl ?_
    refine ex_iconst (v := 0) (by decide) ?_
    refine ex_istore_n (L2 := [.ref 24, .int x1, .int v2, .int 0]) (Nat.le_of_ble_eq_true rfl) rfl ?_
    exact e73_24 hd _ _ _ _ _ _ H
  · rw [if_neg h4] at H
    refine ex_if_ge_f h4 ?_
    refine ex_bipush (v := (-17)) (by decide) ?_
    have H := Option.some.inj H
    subst H
    exact ex_iret (M := 73) (Or.inl rfl)
