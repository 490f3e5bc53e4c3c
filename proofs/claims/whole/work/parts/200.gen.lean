/-! printed by wip/gen/gen20.py -/
-- X2_spotOf
def f39 (F : Nat) (x1 : Int32) (x2 : Int32) (S : AmT) : Option (Int32 × AmT) := some ((((x1 * 24) + x2) - 1), S)
set_option maxHeartbeats 1000000 in
set_option maxRecDepth 20000 in
theorem r39 {Lg : Nat} {xs : Nat → Int32} {d F : Nat} {x1 : Int32} {x2 : Int32} {S : AmT} {q : Int32 × AmT} (hd : 0 ≤ d) (H : f39 F x1 x2 S = some q) : Ex (am_X Lg xs) d 39 (am_P 39) (am_ini (am_Mi 39).1 [.ref 7, .int x1, .int x2]) [] (hS S) (some q.1, hS q.2) := by
  unfold f39 at H
  show Ex (am_X Lg xs) _ 39 am_c39_0 [.ref 7, .int x1, .int x2] [] (hS S) (some q.1, hS q.2)
  refine ex_iload_n rfl ?_
  refine ex_bipush (v := 24) (by decide) ?_
  refine ex_imul ?_
  refine ex_iload_n rfl ?_
  refine ex_iadd ?_
  refine ex_iconst (v := 1) (by decide) ?_
  refine ex_isub ?_
  have H := Option.some.inj H
  subst H
  exact ex_iret (M := 39) (Or.inl rfl)
-- X3_begin
def f58 (F : Nat) (S : AmT) : Option AmT := am_lt ((am_upI S.1 1 3 0, S.2) : AmT) fun S1 => am_lt ((am_upI S1.1 1 4 1, S1.2) : AmT) fun S2 => some S2
set_option maxHeartbeats 1000000 in
set_option maxRecDepth 20000 in
theorem r58 {Lg : Nat} {xs : Nat → Int32} {d F : Nat} {S : AmT} {q : AmT} (hd : 0 ≤ d) (H : f58 F S = some q) : Ex (am_X Lg xs) d 58 (am_P 58) (am_ini (am_Mi 58).1 [.ref 1]) [] (hS S) (none, hS q) := by
  unfold f58 at H
  show Ex (am_X Lg xs) _ 58 am_c58_0 [.ref 1] [] (hS S) (none, hS q)
  refine ex_aload_n rfl ?_
  refine ex_iconst (v := 0) (by decide) ?_
  refine ex_putI rfl (by decide) (fun z => absurd z.1 (by decide)) ?_
  generalize ((am_upI S.1 1 3 0, S.2) : AmT) = S1 at H ⊢
  have H := am_lt_el H
  refine ex_aload_n rfl ?_
  refine ex_iconst (v := 1) (by decide) ?_
  refine ex_putI rfl (by decide) (fun z => z.2 (by decide)) ?_
  generalize ((am_upI S1.1 1 4 1, S1.2) : AmT) = S2 at H ⊢
  have H := am_lt_el H
  have H := Option.some.inj H
  subst H
  exact ex_vret (M := 58) rfl
-- X5_sideAbove
def f66 (F : Nat) (x0 : Int32) (S : AmT) : Option (Int32 × AmT) := some (((x0 &&& 2) / 2), S)
set_option maxHeartbeats 1000000 in
set_option maxRecDepth 20000 in
theorem r66 {Lg : Nat} {xs : Nat → Int32} {d F : Nat} {x0 : Int32} {S : AmT} {q : Int32 × AmT} (hd : 0 ≤ d) (H : f66 F x0 S = some q) : Ex (am_X Lg xs) d 66 (am_P 66) (am_ini (am_Mi 66).1 [.int x0]) [] (hS S) (some q.1, hS q.2) := by
  unfold f66 at H
  show Ex (am_X Lg xs) _ 66 am_c66_0 [.int x0] [] (hS S) (some q.1, hS q.2)
  refine ex_iload_n rfl ?_
  refine ex_iconst (v := 2) (by decide) ?_
  refine ex_iand ?_
  refine ex_iconst (v := 2) (by decide) ?_
  refine ex_idiv (by decide) ?_
  have H := Option.some.inj H
  subst H
  exact ex_iret (M := 66) (Or.inl rfl)
-- X5_upOf
def f67 (F : Nat) (x0 : Int32) (S : AmT) : Option (Int32 × AmT) := some ((x0 &&& 1), S)
set_option maxHeartbeats 1000000 in
set_option maxRecDepth 20000 in
theorem r67 {Lg : Nat} {xs : Nat → Int32} {d F : Nat} {x0 : Int32} {S : AmT} {q : Int32 × AmT} (hd : 0 ≤ d) (H : f67 F x0 S = some q) : Ex (am_X Lg xs) d 67 (am_P 67) (am_ini (am_Mi 67).1 [.int x0]) [] (hS S) (some q.1, hS q.2) := by
  unfold f67 at H
  show Ex (am_X Lg xs) _ 67 am_c67_0 [.int x0] [] (hS S) (some q.1, hS q.2)
  refine ex_iload_n rfl ?_
  refine ex_iconst (v := 1) (by decide) ?_
  refine ex_iand ?_
  have H := Option.some.inj H
  subst H
  exact ex_iret (M := 67) (Or.inl rfl)
-- X5_rowOf
def f68 (F : Nat) (x0 : Int32) (S : AmT) : Option (Int32 × AmT) := some (((x0 / 4) / 8), S)
set_option maxHeartbeats 1000000 in
set_option maxRecDepth 20000 in
theorem r68 {Lg : Nat} {xs : Nat → Int32} {d F : Nat} {x0 : Int32} {S : AmT} {q : Int32 × AmT} (hd : 0 ≤ d) (H : f68 F x0 S = some q) : Ex (am_X Lg xs) d 68 (am_P 68) (am_ini (am_Mi 68).1 [.int x0]) [] (hS S) (some q.1, hS q.2) := by
  unfold f68 at H
  show Ex (am_X Lg xs) _ 68 am_c68_0 [.int x0] [] (hS S) (some q.1, hS q.2)
  refine ex_iload_n rfl ?_
  refine ex_iconst (v := 4) (by decide) ?_
  refine ex_idiv (by decide) ?_
  refine ex_bipush (v := 8) (by decide) ?_
  refine ex_idiv (by decide) ?_
  have H := Option.some.inj H
  subst H
  exact ex_iret (M := 68) (Or.inl rfl)
-- X5_columnOf
def f69 (F : Nat) (x0 : Int32) (S : AmT) : Option (Int32 × AmT) := some (((x0 / 4) - (x0 / 4) / 8 * 8), S)
set_option maxHeartbeats 1000000 in
set_option maxRecDepth 20000 in
theorem r69 {Lg : Nat} {xs : Nat → Int32} {d F : Nat} {x0 : Int32} {S : AmT} {q : Int32 × AmT} (hd : 0 ≤ d) (H : f69 F x0 S = some q) : Ex (am_X Lg xs) d 69 (am_P 69) (am_ini (am_Mi 69).1 [.int x0]) [] (hS S) (some q.1, hS q.2) := by
  unfold f69 at H
  show Ex (am_X Lg xs) _ 69 am_c69_0 [.int x0] [] (hS S) (some q.1, hS q.2)
  refine ex_iload_n rfl ?_
  refine ex_iconst (v := 4) (by decide) ?_
  refine ex_idiv (by decide) ?_
  refine ex_bipush (v := 8) (by decide) ?_
  refine ex_irem (by decide) ?_
  have H := Option.some.inj H
  subst H
  exact ex_iret (M := 69) (Or.inl rfl)
def g70_30 (F : Nat) : Nat → Int32 → AmT → Option AmT
  | 0, _, _ => none
  | n + 1, x3, S => if 64 ≤ x3 then (some S) else (am_ck x3 64 (am_lt ((am_upI S.1 27 x3.toNatClampNeg x3, S.2) : AmT) fun S6 => am_ck x3 64 (am_lt ((am_upI S6.1 28 x3.toNatClampNeg (-1), S6.2) : AmT) fun S7 => am_ck x3 64 (am_lt ((am_upI S7.1 29 x3.toNatClampNeg 0, S7.2) : AmT) fun S8 => g70_30 F n (x3 + 1) S8))))
-- X5_spread
def f70 (F : Nat) (x1 : Int32) (x2 : Int32) (S : AmT) : Option AmT := am_lt ((am_upI S.1 25 (0 : Int32).toNatClampNeg 0, S.2) : AmT) fun S1 => am_lt ((am_upI S1.1 25 (1 : Int32).toNatClampNeg 0, S1.2) : AmT) fun S2 => am_lt ((am_upI S2.1 26 (0 : Int32).toNatClampNeg x1, S2.2) : AmT) fun S3 => am_lt ((am_upI S3.1 26 (1 : Int32).toNatClampNeg x2, S3.2) : AmT) fun S4 => g70_30 F F 0 S4
set_option maxHeartbeats 1000000 in
set_option maxRecDepth 20000 in
theorem e70_30 {Lg : Nat} {xs : Nat → Int32} {d F : Nat} (hd : 0 ≤ d) : ∀ (n : Nat) (x3 : Int32) (w1 : Value) (w2 : Value) (S : AmT) (q : AmT), g70_30 F n x3 S = some q → Ex (am_X Lg xs) d 70 am_c70_30 [.ref 24, w1, w2, .int x3] [] (hS S) (none, hS q) := by
  intro n
  induction n with
  | zero =>
    intro x3 w1 w2 S q H
    cases H
  | succ n ih =>
    intro x3 w1 w2 S q H
    have H : (if 64 ≤ x3 then (some S) else (am_ck x3 64 (am_lt ((am_upI S.1 27 x3.toNatClampNeg x3, S.2) : AmT) fun S6 => am_ck x3 64 (am_lt ((am_upI S6.1 28 x3.toNatClampNeg (-1), S6.2) : AmT) fun S7 => am_ck x3 64 (am_lt ((am_upI S7.1 29 x3.toNatClampNeg 0, S7.2) : AmT) fun S8 => g70_30 F n (x3 + 1) S8))))) = some q := H
    refine ex_iload_n rfl ?_
    refine ex_bipush (v := 64) (by decide) ?_
    by_cases h5 : 64 ≤ x3
    · rw [if_pos h5] at H
      refine ex_icmp_ge_j (ct := am_c70_63) h5 rfl ?_
      have H := Option.some.inj H
      subst H
      exact ex_vret (M := 70) rfl
    · rw [if_neg h5] at H
      refine ex_icmp_ge_f h5 ?_
      refine ex_aload_n rfl ?_
      refine ex_getR (w := 27) rfl rfl rfl ?_
      refine ex_iload_n rfl ?_
      refine ex_iload_n rfl ?_
      obtain ⟨hj, H⟩ := am_ck_el H
      refine ex_iast (k := 64) rfl rfl hj ?_
      generalize ((am_upI S.1 27 x3.toNatClampNeg x3, S.2) : AmT) = S6 at H ⊢
      have H := am_lt_el H
      refine ex_aload_n rfl ?_
      refine ex_getR (w := 28) rfl rfl rfl ?_
      refine ex_iload_n rfl ?_
      refine ex_iconst (v := (-1)) (by decide) ?_
      obtain ⟨hj, H⟩ := am_ck_el H
      refine ex_iast (k := 64) rfl rfl hj ?_
      generalize ((am_upI S6.1 28 x3.toNatClampNeg (-1), S6.2) : AmT) = S7 at H ⊢
      have H := am_lt_el H
      refine ex_aload_n rfl ?_
      refine ex_getR (w := 29) rfl rfl rfl ?_
      refine ex_iload_n rfl ?_
      refine ex_iconst (v := 0) (by decide) ?_
      obtain ⟨hj, H⟩ := am_ck_el H
      refine ex_iast (k := 64) rfl rfl hj ?_
      generalize ((am_upI S7.1 29 x3.toNatClampNeg 0, S7.2) : AmT) = S8 at H ⊢
      have H := am_lt_el H
      refine ex_iinc (L2 := [.ref 24, w1, w2, .int (x3 + 1)]) (v := (x3 + 1)) rfl (Nat.le_of_ble_eq_true rfl) (congrArg (fun z => x3 + z) (by decide)) rfl ?_
      refine ex_goto (ct := am_c70_30) rfl ?_
      exact ih _ _ _ _ _ H
set_option maxHeartbeats 1000000 in
set_option maxRecDepth 20000 in
theorem r70 {Lg : Nat} {xs : Nat → Int32} {d F : Nat} {x1 : Int32} {x2 : Int32} {S : AmT} {q : AmT} (hd : 0 ≤ d) (H : f70 F x1 x2 S = some q) : Ex (am_X Lg xs) d 70 (am_P 70) (am_ini (am_Mi 70).1 [.ref 24, .int x1, .int x2]) [] (hS S) (none, hS q) := by
  unfold f70 at H
  show Ex (am_X Lg xs) _ 70 am_c70_0 [.ref 24, .int x1, .int x2, .long 0] [] (hS S) (none, hS q)
  refine ex_aload_n rfl ?_
  refine ex_getR (w := 25) rfl rfl rfl ?_
  refine ex_iconst (v := 0) (by decide) ?_
  refine ex_iconst (v := 0) (by decide) ?_
  refine ex_iast (k := 2) rfl rfl (by decide) ?_
  generalize ((am_upI S.1 25 (0 : Int32).toNatClampNeg 0, S.2) : AmT) = S1 at H ⊢
  have H := am_lt_el H
  refine ex_aload_n rfl ?_
  refine ex_getR (w := 25) rfl rfl rfl ?_
  refine ex_iconst (v := 1) (by decide) ?_
  refine ex_iconst (v := 0) (by decide) ?_
  refine ex_iast (k := 2) rfl rfl (by decide) ?_
  generalize ((am_upI S1.1 25 (1 : Int32).toNatClampNeg 0, S1.2) : AmT) = S2 at H ⊢
  have H := am_lt_el H
  refine ex_aload_n rfl ?_
  refine ex_getR (w := 26) rfl rfl rfl ?_
  refine ex_iconst (v := 0) (by decide) ?_
  refine ex_iload_n rfl ?_
  refine ex_iast (k := 2) rfl rfl (by decide) ?_
  generalize ((am_upI S2.1 26 (0 : Int32).toNatClampNeg x1, S2.2) : AmT) = S3 at H ⊢
  have H := am_lt_el H
  refine ex_aload_n rfl ?_
  refine ex_getR (w := 26) rfl rfl rfl ?_
  refine ex_iconst (v := 1) (by decide) ?_
  refine ex_iload_n rfl ?_
  refine ex_iast (k := 2) rfl rfl (by decide) ?_
  generalize ((am_upI S3.1 26 (1 : Int32).toNatClampNeg x2, S3.2) : AmT) = S4 at H ⊢
  have H := am_lt_el H
  refine ex_iconst (v := 0) (by decide) ?_
  refine ex_istore_n (L2 := [.ref 24, .int x1, .int x2, .int 0]) (Nat.le_of_ble_eq_true rfl) rfl ?_
  exact e70_30 hd _ _ _ _ _ _ H
-- X5_isOnePile
def f71 (F : Nat) (S : AmT) : Option (Int32 × AmT) := if (S.1 26 0) = 1 then (if (S.1 26 1) = 1 then (some (1, S)) else (some (0, S))) else (some (0, S))
set_option maxHeartbeats 1000000 in
set_option maxRecDepth 20000 in
theorem r71 {Lg : Nat} {xs : Nat → Int32} {d F : Nat} {S : AmT} {q : Int32 × AmT} (hd : 0 ≤ d) (H : f71 F S = some q) : Ex (am_X Lg xs) d 71 (am_P 71) (am_ini (am_Mi 71).1 [.ref 24]) [] (hS S) (some q.1, hS q.2) := by
  unfold f71 at H
  show Ex (am_X Lg xs) _ 71 am_c71_0 [.ref 24] [] (hS S) (some q.1, hS q.2)
  refine ex_aload_n rfl ?_
  refine ex_getR (w := 26) rfl rfl rfl ?_
  refine ex_iconst (v := 0) (by decide) ?_
  refine ex_iald (v := S.1 26 0) rfl (by decide) rfl ?_
  refine ex_iconst (v := 1) (by decide) ?_
  by_cases h1 : (S.1 26 0) = 1
  · rw [if_pos h1] at H
    refine ex_icmp_ne_f h1 ?_
    refine ex_aload_n rfl ?_
    refine ex_getR (w := 26) rfl rfl rfl ?_
    refine ex_iconst (v := 1) (by decide) ?_
    refine ex_iald (v := S.1 26 1) rfl (by decide) rfl ?_
    refine ex_iconst (v := 1) (by decide) ?_
    by_cases h2 : (S.1 26 1) = 1
    · rw [if_pos h2] at H
      refine ex_icmp_ne_f h2 ?_
      refine ex_iconst (v := 1) (by decide) ?_
      refine ex_goto (ct := am_c71_25) rfl ?_
      have H := Option.some.inj H
      subst H
      exact ex_iret (M := 71) (Or.inr ⟨rfl, by decide⟩)
    · rw [if_neg h2] at H
      refine ex_icmp_ne_j (ct := am_c71_24) h2 rfl ?_
      refine ex_iconst (v := 0) (by decide) ?_
      have H := Option.some.inj H
      subst H
      exact ex_iret (M := 71) (Or.inr ⟨rfl, by decide⟩)
  · rw [if_neg h1] at H
    refine ex_icmp_ne_j (ct := am_c71_24) h1 rfl ?_
    refine ex_iconst (v := 0) (by decide) ?_
    have H := Option.some.inj H
    subst H
    exact ex_iret (M := 71) (Or.inr ⟨rfl, by decide⟩)
def g75_26 (F : Nat) (S : AmT) : Option (Int32 × AmT) := some ((-17), S)
def g75_13 (F : Nat) (x2 : Int32) (s1 : Int32) (S : AmT) : Option (Int32 × AmT) := am_ck s1 2 (if x2 < 1 then (g75_26 F S) else (am_nz x2 (if ((S.1 26 s1.toNatClampNeg) - (S.1 26 s1.toNatClampNeg) / x2 * x2) = 0 then (am_nz x2 (some (((S.1 26 s1.toNatClampNeg) / x2), S))) else (g75_26 F S))))
-- X5_share
def f75 (F : Nat) (x1 : Int32) (x2 : Int32) (S : AmT) : Option (Int32 × AmT) := if x1 = 0 then (g75_13 F x2 0 S) else (g75_13 F x2 1 S)
set_option maxHeartbeats 1000000 in
set_option maxRecDepth 20000 in
theorem e75_26 {Lg : Nat} {xs : Nat → Int32} {d F : Nat} {w0 : Value} {w1 : Value} {w2 : Value} {w3 : Value} {S : AmT} {q : Int32 × AmT} (hd : 0 ≤ d) (H : g75_26 F S = some q) : Ex (am_X Lg xs) d 75 am_c75_26 [w0, w1, w2, w3] [] (hS S) (some q.1, hS q.2) := by
  unfold g75_26 at H
  refine ex_bipush (v := (-17)) (by decide) ?_
  refine ex_goto (ct := am_c75_34) rfl ?_
  have H := Option.some.inj H
  subst H
  exact ex_iret (M := 75) (Or.inl rfl)
set_option maxHeartbeats 1000000 in
set_option maxRecDepth 20000 in
theorem e75_13 {Lg : Nat} {xs : Nat → Int32} {d F : Nat} {x2 : Int32} {s1 : Int32} {w0 : Value} {w1 : Value} {w3 : Value} {S : AmT} {q : Int32 × AmT} (hd : 0 ≤ d) (H : g75_13 F x2 s1 S = some q) : Ex (am_X Lg xs) d 75 am_c75_13 [w0, w1, .int x2, w3] [.int s1, .ref 26] (hS S) (some q.1, hS q.2) := by
  unfold g75_13 at H
  obtain ⟨hj, H⟩ := am_ck_el H
  refine ex_iald (k := 2) (v := S.1 26 s1.toNatClampNeg) rfl hj rfl ?_
  refine ex_istore_n (L2 := [w0, w1, .int x2, .int (S.1 26 s1.toNatClampNeg)]) (Nat.le_of_ble_eq_true rfl) rfl ?_
  refine ex_iload_n rfl ?_
  refine ex_iconst (v := 1) (by decide) ?_
  by_cases h2 : x2 < 1
  · rw [if_pos h2] at H
    refine ex_icmp_lt_j (ct := am_c75_26) h2 rfl ?_
    exact e75_26 hd H
  · rw [if_neg h2] at H
    refine ex_icmp_lt_f h2 ?_
    refine ex_iload_n rfl ?_
    refine ex_iload_n rfl ?_
    obtain ⟨hz, H⟩ := am_nz_el H
    refine ex_irem hz ?_
    by_cases h3 : ((S.1 26 s1.toNatClampNeg) - (S.1 26 s1.toNatClampNeg) / x2 * x2) = 0
    · rw [if_pos h3] at H
      refine ex_if_eq_j (ct := am_c75_31) h3 rfl ?_
      refine ex_iload_n rfl ?_
      refine ex_iload_n rfl ?_
      obtain ⟨hz, H⟩ := am_nz_el H
      refine ex_idiv hz ?_
      have H := Option.some.inj H
      subst H
      exact ex_iret (M := 75) (Or.inl rfl)
    · rw [if_neg h3] at H
      refine ex_if_eq_f h3 ?_
      exact e75_26 hd H
set_option maxHeartbeats 1000000 in
set_option maxRecDepth 20000 in
theorem r75 {Lg : Nat} {xs : Nat → Int32} {d F : Nat} {x1 : Int32} {x2 : Int32} {S : AmT} {q : Int32 × AmT} (hd : 0 ≤ d) (H : f75 F x1 x2 S = some q) : Ex (am_X Lg xs) d 75 (am_P 75) (am_ini (am_Mi 75).1 [.ref 24, .int x1, .int x2]) [] (hS S) (some q.1, hS q.2) := by
  unfold f75 at H
  show Ex (am_X Lg xs) _ 75 am_c75_0 [.ref 24, .int x1, .int x2, .long 0] [] (hS S) (some q.1, hS q.2)
  refine ex_aload_n rfl ?_
  refine ex_getR (w := 26) rfl rfl rfl ?_
  refine ex_iload_n rfl ?_
  by_cases h1 : x1 = 0
  · rw [if_pos h1] at H
    refine ex_if_ne_f h1 ?_
    refine ex_iconst (v := 0) (by decide) ?_
    refine ex_goto (ct := am_c75_13) rfl ?_
    exact e75_13 hd H
  · rw [if_neg h1] at H
    refine ex_if_ne_j (ct := am_c75_12) h1 rfl ?_
    refine ex_iconst (v := 1) (by decide) ?_
    exact e75_13 hd H
def g76_9 (F : Nat) (x2 : Int32) (x3 : Int32) (s0 : Int32) (S : AmT) : Option (Int32 × AmT) := am_ck s0 2 (am_ck s0 2 (am_lt ((am_upI S.1 25 s0.toNatClampNeg ((S.1 25 s0.toNatClampNeg) + x2), S.2) : AmT) fun S2 => am_ck s0 2 (am_lt ((am_upI S2.1 26 s0.toNatClampNeg x3, S2.2) : AmT) fun S3 => some (1, S3))))
-- X5_narrow
def f76 (F : Nat) (x1 : Int32) (x2 : Int32) (x3 : Int32) (S : AmT) : Option (Int32 × AmT) := if x1 = 0 then (g76_9 F x2 x3 0 S) else (g76_9 F x2 x3 1 S)
set_option maxHeartbeats 1000000 in
set_option maxRecDepth 20000 in
theorem e76_9 {Lg : Nat} {xs : Nat → Int32} {d F : Nat} {x2 : Int32} {x3 : Int32} {s0 : Int32} {w1 : Value} {w4 : Value} {S : AmT} {q : Int32 × AmT} (hd : 0 ≤ d) (H : g76_9 F x2 x3 s0 S = some q) : Ex (am_X Lg xs) d 76 am_c76_9 [.ref 24, w1, .int x2, .int x3, w4] [.int s0] (hS S) (some q.1, hS q.2) := by
  unfold g76_9 at H
  refine ex_istore (L2 := [.ref 24, w1, .int x2, .int x3, .int s0]) (Nat.le_of_ble_eq_true rfl) rfl ?_
  refine ex_aload_n rfl ?_
  refine ex_getR (w := 25) rfl rfl rfl ?_
  refine ex_iload rfl ?_
  refine ex_dup2 ?_
  obtain ⟨hj, H⟩ := am_ck_el H
  refine ex_iald (k := 2) (v := S.1 25 s0.toNatClampNeg) rfl hj rfl ?_
  refine ex_iload_n rfl ?_
  refine ex_iadd ?_
  obtain ⟨hj, H⟩ := am_ck_el H
  refine ex_iast (k := 2) rfl rfl hj ?_
  generalize ((am_upI S.1 25 s0.toNatClampNeg ((S.1 25 s0.toNatClampNeg) + x2), S.2) : AmT) = S2 at H ⊢
  have H := am_lt_el H
  refine ex_aload_n rfl ?_
  refine ex_getR (w := 26) rfl rfl rfl ?_
  refine ex_iload rfl ?_
  refine ex_iload_n rfl ?_
  obtain ⟨hj, H⟩ := am_ck_el H
  refine ex_iast (k := 2) rfl rfl hj ?_
  generalize ((am_upI S2.1 26 s0.toNatClampNeg x3, S2.2) : AmT) = S3 at H ⊢
  have H := am_lt_el H
  refine ex_iconst (v := 1) (by decide) ?_
  have H := Option.some.inj H
  subst H
  exact ex_iret (M := 76) (Or.inl rfl)
set_option maxHeartbeats 1000000 in
set_option maxRecDepth 20000 in
theorem r76 {Lg : Nat} {xs : Nat → Int32} {d F : Nat} {x1 : Int32} {x2 : Int32} {x3 : Int32} {S : AmT} {q : Int32 × AmT} (hd : 0 ≤ d) (H : f76 F x1 x2 x3 S = some q) : Ex (am_X Lg xs) d 76 (am_P 76) (am_ini (am_Mi 76).1 [.ref 24, .int x1, .int x2, .int x3]) [] (hS S) (some q.1, hS q.2) := by
  unfold f76 at H
  show Ex (am_X Lg xs) _ 76 am_c76_0 [.ref 24, .int x1, .int x2, .int x3, .long 0] [] (hS S) (some q.1, hS q.2)
  refine ex_iload_n rfl ?_
  by_cases h1 : x1 = 0
  · rw [if_pos h1] at H
    refine ex_if_ne_f h1 ?_
    refine ex_iconst (v := 0) (by decide) ?_
    refine ex_goto (ct := am_c76_9) rfl ?_
    exact e76_9 hd H
  · rw [if_neg h1] at H
    refine ex_if_ne_j (ct := am_c76_8) h1 rfl ?_
    refine ex_iconst (v := 1) (by decide) ?_
    exact e76_9 hd H
def g78_31 (F : Nat) (S : AmT) : Option (Int32 × AmT) := some (0, S)
-- X5_placeOf
def f78 (F : Nat) (x1 : Int32) (x2 : Int32) (S : AmT) : Option (Int32 × AmT) := if (((((S.1 25 0) + x1) * 8) + (S.1 25 1)) + x2) < 0 then (g78_31 F S) else (if (((((S.1 25 0) + x1) * 8) + (S.1 25 1)) + x2) < 64 then (some ((((((S.1 25 0) + x1) * 8) + (S.1 25 1)) + x2), S)) else (g78_31 F S))
set_option maxHeartbeats 1000000 in
set_option maxRecDepth 20000 in
theorem e78_31 {Lg : Nat} {xs : Nat → Int32} {d F : Nat} {w0 : Value} {w1 : Value} {w2 : Value} {w3 : Value} {S : AmT} {q : Int32 × AmT} (hd : 0 ≤ d) (H : g78_31 F S = some q) : Ex (am_X Lg xs) d 78 am_c78_31 [w0, w1, w2, w3] [] (hS S) (some q.1, hS q.2) := by
  unfold g78_31 at H
  refine ex_iconst (v := 0) (by decide) ?_
  refine ex_goto (ct := am_c78_36) rfl ?_
  have H := Option.some.inj H
  subst H
  exact ex_iret (M := 78) (Or.inl rfl)
set_option maxHeartbeats 1000000 in
set_option maxRecDepth 20000 in
theorem r78 {Lg : Nat} {xs : Nat → Int32} {d F : Nat} {x1 : Int32} {x2 : Int32} {S : AmT} {q : Int32 × AmT} (hd : 0 ≤ d) (H : f78 F x1 x2 S = some q) : Ex (am_X Lg xs) d 78 (am_P 78) (am_ini (am_Mi 78).1 [.ref 24, .int x1, .int x2]) [] (hS S) (some q.1, hS q.2) := by
  unfold f78 at H
  show Ex (am_X Lg xs) _ 78 am_c78_0 [.ref 24, .int x1, .int x2, .long 0] [] (hS S) (some q.1, hS q.2)
  refine ex_aload_n rfl ?_
  refine ex_getR (w := 25) rfl rfl rfl ?_
  refine ex_iconst (v := 0) (by decide) ?_
  refine ex_iald (v := S.1 25 0) rfl (by decide) rfl ?_
  refine ex_iload_n rfl ?_
  refine ex_iadd ?_
  refine ex_bipush (v := 8) (by decide) ?_
  refine ex_imul ?_
  refine ex_aload_n rfl ?_
  refine ex_getR (w := 25) rfl rfl rfl ?_
  refine ex_iconst (v := 1) (by decide) ?_
  refine ex_iald (v := S.1 25 1) rfl (by decide) rfl ?_
  refine ex_iadd ?_
  refine ex_iload_n rfl ?_
  refine ex_iadd ?_
  refine ex_istore_n (L2 := [.ref 24, .int x1, .int x2, .int (((((S.1 25 0) + x1) * 8) + (S.1 25 1)) + x2)]) (Nat.le_of_ble_eq_true rfl) rfl ?_
  refine ex_iload_n rfl ?_
  by_cases h1 : (((((S.1 25 0) + x1) * 8) + (S.1 25 1)) + x2) < 0
  · rw [if_pos h1] at H
    refine ex_if_lt_j (ct := am_c78_31) h1 rfl ?_
    exact e78_31 hd H
  · rw [if_neg h1] at H
    refine ex_if_lt_f h1 ?_
    refine ex_iload_n rfl ?_
    refine ex_bipush (v := 64) (by decide) ?_
    by_cases h2 : (((((S.1 25 0) + x1) * 8) + (S.1 25 1)) + x2) < 64
    · rw [if_pos h2] at H
      refine ex_icmp_lt_j (ct := am_c78_35) h2 rfl ?_
      refine ex_iload_n rfl ?_
      have H := Option.some.inj H
      subst H
      exact ex_iret (M := 78) (Or.inl rfl)
    · rw [if_neg h2] at H
      refine ex_icmp_lt_f h2 ?_
      exact e78_31 hd H
-- X7_rowSpot
def f100 (F : Nat) (x0 : Int32) (x1 : Int32) (x2 : Int32) (S : AmT) : Option (Int32 × AmT) := some (((((x0 * 2) + x1) * 8) + x2), S)
set_option maxHeartbeats 1000000 in
set_option maxRecDepth 20000 in
theorem r100 {Lg : Nat} {xs : Nat → Int32} {d F : Nat} {x0 : Int32} {x1 : Int32} {x2 : Int32} {S : AmT} {q : Int32 × AmT} (hd : 0 ≤ d) (H : f100 F x0 x1 x2 S = some q) : Ex (am_X Lg xs) d 100 (am_P 100) (am_ini (am_Mi 100).1 [.int x0, .int x1, .int x2]) [] (hS S) (some q.1, hS q.2) := by
  unfold f100 at H
  show Ex (am_X Lg xs) _ 100 am_c100_0 [.int x0, .int x1, .int x2] [] (hS S) (some q.1, hS q.2)
  refine ex_iload_n rfl ?_
  refine ex_iconst (v := 2) (by decide) ?_
  refine ex_imul ?_
  refine ex_iload_n rfl ?_
  refine ex_iadd ?_
  refine ex_bipush (v := 8) (by decide) ?_
  refine ex_imul ?_
  refine ex_iload_n rfl ?_
  refine ex_iadd ?_
  have H := Option.some.inj H
  subst H
  exact ex_iret (M := 100) (Or.inl rfl)
-- X8_findingOf
def f130 (F : Nat) (x0 : Int32) (S : AmT) : Option (Int32 × AmT) := some (((-10) - x0), S)
set_option maxHeartbeats 1000000 in
set_option maxRecDepth 20000 in
theorem r130 {Lg : Nat} {xs : Nat → Int32} {d F : Nat} {x0 : Int32} {S : AmT} {q : Int32 × AmT} (hd : 0 ≤ d) (H : f130 F x0 S = some q) : Ex (am_X Lg xs) d 130 (am_P 130) (am_ini (am_Mi 130).1 [.int x0]) [] (hS S) (some q.1, hS q.2) := by
  unfold f130 at H
  show Ex (am_X Lg xs) _ 130 am_c130_0 [.int x0] [] (hS S) (some q.1, hS q.2)
  refine ex_bipush (v := (-10)) (by decide) ?_
  refine ex_iload_n rfl ?_
  refine ex_isub ?_
  have H := Option.some.inj H
  subst H
  exact ex_iret (M := 130) (Or.inl rfl)
-- X8_counted
def f133 (F : Nat) (x1 : Int32) (S : AmT) : Option (Int32 × AmT) := if x1 = 0 then (some ((S.1 5 2), S)) else if x1 = 1 then (some ((S.1 5 3), S)) else if x1 = 2 then (some ((S.1 5 4), S)) else if x1 = 3 then (some ((S.1 5 5), S)) else if x1 = 4 then (some ((S.1 5 6), S)) else (some ((S.1 5 1), S))
set_option maxHeartbeats 1000000 in
set_option maxRecDepth 20000 in
theorem r133 {Lg : Nat} {xs : Nat → Int32} {d F : Nat} {x1 : Int32} {S : AmT} {q : Int32 × AmT} (hd : 0 ≤ d) (H : f133 F x1 S = some q) : Ex (am_X Lg xs) d 133 (am_P 133) (am_ini (am_Mi 133).1 [.ref 5, .int x1]) [] (hS S) (some q.1, hS q.2) := by
  unfold f133 at H
  show Ex (am_X Lg xs) _ 133 am_c133_0 [.ref 5, .int x1] [] (hS S) (some q.1, hS q.2)
  refine ex_iload_n rfl ?_
  by_cases h1 : x1 = 0
  · rw [if_pos h1] at H
    refine ex_table (off := 35) (ct := am_c133_36) (by rw [h1]; decide) rfl ?_
    refine ex_aload_n rfl ?_
    refine ex_gI rfl (by decide) ?_
    have H := Option.some.inj H
    subst H
    exact ex_iret (M := 133) (Or.inl rfl)
  rw [if_neg h1] at H
  by_cases h2 : x1 = 1
  · rw [if_pos h2] at H
    refine ex_table (off := 40) (ct := am_c133_41) (by rw [h2]; decide) rfl ?_
    refine ex_aload_n rfl ?_
    refine ex_gI rfl (by decide) ?_
    have H := Option.some.inj H
    subst H
    exact ex_iret (M := 133) (Or.inl rfl)
  rw [if_neg h2] at H
  by_cases h3 : x1 = 2
  · rw [if_pos h3] at H
    refine ex_table (off := 45) (ct := am_c133_46) (by rw [h3]; decide) rfl ?_
    refine ex_aload_n rfl ?_
    refine ex_gI rfl (by decide) ?_
    have H := Option.some.inj H
    subst H
    exact ex_iret (M := 133) (Or.inl rfl)
  rw [if_neg h3] at H
  by_cases h4 : x1 = 3
  · rw [if_pos h4] at H
    refine ex_table (off := 50) (ct := am_c133_51) (by rw [h4]; decide) rfl ?_
    refine ex_aload_n rfl ?_
    refine ex_gI rfl (by decide) ?_
    have H := Option.some.inj H
    subst H
    exact ex_iret (M := 133) (Or.inl rfl)
  rw [if_neg h4] at H
  by_cases h5 : x1 = 4
  · rw [if_pos h5] at H
    refine ex_table (off := 55) (ct := am_c133_56) (by rw [h5]; decide) rfl ?_
    refine ex_aload_n rfl ?_
    refine ex_gI rfl (by decide) ?_
    have H := Option.some.inj H
    subst H
    exact ex_iret (M := 133) (Or.inl rfl)
  rw [if_neg h5] at H
  refine ex_table (off := 60) (ct := am_c133_61) (am_sw_out 5 (by decide) (by decide) (by decide) (fun k hk => match k, hk with | 0, _ => h1 | 1, _ => h2 | 2, _ => h3 | 3, _ => h4 | 4, _ => h5 | k + 5, hk => absurd hk (by omega))) rfl ?_
  refine ex_aload_n rfl ?_
  refine ex_gI rfl (by decide) ?_
  have H := Option.some.inj H
  subst H
  exact ex_iret (M := 133) (Or.inl rfl)
-- X8_countWork
def f134 (F : Nat) (S : AmT) : Option AmT := am_lt ((am_upI S.1 5 4 ((S.1 5 4) + 1), S.2) : AmT) fun S1 => some S1
set_option maxHeartbeats 1000000 in
set_option maxRecDepth 20000 in
theorem r134 {Lg : Nat} {xs : Nat → Int32} {d F : Nat} {S : AmT} {q : AmT} (hd : 0 ≤ d) (H : f134 F S = some q) : Ex (am_X Lg xs) d 134 (am_P 134) (am_ini (am_Mi 134).1 [.ref 5]) [] (hS S) (none, hS q) := by
  unfold f134 at H
  show Ex (am_X Lg xs) _ 134 am_c134_0 [.ref 5] [] (hS S) (none, hS q)
  refine ex_aload_n rfl ?_
  refine ex_dupr ?_
  refine ex_gI rfl (by decide) ?_
  refine ex_iconst (v := 1) (by decide) ?_
  refine ex_iadd ?_
  refine ex_putI rfl (by decide) (fun z => absurd z.1 (by decide)) ?_
  generalize ((am_upI S.1 5 4 ((S.1 5 4) + 1), S.2) : AmT) = S1 at H ⊢
  have H := am_lt_el H
  have H := Option.some.inj H
  subst H
  exact ex_vret (M := 134) rfl
-- X8_useInk
def f135 (F : Nat) (x1 : Int32) (S : AmT) : Option AmT := am_lt ((am_upI S.1 5 5 ((S.1 5 5) + x1), S.2) : AmT) fun S1 => some S1
set_option maxHeartbeats 1000000 in
set_option maxRecDepth 20000 in
theorem r135 {Lg : Nat} {xs : Nat → Int32} {d F : Nat} {x1 : Int32} {S : AmT} {q : AmT} (hd : 0 ≤ d) (H : f135 F x1 S = some q) : Ex (am_X Lg xs) d 135 (am_P 135) (am_ini (am_Mi 135).1 [.ref 5, .int x1]) [] (hS S) (none, hS q) := by
  unfold f135 at H
  show Ex (am_X Lg xs) _ 135 am_c135_0 [.ref 5, .int x1] [] (hS S) (none, hS q)
  refine ex_aload_n rfl ?_
  refine ex_dupr ?_
  refine ex_gI rfl (by decide) ?_
  refine ex_iload_n rfl ?_
  refine ex_iadd ?_
  refine ex_putI rfl (by decide) (fun z => absurd z.1 (by decide)) ?_
  generalize ((am_upI S.1 5 5 ((S.1 5 5) + x1), S.2) : AmT) = S1 at H ⊢
  have H := am_lt_el H
  have H := Option.some.inj H
  subst H
  exact ex_vret (M := 135) rfl
-- X8_giveNumber
def f136 (F : Nat) (S : AmT) : Option (Int32 × AmT) := am_lt ((am_upI S.1 5 6 ((S.1 5 6) + 1), S.2) : AmT) fun S1 => some (((S1.1 5 6) - 1), S1)
set_option maxHeartbeats 1000000 in
set_option maxRecDepth 20000 in
theorem r136 {Lg : Nat} {xs : Nat → Int32} {d F : Nat} {S : AmT} {q : Int32 × AmT} (hd : 0 ≤ d) (H : f136 F S = some q) : Ex (am_X Lg xs) d 136 (am_P 136) (am_ini (am_Mi 136).1 [.ref 5]) [] (hS S) (some q.1, hS q.2) := by
  unfold f136 at H
  show Ex (am_X Lg xs) _ 136 am_c136_0 [.ref 5] [] (hS S) (some q.1, hS q.2)
  refine ex_aload_n rfl ?_
  refine ex_dupr ?_
  refine ex_gI rfl (by decide) ?_
  refine ex_iconst (v := 1) (by decide) ?_
  refine ex_iadd ?_
  refine ex_putI rfl (by decide) (fun z => absurd z.1 (by decide)) ?_
  generalize ((am_upI S.1 5 6 ((S.1 5 6) + 1), S.2) : AmT) = S1 at H ⊢
  have H := am_lt_el H
  refine ex_aload_n rfl ?_
  refine ex_gI rfl (by decide) ?_
  refine ex_iconst (v := 1) (by decide) ?_
  refine ex_isub ?_
  have H := Option.some.inj H
  subst H
  exact ex_iret (M := 136) (Or.inl rfl)
-- X8_beginMove
def f137 (F : Nat) (S : AmT) : Option AmT := am_lt ((am_upI S.1 5 7 0, S.2) : AmT) fun S1 => some S1
set_option maxHeartbeats 1000000 in
set_option maxRecDepth 20000 in
theorem r137 {Lg : Nat} {xs : Nat → Int32} {d F : Nat} {S : AmT} {q : AmT} (hd : 0 ≤ d) (H : f137 F S = some q) : Ex (am_X Lg xs) d 137 (am_P 137) (am_ini (am_Mi 137).1 [.ref 5]) [] (hS S) (none, hS q) := by
  unfold f137 at H
  show Ex (am_X Lg xs) _ 137 am_c137_0 [.ref 5] [] (hS S) (none, hS q)
  refine ex_aload_n rfl ?_
  refine ex_iconst (v := 0) (by decide) ?_
  refine ex_putI rfl (by decide) (fun z => absurd z.1 (by decide)) ?_
  generalize ((am_upI S.1 5 7 0, S.2) : AmT) = S1 at H ⊢
  have H := am_lt_el H
  have H := Option.some.inj H
  subst H
  exact ex_vret (M := 137) rfl
-- X8_countMovedRow
def f138 (F : Nat) (S : AmT) : Option AmT := am_lt ((am_upI S.1 5 7 ((S.1 5 7) + 1), S.2) : AmT) fun S1 => some S1
set_option maxHeartbeats 1000000 in
set_option maxRecDepth 20000 in
theorem r138 {Lg : Nat} {xs : Nat → Int32} {d F : Nat} {S : AmT} {q : AmT} (hd : 0 ≤ d) (H : f138 F S = some q) : Ex (am_X Lg xs) d 138 (am_P 138) (am_ini (am_Mi 138).1 [.ref 5]) [] (hS S) (none, hS q) := by
  unfold f138 at H
  show Ex (am_X Lg xs) _ 138 am_c138_0 [.ref 5] [] (hS S) (none, hS q)
  refine ex_aload_n rfl ?_
  refine ex_dupr ?_
  refine ex_gI rfl (by decide) ?_
  refine ex_iconst (v := 1) (by decide) ?_
  refine ex_iadd ?_
  refine ex_putI rfl (by decide) (fun z => absurd z.1 (by decide)) ?_
  generalize ((am_upI S.1 5 7 ((S.1 5 7) + 1), S.2) : AmT) = S1 at H ⊢
  have H := am_lt_el H
  have H := Option.some.inj H
  subst H
  exact ex_vret (M := 138) rfl
-- X8_movedRows
def f139 (F : Nat) (S : AmT) : Option (Int32 × AmT) := some ((S.1 5 7), S)
set_option maxHeartbeats 1000000 in
set_option maxRecDepth 20000 in
theorem r139 {Lg : Nat} {xs : Nat → Int32} {d F : Nat} {S : AmT} {q : Int32 × AmT} (hd : 0 ≤ d) (H : f139 F S = some q) : Ex (am_X Lg xs) d 139 (am_P 139) (am_ini (am_Mi 139).1 [.ref 5]) [] (hS S) (some q.1, hS q.2) := by
  unfold f139 at H
  show Ex (am_X Lg xs) _ 139 am_c139_0 [.ref 5] [] (hS S) (some q.1, hS q.2)
  refine ex_aload_n rfl ?_
  refine ex_gI rfl (by decide) ?_
  have H := Option.some.inj H
  subst H
  exact ex_iret (M := 139) (Or.inl rfl)
def g162_23 (F : Nat) (S : AmT) : Option (Int32 × AmT) := some ((-13), S)
-- X9_gridFault
def f162 (F : Nat) (x0 : Int32) (x1 : Int32) (S : AmT) : Option (Int32 × AmT) := if 8 < x0 then (some ((-14), S)) else (if x1 ≤ 8 then (if x0 < 0 then (g162_23 F S) else (if 0 ≤ x1 then (some (1, S)) else (g162_23 F S))) else (some ((-14), S)))
set_option maxHeartbeats 1000000 in
set_option maxRecDepth 20000 in
theorem e162_23 {Lg : Nat} {xs : Nat → Int32} {d F : Nat} {w0 : Value} {w1 : Value} {S : AmT} {q : Int32 × AmT} (hd : 0 ≤ d) (H : g162_23 F S = some q) : Ex (am_X Lg xs) d 162 am_c162_23 [w0, w1] [] (hS S) (some q.1, hS q.2) := by
  unfold g162_23 at H
  refine ex_bipush (v := (-13)) (by decide) ?_
  refine ex_goto (ct := am_c162_29) rfl ?_
  have H := Option.some.inj H
  subst H
  exact ex_iret (M := 162) (Or.inl rfl)
set_option maxHeartbeats 1000000 in
set_option maxRecDepth 20000 in
theorem r162 {Lg : Nat} {xs : Nat → Int32} {d F : Nat} {x0 : Int32} {x1 : Int32} {S : AmT} {q : Int32 × AmT} (hd : 0 ≤ d) (H : f162 F x0 x1 S = some q) : Ex (am_X Lg xs) d 162 (am_P 162) (am_ini (am_Mi 162).1 [.int x0, .int x1]) [] (hS S) (some q.1, hS q.2) := by
  unfold f162 at H
  show Ex (am_X Lg xs) _ 162 am_c162_0 [.int x0, .int x1] [] (hS S) (some q.1, hS q.2)
  refine ex_iload_n rfl ?_
  refine ex_bipush (v := 8) (by decide) ?_
  by_cases h1 : 8 < x0
  · rw [if_pos h1] at H
    refine ex_icmp_gt_j (ct := am_c162_12) h1 rfl ?_
    refine ex_bipush (v := (-14)) (by decide) ?_
    have H := Option.some.inj H
    subst H
    exact ex_iret (M := 162) (Or.inl rfl)
  · rw [if_neg h1] at H
    refine ex_icmp_gt_f h1 ?_
    refine ex_iload_n rfl ?_
    refine ex_bipush (v := 8) (by decide) ?_
    by_cases h2 : x1 ≤ 8
    · rw [if_pos h2] at H
      refine ex_icmp_le_j (ct := am_c162_15) h2 rfl ?_
      refine ex_iload_n rfl ?_
      by_cases h3 : x0 < 0
      · rw [if_pos h3] at H
        refine ex_if_lt_j (ct := am_c162_23) h3 rfl ?_
        exact e162_23 hd H
      · rw [if_neg h3] at H
        refine ex_if_lt_f h3 ?_
        refine ex_iload_n rfl ?_
        by_cases h4 : 0 ≤ x1
        · rw [if_pos h4] at H
          refine ex_if_ge_j (ct := am_c162_28) h4 rfl ?_
          refine ex_iconst (v := 1) (by decide) ?_
          have H := Option.some.inj H
          subst H
          exact ex_iret (M := 162) (Or.inl rfl)
        · rw [if_neg h4] at H
          refine ex_if_ge_f h4 ?_
          exact e162_23 hd H
    · rw [if_neg h2] at H
      refine ex_icmp_le_f h2 ?_
      refine ex_bipush (v := (-14)) (by decide) ?_
      have H := Option.some.inj H
      subst H
      exact ex_iret (M := 162) (Or.inl rfl)
-- X9_within
def f194 (F : Nat) (x0 : Int32) (x1 : Int32) (x2 : Int32) (S : AmT) : Option (Int32 × AmT) := if x0 < x1 then (some (0, S)) else (if x2 < x0 then (some (0, S)) else (some (1, S)))
set_option maxHeartbeats 1000000 in
set_option maxRecDepth 20000 in
theorem r194 {Lg : Nat} {xs : Nat → Int32} {d F : Nat} {x0 : Int32} {x1 : Int32} {x2 : Int32} {S : AmT} {q : Int32 × AmT} (hd : 0 ≤ d) (H : f194 F x0 x1 x2 S = some q) : Ex (am_X Lg xs) d 194 (am_P 194) (am_ini (am_Mi 194).1 [.int x0, .int x1, .int x2]) [] (hS S) (some q.1, hS q.2) := by
  unfold f194 at H
  show Ex (am_X Lg xs) _ 194 am_c194_0 [.int x0, .int x1, .int x2] [] (hS S) (some q.1, hS q.2)
  refine ex_iload_n rfl ?_
  refine ex_iload_n rfl ?_
  by_cases h1 : x0 < x1
  · rw [if_pos h1] at H
    refine ex_icmp_lt_j (ct := am_c194_14) h1 rfl ?_
    refine ex_iconst (v := 0) (by decide) ?_
    have H := Option.some.inj H
    subst H
    exact ex_iret (M := 194) (Or.inr ⟨rfl, by decide⟩)
  · rw [if_neg h1] at H
    refine ex_icmp_lt_f h1 ?_
    refine ex_iload_n rfl ?_
    refine ex_iload_n rfl ?_
    by_cases h2 : x2 < x0
    · rw [if_pos h2] at H
      refine ex_icmp_gt_j (ct := am_c194_14) h2 rfl ?_
      refine ex_iconst (v := 0) (by decide) ?_
      have H := Option.some.inj H
      subst H
      exact ex_iret (M := 194) (Or.inr ⟨rfl, by decide⟩)
    · rw [if_neg h2] at H
      refine ex_icmp_gt_f h2 ?_
      refine ex_iconst (v := 1) (by decide) ?_
      refine ex_goto (ct := am_c194_15) rfl ?_
      have H := Option.some.inj H
      subst H
      exact ex_iret (M := 194) (Or.inr ⟨rfl, by decide⟩)
-- X10_isIn
def f197 (F : Nat) (x0 : Int32) (x1 : Int32) (x2 : Int32) (S : AmT) : Option (Int32 × AmT) := if x0 < x1 then (some (0, S)) else (if x2 < x0 then (some (0, S)) else (some (1, S)))
set_option maxHeartbeats 1000000 in
set_option maxRecDepth 20000 in
theorem r197 {Lg : Nat} {xs : Nat → Int32} {d F : Nat} {x0 : Int32} {x1 : Int32} {x2 : Int32} {S : AmT} {q : Int32 × AmT} (hd : 0 ≤ d) (H : f197 F x0 x1 x2 S = some q) : Ex (am_X Lg xs) d 197 (am_P 197) (am_ini (am_Mi 197).1 [.int x0, .int x1, .int x2]) [] (hS S) (some q.1, hS q.2) := by
  unfold f197 at H
  show Ex (am_X Lg xs) _ 197 am_c197_0 [.int x0, .int x1, .int x2] [] (hS S) (some q.1, hS q.2)
  refine ex_iload_n rfl ?_
  refine ex_iload_n rfl ?_
  by_cases h1 : x0 < x1
  · rw [if_pos h1] at H
    refine ex_icmp_lt_j (ct := am_c197_14) h1 rfl ?_
    refine ex_iconst (v := 0) (by decide) ?_
    have H := Option.some.inj H
    subst H
    exact ex_iret (M := 197) (Or.inr ⟨rfl, by decide⟩)
  · rw [if_neg h1] at H
    refine ex_icmp_lt_f h1 ?_
    refine ex_iload_n rfl ?_
    refine ex_iload_n rfl ?_
    by_cases h2 : x2 < x0
    · rw [if_pos h2] at H
      refine ex_icmp_gt_j (ct := am_c197_14) h2 rfl ?_
      refine ex_iconst (v := 0) (by decide) ?_
      have H := Option.some.inj H
      subst H
      exact ex_iret (M := 197) (Or.inr ⟨rfl, by decide⟩)
    · rw [if_neg h2] at H
      refine ex_icmp_gt_f h2 ?_
      refine ex_iconst (v := 1) (by decide) ?_
      refine ex_goto (ct := am_c197_15) rfl ?_
      have H := Option.some.inj H
      subst H
      exact ex_iret (M := 197) (Or.inr ⟨rfl, by decide⟩)
def g198c96_31 (F : Nat) (k2 : Int32 → Int32 → Int32 → AmT → Option AmT) (x1 : Int32) (x2 : Int32) (x3 : Int32) (s1 : Int32) (s3 : Int32) (S : AmT) : Option AmT := am_ck s3 32 (am_ck s1 32 (am_lt ((am_upI S.1 96 s1.toNatClampNeg (S.1 96 s3.toNatClampNeg), S.2) : AmT) fun S4 => k2 x1 x2 (x3 + 1) S4))
def g198c96_19 (F : Nat) (k2 : Int32 → Int32 → Int32 → AmT → Option AmT) (x1 : Int32) (x2 : Int32) (x3 : Int32) (s1 : Int32) (S : AmT) : Option AmT := if x2 = 0 then (g198c96_31 F k2 x1 x2 x3 s1 x3 S) else (g198c96_31 F k2 x1 x2 x3 s1 (x1 + x3) S)
def g198c96_2 (F : Nat) : Nat → Int32 → Int32 → Int32 → AmT → Option AmT
  | 0, _, _, _, _ => none
  | n + 1, x1, x2, x3, S => if x1 ≤ x3 then (some S) else (if x2 = 0 then (g198c96_19 F (fun x1 x2 x3 S => g198c96_2 F n x1 x2 x3 S) x1 x2 x3 (x1 + x3) S) else (g198c96_19 F (fun x1 x2 x3 S => g198c96_2 F n x1 x2 x3 S) x1 x2 x3 x3 S))
-- X10_keepRow
def f198c96 (F : Nat) (x1 : Int32) (x2 : Int32) (S : AmT) : Option AmT := g198c96_2 F F x1 x2 0 S
set_option maxHeartbeats 1000000 in
set_option maxRecDepth 20000 in
theorem e198c96_31 {Lg : Nat} {xs : Nat → Int32} {d F : Nat} {k2 : Int32 → Int32 → Int32 → AmT → Option AmT} {x1 : Int32} {x2 : Int32} {x3 : Int32} {s1 : Int32} {s3 : Int32} {S : AmT} {q : AmT} (hd : 0 ≤ d) (hk2 : ∀ (x1 : Int32) (x2 : Int32) (x3 : Int32) (S : AmT) (q : AmT), k2 x1 x2 x3 S = some q → Ex (am_X Lg xs) d 198 am_c198_2 [.ref 96, .int x1, .int x2, .int x3] [] (hS S) (none, hS q)) (H : g198c96_31 F k2 x1 x2 x3 s1 s3 S = some q) : Ex (am_X Lg xs) d 198 am_c198_31 [.ref 96, .int x1, .int x2, .int x3] [.int s3, .ref 96, .int s1, .ref 96] (hS S) (none, hS q) := by
  unfold g198c96_31 at H
  obtain ⟨hj, H⟩ := am_ck_el H
  refine ex_iald (k := 32) (v := S.1 96 s3.toNatClampNeg) rfl hj rfl ?_
  obtain ⟨hj, H⟩ := am_ck_el H
  refine ex_iast (k := 32) rfl rfl hj ?_
  generalize ((am_upI S.1 96 s1.toNatClampNeg (S.1 96 s3.toNatClampNeg), S.2) : AmT) = S4 at H ⊢
  have H := am_lt_el H
  refine ex_iinc (L2 := [.ref 96, .int x1, .int x2, .int (x3 + 1)]) (v := (x3 + 1)) rfl (Nat.le_of_ble_eq_true rfl) (congrArg (fun z => x3 + z) (by decide)) rfl ?_
  refine ex_goto (ct := am_c198_2) rfl ?_
  exact hk2 _ _ _ _ _ H
set_option maxHeartbeats 1000000 in
set_option maxRecDepth 20000 in
theorem e198c96_19 {Lg : Nat} {xs : Nat → Int32} {d F : Nat} {k2 : Int32 → Int32 → Int32 → AmT → Option AmT} {x1 : Int32} {x2 : Int32} {x3 : Int32} {s1 : Int32} {S : AmT} {q : AmT} (hd : 0 ≤ d) (hk2 : ∀ (x1 : Int32) (x2 : Int32) (x3 : Int32) (S : AmT) (q : AmT), k2 x1 x2 x3 S = some q → Ex (am_X Lg xs) d 198 am_c198_2 [.ref 96, .int x1, .int x2, .int x3] [] (hS S) (none, hS q)) (H : g198c96_19 F k2 x1 x2 x3 s1 S = some q) : Ex (am_X Lg xs) d 198 am_c198_19 [.ref 96, .int x1, .int x2, .int x3] [.int s1, .ref 96] (hS S) (none, hS q) := by
  unfold g198c96_19 at H
  refine ex_aload_n rfl ?_
  refine ex_iload_n rfl ?_
  by_cases h3 : x2 = 0
  · rw [if_pos h3] at H
    refine ex_if_eq_j (ct := am_c198_30) h3 rfl ?_
    refine ex_iload_n rfl ?_
    exact e198c96_31 hd hk2 H
  · rw [if_neg h3] at H
    refine ex_if_eq_f h3 ?_
    refine ex_iload_n rfl ?_
    refine ex_iload_n rfl ?_
    refine ex_iadd ?_
    refine ex_goto (ct := am_c198_31) rfl ?_
    exact e198c96_31 hd hk2 H
set_option maxHeartbeats 1000000 in
set_option maxRecDepth 20000 in
theorem e198c96_2 {Lg : Nat} {xs : Nat → Int32} {d F : Nat} (hd : 0 ≤ d) : ∀ (n : Nat) (x1 : Int32) (x2 : Int32) (x3 : Int32) (S : AmT) (q : AmT), g198c96_2 F n x1 x2 x3 S = some q → Ex (am_X Lg xs) d 198 am_c198_2 [.ref 96, .int x1, .int x2, .int x3] [] (hS S) (none, hS q) := by
  intro n
  induction n with
  | zero =>
    intro x1 x2 x3 S q H
    cases H
  | succ n ih =>
    intro x1 x2 x3 S q H
    have H : (if x1 ≤ x3 then (some S) else (if x2 = 0 then (g198c96_19 F (fun x1 x2 x3 S => g198c96_2 F n x1 x2 x3 S) x1 x2 x3 (x1 + x3) S) else (g198c96_19 F (fun x1 x2 x3 S => g198c96_2 F n x1 x2 x3 S) x1 x2 x3 x3 S))) = some q := H
    refine ex_iload_n rfl ?_
    refine ex_iload_n rfl ?_
    by_cases h1 : x1 ≤ x3
    · rw [if_pos h1] at H
      refine ex_icmp_ge_j (ct := am_c198_39) h1 rfl ?_
      have H := Option.some.inj H
      subst H
      exact ex_vret (M := 198) rfl
    · rw [if_neg h1] at H
      refine ex_icmp_ge_f h1 ?_
      refine ex_aload_n rfl ?_
      refine ex_iload_n rfl ?_
      by_cases h2 : x2 = 0
      · rw [if_pos h2] at H
        refine ex_if_eq_j (ct := am_c198_16) h2 rfl ?_
        refine ex_iload_n rfl ?_
        refine ex_iload_n rfl ?_
        refine ex_iadd ?_
        exact e198c96_19 hd (fun x1 x2 x3 S q H => ih x1 x2 x3 S q H) H
      · rw [if_neg h2] at H
        refine ex_if_eq_f h2 ?_
        refine ex_iload_n rfl ?_
        refine ex_goto (ct := am_c198_19) rfl ?_
        exact e198c96_19 hd (fun x1 x2 x3 S q H => ih x1 x2 x3 S q H) H
set_option maxHeartbeats 1000000 in
set_option maxRecDepth 20000 in
theorem r198c96 {Lg : Nat} {xs : Nat → Int32} {d F : Nat} {x1 : Int32} {x2 : Int32} {S : AmT} {q : AmT} (hd : 0 ≤ d) (H : f198c96 F x1 x2 S = some q) : Ex (am_X Lg xs) d 198 (am_P 198) (am_ini (am_Mi 198).1 [.ref 96, .int x1, .int x2]) [] (hS S) (none, hS q) := by
  unfold f198c96 at H
  show Ex (am_X Lg xs) _ 198 am_c198_0 [.ref 96, .int x1, .int x2, .long 0] [] (hS S) (none, hS q)
  refine ex_iconst (v := 0) (by decide) ?_
  refine ex_istore_n (L2 := [.ref 96, .int x1, .int x2, .int 0]) (Nat.le_of_ble_eq_true rfl) rfl ?_
  exact e198c96_2 hd _ _ _ _ _ _ H
def g198c97_31 (F : Nat) (k2 : Int32 → Int32 → Int32 → AmT → Option AmT) (x1 : Int32) (x2 : Int32) (x3 : Int32) (s1 : Int32) (s3 : Int32) (S : AmT) : Option AmT := am_ck s3 6 (am_ck s1 6 (am_lt ((am_upI S.1 97 s1.toNatClampNeg (S.1 97 s3.toNatClampNeg), S.2) : AmT) fun S4 => k2 x1 x2 (x3 + 1) S4))
def g198c97_19 (F : Nat) (k2 : Int32 → Int32 → Int32 → AmT → Option AmT) (x1 : Int32) (x2 : Int32) (x3 : Int32) (s1 : Int32) (S : AmT) : Option AmT := if x2 = 0 then (g198c97_31 F k2 x1 x2 x3 s1 x3 S) else (g198c97_31 F k2 x1 x2 x3 s1 (x1 + x3) S)
def g198c97_2 (F : Nat) : Nat → Int32 → Int32 → Int32 → AmT → Option AmT
  | 0, _, _, _, _ => none
  | n + 1, x1, x2, x3, S => if x1 ≤ x3 then (some S) else (if x2 = 0 then (g198c97_19 F (fun x1 x2 x3 S => g198c97_2 F n x1 x2 x3 S) x1 x2 x3 (x1 + x3) S) else (g198c97_19 F (fun x1 x2 x3 S => g198c97_2 F n x1 x2 x3 S) x1 x2 x3 x3 S))
-- X10_keepRow
def f198c97 (F : Nat) (x1 : Int32) (x2 : Int32) (S : AmT) : Option AmT := g198c97_2 F F x1 x2 0 S
set_option maxHeartbeats 1000000 in
set_option maxRecDepth 20000 in
theorem e198c97_31 {Lg : Nat} {xs : Nat → Int32} {d F : Nat} {k2 : Int32 → Int32 → Int32 → AmT → Option AmT} {x1 : Int32} {x2 : Int32} {x3 : Int32} {s1 : Int32} {s3 : Int32} {S : AmT} {q : AmT} (hd : 0 ≤ d) (hk2 : ∀ (x1 : Int32) (x2 : Int32) (x3 : Int32) (S : AmT) (q : AmT), k2 x1 x2 x3 S = some q → Ex (am_X Lg xs) d 198 am_c198_2 [.ref 97, .int x1, .int x2, .int x3] [] (hS S) (none, hS q)) (H : g198c97_31 F k2 x1 x2 x3 s1 s3 S = some q) : Ex (am_X Lg xs) d 198 am_c198_31 [.ref 97, .int x1, .int x2, .int x3] [.int s3, .ref 97, .int s1, .ref 97] (hS S) (none, hS q) := by
  unfold g198c97_31 at H
  obtain ⟨hj, H⟩ := am_ck_el H
  refine ex_iald (k := 6) (v := S.1 97 s3.toNatClampNeg) rfl hj rfl ?_
  obtain ⟨hj, H⟩ := am_ck_el H
  refine ex_iast (k := 6) rfl rfl hj ?_
  generalize ((am_upI S.1 97 s1.toNatClampNeg (S.1 97 s3.toNatClampNeg), S.2) : AmT) = S4 at H ⊢
  have H := am_lt_el H
  refine ex_iinc (L2 := [.ref 97, .int x1, .int x2, .int (x3 + 1)]) (v := (x3 + 1)) rfl (Nat.le_of_ble_eq_true rfl) (congrArg (fun z => x3 + z) (by decide)) rfl ?_
  refine ex_goto (ct := am_c198_2) rfl ?_
  exact hk2 _ _ _ _ _ H
set_option maxHeartbeats 1000000 in
set_option maxRecDepth 20000 in
theorem e198c97_19 {Lg : Nat} {xs : Nat → Int32} {d F : Nat} {k2 : Int32 → Int32 → Int32 → AmT → Option AmT} {x1 : Int32} {x2 : Int32} {x3 : Int32} {s1 : Int32} {S : AmT} {q : AmT} (hd : 0 ≤ d) (hk2 : ∀ (x1 : Int32) (x2 : Int32) (x3 : Int32) (S : AmT) (q : AmT), k2 x1 x2 x3 S = some q → Ex (am_X Lg xs) d 198 am_c198_2 [.ref 97, .int x1, .int x2, .int x3] [] (hS S) (none, hS q)) (H : g198c97_19 F k2 x1 x2 x3 s1 S = some q) : Ex (am_X Lg xs) d 198 am_c198_19 [.ref 97, .int x1, .int x2, .int x3] [.int s1, .ref 97] (hS S) (none, hS q) := by
  unfold g198c97_19 at H
  refine ex_aload_n rfl ?_
  refine ex_iload_n rfl ?_
  by_cases h3 : x2 = 0
  · rw [if_pos h3] at H
    refine ex_if_eq_j (ct := am_c198_30) h3 rfl ?_
    refine ex_iload_n rfl ?_
    exact e198c97_31 hd hk2 H
  · rw [if_neg h3] at H
    refine ex_if_eq_f h3 ?_
    refine ex_iload_n rfl ?_
    refine ex_iload_n rfl ?_
    refine ex_iadd ?_
    refine ex_goto (ct := am_c198_31) rfl ?_
    exact e198c97_31 hd hk2 H
set_option maxHeartbeats 1000000 in
set_option maxRecDepth 20000 in
theorem e198c97_2 {Lg : Nat} {xs : Nat → Int32} {d F : Nat} (hd : 0 ≤ d) : ∀ (n : Nat) (x1 : Int32) (x2 : Int32) (x3 : Int32) (S : AmT) (q : AmT), g198c97_2 F n x1 x2 x3 S = some q → Ex (am_X Lg xs) d 198 am_c198_2 [.ref 97, .int x1, .int x2, .int x3] [] (hS S) (none, hS q) := by
  intro n
  induction n with
  | zero =>
    intro x1 x2 x3 S q H
    cases H
  | succ n ih =>
    intro x1 x2 x3 S q H
    have H : (if x1 ≤ x3 then (some S) else (if x2 = 0 then (g198c97_19 F (fun x1 x2 x3 S => g198c97_2 F n x1 x2 x3 S) x1 x2 x3 (x1 + x3) S) else (g198c97_19 F (fun x1 x2 x3 S => g198c97_2 F n x1 x2 x3 S) x1 x2 x3 x3 S))) = some q := H
    refine ex_iload_n rfl ?_
    refine ex_iload_n rfl ?_
    by_cases h1 : x1 ≤ x3
    · rw [if_pos h1] at H
      refine ex_icmp_ge_j (ct := am_c198_39) h1 rfl ?_
      have H := Option.some.inj H
      subst H
      exact ex_vret (M := 198) rfl
    · rw [if_neg h1] at H
      refine ex_icmp_ge_f h1 ?_
      refine ex_aload_n rfl ?_
      refine ex_iload_n rfl ?_
      by_cases h2 : x2 = 0
      · rw [if_pos h2] at H
        refine ex_if_eq_j (ct := am_c198_16) h2 rfl ?_
        refine ex_iload_n rfl ?_
        refine ex_iload_n rfl ?_
        refine ex_iadd ?_
        exact e198c97_19 hd (fun x1 x2 x3 S q H => ih x1 x2 x3 S q H) H
      · rw [if_neg h2] at H
        refine ex_if_eq_f h2 ?_
        refine ex_iload_n rfl ?_
        refine ex_goto (ct := am_c198_19) rfl ?_
        exact e198c97_19 hd (fun x1 x2 x3 S q H => ih x1 x2 x3 S q H) H
set_option maxHeartbeats 1000000 in
set_option maxRecDepth 20000 in
theorem r198c97 {Lg : Nat} {xs : Nat → Int32} {d F : Nat} {x1 : Int32} {x2 : Int32} {S : AmT} {q : AmT} (hd : 0 ≤ d) (H : f198c97 F x1 x2 S = some q) : Ex (am_X Lg xs) d 198 (am_P 198) (am_ini (am_Mi 198).1 [.ref 97, .int x1, .int x2]) [] (hS S) (none, hS q) := by
  unfold f198c97 at H
  show Ex (am_X Lg xs) _ 198 am_c198_0 [.ref 97, .int x1, .int x2, .long 0] [] (hS S) (none, hS q)
  refine ex_iconst (v := 0) (by decide) ?_
  refine ex_istore_n (L2 := [.ref 97, .int x1, .int x2, .int 0]) (Nat.le_of_ble_eq_true rfl) rfl ?_
  exact e198c97_2 hd _ _ _ _ _ _ H
def g198c98_31 (F : Nat) (k2 : Int32 → Int32 → Int32 → AmT → Option AmT) (x1 : Int32) (x2 : Int32) (x3 : Int32) (s1 : Int32) (s3 : Int32) (S : AmT) : Option AmT := am_ck s3 6 (am_ck s1 6 (am_lt ((am_upI S.1 98 s1.toNatClampNeg (S.1 98 s3.toNatClampNeg), S.2) : AmT) fun S4 => k2 x1 x2 (x3 + 1) S4))
def g198c98_19 (F : Nat) (k2 : Int32 → Int32 → Int32 → AmT → Option AmT) (x1 : Int32) (x2 : Int32) (x3 : Int32) (s1 : Int32) (S : AmT) : Option AmT := if x2 = 0 then (g198c98_31 F k2 x1 x2 x3 s1 x3 S) else (g198c98_31 F k2 x1 x2 x3 s1 (x1 + x3) S)
def g198c98_2 (F : Nat) : Nat → Int32 → Int32 → Int32 → AmT → Option AmT
  | 0, _, _, _, _ => none
  | n + 1, x1, x2, x3, S => if x1 ≤ x3 then (some S) else (if x2 = 0 then (g198c98_19 F (fun x1 x2 x3 S => g198c98_2 F n x1 x2 x3 S) x1 x2 x3 (x1 + x3) S) else (g198c98_19 F (fun x1 x2 x3 S => g198c98_2 F n x1 x2 x3 S) x1 x2 x3 x3 S))
-- X10_keepRow
def f198c98 (F : Nat) (x1 : Int32) (x2 : Int32) (S : AmT) : Option AmT := g198c98_2 F F x1 x2 0 S
set_option maxHeartbeats 1000000 in
set_option maxRecDepth 20000 in
theorem e198c98_31 {Lg : Nat} {xs : Nat → Int32} {d F : Nat} {k2 : Int32 → Int32 → Int32 → AmT → Option AmT} {x1 : Int32} {x2 : Int32} {x3 : Int32} {s1 : Int32} {s3 : Int32} {S : AmT} {q : AmT} (hd : 0 ≤ d) (hk2 : ∀ (x1 : Int32) (x2 : Int32) (x3 : Int32) (S : AmT) (q : AmT), k2 x1 x2 x3 S = some q → Ex (am_X Lg xs) d 198 am_c198_2 [.ref 98, .int x1, .int x2, .int x3] [] (hS S) (none, hS q)) (H : g198c98_31 F k2 x1 x2 x3 s1 s3 S = some q) : Ex (am_X Lg xs) d 198 am_c198_31 [.ref 98, .int x1, .int x2, .int x3] [.int s3, .ref 98, .int s1, .ref 98] (hS S) (none, hS q) := by
  unfold g198c98_31 at H
  obtain ⟨hj, H⟩ := am_ck_el H
  refine ex_iald (k := 6) (v := S.1 98 s3.toNatClampNeg) rfl hj rfl ?_
  obtain ⟨hj, H⟩ := am_ck_el H
  refine ex_iast (k := 6) rfl rfl hj ?_
  generalize ((am_upI S.1 98 s1.toNatClampNeg (S.1 98 s3.toNatClampNeg), S.2) : AmT) = S4 at H ⊢
  have H := am_lt_el H
  refine ex_iinc (L2 := [.ref 98, .int x1, .int x2, .int (x3 + 1)]) (v := (x3 + 1)) rfl (Nat.le_of_ble_eq_true rfl) (congrArg (fun z => x3 + z) (by decide)) rfl ?_
  refine ex_goto (ct := am_c198_2) rfl ?_
  exact hk2 _ _ _ _ _ H
set_option maxHeartbeats 1000000 in
set_option maxRecDepth 20000 in
theorem e198c98_19 {Lg : Nat} {xs : Nat → Int32} {d F : Nat} {k2 : Int32 → Int32 → Int32 → AmT → Option AmT} {x1 : Int32} {x2 : Int32} {x3 : Int32} {s1 : Int32} {S : AmT} {q : AmT} (hd : 0 ≤ d) (hk2 : ∀ (x1 : Int32) (x2 : Int32) (x3 : Int32) (S : AmT) (q : AmT), k2 x1 x2 x3 S = some q → Ex (am_X Lg xs) d 198 am_c198_2 [.ref 98, .int x1, .int x2, .int x3] [] (hS S) (none, hS q)) (H : g198c98_19 F k2 x1 x2 x3 s1 S = some q) : Ex (am_X Lg xs) d 198 am_c198_19 [.ref 98, .int x1, .int x2, .int x3] [.int s1, .ref 98] (hS S) (none, hS q) := by
  unfold g198c98_19 at H
  refine ex_aload_n rfl ?_
  refine ex_iload_n rfl ?_
  by_cases h3 : x2 = 0
  · rw [if_pos h3] at H
    refine ex_if_eq_j (ct := am_c198_30) h3 rfl ?_
    refine ex_iload_n rfl ?_
    exact e198c98_31 hd hk2 H
  · rw [if_neg h3] at H
    refine ex_if_eq_f h3 ?_
    refine ex_iload_n rfl ?_
    refine ex_iload_n rfl ?_
    refine ex_iadd ?_
    refine ex_goto (ct := am_c198_31) rfl ?_
    exact e198c98_31 hd hk2 H
set_option maxHeartbeats 1000000 in
set_option maxRecDepth 20000 in
theorem e198c98_2 {Lg : Nat} {xs : Nat → Int32} {d F : Nat} (hd : 0 ≤ d) : ∀ (n : Nat) (x1 : Int32) (x2 : Int32) (x3 : Int32) (S : AmT) (q : AmT), g198c98_2 F n x1 x2 x3 S = some q → Ex (am_X Lg xs) d 198 am_c198_2 [.ref 98, .int x1, .int x2, .int x3] [] (hS S) (none, hS q) := by
  intro n
  induction n with
  | zero =>
    intro x1 x2 x3 S q H
    cases H
  | succ n ih =>
    intro x1 x2 x3 S q H
    have H : (if x1 ≤ x3 then (some S) else (if x2 = 0 then (g198c98_19 F (fun x1 x2 x3 S => g198c98_2 F n x1 x2 x3 S) x1 x2 x3 (x1 + x3) S) else (g198c98_19 F (fun x1 x2 x3 S => g198c98_2 F n x1 x2 x3 S) x1 x2 x3 x3 S))) = some q := H
    refine ex_iload_n rfl ?_
    refine ex_iload_n rfl ?_
    by_cases h1 : x1 ≤ x3
    · rw [if_pos h1] at H
      refine ex_icmp_ge_j (ct := am_c198_39) h1 rfl ?_
      have H := Option.some.inj H
      subst H
      exact ex_vret (M := 198) rfl
    · rw [if_neg h1] at H
      refine ex_icmp_ge_f h1 ?_
      refine ex_aload_n rfl ?_
      refine ex_iload_n rfl ?_
      by_cases h2 : x2 = 0
      · rw [if_pos h2] at H
        refine ex_if_eq_j (ct := am_c198_16) h2 rfl ?_
        refine ex_iload_n rfl ?_
        refine ex_iload_n rfl ?_
        refine ex_iadd ?_
        exact e198c98_19 hd (fun x1 x2 x3 S q H => ih x1 x2 x3 S q H) H
      · rw [if_neg h2] at H
        refine ex_if_eq_f h2 ?_
        refine ex_iload_n rfl ?_
        refine ex_goto (ct := am_c198_19) rfl ?_
        exact e198c98_19 hd (fun x1 x2 x3 S q H => ih x1 x2 x3 S q H) H
set_option maxHeartbeats 1000000 in
set_option maxRecDepth 20000 in
theorem r198c98 {Lg : Nat} {xs : Nat → Int32} {d F : Nat} {x1 : Int32} {x2 : Int32} {S : AmT} {q : AmT} (hd : 0 ≤ d) (H : f198c98 F x1 x2 S = some q) : Ex (am_X Lg xs) d 198 (am_P 198) (am_ini (am_Mi 198).1 [.ref 98, .int x1, .int x2]) [] (hS S) (none, hS q) := by
  unfold f198c98 at H
  show Ex (am_X Lg xs) _ 198 am_c198_0 [.ref 98, .int x1, .int x2, .long 0] [] (hS S) (none, hS q)
  refine ex_iconst (v := 0) (by decide) ?_
  refine ex_istore_n (L2 := [.ref 98, .int x1, .int x2, .int 0]) (Nat.le_of_ble_eq_true rfl) rfl ?_
  exact e198c98_2 hd _ _ _ _ _ _ H
def g198c99_31 (F : Nat) (k2 : Int32 → Int32 → Int32 → AmT → Option AmT) (x1 : Int32) (x2 : Int32) (x3 : Int32) (s1 : Int32) (s3 : Int32) (S : AmT) : Option AmT := am_ck s3 6 (am_ck s1 6 (am_lt ((am_upI S.1 99 s1.toNatClampNeg (S.1 99 s3.toNatClampNeg), S.2) : AmT) fun S4 => k2 x1 x2 (x3 + 1) S4))
def g198c99_19 (F : Nat) (k2 : Int32 → Int32 → Int32 → AmT → Option AmT) (x1 : Int32) (x2 : Int32) (x3 : Int32) (s1 : Int32) (S : AmT) : Option AmT := if x2 = 0 then (g198c99_31 F k2 x1 x2 x3 s1 x3 S) else (g198c99_31 F k2 x1 x2 x3 s1 (x1 + x3) S)
def g198c99_2 (F : Nat) : Nat → Int32 → Int32 → Int32 → AmT → Option AmT
  | 0, _, _, _, _ => none
  | n + 1, x1, x2, x3, S => if x1 ≤ x3 then (some S) else (if x2 = 0 then (g198c99_19 F (fun x1 x2 x3 S => g198c99_2 F n x1 x2 x3 S) x1 x2 x3 (x1 + x3) S) else (g198c99_19 F (fun x1 x2 x3 S => g198c99_2 F n x1 x2 x3 S) x1 x2 x3 x3 S))
-- X10_keepRow
def f198c99 (F : Nat) (x1 : Int32) (x2 : Int32) (S : AmT) : Option AmT := g198c99_2 F F x1 x2 0 S
set_option maxHeartbeats 1000000 in
set_option maxRecDepth 20000 in
theorem e198c99_31 {Lg : Nat} {xs : Nat → Int32} {d F : Nat} {k2 : Int32 → Int32 → Int32 → AmT → Option AmT} {x1 : Int32} {x2 : Int32} {x3 : Int32} {s1 : Int32} {s3 : Int32} {S : AmT} {q : AmT} (hd : 0 ≤ d) (hk2 : ∀ (x1 : Int32) (x2 : Int32) (x3 : Int32) (S : AmT) (q : AmT), k2 x1 x2 x3 S = some q → Ex (am_X Lg xs) d 198 am_c198_2 [.ref 99, .int x1, .int x2, .int x3] [] (hS S) (none, hS q)) (H : g198c99_31 F k2 x1 x2 x3 s1 s3 S = some q) : Ex (am_X Lg xs) d 198 am_c198_31 [.ref 99, .int x1, .int x2, .int x3] [.int s3, .ref 99, .int s1, .ref 99] (hS S) (none, hS q) := by
  unfold g198c99_31 at H
  obtain ⟨hj, H⟩ := am_ck_el H
  refine ex_iald (k := 6) (v := S.1 99 s3.toNatClampNeg) rfl hj rfl ?_
  obtain ⟨hj, H⟩ := am_ck_el H
  refine ex_iast (k := 6) rfl rfl hj ?_
  generalize ((am_upI S.1 99 s1.toNatClampNeg (S.1 99 s3.toNatClampNeg), S.2) : AmT) = S4 at H ⊢
  have H := am_lt_el H
  refine ex_iinc (L2 := [.ref 99, .int x1, .int x2, .int (x3 + 1)]) (v := (x3 + 1)) rfl (Nat.le_of_ble_eq_true rfl) (congrArg (fun z => x3 + z) (by decide)) rfl ?_
  refine ex_goto (ct := am_c198_2) rfl ?_
  exact hk2 _ _ _ _ _ H
set_option maxHeartbeats 1000000 in
set_option maxRecDepth 20000 in
theorem e198c99_19 {Lg : Nat} {xs : Nat → Int32} {d F : Nat} {k2 : Int32 → Int32 → Int32 → AmT → Option AmT} {x1 : Int32} {x2 : Int32} {x3 : Int32} {s1 : Int32} {S : AmT} {q : AmT} (hd : 0 ≤ d) (hk2 : ∀ (x1 : Int32) (x2 : Int32) (x3 : Int32) (S : AmT) (q : AmT), k2 x1 x2 x3 S = some q → Ex (am_X Lg xs) d 198 am_c198_2 [.ref 99, .int x1, .int x2, .int x3] [] (hS S) (none, hS q)) (H : g198c99_19 F k2 x1 x2 x3 s1 S = some q) : Ex (am_X Lg xs) d 198 am_c198_19 [.ref 99, .int x1, .int x2, .int x3] [.int s1, .ref 99] (hS S) (none, hS q) := by
  unfold g198c99_19 at H
  refine ex_aload_n rfl ?_
  refine ex_iload_n rfl ?_
  by_cases h3 : x2 = 0
  · rw [if_pos h3] at H
    refine ex_if_eq_j (ct := am_c198_30) h3 rfl ?_
    refine ex_iload_n rfl ?_
    exact e198c99_31 hd hk2 H
  · rw [if_neg h3] at H
    refine ex_if_eq_f h3 ?_
    refine ex_iload_n rfl ?_
    refine ex_iload_n rfl ?_
    refine ex_iadd ?_
    refine ex_goto (ct := am_c198_31) rfl ?_
    exact e198c99_31 hd hk2 H
set_option maxHeartbeats 1000000 in
set_option maxRecDepth 20000 in
theorem e198c99_2 {Lg : Nat} {xs : Nat → Int32} {d F : Nat} (hd : 0 ≤ d) : ∀ (n : Nat) (x1 : Int32) (x2 : Int32) (x3 : Int32) (S : AmT) (q : AmT), g198c99_2 F n x1 x2 x3 S = some q → Ex (am_X Lg xs) d 198 am_c198_2 [.ref 99, .int x1, .int x2, .int x3] [] (hS S) (none, hS q) := by
  intro n
  induction n with
  | zero =>
    intro x1 x2 x3 S q H
    cases H
  | succ n ih =>
    intro x1 x2 x3 S q H
    have H : (if x1 ≤ x3 then (some S) else (if x2 = 0 then (g198c99_19 F (fun x1 x2 x3 S => g198c99_2 F n x1 x2 x3 S) x1 x2 x3 (x1 + x3) S) else (g198c99_19 F (fun x1 x2 x3 S => g198c99_2 F n x1 x2 x3 S) x1 x2 x3 x3 S))) = some q := H
    refine ex_iload_n rfl ?_
    refine ex_iload_n rfl ?_
    by_cases h1 : x1 ≤ x3
    · rw [if_pos h1] at H
      refine ex_icmp_ge_j (ct := am_c198_39) h1 rfl ?_
      have H := Option.some.inj H
      subst H
      exact ex_vret (M := 198) rfl
    · rw [if_neg h1] at H
      refine ex_icmp_ge_f h1 ?_
      refine ex_aload_n rfl ?_
      refine ex_iload_n rfl ?_
      by_cases h2 : x2 = 0
      · rw [if_pos h2] at H
        refine ex_if_eq_j (ct := am_c198_16) h2 rfl ?_
        refine ex_iload_n rfl ?_
        refine ex_iload_n rfl ?_
        refine ex_iadd ?_
        exact e198c99_19 hd (fun x1 x2 x3 S q H => ih x1 x2 x3 S q H) H
      · rw [if_neg h2] at H
        refine ex_if_eq_f h2 ?_
        refine ex_iload_n rfl ?_
        refine ex_goto (ct := am_c198_19) rfl ?_
        exact e198c99_19 hd (fun x1 x2 x3 S q H => ih x1 x2 x3 S q H) H
set_option maxHeartbeats 1000000 in
set_option maxRecDepth 20000 in
theorem r198c99 {Lg : Nat} {xs : Nat → Int32} {d F : Nat} {x1 : Int32} {x2 : Int32} {S : AmT} {q : AmT} (hd : 0 ≤ d) (H : f198c99 F x1 x2 S = some q) : Ex (am_X Lg xs) d 198 (am_P 198) (am_ini (am_Mi 198).1 [.ref 99, .int x1, .int x2]) [] (hS S) (none, hS q) := by
  unfold f198c99 at H
  show Ex (am_X Lg xs) _ 198 am_c198_0 [.ref 99, .int x1, .int x2, .long 0] [] (hS S) (none, hS q)
  refine ex_iconst (v := 0) (by decide) ?_
  refine ex_istore_n (L2 := [.ref 99, .int x1, .int x2, .int 0]) (Nat.le_of_ble_eq_true rfl) rfl ?_
  exact e198c99_2 hd _ _ _ _ _ _ H
