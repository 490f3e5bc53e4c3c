/-! printed by wip/gen/gen20.py -/
-- X10_pageAtOf
def f207 (F : Nat) (x0 : Int32) (x1 : Int32) (S : AmT) : Option (Int32 × AmT) := some ((((24 * x0) + x1) - 1), S)
set_option maxHeartbeats 1000000 in
set_option maxRecDepth 20000 in
theorem r207 {Lg : Nat} {xs : Nat → Int32} {d F : Nat} {x0 : Int32} {x1 : Int32} {S : AmT} {q : Int32 × AmT} (hd : 0 ≤ d) (H : f207 F x0 x1 S = some q) : Ex (am_X Lg xs) d 207 (am_P 207) (am_ini (am_Mi 207).1 [.int x0, .int x1]) [] (hS S) (some q.1, hS q.2) := by
  unfold f207 at H
  show Ex (am_X Lg xs) _ 207 am_c207_0 [.int x0, .int x1] [] (hS S) (some q.1, hS q.2)
  refine ex_bipush (v := 24) (by decide) ?_
  refine ex_iload_n rfl ?_
  refine ex_imul ?_
  refine ex_iload_n rfl ?_
  refine ex_iadd ?_
  refine ex_iconst (v := 1) (by decide) ?_
  refine ex_isub ?_
  have H := Option.some.inj H
  subst H
  exact ex_iret (M := 207) (Or.inl rfl)
-- X10_moved
def f221 (F : Nat) (S : AmT) : Option (Int32 × AmT) := some ((S.1 95 35), S)
set_option maxHeartbeats 1000000 in
set_option maxRecDepth 20000 in
theorem r221 {Lg : Nat} {xs : Nat → Int32} {d F : Nat} {S : AmT} {q : Int32 × AmT} (hd : 0 ≤ d) (H : f221 F S = some q) : Ex (am_X Lg xs) d 221 (am_P 221) (am_ini (am_Mi 221).1 [.ref 95]) [] (hS S) (some q.1, hS q.2) := by
  unfold f221 at H
  show Ex (am_X Lg xs) _ 221 am_c221_0 [.ref 95] [] (hS S) (some q.1, hS q.2)
  refine ex_aload_n rfl ?_
  refine ex_gI rfl (by decide) ?_
  have H := Option.some.inj H
  subst H
  exact ex_iret (M := 221) (Or.inl rfl)
-- X10_addFold
def f225 (F : Nat) (x1 : Int32) (x2 : Int32) (x3 : Int32) (x4 : Int32) (x5 : Int32) (S : AmT) : Option (Int32 × AmT) := am_lt ((am_upI S.1 96 (1 : Int32).toNatClampNeg ((S.1 96 1) + 1), S.2) : AmT) fun S1 => am_ck (S.1 96 1) 32 (am_lt ((am_upI S1.1 103 (S.1 96 1).toNatClampNeg x1, S1.2) : AmT) fun S2 => am_ck (S.1 96 1) 32 (am_lt ((am_upI S2.1 104 (S.1 96 1).toNatClampNeg x2, S2.2) : AmT) fun S3 => am_ck (S.1 96 1) 32 (am_lt ((am_upI S3.1 105 (S.1 96 1).toNatClampNeg x3, S3.2) : AmT) fun S4 => am_ck (S.1 96 1) 32 (am_lt ((am_upI S4.1 106 (S.1 96 1).toNatClampNeg x4, S4.2) : AmT) fun S5 => am_ck (S.1 96 1) 32 (am_lt ((am_upI S5.1 107 (S.1 96 1).toNatClampNeg x5, S5.2) : AmT) fun S6 => some ((S.1 96 1), S6))))))
set_option maxHeartbeats 1000000 in
set_option maxRecDepth 20000 in
theorem r225 {Lg : Nat} {xs : Nat → Int32} {d F : Nat} {x1 : Int32} {x2 : Int32} {x3 : Int32} {x4 : Int32} {x5 : Int32} {S : AmT} {q : Int32 × AmT} (hd : 0 ≤ d) (H : f225 F x1 x2 x3 x4 x5 S = some q) : Ex (am_X Lg xs) d 225 (am_P 225) (am_ini (am_Mi 225).1 [.ref 95, .int x1, .int x2, .int x3, .int x4, .int x5]) [] (hS S) (some q.1, hS q.2) := by
  unfold f225 at H
  show Ex (am_X Lg xs) _ 225 am_c225_0 [.ref 95, .int x1, .int x2, .int x3, .int x4, .int x5, .long 0] [] (hS S) (some q.1, hS q.2)
  refine ex_aload_n rfl ?_
  refine ex_getR (w := 96) rfl rfl rfl ?_
  refine ex_iconst (v := 1) (by decide) ?_
  refine ex_iald (v := S.1 96 1) rfl (by decide) rfl ?_
  refine ex_istore (L2 := [.ref 95, .int x1, .int x2, .int x3, .int x4, .int x5, .int (S.1 96 1)]) (Nat.le_of_ble_eq_true rfl) rfl ?_
  refine ex_aload_n rfl ?_
  refine ex_getR (w := 96) rfl rfl rfl ?_
  refine ex_iconst (v := 1) (by decide) ?_
  refine ex_dup2 ?_
  refine ex_iald (v := S.1 96 1) rfl (by decide) rfl ?_
  refine ex_iconst (v := 1) (by decide) ?_
  refine ex_iadd ?_
  refine ex_iast (k := 32) rfl rfl (by decide) ?_
  generalize ((am_upI S.1 96 (1 : Int32).toNatClampNeg ((S.1 96 1) + 1), S.2) : AmT) = S1 at H ⊢
  have H := am_lt_el H
  refine ex_aload_n rfl ?_
  refine ex_getR (w := 103) rfl rfl rfl ?_
  refine ex_iload rfl ?_
  refine ex_iload_n rfl ?_
  obtain ⟨hj, H⟩ := am_ck_el H
  refine ex_iast (k := 32) rfl rfl hj ?_
  generalize ((am_upI S1.1 103 (S.1 96 1).toNatClampNeg x1, S1.2) : AmT) = S2 at H ⊢
  have H := am_lt_el H
  refine ex_aload_n rfl ?_
  refine ex_getR (w := 104) rfl rfl rfl ?_
  refine ex_iload rfl ?_
  refine ex_iload_n rfl ?_
  obtain ⟨hj, H⟩ := am_ck_el H
  refine ex_iast (k := 32) rfl rfl hj ?_
  generalize ((am_upI S2.1 104 (S.1 96 1).toNatClampNeg x2, S2.2) : AmT) = S3 at H ⊢
  have H := am_lt_el H
  refine ex_aload_n rfl ?_
  refine ex_getR (w := 105) rfl rfl rfl ?_
  refine ex_iload rfl ?_
  refine ex_iload_n rfl ?_
  obtain ⟨hj, H⟩ := am_ck_el H
  refine ex_iast (k := 32) rfl rfl hj ?_
  generalize ((am_upI S3.1 105 (S.1 96 1).toNatClampNeg x3, S3.2) : AmT) = S4 at H ⊢
  have H := am_lt_el H
  refine ex_aload_n rfl ?_
  refine ex_getR (w := 106) rfl rfl rfl ?_
  refine ex_iload rfl ?_
  refine ex_iload rfl ?_
  obtain ⟨hj, H⟩ := am_ck_el H
  refine ex_iast (k := 32) rfl rfl hj ?_
  generalize ((am_upI S4.1 106 (S.1 96 1).toNatClampNeg x4, S4.2) : AmT) = S5 at H ⊢
  have H := am_lt_el H
  refine ex_aload_n rfl ?_
  refine ex_getR (w := 107) rfl rfl rfl ?_
  refine ex_iload rfl ?_
  refine ex_iload rfl ?_
  obtain ⟨hj, H⟩ := am_ck_el H
  refine ex_iast (k := 32) rfl rfl hj ?_
  generalize ((am_upI S5.1 107 (S.1 96 1).toNatClampNeg x5, S5.2) : AmT) = S6 at H ⊢
  have H := am_lt_el H
  refine ex_iload rfl ?_
  have H := Option.some.inj H
  subst H
  exact ex_iret (M := 225) (Or.inl rfl)
-- X10_await
def f230 (F : Nat) (x1 : Int32) (S : AmT) : Option AmT := am_ck (S.1 95 39) 64 (am_lt ((am_upI S.1 126 (S.1 95 39).toNatClampNeg x1, S.2) : AmT) fun S1 => am_lt ((am_upI S1.1 95 39 ((S1.1 95 39) + 1), S1.2) : AmT) fun S2 => some S2)
set_option maxHeartbeats 1000000 in
set_option maxRecDepth 20000 in
theorem r230 {Lg : Nat} {xs : Nat → Int32} {d F : Nat} {x1 : Int32} {S : AmT} {q : AmT} (hd : 0 ≤ d) (H : f230 F x1 S = some q) : Ex (am_X Lg xs) d 230 (am_P 230) (am_ini (am_Mi 230).1 [.ref 95, .int x1]) [] (hS S) (none, hS q) := by
  unfold f230 at H
  show Ex (am_X Lg xs) _ 230 am_c230_0 [.ref 95, .int x1] [] (hS S) (none, hS q)
  refine ex_aload_n rfl ?_
  refine ex_getR (w := 126) rfl rfl rfl ?_
  refine ex_aload_n rfl ?_
  refine ex_gI rfl (by decide) ?_
  refine ex_iload_n rfl ?_
  obtain ⟨hj, H⟩ := am_ck_el H
  refine ex_iast (k := 64) rfl rfl hj ?_
  generalize ((am_upI S.1 126 (S.1 95 39).toNatClampNeg x1, S.2) : AmT) = S1 at H ⊢
  have H := am_lt_el H
  refine ex_aload_n rfl ?_
  refine ex_dupr ?_
  refine ex_gI rfl (by decide) ?_
  refine ex_iconst (v := 1) (by decide) ?_
  refine ex_iadd ?_
  refine ex_putI rfl (by decide) (fun z => absurd z.1 (by decide)) ?_
  generalize ((am_upI S1.1 95 39 ((S1.1 95 39) + 1), S1.2) : AmT) = S2 at H ⊢
  have H := am_lt_el H
  have H := Option.some.inj H
  subst H
  exact ex_vret (M := 230) rfl
-- X10_trace0
def f233 (F : Nat) (x1 : Int32) (S : AmT) : Option AmT := am_ck ((S.1 95 36) - (S.1 95 36) / 40 * 40) 40 (am_lt ((am_upI S.1 125 ((S.1 95 36) - (S.1 95 36) / 40 * 40).toNatClampNeg x1, S.2) : AmT) fun S1 => am_lt ((am_upI S1.1 95 36 ((S1.1 95 36) + 1), S1.2) : AmT) fun S2 => some S2)
set_option maxHeartbeats 1000000 in
set_option maxRecDepth 20000 in
theorem r233 {Lg : Nat} {xs : Nat → Int32} {d F : Nat} {x1 : Int32} {S : AmT} {q : AmT} (hd : 0 ≤ d) (H : f233 F x1 S = some q) : Ex (am_X Lg xs) d 233 (am_P 233) (am_ini (am_Mi 233).1 [.ref 95, .int x1]) [] (hS S) (none, hS q) := by
  unfold f233 at H
  show Ex (am_X Lg xs) _ 233 am_c233_0 [.ref 95, .int x1] [] (hS S) (none, hS q)
  refine ex_aload_n rfl ?_
  refine ex_getR (w := 125) rfl rfl rfl ?_
  refine ex_aload_n rfl ?_
  refine ex_gI rfl (by decide) ?_
  refine ex_bipush (v := 40) (by decide) ?_
  refine ex_irem (by decide) ?_
  refine ex_iload_n rfl ?_
  obtain ⟨hj, H⟩ := am_ck_el H
  refine ex_iast (k := 40) rfl rfl hj ?_
  generalize ((am_upI S.1 125 ((S.1 95 36) - (S.1 95 36) / 40 * 40).toNatClampNeg x1, S.2) : AmT) = S1 at H ⊢
  have H := am_lt_el H
  refine ex_aload_n rfl ?_
  refine ex_dupr ?_
  refine ex_gI rfl (by decide) ?_
  refine ex_iconst (v := 1) (by decide) ?_
  refine ex_iadd ?_
  refine ex_putI rfl (by decide) (fun z => absurd z.1 (by decide)) ?_
  generalize ((am_upI S1.1 95 36 ((S1.1 95 36) + 1), S1.2) : AmT) = S2 at H ⊢
  have H := am_lt_el H
  have H := Option.some.inj H
  subst H
  exact ex_vret (M := 233) rfl
def g234_20 (F : Nat) (k12 : Int32 → Int32 → Int32 → AmT → Option AmT) : Nat → Int32 → Int32 → Int32 → Int32 → AmT → Option AmT
  | 0, _, _, _, _, _ => none
  | n + 1, x1, x2, x3, x4, S => if x2 ≤ x4 then (k12 x1 x2 (x3 + 1) S) else (am_ck ((8 * x3) + x4) 64 (am_lt ((am_upI S.1 127 ((8 * x3) + x4).toNatClampNeg 1, S.2) : AmT) fun S5 => am_ck (64 * ((8 * x3) + x4)) 4096 (am_lt ((am_upI S5.1 128 (64 * ((8 * x3) + x4)).toNatClampNeg ((8 * x3) + x4), S5.2) : AmT) fun S6 => g234_20 F k12 n x1 x2 x3 (x4 + 1) S6)))
def g234_12 (F : Nat) : Nat → Int32 → Int32 → Int32 → AmT → Option AmT
  | 0, _, _, _, _ => none
  | n + 1, x1, x2, x3, S => if x1 ≤ x3 then (some S) else (g234_20 F (fun x1 x2 x3 S => g234_12 F n x1 x2 x3 S) F x1 x2 x3 0 S)
-- X10_beginGrid
def f234 (F : Nat) (x1 : Int32) (x2 : Int32) (S : AmT) : Option AmT := am_lt ((am_upI S.1 95 40 x1, S.2) : AmT) fun S1 => am_lt ((am_upI S1.1 95 41 x2, S1.2) : AmT) fun S2 => g234_12 F F x1 x2 0 S2
set_option maxHeartbeats 1000000 in
set_option maxRecDepth 20000 in
theorem e234_20 {Lg : Nat} {xs : Nat → Int32} {d F : Nat} {k12 : Int32 → Int32 → Int32 → AmT → Option AmT} (hd : 0 ≤ d) (hk12 : ∀ (x1 : Int32) (x2 : Int32) (x3 : Int32) (w4 : Value) (S : AmT) (q : AmT), k12 x1 x2 x3 S = some q → Ex (am_X Lg xs) d 234 am_c234_12 [.ref 95, .int x1, .int x2, .int x3, w4] [] (hS S) (none, hS q)) : ∀ (n : Nat) (x1 : Int32) (x2 : Int32) (x3 : Int32) (x4 : Int32) (S : AmT) (q : AmT), g234_20 F k12 n x1 x2 x3 x4 S = some q → Ex (am_X Lg xs) d 234 am_c234_20 [.ref 95, .int x1, .int x2, .int x3, .int x4] [] (hS S) (none, hS q) := by
  intro n
  induction n with
  | zero =>
    intro x1 x2 x3 x4 S q H
    cases H
  | succ n ih =>
    intro x1 x2 x3 x4 S q H
    have H : (if x2 ≤ x4 then (k12 x1 x2 (x3 + 1) S) else (am_ck ((8 * x3) + x4) 64 (am_lt ((am_upI S.1 127 ((8 * x3) + x4).toNatClampNeg 1, S.2) : AmT) fun S5 => am_ck (64 * ((8 * x3) + x4)) 4096 (am_lt ((am_upI S5.1 128 (64 * ((8 * x3) + x4)).toNatClampNeg ((8 * x3) + x4), S5.2) : AmT) fun S6 => g234_20 F k12 n x1 x2 x3 (x4 + 1) S6)))) = some q := H
    refine ex_iload rfl ?_
    refine ex_iload_n rfl ?_
    by_cases h4 : x2 ≤ x4
    · rw [if_pos h4] at H
      refine ex_icmp_ge_j (ct := am_c234_67) h4 rfl ?_
      refine ex_iinc (L2 := [.ref 95, .int x1, .int x2, .int (x3 + 1), .int x4]) (v := (x3 + 1)) rfl (Nat.le_of_ble_eq_true rfl) (congrArg (fun z => x3 + z) (by decide)) rfl ?_
      refine ex_goto (ct := am_c234_12) rfl ?_
      exact hk12 _ _ _ _ _ _ H
    · rw [if_neg h4] at H
      refine ex_icmp_ge_f h4 ?_
      refine ex_aload_n rfl ?_
      refine ex_getR (w := 127) rfl rfl rfl ?_
      refine ex_bipush (v := 8) (by decide) ?_
      refine ex_iload_n rfl ?_
      refine ex_imul ?_
      refine ex_iload rfl ?_
      refine ex_iadd ?_
      refine ex_iconst (v := 1) (by decide) ?_
      obtain ⟨hj, H⟩ := am_ck_el H
      refine ex_iast (k := 64) rfl rfl hj ?_
      generalize ((am_upI S.1 127 ((8 * x3) + x4).toNatClampNeg 1, S.2) : AmT) = S5 at H ⊢
      have H := am_lt_el H
      refine ex_aload_n rfl ?_
      refine ex_getR (w := 128) rfl rfl rfl ?_
      refine ex_bipush (v := 64) (by decide) ?_
      refine ex_bipush (v := 8) (by decide) ?_
      refine ex_iload_n rfl ?_
      refine ex_imul ?_
      refine ex_iload rfl ?_
      refine ex_iadd ?_
      refine ex_imul ?_
      refine ex_bipush (v := 8) (by decide) ?_
      refine ex_iload_n rfl ?_
      refine ex_imul ?_
      refine ex_iload rfl ?_
      refine ex_iadd ?_
      obtain ⟨hj, H⟩ := am_ck_el H
      refine ex_iast (k := 4096) rfl rfl hj ?_
      generalize ((am_upI S5.1 128 (64 * ((8 * x3) + x4)).toNatClampNeg ((8 * x3) + x4), S5.2) : AmT) = S6 at H ⊢
      have H := am_lt_el H
      refine ex_iinc (L2 := [.ref 95, .int x1, .int x2, .int x3, .int (x4 + 1)]) (v := (x4 + 1)) rfl (Nat.le_of_ble_eq_true rfl) (congrArg (fun z => x4 + z) (by decide)) rfl ?_
      refine ex_goto (ct := am_c234_20) rfl ?_
      exact ih _ _ _ _ _ _ H
set_option maxHeartbeats 1000000 in
set_option maxRecDepth 20000 in
theorem e234_12 {Lg : Nat} {xs : Nat → Int32} {d F : Nat} (hd : 0 ≤ d) : ∀ (n : Nat) (x1 : Int32) (x2 : Int32) (x3 : Int32) (w4 : Value) (S : AmT) (q : AmT), g234_12 F n x1 x2 x3 S = some q → Ex (am_X Lg xs) d 234 am_c234_12 [.ref 95, .int x1, .int x2, .int x3, w4] [] (hS S) (none, hS q) := by
  intro n
  induction n with
  | zero =>
    intro x1 x2 x3 w4 S q H
    cases H
  | succ n ih =>
    intro x1 x2 x3 w4 S q H
    have H : (if x1 ≤ x3 then (some S) else (g234_20 F (fun x1 x2 x3 S => g234_12 F n x1 x2 x3 S) F x1 x2 x3 0 S)) = some q := H
    refine ex_iload_n rfl ?_
    refine ex_iload_n rfl ?_
    by_cases h3 : x1 ≤ x3
    · rw [if_pos h3] at H
      refine ex_icmp_ge_j (ct := am_c234_73) h3 rfl ?_
      have H := Option.some.inj H
      subst H
      exact ex_vret (M := 234) rfl
    · rw [if_neg h3] at H
      refine ex_icmp_ge_f h3 ?_
      refine ex_iconst (v := 0) (by decide) ?_
      refine ex_istore (L2 := [.ref 95, .int x1, .int x2, .int x3, .int 0]) (Nat.le_of_ble_eq_true rfl) rfl ?_
      exact e234_20 hd (fun x1 x2 x3 w4 S q H => ih x1 x2 x3 w4 S q H) _ _ _ _ _ _ _ H
set_option maxHeartbeats 1000000 in
set_option maxRecDepth 20000 in
theorem r234 {Lg : Nat} {xs : Nat → Int32} {d F : Nat} {x1 : Int32} {x2 : Int32} {S : AmT} {q : AmT} (hd : 0 ≤ d) (H : f234 F x1 x2 S = some q) : Ex (am_X Lg xs) d 234 (am_P 234) (am_ini (am_Mi 234).1 [.ref 95, .int x1, .int x2]) [] (hS S) (none, hS q) := by
  unfold f234 at H
  show Ex (am_X Lg xs) _ 234 am_c234_0 [.ref 95, .int x1, .int x2, .long 0, .long 0] [] (hS S) (none, hS q)
  refine ex_aload_n rfl ?_
  refine ex_iload_n rfl ?_
  refine ex_putI rfl (by decide) (fun z => absurd z.1 (by decide)) ?_
  generalize ((am_upI S.1 95 40 x1, S.2) : AmT) = S1 at H ⊢
  have H := am_lt_el H
  refine ex_aload_n rfl ?_
  refine ex_iload_n rfl ?_
  refine ex_putI rfl (by decide) (fun z => absurd z.1 (by decide)) ?_
  generalize ((am_upI S1.1 95 41 x2, S1.2) : AmT) = S2 at H ⊢
  have H := am_lt_el H
  refine ex_iconst (v := 0) (by decide) ?_
  refine ex_istore_n (L2 := [.ref 95, .int x1, .int x2, .int 0, .long 0]) (Nat.le_of_ble_eq_true rfl) rfl ?_
  exact e234_12 hd _ _ _ _ _ _ _ H
-- X10_placeOf
def f235 (F : Nat) (x0 : Int32) (x1 : Int32) (x2 : Int32) (S : AmT) : Option (Int32 × AmT) := if x0 = 0 then (some (((8 * x2) + x1), S)) else (some (((8 * x1) + x2), S))
set_option maxHeartbeats 1000000 in
set_option maxRecDepth 20000 in
theorem r235 {Lg : Nat} {xs : Nat → Int32} {d F : Nat} {x0 : Int32} {x1 : Int32} {x2 : Int32} {S : AmT} {q : Int32 × AmT} (hd : 0 ≤ d) (H : f235 F x0 x1 x2 S = some q) : Ex (am_X Lg xs) d 235 (am_P 235) (am_ini (am_Mi 235).1 [.int x0, .int x1, .int x2]) [] (hS S) (some q.1, hS q.2) := by
  unfold f235 at H
  show Ex (am_X Lg xs) _ 235 am_c235_0 [.int x0, .int x1, .int x2] [] (hS S) (some q.1, hS q.2)
  refine ex_iload_n rfl ?_
  by_cases h1 : x0 = 0
  · rw [if_pos h1] at H
    refine ex_if_ne_f h1 ?_
    refine ex_bipush (v := 8) (by decide) ?_
    refine ex_iload_n rfl ?_
    refine ex_imul ?_
    refine ex_iload_n rfl ?_
    refine ex_iadd ?_
    refine ex_goto (ct := am_c235_19) rfl ?_
    have H := Option.some.inj H
    subst H
    exact ex_iret (M := 235) (Or.inl rfl)
  · rw [if_neg h1] at H
    refine ex_if_ne_j (ct := am_c235_13) h1 rfl ?_
    refine ex_bipush (v := 8) (by decide) ?_
    refine ex_iload_n rfl ?_
    refine ex_imul ?_
    refine ex_iload_n rfl ?_
    refine ex_iadd ?_
    have H := Option.some.inj H
    subst H
    exact ex_iret (M := 235) (Or.inl rfl)
def g236_106 (F : Nat) (k59 : Int32 → Int32 → Int32 → Int32 → Int32 → AmT → Option AmT) (x1 : Int32) (x2 : Int32) (x3 : Int32) (x4 : Int32) (x5 : Int32) (s1 : Int32) (s2 : Int32) (s3 : Int32) (S : AmT) : Option AmT := am_ck s1 4096 (am_lt ((am_upI S.1 128 s1.toNatClampNeg (s2 ^^^ s3), S.2) : AmT) fun S5 => k59 x1 x2 x3 x4 (x5 + 1) S5)
def g236_59 (F : Nat) : Nat → Int32 → Int32 → Int32 → Int32 → Int32 → AmT → Option AmT
  | 0, _, _, _, _, _, _ => none
  | n + 1, x1, x2, x3, x4, x5, S => if x4 ≤ x5 then (am_ck x2 64 (am_ck x2 64 (am_lt ((am_upI S.1 127 x2.toNatClampNeg ((S.1 127 x2.toNatClampNeg) + x4), S.2) : AmT) fun S3 => some S3))) else (am_ck ((((64 * x3) + x4) - 1) - x5) 4096 (if x1 = 0 then (g236_106 F (fun x1 x2 x3 x4 x5 S => g236_59 F n x1 x2 x3 x4 x5 S) x1 x2 x3 x4 x5 ((64 * x2) + x5) (S.1 128 ((((64 * x3) + x4) - 1) - x5).toNatClampNeg) 192 S) else (g236_106 F (fun x1 x2 x3 x4 x5 S => g236_59 F n x1 x2 x3 x4 x5 S) x1 x2 x3 x4 x5 ((64 * x2) + x5) (S.1 128 ((((64 * x3) + x4) - 1) - x5).toNatClampNeg) 64 S)))
def g236_18 (F : Nat) : Nat → Int32 → Int32 → Int32 → Int32 → Int32 → AmT → Option AmT
  | 0, _, _, _, _, _, _ => none
  | n + 1, x1, x2, x3, x4, x5, S => if x5 < 0 then (g236_59 F F x1 x2 x3 x4 0 S) else (am_ck ((64 * x2) + x5) 4096 (am_ck (((64 * x2) + x4) + x5) 4096 (am_lt ((am_upI S.1 128 (((64 * x2) + x4) + x5).toNatClampNeg (S.1 128 ((64 * x2) + x5).toNatClampNeg), S.2) : AmT) fun S6 => g236_18 F n x1 x2 x3 x4 (x5 + (-1)) S6)))
-- X10_gets
def f236 (F : Nat) (x1 : Int32) (x2 : Int32) (x3 : Int32) (S : AmT) : Option AmT := am_ck x3 64 (am_ck x2 64 (g236_18 F F x1 x2 x3 (S.1 127 x3.toNatClampNeg) ((S.1 127 x2.toNatClampNeg) - 1) S))
set_option maxHeartbeats 1000000 in
set_option maxRecDepth 20000 in
theorem e236_106 {Lg : Nat} {xs : Nat → Int32} {d F : Nat} {k59 : Int32 → Int32 → Int32 → Int32 → Int32 → AmT → Option AmT} {x1 : Int32} {x2 : Int32} {x3 : Int32} {x4 : Int32} {x5 : Int32} {s1 : Int32} {s2 : Int32} {s3 : Int32} {S : AmT} {q : AmT} (hd : 0 ≤ d) (hk59 : ∀ (x1 : Int32) (x2 : Int32) (x3 : Int32) (x4 : Int32) (x5 : Int32) (S : AmT) (q : AmT), k59 x1 x2 x3 x4 x5 S = some q → Ex (am_X Lg xs) d 236 am_c236_59 [.ref 95, .int x1, .int x2, .int x3, .int x4, .int x5] [] (hS S) (none, hS q)) (H : g236_106 F k59 x1 x2 x3 x4 x5 s1 s2 s3 S = some q) : Ex (am_X Lg xs) d 236 am_c236_106 [.ref 95, .int x1, .int x2, .int x3, .int x4, .int x5] [.int s3, .int s2, .int s1, .ref 128] (hS S) (none, hS q) := by
  unfold g236_106 at H
  refine ex_ixor ?_
  obtain ⟨hj, H⟩ := am_ck_el H
  refine ex_iast (k := 4096) rfl rfl hj ?_
  generalize ((am_upI S.1 128 s1.toNatClampNeg (s2 ^^^ s3), S.2) : AmT) = S5 at H ⊢
  have H := am_lt_el H
  refine ex_iinc (L2 := [.ref 95, .int x1, .int x2, .int x3, .int x4, .int (x5 + 1)]) (v := (x5 + 1)) rfl (Nat.le_of_ble_eq_true rfl) (congrArg (fun z => x5 + z) (by decide)) rfl ?_
  refine ex_goto (ct := am_c236_59) rfl ?_
  exact hk59 _ _ _ _ _ _ _ H
set_option maxHeartbeats 1000000 in
set_option maxRecDepth 20000 in
theorem e236_59 {Lg : Nat} {xs : Nat → Int32} {d F : Nat} (hd : 0 ≤ d) : ∀ (n : Nat) (x1 : Int32) (x2 : Int32) (x3 : Int32) (x4 : Int32) (x5 : Int32) (S : AmT) (q : AmT), g236_59 F n x1 x2 x3 x4 x5 S = some q → Ex (am_X Lg xs) d 236 am_c236_59 [.ref 95, .int x1, .int x2, .int x3, .int x4, .int x5] [] (hS S) (none, hS q) := by
  intro n
  induction n with
  | zero =>
    intro x1 x2 x3 x4 x5 S q H
    cases H
  | succ n ih =>
    intro x1 x2 x3 x4 x5 S q H
    have H : (if x4 ≤ x5 then (am_ck x2 64 (am_ck x2 64 (am_lt ((am_upI S.1 127 x2.toNatClampNeg ((S.1 127 x2.toNatClampNeg) + x4), S.2) : AmT) fun S3 => some S3))) else (am_ck ((((64 * x3) + x4) - 1) - x5) 4096 (if x1 = 0 then (g236_106 F (fun x1 x2 x3 x4 x5 S => g236_59 F n x1 x2 x3 x4 x5 S) x1 x2 x3 x4 x5 ((64 * x2) + x5) (S.1 128 ((((64 * x3) + x4) - 1) - x5).toNatClampNeg) 192 S) else (g236_106 F (fun x1 x2 x3 x4 x5 S => g236_59 F n x1 x2 x3 x4 x5 S) x1 x2 x3 x4 x5 ((64 * x2) + x5) (S.1 128 ((((64 * x3) + x4) - 1) - x5).toNatClampNeg) 64 S)))) = some q := H
    refine ex_iload rfl ?_
    refine ex_iload rfl ?_
    by_cases h2 : x4 ≤ x5
    · rw [if_pos h2] at H
      refine ex_icmp_ge_j (ct := am_c236_114) h2 rfl ?_
      refine ex_aload_n rfl ?_
      refine ex_getR (w := 127) rfl rfl rfl ?_
      refine ex_iload_n rfl ?_
      refine ex_dup2 ?_
      obtain ⟨hj, H⟩ := am_ck_el H
      refine ex_iald (k := 64) (v := S.1 127 x2.toNatClampNeg) rfl hj rfl ?_
      refine ex_iload rfl ?_
      refine ex_iadd ?_
      obtain ⟨hj, H⟩ := am_ck_el H
      refine ex_iast (k := 64) rfl rfl hj ?_
      generalize ((am_upI S.1 127 x2.toNatClampNeg ((S.1 127 x2.toNatClampNeg) + x4), S.2) : AmT) = S3 at H ⊢
      have H := am_lt_el H
      have H := Option.some.inj H
      subst H
      exact ex_vret (M := 236) rfl
    · rw [if_neg h2] at H
      refine ex_icmp_ge_f h2 ?_
      refine ex_aload_n rfl ?_
      refine ex_getR (w := 128) rfl rfl rfl ?_
      refine ex_bipush (v := 64) (by decide) ?_
      refine ex_iload_n rfl ?_
      refine ex_imul ?_
      refine ex_iload rfl ?_
      refine ex_iadd ?_
      refine ex_aload_n rfl ?_
      refine ex_getR (w := 128) rfl rfl rfl ?_
      refine ex_bipush (v := 64) (by decide) ?_
      refine ex_iload_n rfl ?_
      refine ex_imul ?_
      refine ex_iload rfl ?_
      refine ex_iadd ?_
      refine ex_iconst (v := 1) (by decide) ?_
      refine ex_isub ?_
      refine ex_iload rfl ?_
      refine ex_isub ?_
      obtain ⟨hj, H⟩ := am_ck_el H
      refine ex_iald (k := 4096) (v := S.1 128 ((((64 * x3) + x4) - 1) - x5).toNatClampNeg) rfl hj rfl ?_
      refine ex_iload_n rfl ?_
      by_cases h4 : x1 = 0
      · rw [if_pos h4] at H
        refine ex_if_ne_f h4 ?_
        refine ex_sipush (v := 192) (by decide) ?_
        refine ex_goto (ct := am_c236_106) rfl ?_
        exact e236_106 hd (fun x1 x2 x3 x4 x5 S q H => ih x1 x2 x3 x4 x5 S q H) H
      · rw [if_neg h4] at H
        refine ex_if_ne_j (ct := am_c236_104) h4 rfl ?_
        refine ex_bipush (v := 64) (by decide) ?_
        exact e236_106 hd (fun x1 x2 x3 x4 x5 S q H => ih x1 x2 x3 x4 x5 S q H) H
set_option maxHeartbeats 1000000 in
set_option maxRecDepth 20000 in
theorem e236_18 {Lg : Nat} {xs : Nat → Int32} {d F : Nat} (hd : 0 ≤ d) : ∀ (n : Nat) (x1 : Int32) (x2 : Int32) (x3 : Int32) (x4 : Int32) (x5 : Int32) (S : AmT) (q : AmT), g236_18 F n x1 x2 x3 x4 x5 S = some q → Ex (am_X Lg xs) d 236 am_c236_18 [.ref 95, .int x1, .int x2, .int x3, .int x4, .int x5] [] (hS S) (none, hS q) := by
  intro n
  induction n with
  | zero =>
    intro x1 x2 x3 x4 x5 S q H
    cases H
  | succ n ih =>
    intro x1 x2 x3 x4 x5 S q H
    have H : (if x5 < 0 then (g236_59 F F x1 x2 x3 x4 0 S) else (am_ck ((64 * x2) + x5) 4096 (am_ck (((64 * x2) + x4) + x5) 4096 (am_lt ((am_upI S.1 128 (((64 * x2) + x4) + x5).toNatClampNeg (S.1 128 ((64 * x2) + x5).toNatClampNeg), S.2) : AmT) fun S6 => g236_18 F n x1 x2 x3 x4 (x5 + (-1)) S6)))) = some q := H
    refine ex_iload rfl ?_
    by_cases h1 : x5 < 0
    · rw [if_pos h1] at H
      refine ex_if_lt_j (ct := am_c236_56) h1 rfl ?_
      refine ex_iconst (v := 0) (by decide) ?_
      refine ex_istore (L2 := [.ref 95, .int x1, .int x2, .int x3, .int x4, .int 0]) (Nat.le_of_ble_eq_true rfl) rfl ?_
      exact e236_59 hd _ _ _ _ _ _ _ _ H
    · rw [if_neg h1] at H
      refine ex_if_lt_f h1 ?_
      refine ex_aload_n rfl ?_
      refine ex_getR (w := 128) rfl rfl rfl ?_
      refine ex_bipush (v := 64) (by decide) ?_
      refine ex_iload_n rfl ?_
      refine ex_imul ?_
      refine ex_iload rfl ?_
      refine ex_iadd ?_
      refine ex_iload rfl ?_
      refine ex_iadd ?_
      refine ex_aload_n rfl ?_
      refine ex_getR (w := 128) rfl rfl rfl ?_
      refine ex_bipush (v := 64) (by decide) ?_
      refine ex_iload_n rfl ?_
      refine ex_imul ?_
      refine ex_iload rfl ?_
      refine ex_iadd ?_
      obtain ⟨hj, H⟩ := am_ck_el H
      refine ex_iald (k := 4096) (v := S.1 128 ((64 * x2) + x5).toNatClampNeg) rfl hj rfl ?_
      obtain ⟨hj, H⟩ := am_ck_el H
      refine ex_iast (k := 4096) rfl rfl hj ?_
      generalize ((am_upI S.1 128 (((64 * x2) + x4) + x5).toNatClampNeg (S.1 128 ((64 * x2) + x5).toNatClampNeg), S.2) : AmT) = S6 at H ⊢
      have H := am_lt_el H
      refine ex_iinc (L2 := [.ref 95, .int x1, .int x2, .int x3, .int x4, .int (x5 + (-1))]) (v := (x5 + (-1))) rfl (Nat.le_of_ble_eq_true rfl) (congrArg (fun z => x5 + z) (by decide)) rfl ?_
      refine ex_goto (ct := am_c236_18) rfl ?_
      exact ih _ _ _ _ _ _ _ H
set_option maxHeartbeats 1000000 in
set_option maxRecDepth 20000 in
theorem r236 {Lg : Nat} {xs : Nat → Int32} {d F : Nat} {x1 : Int32} {x2 : Int32} {x3 : Int32} {S : AmT} {q : AmT} (hd : 0 ≤ d) (H : f236 F x1 x2 x3 S = some q) : Ex (am_X Lg xs) d 236 (am_P 236) (am_ini (am_Mi 236).1 [.ref 95, .int x1, .int x2, .int x3]) [] (hS S) (none, hS q) := by
  unfold f236 at H
  show Ex (am_X Lg xs) _ 236 am_c236_0 [.ref 95, .int x1, .int x2, .int x3, .long 0, .long 0] [] (hS S) (none, hS q)
  refine ex_aload_n rfl ?_
  refine ex_getR (w := 127) rfl rfl rfl ?_
  refine ex_iload_n rfl ?_
  obtain ⟨hj, H⟩ := am_ck_el H
  refine ex_iald (k := 64) (v := S.1 127 x3.toNatClampNeg) rfl hj rfl ?_
  refine ex_istore (L2 := [.ref 95, .int x1, .int x2, .int x3, .int (S.1 127 x3.toNatClampNeg), .long 0]) (Nat.le_of_ble_eq_true rfl) rfl ?_
  refine ex_aload_n rfl ?_
  refine ex_getR (w := 127) rfl rfl rfl ?_
  refine ex_iload_n rfl ?_
  obtain ⟨hj, H⟩ := am_ck_el H
  refine ex_iald (k := 64) (v := S.1 127 x2.toNatClampNeg) rfl hj rfl ?_
  refine ex_iconst (v := 1) (by decide) ?_
  refine ex_isub ?_
  refine ex_istore (L2 := [.ref 95, .int x1, .int x2, .int x3, .int (S.1 127 x3.toNatClampNeg), .int ((S.1 127 x2.toNatClampNeg) - 1)]) (Nat.le_of_ble_eq_true rfl) rfl ?_
  exact e236_18 hd _ _ _ _ _ _ _ _ H
-- X10_faceOf
def f241 (F : Nat) (x1 : Int32) (S : AmT) : Option (Int32 × AmT) := am_ck (x1 / 2) 4096 (if (x1 - x1 / 2 * 2) = 0 then (some ((S.1 128 (x1 / 2).toNatClampNeg), S)) else (some (((S.1 128 (x1 / 2).toNatClampNeg) ^^^ 64), S)))
set_option maxHeartbeats 1000000 in
set_option maxRecDepth 20000 in
theorem r241 {Lg : Nat} {xs : Nat → Int32} {d F : Nat} {x1 : Int32} {S : AmT} {q : Int32 × AmT} (hd : 0 ≤ d) (H : f241 F x1 S = some q) : Ex (am_X Lg xs) d 241 (am_P 241) (am_ini (am_Mi 241).1 [.ref 95, .int x1]) [] (hS S) (some q.1, hS q.2) := by
  unfold f241 at H
  show Ex (am_X Lg xs) _ 241 am_c241_0 [.ref 95, .int x1, .long 0] [] (hS S) (some q.1, hS q.2)
  refine ex_aload_n rfl ?_
  refine ex_getR (w := 128) rfl rfl rfl ?_
  refine ex_iload_n rfl ?_
  refine ex_iconst (v := 2) (by decide) ?_
  refine ex_idiv (by decide) ?_
  obtain ⟨hj, H⟩ := am_ck_el H
  refine ex_iald (k := 4096) (v := S.1 128 (x1 / 2).toNatClampNeg) rfl hj rfl ?_
  refine ex_istore_n (L2 := [.ref 95, .int x1, .int (S.1 128 (x1 / 2).toNatClampNeg)]) (Nat.le_of_ble_eq_true rfl) rfl ?_
  refine ex_iload_n rfl ?_
  refine ex_iconst (v := 2) (by decide) ?_
  refine ex_irem (by decide) ?_
  by_cases h1 : (x1 - x1 / 2 * 2) = 0
  · rw [if_pos h1] at H
    refine ex_if_ne_f h1 ?_
    refine ex_iload_n rfl ?_
    refine ex_goto (ct := am_c241_23) rfl ?_
    have H := Option.some.inj H
    subst H
    exact ex_iret (M := 241) (Or.inl rfl)
  · rw [if_neg h1] at H
    refine ex_if_ne_j (ct := am_c241_19) h1 rfl ?_
    refine ex_iload_n rfl ?_
    refine ex_bipush (v := 64) (by decide) ?_
    refine ex_ixor ?_
    have H := Option.some.inj H
    subst H
    exact ex_iret (M := 241) (Or.inl rfl)
-- X10_sideOf
def f242 (F : Nat) (x0 : Int32) (S : AmT) : Option (Int32 × AmT) := some (((x0 >>> (6 &&& 31)) &&& 1), S)
set_option maxHeartbeats 1000000 in
set_option maxRecDepth 20000 in
theorem r242 {Lg : Nat} {xs : Nat → Int32} {d F : Nat} {x0 : Int32} {S : AmT} {q : Int32 × AmT} (hd : 0 ≤ d) (H : f242 F x0 S = some q) : Ex (am_X Lg xs) d 242 (am_P 242) (am_ini (am_Mi 242).1 [.int x0]) [] (hS S) (some q.1, hS q.2) := by
  unfold f242 at H
  show Ex (am_X Lg xs) _ 242 am_c242_0 [.int x0] [] (hS S) (some q.1, hS q.2)
  refine ex_iload_n rfl ?_
  refine ex_bipush (v := 6) (by decide) ?_
  refine ex_ishr ?_
  refine ex_iconst (v := 1) (by decide) ?_
  refine ex_iand ?_
  have H := Option.some.inj H
  subst H
  exact ex_iret (M := 242) (Or.inl rfl)
-- X10_rowOf
def f243 (F : Nat) (x0 : Int32) (S : AmT) : Option (Int32 × AmT) := some (((x0 >>> (3 &&& 31)) &&& 7), S)
set_option maxHeartbeats 1000000 in
set_option maxRecDepth 20000 in
theorem r243 {Lg : Nat} {xs : Nat → Int32} {d F : Nat} {x0 : Int32} {S : AmT} {q : Int32 × AmT} (hd : 0 ≤ d) (H : f243 F x0 S = some q) : Ex (am_X Lg xs) d 243 (am_P 243) (am_ini (am_Mi 243).1 [.int x0]) [] (hS S) (some q.1, hS q.2) := by
  unfold f243 at H
  show Ex (am_X Lg xs) _ 243 am_c243_0 [.int x0] [] (hS S) (some q.1, hS q.2)
  refine ex_iload_n rfl ?_
  refine ex_iconst (v := 3) (by decide) ?_
  refine ex_ishr ?_
  refine ex_bipush (v := 7) (by decide) ?_
  refine ex_iand ?_
  have H := Option.some.inj H
  subst H
  exact ex_iret (M := 243) (Or.inl rfl)
-- X10_columnOf
def f244 (F : Nat) (x0 : Int32) (S : AmT) : Option (Int32 × AmT) := some ((x0 &&& 7), S)
set_option maxHeartbeats 1000000 in
set_option maxRecDepth 20000 in
theorem r244 {Lg : Nat} {xs : Nat → Int32} {d F : Nat} {x0 : Int32} {S : AmT} {q : Int32 × AmT} (hd : 0 ≤ d) (H : f244 F x0 S = some q) : Ex (am_X Lg xs) d 244 (am_P 244) (am_ini (am_Mi 244).1 [.int x0]) [] (hS S) (some q.1, hS q.2) := by
  unfold f244 at H
  show Ex (am_X Lg xs) _ 244 am_c244_0 [.int x0] [] (hS S) (some q.1, hS q.2)
  refine ex_iload_n rfl ?_
  refine ex_bipush (v := 7) (by decide) ?_
  refine ex_iand ?_
  have H := Option.some.inj H
  subst H
  exact ex_iret (M := 244) (Or.inl rfl)
-- X10_upOf
def f245 (F : Nat) (x0 : Int32) (S : AmT) : Option (Int32 × AmT) := some (((x0 >>> (7 &&& 31)) &&& 1), S)
set_option maxHeartbeats 1000000 in
set_option maxRecDepth 20000 in
theorem r245 {Lg : Nat} {xs : Nat → Int32} {d F : Nat} {x0 : Int32} {S : AmT} {q : Int32 × AmT} (hd : 0 ≤ d) (H : f245 F x0 S = some q) : Ex (am_X Lg xs) d 245 (am_P 245) (am_ini (am_Mi 245).1 [.int x0]) [] (hS S) (some q.1, hS q.2) := by
  unfold f245 at H
  show Ex (am_X Lg xs) _ 245 am_c245_0 [.int x0] [] (hS S) (some q.1, hS q.2)
  refine ex_iload_n rfl ?_
  refine ex_bipush (v := 7) (by decide) ?_
  refine ex_ishr ?_
  refine ex_iconst (v := 1) (by decide) ?_
  refine ex_iand ?_
  have H := Option.some.inj H
  subst H
  exact ex_iret (M := 245) (Or.inl rfl)
def g246_12 (F : Nat) (S : AmT) : Option (Int32 × AmT) := some (4, S)
def g246_24 (F : Nat) (S : AmT) : Option (Int32 × AmT) := some (3, S)
-- X10_wrongGrid
def f246 (F : Nat) (x0 : Int32) (x1 : Int32) (S : AmT) : Option (Int32 × AmT) := if 8 < x0 then (g246_12 F S) else (if x1 ≤ 8 then (if x0 < 0 then (g246_24 F S) else (if 0 ≤ x1 then (some (0, S)) else (g246_24 F S))) else (g246_12 F S))
set_option maxHeartbeats 1000000 in
set_option maxRecDepth 20000 in
theorem e246_12 {Lg : Nat} {xs : Nat → Int32} {d F : Nat} {w0 : Value} {w1 : Value} {S : AmT} {q : Int32 × AmT} (hd : 0 ≤ d) (H : g246_12 F S = some q) : Ex (am_X Lg xs) d 246 am_c246_12 [w0, w1] [] (hS S) (some q.1, hS q.2) := by
  unfold g246_12 at H
  refine ex_iconst (v := 4) (by decide) ?_
  refine ex_goto (ct := am_c246_29) rfl ?_
  have H := Option.some.inj H
  subst H
  exact ex_iret (M := 246) (Or.inl rfl)
set_option maxHeartbeats 1000000 in
set_option maxRecDepth 20000 in
theorem e246_24 {Lg : Nat} {xs : Nat → Int32} {d F : Nat} {w0 : Value} {w1 : Value} {S : AmT} {q : Int32 × AmT} (hd : 0 ≤ d) (H : g246_24 F S = some q) : Ex (am_X Lg xs) d 246 am_c246_24 [w0, w1] [] (hS S) (some q.1, hS q.2) := by
  unfold g246_24 at H
  refine ex_iconst (v := 3) (by decide) ?_
  refine ex_goto (ct := am_c246_29) rfl ?_
  have H := Option.some.inj H
  subst H
  exact ex_iret (M := 246) (Or.inl rfl)
set_option maxHeartbeats 1000000 in
set_option maxRecDepth 20000 in
theorem r246 {Lg : Nat} {xs : Nat → Int32} {d F : Nat} {x0 : Int32} {x1 : Int32} {S : AmT} {q : Int32 × AmT} (hd : 0 ≤ d) (H : f246 F x0 x1 S = some q) : Ex (am_X Lg xs) d 246 (am_P 246) (am_ini (am_Mi 246).1 [.int x0, .int x1]) [] (hS S) (some q.1, hS q.2) := by
  unfold f246 at H
  show Ex (am_X Lg xs) _ 246 am_c246_0 [.int x0, .int x1] [] (hS S) (some q.1, hS q.2)
  refine ex_iload_n rfl ?_
  refine ex_bipush (v := 8) (by decide) ?_
  by_cases h1 : 8 < x0
  · rw [if_pos h1] at H
    refine ex_icmp_gt_j (ct := am_c246_12) h1 rfl ?_
    exact e246_12 hd H
  · rw [if_neg h1] at H
    refine ex_icmp_gt_f h1 ?_
    refine ex_iload_n rfl ?_
    refine ex_bipush (v := 8) (by decide) ?_
    by_cases h2 : x1 ≤ 8
    · rw [if_pos h2] at H
      refine ex_icmp_le_j (ct := am_c246_16) h2 rfl ?_
      refine ex_iload_n rfl ?_
      by_cases h3 : x0 < 0
      · rw [if_pos h3] at H
        refine ex_if_lt_j (ct := am_c246_24) h3 rfl ?_
        exact e246_24 hd H
      · rw [if_neg h3] at H
        refine ex_if_lt_f h3 ?_
        refine ex_iload_n rfl ?_
        by_cases h4 : 0 ≤ x1
        · rw [if_pos h4] at H
          refine ex_if_ge_j (ct := am_c246_28) h4 rfl ?_
          refine ex_iconst (v := 0) (by decide) ?_
          have H := Option.some.inj H
          subst H
          exact ex_iret (M := 246) (Or.inl rfl)
        · rw [if_neg h4] at H
          refine ex_if_ge_f h4 ?_
          exact e246_24 hd H
    · rw [if_neg h2] at H
      refine ex_icmp_le_f h2 ?_
      exact e246_12 hd H
-- X10_rowAt
def f250 (F : Nat) (x0 : Int32) (x1 : Int32) (x2 : Int32) (S : AmT) : Option (Int32 × AmT) := some ((((16 * x0) + (8 * x1)) + x2), S)
set_option maxHeartbeats 1000000 in
set_option maxRecDepth 20000 in
theorem r250 {Lg : Nat} {xs : Nat → Int32} {d F : Nat} {x0 : Int32} {x1 : Int32} {x2 : Int32} {S : AmT} {q : Int32 × AmT} (hd : 0 ≤ d) (H : f250 F x0 x1 x2 S = some q) : Ex (am_X Lg xs) d 250 (am_P 250) (am_ini (am_Mi 250).1 [.int x0, .int x1, .int x2]) [] (hS S) (some q.1, hS q.2) := by
  unfold f250 at H
  show Ex (am_X Lg xs) _ 250 am_c250_0 [.int x0, .int x1, .int x2] [] (hS S) (some q.1, hS q.2)
  refine ex_bipush (v := 16) (by decide) ?_
  refine ex_iload_n rfl ?_
  refine ex_imul ?_
  refine ex_bipush (v := 8) (by decide) ?_
  refine ex_iload_n rfl ?_
  refine ex_imul ?_
  refine ex_iadd ?_
  refine ex_iload_n rfl ?_
  refine ex_iadd ?_
  have H := Option.some.inj H
  subst H
  exact ex_iret (M := 250) (Or.inl rfl)
-- X10_list
def f259 (F : Nat) (x1 : Int32) (x2 : Int32) (x3 : Int32) (S : AmT) : Option AmT := am_ck (S.1 95 47) 2048 (am_lt ((am_upI S.1 129 (S.1 95 47).toNatClampNeg x1, S.2) : AmT) fun S1 => am_ck (S1.1 95 47) 2048 (am_lt ((am_upI S1.1 130 (S1.1 95 47).toNatClampNeg x2, S1.2) : AmT) fun S2 => am_ck (S2.1 95 47) 2048 (am_lt ((am_upI S2.1 131 (S2.1 95 47).toNatClampNeg x3, S2.2) : AmT) fun S3 => am_lt ((am_upI S3.1 95 47 ((S3.1 95 47) + 1), S3.2) : AmT) fun S4 => some S4)))
set_option maxHeartbeats 1000000 in
set_option maxRecDepth 20000 in
theorem r259 {Lg : Nat} {xs : Nat → Int32} {d F : Nat} {x1 : Int32} {x2 : Int32} {x3 : Int32} {S : AmT} {q : AmT} (hd : 0 ≤ d) (H : f259 F x1 x2 x3 S = some q) : Ex (am_X Lg xs) d 259 (am_P 259) (am_ini (am_Mi 259).1 [.ref 95, .int x1, .int x2, .int x3]) [] (hS S) (none, hS q) := by
  unfold f259 at H
  show Ex (am_X Lg xs) _ 259 am_c259_0 [.ref 95, .int x1, .int x2, .int x3] [] (hS S) (none, hS q)
  refine ex_aload_n rfl ?_
  refine ex_getR (w := 129) rfl rfl rfl ?_
  refine ex_aload_n rfl ?_
  refine ex_gI rfl (by decide) ?_
  refine ex_iload_n rfl ?_
  obtain ⟨hj, H⟩ := am_ck_el H
  refine ex_iast (k := 2048) rfl rfl hj ?_
  generalize ((am_upI S.1 129 (S.1 95 47).toNatClampNeg x1, S.2) : AmT) = S1 at H ⊢
  have H := am_lt_el H
  refine ex_aload_n rfl ?_
  refine ex_getR (w := 130) rfl rfl rfl ?_
  refine ex_aload_n rfl ?_
  refine ex_gI rfl (by decide) ?_
  refine ex_iload_n rfl ?_
  obtain ⟨hj, H⟩ := am_ck_el H
  refine ex_iast (k := 2048) rfl rfl hj ?_
  generalize ((am_upI S1.1 130 (S1.1 95 47).toNatClampNeg x2, S1.2) : AmT) = S2 at H ⊢
  have H := am_lt_el H
  refine ex_aload_n rfl ?_
  refine ex_getR (w := 131) rfl rfl rfl ?_
  refine ex_aload_n rfl ?_
  refine ex_gI rfl (by decide) ?_
  refine ex_iload_n rfl ?_
  obtain ⟨hj, H⟩ := am_ck_el H
  refine ex_iast (k := 2048) rfl rfl hj ?_
  generalize ((am_upI S2.1 131 (S2.1 95 47).toNatClampNeg x3, S2.2) : AmT) = S3 at H ⊢
  have H := am_lt_el H
  refine ex_aload_n rfl ?_
  refine ex_dupr ?_
  refine ex_gI rfl (by decide) ?_
  refine ex_iconst (v := 1) (by decide) ?_
  refine ex_iadd ?_
  refine ex_putI rfl (by decide) (fun z => absurd z.1 (by decide)) ?_
  generalize ((am_upI S3.1 95 47 ((S3.1 95 47) + 1), S3.2) : AmT) = S4 at H ⊢
  have H := am_lt_el H
  have H := Option.some.inj H
  subst H
  exact ex_vret (M := 259) rfl
def g280_2 (F : Nat) : Nat → Int32 → Int32 → AmT → Option (Int32 × AmT)
  | 0, _, _, _ => none
  | n + 1, x1, x2, S => if (S.1 96 2) ≤ x2 then (some ((-1), S)) else (am_ck x2 16 (if (S.1 112 x2.toNatClampNeg) = x1 then (some (x2, S)) else (g280_2 F n x1 (x2 + 1) S)))
-- X10_sheetThere
def f280 (F : Nat) (x1 : Int32) (S : AmT) : Option (Int32 × AmT) := g280_2 F F x1 0 S
set_option maxHeartbeats 1000000 in
set_option maxRecDepth 20000 in
theorem e280_2 {Lg : Nat} {xs : Nat → Int32} {d F : Nat} (hd : 0 ≤ d) : ∀ (n : Nat) (x1 : Int32) (x2 : Int32) (S : AmT) (q : Int32 × AmT), g280_2 F n x1 x2 S = some q → Ex (am_X Lg xs) d 280 am_c280_2 [.ref 95, .int x1, .int x2] [] (hS S) (some q.1, hS q.2) := by
  intro n
  induction n with
  | zero =>
    intro x1 x2 S q H
    cases H
  | succ n ih =>
    intro x1 x2 S q H
    have H : (if (S.1 96 2) ≤ x2 then (some ((-1), S)) else (am_ck x2 16 (if (S.1 112 x2.toNatClampNeg) = x1 then (some (x2, S)) else (g280_2 F n x1 (x2 + 1) S)))) = some q := H
    refine ex_iload_n rfl ?_
    refine ex_aload_n rfl ?_
    refine ex_getR (w := 96) rfl rfl rfl ?_
    refine ex_iconst (v := 2) (by decide) ?_
    refine ex_iald (v := S.1 96 2) rfl (by decide) rfl ?_
    by_cases h1 : (S.1 96 2) ≤ x2
    · rw [if_pos h1] at H
      refine ex_icmp_ge_j (ct := am_c280_30) h1 rfl ?_
      refine ex_iconst (v := (-1)) (by decide) ?_
      have H := Option.some.inj H
      subst H
      exact ex_iret (M := 280) (Or.inl rfl)
    · rw [if_neg h1] at H
      refine ex_icmp_ge_f h1 ?_
      refine ex_aload_n rfl ?_
      refine ex_getR (w := 112) rfl rfl rfl ?_
      refine ex_iload_n rfl ?_
      obtain ⟨hj, H⟩ := am_ck_el H
      refine ex_iald (k := 16) (v := S.1 112 x2.toNatClampNeg) rfl hj rfl ?_
      refine ex_iload_n rfl ?_
      by_cases h2 : (S.1 112 x2.toNatClampNeg) = x1
      · rw [if_pos h2] at H
        refine ex_icmp_ne_f h2 ?_
        refine ex_iload_n rfl ?_
        have H := Option.some.inj H
        subst H
        exact ex_iret (M := 280) (Or.inl rfl)
      · rw [if_neg h2] at H
        refine ex_icmp_ne_j (ct := am_c280_24) h2 rfl ?_
        refine ex_iinc (L2 := [.ref 95, .int x1, .int (x2 + 1)]) (v := (x2 + 1)) rfl (Nat.le_of_ble_eq_true rfl) (congrArg (fun z => x2 + z) (by decide)) rfl ?_
        refine ex_goto (ct := am_c280_2) rfl ?_
        exact ih _ _ _ _ H
set_option maxHeartbeats 1000000 in
set_option maxRecDepth 20000 in
theorem r280 {Lg : Nat} {xs : Nat → Int32} {d F : Nat} {x1 : Int32} {S : AmT} {q : Int32 × AmT} (hd : 0 ≤ d) (H : f280 F x1 S = some q) : Ex (am_X Lg xs) d 280 (am_P 280) (am_ini (am_Mi 280).1 [.ref 95, .int x1]) [] (hS S) (some q.1, hS q.2) := by
  unfold f280 at H
  show Ex (am_X Lg xs) _ 280 am_c280_0 [.ref 95, .int x1, .long 0] [] (hS S) (some q.1, hS q.2)
  refine ex_iconst (v := 0) (by decide) ?_
  refine ex_istore_n (L2 := [.ref 95, .int x1, .int 0]) (Nat.le_of_ble_eq_true rfl) rfl ?_
  exact e280_2 hd _ _ _ _ _ H
-- X10_told
def f292 (F : Nat) (x1 : Int32) (S : AmT) : Option (Int32 × AmT) := if x1 = 0 then (some ((S.1 95 30), S)) else if x1 = 1 then (some ((S.1 95 31), S)) else if x1 = 2 then (some ((S.1 95 32), S)) else if x1 = 3 then (some ((S.1 95 33), S)) else if x1 = 4 then (some ((S.1 95 34), S)) else if x1 = 5 then (some ((S.1 96 8), S)) else if x1 = 6 then (some ((S.1 95 36), S)) else if x1 = 7 then (some ((S.1 96 0), S)) else if x1 = 8 then (some ((S.1 96 1), S)) else if x1 = 9 then (some ((S.1 96 2), S)) else if x1 = 10 then (some ((S.1 96 3), S)) else if x1 = 11 then (some ((S.1 96 4), S)) else if x1 = 12 then (some ((S.1 96 6), S)) else (some ((-1), S))
set_option maxHeartbeats 1000000 in
set_option maxRecDepth 20000 in
theorem r292 {Lg : Nat} {xs : Nat → Int32} {d F : Nat} {x1 : Int32} {S : AmT} {q : Int32 × AmT} (hd : 0 ≤ d) (H : f292 F x1 S = some q) : Ex (am_X Lg xs) d 292 (am_P 292) (am_ini (am_Mi 292).1 [.ref 95, .int x1]) [] (hS S) (some q.1, hS q.2) := by
  unfold f292 at H
  show Ex (am_X Lg xs) _ 292 am_c292_0 [.ref 95, .int x1] [] (hS S) (some q.1, hS q.2)
  refine ex_iload_n rfl ?_
  by_cases h1 : x1 = 0
  · rw [if_pos h1] at H
    refine ex_table (off := 67) (ct := am_c292_68) (by rw [h1]; decide) rfl ?_
    refine ex_aload_n rfl ?_
    refine ex_gI rfl (by decide) ?_
    have H := Option.some.inj H
    subst H
    exact ex_iret (M := 292) (Or.inl rfl)
  rw [if_neg h1] at H
  by_cases h2 : x1 = 1
  · rw [if_pos h2] at H
    refine ex_table (off := 72) (ct := am_c292_73) (by rw [h2]; decide) rfl ?_
    refine ex_aload_n rfl ?_
    refine ex_gI rfl (by decide) ?_
    have H := Option.some.inj H
    subst H
    exact ex_iret (M := 292) (Or.inl rfl)
  rw [if_neg h2] at H
  by_cases h3 : x1 = 2
  · rw [if_pos h3] at H
    refine ex_table (off := 77) (ct := am_c292_78) (by rw [h3]; decide) rfl ?_
    refine ex_aload_n rfl ?_
    refine ex_gI rfl (by decide) ?_
    have H := Option.some.inj H
    subst H
    exact ex_iret (M := 292) (Or.inl rfl)
  rw [if_neg h3] at H
  by_cases h4 : x1 = 3
  · rw [if_pos h4] at H
    refine ex_table (off := 82) (ct := am_c292_83) (by rw [h4]; decide) rfl ?_
    refine ex_aload_n rfl ?_
    refine ex_gI rfl (by decide) ?_
    have H := Option.some.inj H
    subst H
    exact ex_iret (M := 292) (Or.inl rfl)
  rw [if_neg h4] at H
  by_cases h5 : x1 = 4
  · rw [if_pos h5] at H
    refine ex_table (off := 87) (ct := am_c292_88) (by rw [h5]; decide) rfl ?_
    refine ex_aload_n rfl ?_
    refine ex_gI rfl (by decide) ?_
    have H := Option.some.inj H
    subst H
    exact ex_iret (M := 292) (Or.inl rfl)
  rw [if_neg h5] at H
  by_cases h6 : x1 = 5
  · rw [if_pos h6] at H
    refine ex_table (off := 92) (ct := am_c292_93) (by rw [h6]; decide) rfl ?_
    refine ex_aload_n rfl ?_
    refine ex_getR (w := 96) rfl rfl rfl ?_
    refine ex_bipush (v := 8) (by decide) ?_
    refine ex_iald (v := S.1 96 8) rfl (by decide) rfl ?_
    have H := Option.some.inj H
    subst H
    exact ex_iret (M := 292) (Or.inl rfl)
  rw [if_neg h6] at H
  by_cases h7 : x1 = 6
  · rw [if_pos h7] at H
    refine ex_table (off := 100) (ct := am_c292_101) (by rw [h7]; decide) rfl ?_
    refine ex_aload_n rfl ?_
    refine ex_gI rfl (by decide) ?_
    have H := Option.some.inj H
    subst H
    exact ex_iret (M := 292) (Or.inl rfl)
  rw [if_neg h7] at H
  by_cases h8 : x1 = 7
  · rw [if_pos h8] at H
    refine ex_table (off := 105) (ct := am_c292_106) (by rw [h8]; decide) rfl ?_
    refine ex_aload_n rfl ?_
    refine ex_getR (w := 96) rfl rfl rfl ?_
    refine ex_iconst (v := 0) (by decide) ?_
    refine ex_iald (v := S.1 96 0) rfl (by decide) rfl ?_
    have H := Option.some.inj H
    subst H
    exact ex_iret (M := 292) (Or.inl rfl)
  rw [if_neg h8] at H
  by_cases h9 : x1 = 8
  · rw [if_pos h9] at H
    refine ex_table (off := 112) (ct := am_c292_113) (by rw [h9]; decide) rfl ?_
    refine ex_aload_n rfl ?_
    refine ex_getR (w := 96) rfl rfl rfl ?_
    refine ex_iconst (v := 1) (by decide) ?_
    refine ex_iald (v := S.1 96 1) rfl (by decide) rfl ?_
    have H := Option.some.inj H
    subst H
    exact ex_iret (M := 292) (Or.inl rfl)
  rw [if_neg h9] at H
  by_cases h10 : x1 = 9
  · rw [if_pos h10] at H
    refine ex_table (off := 119) (ct := am_c292_120) (by rw [h10]; decide) rfl ?_
    refine ex_aload_n rfl ?_
    refine ex_getR (w := 96) rfl rfl rfl ?_
    refine ex_iconst (v := 2) (by decide) ?_
    refine ex_iald (v := S.1 96 2) rfl (by decide) rfl ?_
    have H := Option.some.inj H
    subst H
    exact ex_iret (M := 292) (Or.inl rfl)
  rw [if_neg h10] at H
  by_cases h11 : x1 = 10
  · rw [if_pos h11] at H
    refine ex_table (off := 126) (ct := am_c292_127) (by rw [h11]; decide) rfl ?_
    refine ex_aload_n rfl ?_
    refine ex_getR (w := 96) rfl rfl rfl ?_
    refine ex_iconst (v := 3) (by decide) ?_
    refine ex_iald (v := S.1 96 3) rfl (by decide) rfl ?_
    have H := Option.some.inj H
    subst H
    exact ex_iret (M := 292) (Or.inl rfl)
  rw [if_neg h11] at H
  by_cases h12 : x1 = 11
  · rw [if_pos h12] at H
    refine ex_table (off := 133) (ct := am_c292_134) (by rw [h12]; decide) rfl ?_
    refine ex_aload_n rfl ?_
    refine ex_getR (w := 96) rfl rfl rfl ?_
    refine ex_iconst (v := 4) (by decide) ?_
    refine ex_iald (v := S.1 96 4) rfl (by decide) rfl ?_
    have H := Option.some.inj H
    subst H
    exact ex_iret (M := 292) (Or.inl rfl)
  rw [if_neg h12] at H
  by_cases h13 : x1 = 12
  · rw [if_pos h13] at H
    refine ex_table (off := 140) (ct := am_c292_141) (by rw [h13]; decide) rfl ?_
    refine ex_aload_n rfl ?_
    refine ex_getR (w := 96) rfl rfl rfl ?_
    refine ex_bipush (v := 6) (by decide) ?_
    refine ex_iald (v := S.1 96 6) rfl (by decide) rfl ?_
    have H := Option.some.inj H
    subst H
    exact ex_iret (M := 292) (Or.inl rfl)
  rw [if_neg h13] at H
  refine ex_table (off := 148) (ct := am_c292_149) (am_sw_out 13 (by decide) (by decide) (by decide) (fun k hk => match k, hk with | 0, _ => h1 | 1, _ => h2 | 2, _ => h3 | 3, _ => h4 | 4, _ => h5 | 5, _ => h6 | 6, _ => h7 | 7, _ => h8 | 8, _ => h9 | 9, _ => h10 | 10, _ => h11 | 11, _ => h12 | 12, _ => h13 | k + 13, hk => absurd hk (by omega))) rfl ?_
  refine ex_iconst (v := (-1)) (by decide) ?_
  have H := Option.some.inj H
  subst H
  exact ex_iret (M := 292) (Or.inl rfl)
-- J9_floorMod_7cf53
def f295 (F : Nat) (x0 : Int32) (x1 : Int32) (S : AmT) : Option (Int32 × AmT) := am_nz x1 (if 0 ≤ (x0 ^^^ x1) then (some ((x0 - x0 / x1 * x1), S)) else (if (x0 - x0 / x1 * x1) = 0 then (some ((x0 - x0 / x1 * x1), S)) else (some (((x0 - x0 / x1 * x1) + x1), S))))
set_option maxHeartbeats 1000000 in
set_option maxRecDepth 20000 in
theorem r295 {Lg : Nat} {xs : Nat → Int32} {d F : Nat} {x0 : Int32} {x1 : Int32} {S : AmT} {q : Int32 × AmT} (hd : 0 ≤ d) (H : f295 F x0 x1 S = some q) : Ex (am_X Lg xs) d 295 (am_P 295) (am_ini (am_Mi 295).1 [.int x0, .int x1]) [] (hS S) (some q.1, hS q.2) := by
  unfold f295 at H
  show Ex (am_X Lg xs) _ 295 am_c295_0 [.int x0, .int x1, .long 0] [] (hS S) (some q.1, hS q.2)
  refine ex_iload_n rfl ?_
  refine ex_iload_n rfl ?_
  obtain ⟨hz, H⟩ := am_nz_el H
  refine ex_irem hz ?_
  refine ex_istore_n (L2 := [.int x0, .int x1, .int (x0 - x0 / x1 * x1)]) (Nat.le_of_ble_eq_true rfl) rfl ?_
  refine ex_iload_n rfl ?_
  refine ex_iload_n rfl ?_
  refine ex_ixor ?_
  by_cases h1 : 0 ≤ (x0 ^^^ x1)
  · rw [if_pos h1] at H
    refine ex_if_ge_j (ct := am_c295_18) h1 rfl ?_
    refine ex_iload_n rfl ?_
    have H := Option.some.inj H
    subst H
    exact ex_iret (M := 295) (Or.inl rfl)
  · rw [if_neg h1] at H
    refine ex_if_ge_f h1 ?_
    refine ex_iload_n rfl ?_
    by_cases h2 : (x0 - x0 / x1 * x1) = 0
    · rw [if_pos h2] at H
      refine ex_if_eq_j (ct := am_c295_18) h2 rfl ?_
      refine ex_iload_n rfl ?_
      have H := Option.some.inj H
      subst H
      exact ex_iret (M := 295) (Or.inl rfl)
    · rw [if_neg h2] at H
      refine ex_if_eq_f h2 ?_
      refine ex_iload_n rfl ?_
      refine ex_iload_n rfl ?_
      refine ex_iadd ?_
      have H := Option.some.inj H
      subst H
      exact ex_iret (M := 295) (Or.inl rfl)
-- J9_max_7cf53
def f296 (F : Nat) (x0 : Int32) (x1 : Int32) (S : AmT) : Option (Int32 × AmT) := if x0 < x1 then (some (x1, S)) else (some (x0, S))
set_option maxHeartbeats 1000000 in
set_option maxRecDepth 20000 in
theorem r296 {Lg : Nat} {xs : Nat → Int32} {d F : Nat} {x0 : Int32} {x1 : Int32} {S : AmT} {q : Int32 × AmT} (hd : 0 ≤ d) (H : f296 F x0 x1 S = some q) : Ex (am_X Lg xs) d 296 (am_P 296) (am_ini (am_Mi 296).1 [.int x0, .int x1]) [] (hS S) (some q.1, hS q.2) := by
  unfold f296 at H
  show Ex (am_X Lg xs) _ 296 am_c296_0 [.int x0, .int x1] [] (hS S) (some q.1, hS q.2)
  refine ex_iload_n rfl ?_
  refine ex_iload_n rfl ?_
  by_cases h1 : x0 < x1
  · rw [if_pos h1] at H
    refine ex_icmp_lt_j (ct := am_c296_9) h1 rfl ?_
    refine ex_iload_n rfl ?_
    have H := Option.some.inj H
    subst H
    exact ex_iret (M := 296) (Or.inl rfl)
  · rw [if_neg h1] at H
    refine ex_icmp_lt_f h1 ?_
    refine ex_iload_n rfl ?_
    refine ex_goto (ct := am_c296_10) rfl ?_
    have H := Option.some.inj H
    subst H
    exact ex_iret (M := 296) (Or.inl rfl)
-- J9_min_7cf53
def f297 (F : Nat) (x0 : Int32) (x1 : Int32) (S : AmT) : Option (Int32 × AmT) := if x1 < x0 then (some (x1, S)) else (some (x0, S))
set_option maxHeartbeats 1000000 in
set_option maxRecDepth 20000 in
theorem r297 {Lg : Nat} {xs : Nat → Int32} {d F : Nat} {x0 : Int32} {x1 : Int32} {S : AmT} {q : Int32 × AmT} (hd : 0 ≤ d) (H : f297 F x0 x1 S = some q) : Ex (am_X Lg xs) d 297 (am_P 297) (am_ini (am_Mi 297).1 [.int x0, .int x1]) [] (hS S) (some q.1, hS q.2) := by
  unfold f297 at H
  show Ex (am_X Lg xs) _ 297 am_c297_0 [.int x0, .int x1] [] (hS S) (some q.1, hS q.2)
  refine ex_iload_n rfl ?_
  refine ex_iload_n rfl ?_
  by_cases h1 : x1 < x0
  · rw [if_pos h1] at H
    refine ex_icmp_gt_j (ct := am_c297_9) h1 rfl ?_
    refine ex_iload_n rfl ?_
    have H := Option.some.inj H
    subst H
    exact ex_iret (M := 297) (Or.inl rfl)
  · rw [if_neg h1] at H
    refine ex_icmp_gt_f h1 ?_
    refine ex_iload_n rfl ?_
    refine ex_goto (ct := am_c297_10) rfl ?_
    have H := Option.some.inj H
    subst H
    exact ex_iret (M := 297) (Or.inl rfl)
-- X5_isLeaf
def f298 (F : Nat) (x0 : Int32) (S : AmT) : Option (Int32 × AmT) := if x0 < 0 then (some (0, S)) else (if 64 ≤ x0 then (some (0, S)) else (some (1, S)))
set_option maxHeartbeats 1000000 in
set_option maxRecDepth 20000 in
theorem r298 {Lg : Nat} {xs : Nat → Int32} {d F : Nat} {x0 : Int32} {S : AmT} {q : Int32 × AmT} (hd : 0 ≤ d) (H : f298 F x0 S = some q) : Ex (am_X Lg xs) d 298 (am_P 298) (am_ini (am_Mi 298).1 [.int x0]) [] (hS S) (some q.1, hS q.2) := by
  unfold f298 at H
  show Ex (am_X Lg xs) _ 298 am_c298_0 [.int x0] [] (hS S) (some q.1, hS q.2)
  refine ex_iload_n rfl ?_
  by_cases h1 : x0 < 0
  · rw [if_pos h1] at H
    refine ex_if_lt_j (ct := am_c298_14) h1 rfl ?_
    refine ex_iconst (v := 0) (by decide) ?_
    have H := Option.some.inj H
    subst H
    exact ex_iret (M := 298) (Or.inr ⟨rfl, by decide⟩)
  · rw [if_neg h1] at H
    refine ex_if_lt_f h1 ?_
    refine ex_iload_n rfl ?_
    refine ex_bipush (v := 64) (by decide) ?_
    by_cases h2 : 64 ≤ x0
    · rw [if_pos h2] at H
      refine ex_icmp_ge_j (ct := am_c298_14) h2 rfl ?_
      refine ex_iconst (v := 0) (by decide) ?_
      have H := Option.some.inj H
      subst H
      exact ex_iret (M := 298) (Or.inr ⟨rfl, by decide⟩)
    · rw [if_neg h2] at H
      refine ex_icmp_ge_f h2 ?_
      refine ex_iconst (v := 1) (by decide) ?_
      refine ex_goto (ct := am_c298_15) rfl ?_
      have H := Option.some.inj H
      subst H
      exact ex_iret (M := 298) (Or.inr ⟨rfl, by decide⟩)
