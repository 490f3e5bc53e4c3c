/-! printed by wip/gen/gen20.py -/
def g237_75 (F : Nat) (k20 : Int32 → Int32 → Int32 → Int32 → Int32 → AmT → Option AmT) (k30 : Int32 → Int32 → Int32 → Int32 → Int32 → Int32 → AmT → Option AmT) : Nat → Int32 → Int32 → Int32 → Int32 → Int32 → Int32 → Int32 → Int32 → Int32 → AmT → Option AmT
  | 0, _, _, _, _, _, _, _, _, _, _ => none
  | n + 1, x1, x2, x3, x4, x5, x6, x7, x8, x9, S => am_ck x8 64 (if (S.1 127 x8.toNatClampNeg) ≤ x9 then (k30 x1 x2 x3 x4 x5 (x6 + 1) S) else (am_ck ((64 * x8) + x9) 4096 (am_ck ((64 * x7) + x9) 4096 (am_lt ((am_upI S.1 128 ((64 * x7) + x9).toNatClampNeg (S.1 128 ((64 * x8) + x9).toNatClampNeg), S.2) : AmT) fun S13 => g237_75 F k20 k30 n x1 x2 x3 x4 x5 x6 x7 x8 (x9 + 1) S13))))
def g237_30 (F : Nat) (k20 : Int32 → Int32 → Int32 → Int32 → Int32 → AmT → Option AmT) : Nat → Int32 → Int32 → Int32 → Int32 → Int32 → Int32 → AmT → Option AmT
  | 0, _, _, _, _, _, _, _ => none
  | n + 1, x1, x2, x3, x4, x5, x6, S => if x3 ≤ x6 then (k20 x1 x2 x3 x4 (x5 + 1) S) else (am_b2 (f235 F x1 x5 x6 S) fun v7 S8 => am_b2 (f235 F x1 x5 (x2 + x6) S8) fun v9 S10 => am_ck v9 64 (am_ck v7 64 (am_lt ((am_upI S10.1 127 v7.toNatClampNeg (S10.1 127 v9.toNatClampNeg), S10.2) : AmT) fun S11 => g237_75 F k20 (fun x1 x2 x3 x4 x5 x6 S => g237_30 F k20 n x1 x2 x3 x4 x5 x6 S) F x1 x2 x3 x4 x5 x6 v7 v9 0 S11)))
def g237_20 (F : Nat) : Nat → Int32 → Int32 → Int32 → Int32 → Int32 → AmT → Option AmT
  | 0, _, _, _, _, _, _ => none
  | n + 1, x1, x2, x3, x4, x5, S => if x4 ≤ x5 then (if x1 = 0 then (am_lt ((am_upI S.1 95 40 x3, S.2) : AmT) fun S5 => some S5) else (am_lt ((am_upI S.1 95 41 x3, S.2) : AmT) fun S4 => some S4)) else (g237_30 F (fun x1 x2 x3 x4 x5 S => g237_20 F n x1 x2 x3 x4 x5 S) F x1 x2 x3 x4 x5 0 S)
def g237_15 (F : Nat) (x1 : Int32) (x2 : Int32) (x3 : Int32) (s0 : Int32) (S : AmT) : Option AmT := g237_20 F F x1 x2 x3 s0 0 S
-- X10_stays
def f237 (F : Nat) (x1 : Int32) (x2 : Int32) (x3 : Int32) (S : AmT) : Option AmT := if x1 = 0 then (g237_15 F x1 x2 x3 (S.1 95 41) S) else (g237_15 F x1 x2 x3 (S.1 95 40) S)
set_option maxHeartbeats 1000000 in
set_option maxRecDepth 20000 in
theorem e237_75 {Lg : Nat} {xs : Nat → Int32} {d F : Nat} {k20 : Int32 → Int32 → Int32 → Int32 → Int32 → AmT → Option AmT} {k30 : Int32 → Int32 → Int32 → Int32 → Int32 → Int32 → AmT → Option AmT} (hd : 1 ≤ d) (hk20 : ∀ (x1 : Int32) (x2 : Int32) (x3 : Int32) (x4 : Int32) (x5 : Int32) (w6 : Value) (w7 : Value) (w8 : Value) (w9 : Value) (S : AmT) (q : AmT), k20 x1 x2 x3 x4 x5 S = some q → Ex (am_X Lg xs) d 237 am_c237_20 [.ref 95, .int x1, .int x2, .int x3, .int x4, .int x5, w6, w7, w8, w9] [] (hS S) (none, hS q)) (hk30 : ∀ (x1 : Int32) (x2 : Int32) (x3 : Int32) (x4 : Int32) (x5 : Int32) (x6 : Int32) (w7 : Value) (w8 : Value) (w9 : Value) (S : AmT) (q : AmT), k30 x1 x2 x3 x4 x5 x6 S = some q → Ex (am_X Lg xs) d 237 am_c237_30 [.ref 95, .int x1, .int x2, .int x3, .int x4, .int x5, .int x6, w7, w8, w9] [] (hS S) (none, hS q)) : ∀ (n : Nat) (x1 : Int32) (x2 : Int32) (x3 : Int32) (x4 : Int32) (x5 : Int32) (x6 : Int32) (x7 : Int32) (x8 : Int32) (x9 : Int32) (S : AmT) (q : AmT), g237_75 F k20 k30 n x1 x2 x3 x4 x5 x6 x7 x8 x9 S = some q → Ex (am_X Lg xs) d 237 am_c237_75 [.ref 95, .int x1, .int x2, .int x3, .int x4, .int x5, .int x6, .int x7, .int x8, .int x9] [] (hS S) (none, hS q) := by
  obtain ⟨d, rfl⟩ : ∃ d2, d = d2 + 1 := ⟨d - 1, by omega⟩
  intro n
  induction n with
  | zero =>
    intro x1 x2 x3 x4 x5 x6 x7 x8 x9 S q H
    cases H
  | succ n ih =>
    intro x1 x2 x3 x4 x5 x6 x7 x8 x9 S q H
    have H : (am_ck x8 64 (if (S.1 127 x8.toNatClampNeg) ≤ x9 then (k30 x1 x2 x3 x4 x5 (x6 + 1) S) else (am_ck ((64 * x8) + x9) 4096 (am_ck ((64 * x7) + x9) 4096 (am_lt ((am_upI S.1 128 ((64 * x7) + x9).toNatClampNeg (S.1 128 ((64 * x8) + x9).toNatClampNeg), S.2) : AmT) fun S13 => g237_75 F k20 k30 n x1 x2 x3 x4 x5 x6 x7 x8 (x9 + 1) S13))))) = some q := H
    refine ex_iload rfl ?_
    refine ex_aload_n rfl ?_
    refine ex_getR (w := 127) rfl rfl rfl ?_
    refine ex_iload rfl ?_
    obtain ⟨hj, H⟩ := am_ck_el H
    refine ex_iald (k := 64) (v := S.1 127 x8.toNatClampNeg) rfl hj rfl ?_
    by_cases h12 : (S.1 127 x8.toNatClampNeg) ≤ x9
    · rw [if_pos h12] at H
      refine ex_icmp_ge_j (ct := am_c237_119) h12 rfl ?_
      refine ex_iinc (L2 := [.ref 95, .int x1, .int x2, .int x3, .int x4, .int x5, .int (x6 + 1), .int x7, .int x8, .int x9]) (v := (x6 + 1)) rfl (Nat.le_of_ble_eq_true rfl) (congrArg (fun z => x6 + z) (by decide)) rfl ?_
      refine ex_goto (ct := am_c237_30) rfl ?_
      exact hk30 _ _ _ _ _ _ _ _ _ _ _ H
    · rw [if_neg h12] at H
      refine ex_icmp_ge_f h12 ?_
      refine ex_aload_n rfl ?_
      refine ex_getR (w := 128) rfl rfl rfl ?_
      refine ex_bipush (v := 64) (by decide) ?_
      refine ex_iload rfl ?_
      refine ex_imul ?_
      refine ex_iload rfl ?_
      refine ex_iadd ?_
      refine ex_aload_n rfl ?_
      refine ex_getR (w := 128) rfl rfl rfl ?_
      refine ex_bipush (v := 64) (by decide) ?_
      refine ex_iload rfl ?_
      refine ex_imul ?_
      refine ex_iload rfl ?_
      refine ex_iadd ?_
      obtain ⟨hj, H⟩ := am_ck_el H
      refine ex_iald (k := 4096) (v := S.1 128 ((64 * x8) + x9).toNatClampNeg) rfl hj rfl ?_
      obtain ⟨hj, H⟩ := am_ck_el H
      refine ex_iast (k := 4096) rfl rfl hj ?_
      generalize ((am_upI S.1 128 ((64 * x7) + x9).toNatClampNeg (S.1 128 ((64 * x8) + x9).toNatClampNeg), S.2) : AmT) = S13 at H ⊢
      have H := am_lt_el H
      refine ex_iinc (L2 := [.ref 95, .int x1, .int x2, .int x3, .int x4, .int x5, .int x6, .int x7, .int x8, .int (x9 + 1)]) (v := (x9 + 1)) rfl (Nat.le_of_ble_eq_true rfl) (congrArg (fun z => x9 + z) (by decide)) rfl ?_
      refine ex_goto (ct := am_c237_75) rfl ?_
      exact ih _ _ _ _ _ _ _ _ _ _ _ H
set_option maxHeartbeats 1000000 in
set_option maxRecDepth 20000 in
theorem e237_30 {Lg : Nat} {xs : Nat → Int32} {d F : Nat} {k20 : Int32 → Int32 → Int32 → Int32 → Int32 → AmT → Option AmT} (hd : 1 ≤ d) (hk20 : ∀ (x1 : Int32) (x2 : Int32) (x3 : Int32) (x4 : Int32) (x5 : Int32) (w6 : Value) (w7 : Value) (w8 : Value) (w9 : Value) (S : AmT) (q : AmT), k20 x1 x2 x3 x4 x5 S = some q → Ex (am_X Lg xs) d 237 am_c237_20 [.ref 95, .int x1, .int x2, .int x3, .int x4, .int x5, w6, w7, w8, w9] [] (hS S) (none, hS q)) : ∀ (n : Nat) (x1 : Int32) (x2 : Int32) (x3 : Int32) (x4 : Int32) (x5 : Int32) (x6 : Int32) (w7 : Value) (w8 : Value) (w9 : Value) (S : AmT) (q : AmT), g237_30 F k20 n x1 x2 x3 x4 x5 x6 S = some q → Ex (am_X Lg xs) d 237 am_c237_30 [.ref 95, .int x1, .int x2, .int x3, .int x4, .int x5, .int x6, w7, w8, w9] [] (hS S) (none, hS q) := by
  obtain ⟨d, rfl⟩ : ∃ d2, d = d2 + 1 := ⟨d - 1, by omega⟩
  intro n
  induction n with
  | zero =>
    intro x1 x2 x3 x4 x5 x6 w7 w8 w9 S q H
    cases H
  | succ n ih =>
    intro x1 x2 x3 x4 x5 x6 w7 w8 w9 S q H
    have H : (if x3 ≤ x6 then (k20 x1 x2 x3 x4 (x5 + 1) S) else (am_b2 (f235 F x1 x5 x6 S) fun v7 S8 => am_b2 (f235 F x1 x5 (x2 + x6) S8) fun v9 S10 => am_ck v9 64 (am_ck v7 64 (am_lt ((am_upI S10.1 127 v7.toNatClampNeg (S10.1 127 v9.toNatClampNeg), S10.2) : AmT) fun S11 => g237_75 F k20 (fun x1 x2 x3 x4 x5 x6 S => g237_30 F k20 n x1 x2 x3 x4 x5 x6 S) F x1 x2 x3 x4 x5 x6 v7 v9 0 S11)))) = some q := H
    refine ex_iload rfl ?_
    refine ex_iload_n rfl ?_
    by_cases h6 : x3 ≤ x6
    · rw [if_pos h6] at H
      refine ex_icmp_ge_j (ct := am_c237_125) h6 rfl ?_
      refine ex_iinc (L2 := [.ref 95, .int x1, .int x2, .int x3, .int x4, .int (x5 + 1), .int x6, w7, w8, w9]) (v := (x5 + 1)) rfl (Nat.le_of_ble_eq_true rfl) (congrArg (fun z => x5 + z) (by decide)) rfl ?_
      refine ex_goto (ct := am_c237_20) rfl ?_
      exact hk20 _ _ _ _ _ _ _ _ _ _ _ H
    · rw [if_neg h6] at H
      refine ex_icmp_ge_f h6 ?_
      refine ex_iload_n rfl ?_
      refine ex_iload rfl ?_
      refine ex_iload rfl ?_
      obtain ⟨v7, S8, hp, H⟩ := am_b2_el H
      refine ex_callS rfl rfl (Nat.le_of_ble_eq_true rfl) (Nat.le_of_ble_eq_true rfl) (r235 (by omega) hp) rfl ?_
      refine ex_istore (L2 := [.ref 95, .int x1, .int x2, .int x3, .int x4, .int x5, .int x6, .int v7, w8, w9]) (Nat.le_of_ble_eq_true rfl) rfl ?_
      refine ex_iload_n rfl ?_
      refine ex_iload rfl ?_
      refine ex_iload_n rfl ?_
      refine ex_iload rfl ?_
      refine ex_iadd ?_
      obtain ⟨v9, S10, hp, H⟩ := am_b2_el H
      refine ex_callS rfl rfl (Nat.le_of_ble_eq_true rfl) (Nat.le_of_ble_eq_true rfl) (r235 (by omega) hp) rfl ?_
      refine ex_istore (L2 := [.ref 95, .int x1, .int x2, .int x3, .int x4, .int x5, .int x6, .int v7, .int v9, w9]) (Nat.le_of_ble_eq_true rfl) rfl ?_
      refine ex_aload_n rfl ?_
      refine ex_getR (w := 127) rfl rfl rfl ?_
      refine ex_iload rfl ?_
      refine ex_aload_n rfl ?_
      refine ex_getR (w := 127) rfl rfl rfl ?_
      refine ex_iload rfl ?_
      obtain ⟨hj, H⟩ := am_ck_el H
      refine ex_iald (k := 64) (v := S10.1 127 v9.toNatClampNeg) rfl hj rfl ?_
      obtain ⟨hj, H⟩ := am_ck_el H
      refine ex_iast (k := 64) rfl rfl hj ?_
      generalize ((am_upI S10.1 127 v7.toNatClampNeg (S10.1 127 v9.toNatClampNeg), S10.2) : AmT) = S11 at H ⊢
      have H := am_lt_el H
      refine ex_iconst (v := 0) (by decide) ?_
      refine ex_istore (L2 := [.ref 95, .int x1, .int x2, .int x3, .int x4, .int x5, .int x6, .int v7, .int v9, .int 0]) (Nat.le_of_ble_eq_true rfl) rfl ?_
      exact e237_75 hd hk20 (fun x1 x2 x3 x4 x5 x6 w7 w8 w9 S q H => ih x1 x2 x3 x4 x5 x6 w7 w8 w9 S q H) _ _ _ _ _ _ _ _ _ _ _ _ H
set_option maxHeartbeats 1000000 in
set_option maxRecDepth 20000 in
theorem e237_20 {Lg : Nat} {xs : Nat → Int32} {d F : Nat} (hd : 1 ≤ d) : ∀ (n : Nat) (x1 : Int32) (x2 : Int32) (x3 : Int32) (x4 : Int32) (x5 : Int32) (w6 : Value) (w7 : Value) (w8 : Value) (w9 : Value) (S : AmT) (q : AmT), g237_20 F n x1 x2 x3 x4 x5 S = some q → Ex (am_X Lg xs) d 237 am_c237_20 [.ref 95, .int x1, .int x2, .int x3, .int x4, .int x5, w6, w7, w8, w9] [] (hS S) (none, hS q) := by
  obtain ⟨d, rfl⟩ : ∃ d2, d = d2 + 1 := ⟨d - 1, by omega⟩
  intro n
  induction n with
  | zero =>
    intro x1 x2 x3 x4 x5 w6 w7 w8 w9 S q H
    cases H
  | succ n ih =>
    intro x1 x2 x3 x4 x5 w6 w7 w8 w9 S q H
    have H : (if x4 ≤ x5 then (if x1 = 0 then (am_lt ((am_upI S.1 95 40 x3, S.2) : AmT) fun S5 => some S5) else (am_lt ((am_upI S.1 95 41 x3, S.2) : AmT) fun S4 => some S4)) else (g237_30 F (fun x1 x2 x3 x4 x5 S => g237_20 F n x1 x2 x3 x4 x5 S) F x1 x2 x3 x4 x5 0 S)) = some q := H
    refine ex_iload rfl ?_
    refine ex_iload rfl ?_
    by_cases h2 : x4 ≤ x5
    · rw [if_pos h2] at H
      refine ex_icmp_ge_j (ct := am_c237_131) h2 rfl ?_
      refine ex_iload_n rfl ?_
      by_cases h3 : x1 = 0
      · rw [if_pos h3] at H
        refine ex_if_ne_f h3 ?_
        refine ex_aload_n rfl ?_
        refine ex_iload_n rfl ?_
        refine ex_putI rfl (by decide) (fun z => absurd z.1 (by decide)) ?_
        generalize ((am_upI S.1 95 40 x3, S.2) : AmT) = S5 at H ⊢
        have H := am_lt_el H
        refine ex_goto (ct := am_c237_148) rfl ?_
        have H := Option.some.inj H
        subst H
        exact ex_vret (M := 237) rfl
      · rw [if_neg h3] at H
        refine ex_if_ne_j (ct := am_c237_143) h3 rfl ?_
        refine ex_aload_n rfl ?_
        refine ex_iload_n rfl ?_
        refine ex_putI rfl (by decide) (fun z => absurd z.1 (by decide)) ?_
        generalize ((am_upI S.1 95 41 x3, S.2) : AmT) = S4 at H ⊢
        have H := am_lt_el H
        have H := Option.some.inj H
        subst H
        exact ex_vret (M := 237) rfl
    · rw [if_neg h2] at H
      refine ex_icmp_ge_f h2 ?_
      refine ex_iconst (v := 0) (by decide) ?_
      refine ex_istore (L2 := [.ref 95, .int x1, .int x2, .int x3, .int x4, .int x5, .int 0, w7, w8, w9]) (Nat.le_of_ble_eq_true rfl) rfl ?_
      exact e237_30 hd (fun x1 x2 x3 x4 x5 w6 w7 w8 w9 S q H => ih x1 x2 x3 x4 x5 w6 w7 w8 w9 S q H) _ _ _ _ _ _ _ _ _ _ _ _ H
set_option maxHeartbeats 1000000 in
set_option maxRecDepth 20000 in
theorem e237_15 {Lg : Nat} {xs : Nat → Int32} {d F : Nat} {x1 : Int32} {x2 : Int32} {x3 : Int32} {s0 : Int32} {w4 : Value} {w5 : Value} {w6 : Value} {w7 : Value} {w8 : Value} {w9 : Value} {S : AmT} {q : AmT} (hd : 1 ≤ d) (H : g237_15 F x1 x2 x3 s0 S = some q) : Ex (am_X Lg xs) d 237 am_c237_15 [.ref 95, .int x1, .int x2, .int x3, w4, w5, w6, w7, w8, w9] [.int s0] (hS S) (none, hS q) := by
  obtain ⟨d, rfl⟩ : ∃ d2, d = d2 + 1 := ⟨d - 1, by omega⟩
  unfold g237_15 at H
  refine ex_istore (L2 := [.ref 95, .int x1, .int x2, .int x3, .int s0, w5, w6, w7, w8, w9]) (Nat.le_of_ble_eq_true rfl) rfl ?_
  refine ex_iconst (v := 0) (by decide) ?_
  refine ex_istore (L2 := [.ref 95, .int x1, .int x2, .int x3, .int s0, .int 0, w6, w7, w8, w9]) (Nat.le_of_ble_eq_true rfl) rfl ?_
  exact e237_20 hd _ _ _ _ _ _ _ _ _ _ _ _ H
set_option maxHeartbeats 1000000 in
set_option maxRecDepth 20000 in
theorem r237 {Lg : Nat} {xs : Nat → Int32} {d F : Nat} {x1 : Int32} {x2 : Int32} {x3 : Int32} {S : AmT} {q : AmT} (hd : 1 ≤ d) (H : f237 F x1 x2 x3 S = some q) : Ex (am_X Lg xs) d 237 (am_P 237) (am_ini (am_Mi 237).1 [.ref 95, .int x1, .int x2, .int x3]) [] (hS S) (none, hS q) := by
  obtain ⟨d, rfl⟩ : ∃ d2, d = d2 + 1 := ⟨d - 1, by omega⟩
  unfold f237 at H
  show Ex (am_X Lg xs) _ 237 am_c237_0 [.ref 95, .int x1, .int x2, .int x3, .long 0, .long 0, .long 0, .long 0, .long 0, .long 0] [] (hS S) (none, hS q)
  refine ex_iload_n rfl ?_
  by_cases h1 : x1 = 0
  · rw [if_pos h1] at H
    refine ex_if_ne_f h1 ?_
    refine ex_aload_n rfl ?_
    refine ex_gI rfl (by decide) ?_
    refine ex_goto (ct := am_c237_15) rfl ?_
    exact e237_15 hd H
  · rw [if_neg h1] at H
    refine ex_if_ne_j (ct := am_c237_11) h1 rfl ?_
    refine ex_aload_n rfl ?_
    refine ex_gI rfl (by decide) ?_
    exact e237_15 hd H
-- X10_isSheet
def f249 (F : Nat) (x1 : Int32) (S : AmT) : Option (Int32 × AmT) := am_b2 (f197 F x1 0 ((S.1 96 2) - 1) S) fun v1 S2 => am_b01 v1 (some (v1, S2))
set_option maxHeartbeats 1000000 in
set_option maxRecDepth 20000 in
theorem r249 {Lg : Nat} {xs : Nat → Int32} {d F : Nat} {x1 : Int32} {S : AmT} {q : Int32 × AmT} (hd : 1 ≤ d) (H : f249 F x1 S = some q) : Ex (am_X Lg xs) d 249 (am_P 249) (am_ini (am_Mi 249).1 [.ref 95, .int x1]) [] (hS S) (some q.1, hS q.2) := by
  obtain ⟨d, rfl⟩ : ∃ d2, d = d2 + 1 := ⟨d - 1, by omega⟩
  unfold f249 at H
  show Ex (am_X Lg xs) _ 249 am_c249_0 [.ref 95, .int x1] [] (hS S) (some q.1, hS q.2)
  refine ex_iload_n rfl ?_
  refine ex_iconst (v := 0) (by decide) ?_
  refine ex_aload_n rfl ?_
  refine ex_getR (w := 96) rfl rfl rfl ?_
  refine ex_iconst (v := 2) (by decide) ?_
  refine ex_iald (v := S.1 96 2) rfl (by decide) rfl ?_
  refine ex_iconst (v := 1) (by decide) ?_
  refine ex_isub ?_
  obtain ⟨v1, S2, hp, H⟩ := am_b2_el H
  refine ex_callS rfl rfl (Nat.le_of_ble_eq_true rfl) (Nat.le_of_ble_eq_true rfl) (r197 (by omega) hp) rfl ?_
  obtain ⟨hb, H⟩ := am_b01_el H
  have H := Option.some.inj H
  subst H
  exact ex_iret (M := 249) (Or.inr ⟨rfl, hb⟩)
-- X10_cellAt
def f251 (F : Nat) (x0 : Int32) (x1 : Int32) (x2 : Int32) (x3 : Int32) (S : AmT) : Option (Int32 × AmT) := am_b2 (f250 F x0 x1 x2 S) fun v1 S2 => some (((8 * v1) + x3), S2)
set_option maxHeartbeats 1000000 in
set_option maxRecDepth 20000 in
theorem r251 {Lg : Nat} {xs : Nat → Int32} {d F : Nat} {x0 : Int32} {x1 : Int32} {x2 : Int32} {x3 : Int32} {S : AmT} {q : Int32 × AmT} (hd : 1 ≤ d) (H : f251 F x0 x1 x2 x3 S = some q) : Ex (am_X Lg xs) d 251 (am_P 251) (am_ini (am_Mi 251).1 [.int x0, .int x1, .int x2, .int x3]) [] (hS S) (some q.1, hS q.2) := by
  obtain ⟨d, rfl⟩ : ∃ d2, d = d2 + 1 := ⟨d - 1, by omega⟩
  unfold f251 at H
  show Ex (am_X Lg xs) _ 251 am_c251_0 [.int x0, .int x1, .int x2, .int x3] [] (hS S) (some q.1, hS q.2)
  refine ex_bipush (v := 8) (by decide) ?_
  refine ex_iload_n rfl ?_
  refine ex_iload_n rfl ?_
  refine ex_iload_n rfl ?_
  obtain ⟨v1, S2, hp, H⟩ := am_b2_el H
  refine ex_callS rfl rfl (Nat.le_of_ble_eq_true rfl) (Nat.le_of_ble_eq_true rfl) (r250 (by omega) hp) rfl ?_
  refine ex_imul ?_
  refine ex_iload_n rfl ?_
  refine ex_iadd ?_
  have H := Option.some.inj H
  subst H
  exact ex_iret (M := 251) (Or.inl rfl)
-- X10_lacksCell
def f254 (F : Nat) (x1 : Int32) (x2 : Int32) (x3 : Int32) (x4 : Int32) (S : AmT) : Option (Int32 × AmT) := am_ck x1 16 (am_b2 (f197 F x3 0 ((S.1 109 x1.toNatClampNeg) - 1) S) fun v1 S2 => if v1 = 0 then (some (2, S2)) else (am_b2 (f250 F x1 x2 x3 S2) fun v4 S5 => am_ck v4 256 (if (S5.1 116 v4.toNatClampNeg) = 0 then (am_ck x1 16 (am_b2 (f197 F x4 0 ((S5.1 110 x1.toNatClampNeg) - 1) S5) fun v7 S8 => if v7 = 0 then (some (2, S8)) else (some (0, S8)))) else (some (1, S5)))))
set_option maxHeartbeats 1000000 in
set_option maxRecDepth 20000 in
theorem r254 {Lg : Nat} {xs : Nat → Int32} {d F : Nat} {x1 : Int32} {x2 : Int32} {x3 : Int32} {x4 : Int32} {S : AmT} {q : Int32 × AmT} (hd : 1 ≤ d) (H : f254 F x1 x2 x3 x4 S = some q) : Ex (am_X Lg xs) d 254 (am_P 254) (am_ini (am_Mi 254).1 [.ref 95, .int x1, .int x2, .int x3, .int x4]) [] (hS S) (some q.1, hS q.2) := by
  obtain ⟨d, rfl⟩ : ∃ d2, d = d2 + 1 := ⟨d - 1, by omega⟩
  unfold f254 at H
  show Ex (am_X Lg xs) _ 254 am_c254_0 [.ref 95, .int x1, .int x2, .int x3, .int x4] [] (hS S) (some q.1, hS q.2)
  refine ex_iload_n rfl ?_
  refine ex_iconst (v := 0) (by decide) ?_
  refine ex_aload_n rfl ?_
  refine ex_getR (w := 109) rfl rfl rfl ?_
  refine ex_iload_n rfl ?_
  obtain ⟨hj, H⟩ := am_ck_el H
  refine ex_iald (k := 16) (v := S.1 109 x1.toNatClampNeg) rfl hj rfl ?_
  refine ex_iconst (v := 1) (by decide) ?_
  refine ex_isub ?_
  obtain ⟨v1, S2, hp, H⟩ := am_b2_el H
  refine ex_callS rfl rfl (Nat.le_of_ble_eq_true rfl) (Nat.le_of_ble_eq_true rfl) (r197 (by omega) hp) rfl ?_
  by_cases h3 : v1 = 0
  · rw [if_pos h3] at H
    refine ex_if_ne_f h3 ?_
    refine ex_iconst (v := 2) (by decide) ?_
    have H := Option.some.inj H
    subst H
    exact ex_iret (M := 254) (Or.inl rfl)
  · rw [if_neg h3] at H
    refine ex_if_ne_j (ct := am_c254_18) h3 rfl ?_
    refine ex_aload_n rfl ?_
    refine ex_getR (w := 116) rfl rfl rfl ?_
    refine ex_iload_n rfl ?_
    refine ex_iload_n rfl ?_
    refine ex_iload_n rfl ?_
    obtain ⟨v4, S5, hp, H⟩ := am_b2_el H
    refine ex_callS rfl rfl (Nat.le_of_ble_eq_true rfl) (Nat.le_of_ble_eq_true rfl) (r250 (by omega) hp) rfl ?_
    obtain ⟨hj, H⟩ := am_ck_el H
    refine ex_bald (k := 256) (v := S5.1 116 v4.toNatClampNeg) rfl hj rfl ?_
    by_cases h6 : (S5.1 116 v4.toNatClampNeg) = 0
    · rw [if_pos h6] at H
      refine ex_if_eq_j (ct := am_c254_36) h6 rfl ?_
      refine ex_iload rfl ?_
      refine ex_iconst (v := 0) (by decide) ?_
      refine ex_aload_n rfl ?_
      refine ex_getR (w := 110) rfl rfl rfl ?_
      refine ex_iload_n rfl ?_
      obtain ⟨hj, H⟩ := am_ck_el H
      refine ex_iald (k := 16) (v := S5.1 110 x1.toNatClampNeg) rfl hj rfl ?_
      refine ex_iconst (v := 1) (by decide) ?_
      refine ex_isub ?_
      obtain ⟨v7, S8, hp, H⟩ := am_b2_el H
      refine ex_callS rfl rfl (Nat.le_of_ble_eq_true rfl) (Nat.le_of_ble_eq_true rfl) (r197 (by omega) hp) rfl ?_
      by_cases h9 : v7 = 0
      · rw [if_pos h9] at H
        refine ex_if_ne_f h9 ?_
        refine ex_iconst (v := 2) (by decide) ?_
        refine ex_goto (ct := am_c254_58) rfl ?_
        have H := Option.some.inj H
        subst H
        exact ex_iret (M := 254) (Or.inl rfl)
      · rw [if_neg h9] at H
        refine ex_if_ne_j (ct := am_c254_57) h9 rfl ?_
        refine ex_iconst (v := 0) (by decide) ?_
        have H := Option.some.inj H
        subst H
        exact ex_iret (M := 254) (Or.inl rfl)
    · rw [if_neg h6] at H
      refine ex_if_eq_f h6 ?_
      refine ex_iconst (v := 1) (by decide) ?_
      refine ex_goto (ct := am_c254_58) rfl ?_
      have H := Option.some.inj H
      subst H
      exact ex_iret (M := 254) (Or.inl rfl)
def g257_30 (F : Nat) (S : AmT) : Option (Int32 × AmT) := some ((-1), S)
-- X10_cellsAt
def f257 (F : Nat) (x1 : Int32) (x2 : Int32) (x3 : Int32) (S : AmT) : Option (Int32 × AmT) := am_ck x1 16 (am_b2 (f197 F x3 0 ((S.1 109 x1.toNatClampNeg) - 1) S) fun v1 S2 => if v1 = 0 then (g257_30 F S2) else (am_b2 (f250 F x1 x2 x3 S2) fun v4 S5 => am_ck v4 256 (if (S5.1 116 v4.toNatClampNeg) = 0 then (am_ck x1 16 (some ((S5.1 110 x1.toNatClampNeg), S5))) else (g257_30 F S5))))
set_option maxHeartbeats 1000000 in
set_option maxRecDepth 20000 in
theorem e257_30 {Lg : Nat} {xs : Nat → Int32} {d F : Nat} {w0 : Value} {w1 : Value} {w2 : Value} {w3 : Value} {S : AmT} {q : Int32 × AmT} (hd : 1 ≤ d) (H : g257_30 F S = some q) : Ex (am_X Lg xs) d 257 am_c257_30 [w0, w1, w2, w3] [] (hS S) (some q.1, hS q.2) := by
  obtain ⟨d, rfl⟩ : ∃ d2, d = d2 + 1 := ⟨d - 1, by omega⟩
  unfold g257_30 at H
  refine ex_iconst (v := (-1)) (by decide) ?_
  refine ex_goto (ct := am_c257_40) rfl ?_
  have H := Option.some.inj H
  subst H
  exact ex_iret (M := 257) (Or.inl rfl)
set_option maxHeartbeats 1000000 in
set_option maxRecDepth 20000 in
theorem r257 {Lg : Nat} {xs : Nat → Int32} {d F : Nat} {x1 : Int32} {x2 : Int32} {x3 : Int32} {S : AmT} {q : Int32 × AmT} (hd : 1 ≤ d) (H : f257 F x1 x2 x3 S = some q) : Ex (am_X Lg xs) d 257 (am_P 257) (am_ini (am_Mi 257).1 [.ref 95, .int x1, .int x2, .int x3]) [] (hS S) (some q.1, hS q.2) := by
  obtain ⟨d, rfl⟩ : ∃ d2, d = d2 + 1 := ⟨d - 1, by omega⟩
  unfold f257 at H
  show Ex (am_X Lg xs) _ 257 am_c257_0 [.ref 95, .int x1, .int x2, .int x3] [] (hS S) (some q.1, hS q.2)
  refine ex_iload_n rfl ?_
  refine ex_iconst (v := 0) (by decide) ?_
  refine ex_aload_n rfl ?_
  refine ex_getR (w := 109) rfl rfl rfl ?_
  refine ex_iload_n rfl ?_
  obtain ⟨hj, H⟩ := am_ck_el H
  refine ex_iald (k := 16) (v := S.1 109 x1.toNatClampNeg) rfl hj rfl ?_
  refine ex_iconst (v := 1) (by decide) ?_
  refine ex_isub ?_
  obtain ⟨v1, S2, hp, H⟩ := am_b2_el H
  refine ex_callS rfl rfl (Nat.le_of_ble_eq_true rfl) (Nat.le_of_ble_eq_true rfl) (r197 (by omega) hp) rfl ?_
  by_cases h3 : v1 = 0
  · rw [if_pos h3] at H
    refine ex_if_eq_j (ct := am_c257_30) h3 rfl ?_
    exact e257_30 hd H
  · rw [if_neg h3] at H
    refine ex_if_eq_f h3 ?_
    refine ex_aload_n rfl ?_
    refine ex_getR (w := 116) rfl rfl rfl ?_
    refine ex_iload_n rfl ?_
    refine ex_iload_n rfl ?_
    refine ex_iload_n rfl ?_
    obtain ⟨v4, S5, hp, H⟩ := am_b2_el H
    refine ex_callS rfl rfl (Nat.le_of_ble_eq_true rfl) (Nat.le_of_ble_eq_true rfl) (r250 (by omega) hp) rfl ?_
    obtain ⟨hj, H⟩ := am_ck_el H
    refine ex_bald (k := 256) (v := S5.1 116 v4.toNatClampNeg) rfl hj rfl ?_
    by_cases h6 : (S5.1 116 v4.toNatClampNeg) = 0
    · rw [if_pos h6] at H
      refine ex_if_eq_j (ct := am_c257_34) h6 rfl ?_
      refine ex_aload_n rfl ?_
      refine ex_getR (w := 110) rfl rfl rfl ?_
      refine ex_iload_n rfl ?_
      obtain ⟨hj, H⟩ := am_ck_el H
      refine ex_iald (k := 16) (v := S5.1 110 x1.toNatClampNeg) rfl hj rfl ?_
      have H := Option.some.inj H
      subst H
      exact ex_iret (M := 257) (Or.inl rfl)
    · rw [if_neg h6] at H
      refine ex_if_eq_f h6 ?_
      exact e257_30 hd H
-- X10_isSignature
def f268 (F : Nat) (x1 : Int32) (S : AmT) : Option (Int32 × AmT) := am_b2 (f197 F x1 0 ((S.1 96 3) - 1) S) fun v1 S2 => am_b01 v1 (some (v1, S2))
set_option maxHeartbeats 1000000 in
set_option maxRecDepth 20000 in
theorem r268 {Lg : Nat} {xs : Nat → Int32} {d F : Nat} {x1 : Int32} {S : AmT} {q : Int32 × AmT} (hd : 1 ≤ d) (H : f268 F x1 S = some q) : Ex (am_X Lg xs) d 268 (am_P 268) (am_ini (am_Mi 268).1 [.ref 95, .int x1]) [] (hS S) (some q.1, hS q.2) := by
  obtain ⟨d, rfl⟩ : ∃ d2, d = d2 + 1 := ⟨d - 1, by omega⟩
  unfold f268 at H
  show Ex (am_X Lg xs) _ 268 am_c268_0 [.ref 95, .int x1] [] (hS S) (some q.1, hS q.2)
  refine ex_iload_n rfl ?_
  refine ex_iconst (v := 0) (by decide) ?_
  refine ex_aload_n rfl ?_
  refine ex_getR (w := 96) rfl rfl rfl ?_
  refine ex_iconst (v := 3) (by decide) ?_
  refine ex_iald (v := S.1 96 3) rfl (by decide) rfl ?_
  refine ex_iconst (v := 1) (by decide) ?_
  refine ex_isub ?_
  obtain ⟨v1, S2, hp, H⟩ := am_b2_el H
  refine ex_callS rfl rfl (Nat.le_of_ble_eq_true rfl) (Nat.le_of_ble_eq_true rfl) (r197 (by omega) hp) rfl ?_
  obtain ⟨hb, H⟩ := am_b01_el H
  have H := Option.some.inj H
  subst H
  exact ex_iret (M := 268) (Or.inr ⟨rfl, hb⟩)
-- X10_spoils
def f286 (F : Nat) (x1 : Int32) (x2 : Int32) (S : AmT) : Option AmT := am_b2 (f203 F x2 S) fun v1 S2 => am_ck x1 16 (am_lt ((am_upI S2.1 112 x1.toNatClampNeg 6, S2.2) : AmT) fun S3 => am_ck x1 16 (am_lt ((am_upI S3.1 114 x1.toNatClampNeg ((-10) - v1), S3.2) : AmT) fun S4 => some S4))
set_option maxHeartbeats 1000000 in
set_option maxRecDepth 20000 in
theorem r286 {Lg : Nat} {xs : Nat → Int32} {d F : Nat} {x1 : Int32} {x2 : Int32} {S : AmT} {q : AmT} (hd : 1 ≤ d) (H : f286 F x1 x2 S = some q) : Ex (am_X Lg xs) d 286 (am_P 286) (am_ini (am_Mi 286).1 [.ref 95, .int x1, .int x2]) [] (hS S) (none, hS q) := by
  obtain ⟨d, rfl⟩ : ∃ d2, d = d2 + 1 := ⟨d - 1, by omega⟩
  unfold f286 at H
  show Ex (am_X Lg xs) _ 286 am_c286_0 [.ref 95, .int x1, .int x2, .long 0] [] (hS S) (none, hS q)
  refine ex_aload_n rfl ?_
  refine ex_iload_n rfl ?_
  obtain ⟨v1, S2, hp, H⟩ := am_b2_el H
  refine ex_callV rfl rfl (Nat.le_of_ble_eq_true rfl) (Nat.le_of_ble_eq_true rfl) rfl (r203 (by omega) hp) rfl ?_
  refine ex_istore_n (L2 := [.ref 95, .int x1, .int x2, .int v1]) (Nat.le_of_ble_eq_true rfl) rfl ?_
  refine ex_aload_n rfl ?_
  refine ex_getR (w := 112) rfl rfl rfl ?_
  refine ex_iload_n rfl ?_
  refine ex_bipush (v := 6) (by decide) ?_
  obtain ⟨hj, H⟩ := am_ck_el H
  refine ex_iast (k := 16) rfl rfl hj ?_
  generalize ((am_upI S2.1 112 x1.toNatClampNeg 6, S2.2) : AmT) = S3 at H ⊢
  have H := am_lt_el H
  refine ex_aload_n rfl ?_
  refine ex_getR (w := 114) rfl rfl rfl ?_
  refine ex_iload_n rfl ?_
  refine ex_bipush (v := (-10)) (by decide) ?_
  refine ex_iload_n rfl ?_
  refine ex_isub ?_
  obtain ⟨hj, H⟩ := am_ck_el H
  refine ex_iast (k := 16) rfl rfl hj ?_
  generalize ((am_upI S3.1 114 x1.toNatClampNeg ((-10) - v1), S3.2) : AmT) = S4 at H ⊢
  have H := am_lt_el H
  have H := Option.some.inj H
  subst H
  exact ex_vret (M := 286) rfl
def g293_20 (F : Nat) (x1 : Int32) (s0 : Int32) (s1 : Int32) (s2 : Int32) (S : AmT) : Option (Int32 × AmT) := am_b2 (f197 F s0 s1 (s2 - 1) S) fun v2 S3 => if v2 = 0 then (some ((-2), S3)) else (am_ck ((((S3.1 95 36) - 1) - x1) - (((S3.1 95 36) - 1) - x1) / 40 * 40) 40 (some ((S3.1 125 ((((S3.1 95 36) - 1) - x1) - (((S3.1 95 36) - 1) - x1) / 40 * 40).toNatClampNeg), S3)))
-- X10_trace
def f293 (F : Nat) (x1 : Int32) (S : AmT) : Option (Int32 × AmT) := if 40 ≤ (S.1 95 36) then (g293_20 F x1 x1 0 40 S) else (g293_20 F x1 x1 0 (S.1 95 36) S)
set_option maxHeartbeats 1000000 in
set_option maxRecDepth 20000 in
theorem e293_20 {Lg : Nat} {xs : Nat → Int32} {d F : Nat} {x1 : Int32} {s0 : Int32} {s1 : Int32} {s2 : Int32} {S : AmT} {q : Int32 × AmT} (hd : 1 ≤ d) (H : g293_20 F x1 s0 s1 s2 S = some q) : Ex (am_X Lg xs) d 293 am_c293_20 [.ref 95, .int x1] [.int s2, .int s1, .int s0] (hS S) (some q.1, hS q.2) := by
  obtain ⟨d, rfl⟩ : ∃ d2, d = d2 + 1 := ⟨d - 1, by omega⟩
  unfold g293_20 at H
  refine ex_iconst (v := 1) (by decide) ?_
  refine ex_isub ?_
  obtain ⟨v2, S3, hp, H⟩ := am_b2_el H
  refine ex_callS rfl rfl (Nat.le_of_ble_eq_true rfl) (Nat.le_of_ble_eq_true rfl) (r197 (by omega) hp) rfl ?_
  by_cases h4 : v2 = 0
  · rw [if_pos h4] at H
    refine ex_if_eq_j (ct := am_c293_47) h4 rfl ?_
    refine ex_bipush (v := (-2)) (by decide) ?_
    have H := Option.some.inj H
    subst H
    exact ex_iret (M := 293) (Or.inl rfl)
  · rw [if_neg h4] at H
    refine ex_if_eq_f h4 ?_
    refine ex_aload_n rfl ?_
    refine ex_getR (w := 125) rfl rfl rfl ?_
    refine ex_aload_n rfl ?_
    refine ex_gI rfl (by decide) ?_
    refine ex_iconst (v := 1) (by decide) ?_
    refine ex_isub ?_
    refine ex_iload_n rfl ?_
    refine ex_isub ?_
    refine ex_bipush (v := 40) (by decide) ?_
    refine ex_irem (by decide) ?_
    obtain ⟨hj, H⟩ := am_ck_el H
    refine ex_iald (k := 40) (v := S3.1 125 ((((S3.1 95 36) - 1) - x1) - (((S3.1 95 36) - 1) - x1) / 40 * 40).toNatClampNeg) rfl hj rfl ?_
    refine ex_goto (ct := am_c293_49) rfl ?_
    have H := Option.some.inj H
    subst H
    exact ex_iret (M := 293) (Or.inl rfl)
set_option maxHeartbeats 1000000 in
set_option maxRecDepth 20000 in
theorem r293 {Lg : Nat} {xs : Nat → Int32} {d F : Nat} {x1 : Int32} {S : AmT} {q : Int32 × AmT} (hd : 1 ≤ d) (H : f293 F x1 S = some q) : Ex (am_X Lg xs) d 293 (am_P 293) (am_ini (am_Mi 293).1 [.ref 95, .int x1]) [] (hS S) (some q.1, hS q.2) := by
  obtain ⟨d, rfl⟩ : ∃ d2, d = d2 + 1 := ⟨d - 1, by omega⟩
  unfold f293 at H
  show Ex (am_X Lg xs) _ 293 am_c293_0 [.ref 95, .int x1] [] (hS S) (some q.1, hS q.2)
  refine ex_iload_n rfl ?_
  refine ex_iconst (v := 0) (by decide) ?_
  refine ex_aload_n rfl ?_
  refine ex_gI rfl (by decide) ?_
  refine ex_bipush (v := 40) (by decide) ?_
  by_cases h1 : 40 ≤ (S.1 95 36)
  · rw [if_pos h1] at H
    refine ex_icmp_ge_j (ct := am_c293_18) h1 rfl ?_
    refine ex_bipush (v := 40) (by decide) ?_
    exact e293_20 hd H
  · rw [if_neg h1] at H
    refine ex_icmp_ge_f h1 ?_
    refine ex_aload_n rfl ?_
    refine ex_gI rfl (by decide) ?_
    refine ex_goto (ct := am_c293_20) rfl ?_
    exact e293_20 hd H
-- X0_make
def f3 (F : Nat) (x1 : Int32) (S : AmT) : Option (Int32 × AmT) := am_nn S (am_lt (ks S 72 73 4 (kg S.1 71 1 0) x1) fun S1 => am_nn S1 (am_lt (ks S1 70 71 1 0 ((kg S.1 71 1 0) + 1)) fun S2 => some ((kg S.1 71 1 0), S2)))
set_option maxHeartbeats 1000000 in
set_option maxRecDepth 20000 in
theorem r3 {Lg : Nat} {xs : Nat → Int32} {d F : Nat} {x1 : Int32} {S : AmT} {q : Int32 × AmT} (hd : 2 ≤ d) (H : f3 F x1 S = some q) : Ex (am_X Lg xs) d 3 (am_P 3) (am_ini (am_Mi 3).1 [.ref 69, .int x1]) [] (hS S) (some q.1, hS q.2) := by
  obtain ⟨d, rfl⟩ : ∃ d2, d = d2 + 1 := ⟨d - 1, by omega⟩
  unfold f3 at H
  show Ex (am_X Lg xs) _ 3 am_c3_0 [.ref 69, .int x1, .long 0] [] (hS S) (some q.1, hS q.2)
  refine ex_aload_n rfl ?_
  refine ex_getR (w := 70) rfl rfl rfl ?_
  refine ex_iconst (v := 0) (by decide) ?_
  refine ex_kget (c := 70) (ar := 71) (n := 1) rfl (Nat.le_of_ble_eq_true rfl) ?_
  refine ex_istore_n (L2 := [.ref 69, .int x1, .int (kg S.1 71 1 0)]) (Nat.le_of_ble_eq_true rfl) rfl ?_
  refine ex_aload_n rfl ?_
  refine ex_getR (w := 72) rfl rfl rfl ?_
  refine ex_iload_n rfl ?_
  refine ex_iload_n rfl ?_
  obtain ⟨hnn, H⟩ := am_nn_el H
  refine ex_kset (c := 72) (ar := 73) (n := 4) rfl hnn (by omega) (Nat.le_of_ble_eq_true rfl) ?_
  generalize (ks S 72 73 4 (kg S.1 71 1 0) x1) = S1 at H ⊢
  have H := am_lt_el H
  refine ex_aload_n rfl ?_
  refine ex_getR (w := 70) rfl rfl rfl ?_
  refine ex_iconst (v := 0) (by decide) ?_
  refine ex_iload_n rfl ?_
  refine ex_iconst (v := 1) (by decide) ?_
  refine ex_iadd ?_
  obtain ⟨hnn, H⟩ := am_nn_el H
  refine ex_kset (c := 70) (ar := 71) (n := 1) rfl hnn (by omega) (Nat.le_of_ble_eq_true rfl) ?_
  generalize (ks S1 70 71 1 0 ((kg S.1 71 1 0) + 1)) = S2 at H ⊢
  have H := am_lt_el H
  refine ex_iload_n rfl ?_
  have H := Option.some.inj H
  subst H
  exact ex_iret (M := 3) (Or.inl rfl)
def g9_110 (F : Nat) : Nat → Int32 → Int32 → Int32 → Int32 → AmT → Option (Int32 × AmT)
  | 0, _, _, _, _, _ => none
  | n + 1, x1, x3, x5, x6, S => if x3 = 0 then (some ((-12), S)) else (if x6 < 0 then (some ((-12), S)) else (am_b2 (f7 F x1 x6 S) fun v7 S8 => am_b2 (f99 F v7 S8) fun v9 S10 => if v9 ≤ x5 then (g9_110 F n x1 x3 (x5 - v9) (x6 + (-1)) S10) else (some ((((v7 * 128) + v9) + x5), S10))))
def g9_72 (F : Nat) (k29 : Int32 → Int32 → Int32 → Int32 → Int32 → AmT → Option (Int32 × AmT)) (x1 : Int32) (x3 : Int32) (x4 : Int32) (x5 : Int32) (x6 : Int32) (x7 : Int32) (s0 : Int32) (S : AmT) : Option (Int32 × AmT) := if s0 ≤ x5 then (k29 x1 x3 x4 (x5 - s0) (x6 + 1) S) else (some (((x7 * 128) + x5), S))
def g9_29 (F : Nat) : Nat → Int32 → Int32 → Int32 → Int32 → Int32 → AmT → Option (Int32 × AmT)
  | 0, _, _, _, _, _, _ => none
  | n + 1, x1, x3, x4, x5, x6, S => if x4 ≤ x6 then (g9_110 F F x1 x3 x5 (x4 - 1) S) else (am_b2 (f7 F x1 x6 S) fun v12 S13 => if x3 = 0 then (am_b2 (f99 F v12 S13) fun v15 S16 => g9_72 F (fun x1 x3 x4 x5 x6 S => g9_29 F n x1 x3 x4 x5 x6 S) x1 x3 x4 x5 x6 v12 (2 * v15) S16) else (am_b2 (f99 F v12 S13) fun v18 S19 => g9_72 F (fun x1 x3 x4 x5 x6 S => g9_29 F n x1 x3 x4 x5 x6 S) x1 x3 x4 x5 x6 v12 v18 S19))
-- X0_findFace
def f9 (F : Nat) (x1 : Int32) (x2 : Int32) (S : AmT) : Option (Int32 × AmT) := if 0 ≤ x2 then (am_b2 (f5 F x1 S) fun v2 S3 => g9_29 F F x1 v2 (kg S3.1 75 4 x1) x2 0 S3) else (some ((-12), S))
set_option maxHeartbeats 1000000 in
set_option maxRecDepth 20000 in
theorem e9_110 {Lg : Nat} {xs : Nat → Int32} {d F : Nat} (hd : 2 ≤ d) : ∀ (n : Nat) (x1 : Int32) (x3 : Int32) (x5 : Int32) (x6 : Int32) (w2 : Value) (w4 : Value) (w7 : Value) (w8 : Value) (S : AmT) (q : Int32 × AmT), g9_110 F n x1 x3 x5 x6 S = some q → Ex (am_X Lg xs) d 9 am_c9_110 [.ref 69, .int x1, w2, .int x3, w4, .int x5, .int x6, w7, w8] [] (hS S) (some q.1, hS q.2) := by
  obtain ⟨d, rfl⟩ : ∃ d2, d = d2 + 1 := ⟨d - 1, by omega⟩
  intro n
  induction n with
  | zero =>
    intro x1 x3 x5 x6 w2 w4 w7 w8 S q H
    cases H
  | succ n ih =>
    intro x1 x3 x5 x6 w2 w4 w7 w8 S q H
    have H : (if x3 = 0 then (some ((-12), S)) else (if x6 < 0 then (some ((-12), S)) else (am_b2 (f7 F x1 x6 S) fun v7 S8 => am_b2 (f99 F v7 S8) fun v9 S10 => if v9 ≤ x5 then (g9_110 F n x1 x3 (x5 - v9) (x6 + (-1)) S10) else (some ((((v7 * 128) + v9) + x5), S10))))) = some q := H
    refine ex_iload_n rfl ?_
    by_cases h5 : x3 = 0
    · rw [if_pos h5] at H
      refine ex_if_eq_j (ct := am_c9_172) h5 rfl ?_
      refine ex_bipush (v := (-12)) (by decide) ?_
      have H := Option.some.inj H
      subst H
      exact ex_iret (M := 9) (Or.inl rfl)
    · rw [if_neg h5] at H
      refine ex_if_eq_f h5 ?_
      refine ex_iload rfl ?_
      by_cases h6 : x6 < 0
      · rw [if_pos h6] at H
        refine ex_if_lt_j (ct := am_c9_172) h6 rfl ?_
        refine ex_bipush (v := (-12)) (by decide) ?_
        have H := Option.some.inj H
        subst H
        exact ex_iret (M := 9) (Or.inl rfl)
      · rw [if_neg h6] at H
        refine ex_if_lt_f h6 ?_
        refine ex_aload_n rfl ?_
        refine ex_iload_n rfl ?_
        refine ex_iload rfl ?_
        obtain ⟨v7, S8, hp, H⟩ := am_b2_el H
        refine ex_callV rfl rfl (Nat.le_of_ble_eq_true rfl) (Nat.le_of_ble_eq_true rfl) rfl (r7 (by omega) hp) rfl ?_
        refine ex_istore (L2 := [.ref 69, .int x1, w2, .int x3, w4, .int x5, .int x6, .int v7, w8]) (Nat.le_of_ble_eq_true rfl) rfl ?_
        refine ex_aload_n rfl ?_
        refine ex_getR (w := 46) rfl rfl rfl ?_
        refine ex_iload rfl ?_
        obtain ⟨v9, S10, hp, H⟩ := am_b2_el H
        refine ex_callV rfl rfl (Nat.le_of_ble_eq_true rfl) (Nat.le_of_ble_eq_true rfl) rfl (r99 (by omega) hp) rfl ?_
        refine ex_istore (L2 := [.ref 69, .int x1, w2, .int x3, w4, .int x5, .int x6, .int v7, .int v9]) (Nat.le_of_ble_eq_true rfl) rfl ?_
        refine ex_iload rfl ?_
        refine ex_iload rfl ?_
        by_cases h11 : v9 ≤ x5
        · rw [if_pos h11] at H
          refine ex_icmp_ge_j (ct := am_c9_159) h11 rfl ?_
          refine ex_iload rfl ?_
          refine ex_iload rfl ?_
          refine ex_isub ?_
          refine ex_istore (L2 := [.ref 69, .int x1, w2, .int x3, w4, .int (x5 - v9), .int x6, .int v7, .int v9]) (Nat.le_of_ble_eq_true rfl) rfl ?_
          refine ex_iinc (L2 := [.ref 69, .int x1, w2, .int x3, w4, .int (x5 - v9), .int (x6 + (-1)), .int v7, .int v9]) (v := (x6 + (-1))) rfl (Nat.le_of_ble_eq_true rfl) (congrArg (fun z => x6 + z) (by decide)) rfl ?_
          refine ex_goto (ct := am_c9_110) rfl ?_
          exact ih _ _ _ _ _ _ _ _ _ _ H
        · rw [if_neg h11] at H
          refine ex_icmp_ge_f h11 ?_
          refine ex_iload rfl ?_
          refine ex_sipush (v := 128) (by decide) ?_
          refine ex_imul ?_
          refine ex_iload rfl ?_
          refine ex_iadd ?_
          refine ex_iload rfl ?_
          refine ex_iadd ?_
          have H := Option.some.inj H
          subst H
          exact ex_iret (M := 9) (Or.inl rfl)
set_option maxHeartbeats 1000000 in
set_option maxRecDepth 20000 in
theorem e9_72 {Lg : Nat} {xs : Nat → Int32} {d F : Nat} {k29 : Int32 → Int32 → Int32 → Int32 → Int32 → AmT → Option (Int32 × AmT)} {x1 : Int32} {x3 : Int32} {x4 : Int32} {x5 : Int32} {x6 : Int32} {x7 : Int32} {s0 : Int32} {w2 : Value} {w8 : Value} {S : AmT} {q : Int32 × AmT} (hd : 2 ≤ d) (hk29 : ∀ (x1 : Int32) (x3 : Int32) (x4 : Int32) (x5 : Int32) (x6 : Int32) (w2 : Value) (w7 : Value) (w8 : Value) (S : AmT) (q : Int32 × AmT), k29 x1 x3 x4 x5 x6 S = some q → Ex (am_X Lg xs) d 9 am_c9_29 [.ref 69, .int x1, w2, .int x3, .int x4, .int x5, .int x6, w7, w8] [] (hS S) (some q.1, hS q.2)) (H : g9_72 F k29 x1 x3 x4 x5 x6 x7 s0 S = some q) : Ex (am_X Lg xs) d 9 am_c9_72 [.ref 69, .int x1, w2, .int x3, .int x4, .int x5, .int x6, .int x7, w8] [.int s0] (hS S) (some q.1, hS q.2) := by
  obtain ⟨d, rfl⟩ : ∃ d2, d = d2 + 1 := ⟨d - 1, by omega⟩
  unfold g9_72 at H
  refine ex_istore (L2 := [.ref 69, .int x1, w2, .int x3, .int x4, .int x5, .int x6, .int x7, .int s0]) (Nat.le_of_ble_eq_true rfl) rfl ?_
  refine ex_iload rfl ?_
  refine ex_iload rfl ?_
  by_cases h17 : s0 ≤ x5
  · rw [if_pos h17] at H
    refine ex_icmp_ge_j (ct := am_c9_91) h17 rfl ?_
    refine ex_iload rfl ?_
    refine ex_iload rfl ?_
    refine ex_isub ?_
    refine ex_istore (L2 := [.ref 69, .int x1, w2, .int x3, .int x4, .int (x5 - s0), .int x6, .int x7, .int s0]) (Nat.le_of_ble_eq_true rfl) rfl ?_
    refine ex_iinc (L2 := [.ref 69, .int x1, w2, .int x3, .int x4, .int (x5 - s0), .int (x6 + 1), .int x7, .int s0]) (v := (x6 + 1)) rfl (Nat.le_of_ble_eq_true rfl) (congrArg (fun z => x6 + z) (by decide)) rfl ?_
    refine ex_goto (ct := am_c9_29) rfl ?_
    exact hk29 _ _ _ _ _ _ _ _ _ _ H
  · rw [if_neg h17] at H
    refine ex_icmp_ge_f h17 ?_
    refine ex_iload rfl ?_
    refine ex_sipush (v := 128) (by decide) ?_
    refine ex_imul ?_
    refine ex_iload rfl ?_
    refine ex_iadd ?_
    have H := Option.some.inj H
    subst H
    exact ex_iret (M := 9) (Or.inl rfl)
set_option maxHeartbeats 1000000 in
set_option maxRecDepth 20000 in
theorem e9_29 {Lg : Nat} {xs : Nat → Int32} {d F : Nat} (hd : 2 ≤ d) : ∀ (n : Nat) (x1 : Int32) (x3 : Int32) (x4 : Int32) (x5 : Int32) (x6 : Int32) (w2 : Value) (w7 : Value) (w8 : Value) (S : AmT) (q : Int32 × AmT), g9_29 F n x1 x3 x4 x5 x6 S = some q → Ex (am_X Lg xs) d 9 am_c9_29 [.ref 69, .int x1, w2, .int x3, .int x4, .int x5, .int x6, w7, w8] [] (hS S) (some q.1, hS q.2) := by
  obtain ⟨d, rfl⟩ : ∃ d2, d = d2 + 1 := ⟨d - 1, by omega⟩
  intro n
  induction n with
  | zero =>
    intro x1 x3 x4 x5 x6 w2 w7 w8 S q H
    cases H
  | succ n ih =>
    intro x1 x3 x4 x5 x6 w2 w7 w8 S q H
    have H : (if x4 ≤ x6 then (g9_110 F F x1 x3 x5 (x4 - 1) S) else (am_b2 (f7 F x1 x6 S) fun v12 S13 => if x3 = 0 then (am_b2 (f99 F v12 S13) fun v15 S16 => g9_72 F (fun x1 x3 x4 x5 x6 S => g9_29 F n x1 x3 x4 x5 x6 S) x1 x3 x4 x5 x6 v12 (2 * v15) S16) else (am_b2 (f99 F v12 S13) fun v18 S19 => g9_72 F (fun x1 x3 x4 x5 x6 S => g9_29 F n x1 x3 x4 x5 x6 S) x1 x3 x4 x5 x6 v12 v18 S19))) = some q := H
    refine ex_iload rfl ?_
    refine ex_iload rfl ?_
    by_cases h4 : x4 ≤ x6
    · rw [if_pos h4] at H
      refine ex_icmp_ge_j (ct := am_c9_104) h4 rfl ?_
      refine ex_iload rfl ?_
      refine ex_iconst (v := 1) (by decide) ?_
      refine ex_isub ?_
      refine ex_istore (L2 := [.ref 69, .int x1, w2, .int x3, .int x4, .int x5, .int (x4 - 1), w7, w8]) (Nat.le_of_ble_eq_true rfl) rfl ?_
      exact e9_110 hd _ _ _ _ _ _ _ _ _ _ _ H
    · rw [if_neg h4] at H
      refine ex_icmp_ge_f h4 ?_
      refine ex_aload_n rfl ?_
      refine ex_iload_n rfl ?_
      refine ex_iload rfl ?_
      obtain ⟨v12, S13, hp, H⟩ := am_b2_el H
      refine ex_callV rfl rfl (Nat.le_of_ble_eq_true rfl) (Nat.le_of_ble_eq_true rfl) rfl (r7 (by omega) hp) rfl ?_
      refine ex_istore (L2 := [.ref 69, .int x1, w2, .int x3, .int x4, .int x5, .int x6, .int v12, w8]) (Nat.le_of_ble_eq_true rfl) rfl ?_
      refine ex_iload_n rfl ?_
      by_cases h14 : x3 = 0
      · rw [if_pos h14] at H
        refine ex_if_eq_j (ct := am_c9_61) h14 rfl ?_
        refine ex_iconst (v := 2) (by decide) ?_
        refine ex_aload_n rfl ?_
        refine ex_getR (w := 46) rfl rfl rfl ?_
        refine ex_iload rfl ?_
        obtain ⟨v15, S16, hp, H⟩ := am_b2_el H
        refine ex_callV rfl rfl (Nat.le_of_ble_eq_true rfl) (Nat.le_of_ble_eq_true rfl) rfl (r99 (by omega) hp) rfl ?_
        refine ex_imul ?_
        exact e9_72 hd (fun x1 x3 x4 x5 x6 w2 w7 w8 S q H => ih x1 x3 x4 x5 x6 w2 w7 w8 S q H) H
      · rw [if_neg h14] at H
        refine ex_if_eq_f h14 ?_
        refine ex_aload_n rfl ?_
        refine ex_getR (w := 46) rfl rfl rfl ?_
        refine ex_iload rfl ?_
        obtain ⟨v18, S19, hp, H⟩ := am_b2_el H
        refine ex_callV rfl rfl (Nat.le_of_ble_eq_true rfl) (Nat.le_of_ble_eq_true rfl) rfl (r99 (by omega) hp) rfl ?_
        refine ex_goto (ct := am_c9_72) rfl ?_
        exact e9_72 hd (fun x1 x3 x4 x5 x6 w2 w7 w8 S q H => ih x1 x3 x4 x5 x6 w2 w7 w8 S q H) H
set_option maxHeartbeats 1000000 in
set_option maxRecDepth 20000 in
theorem r9 {Lg : Nat} {xs : Nat → Int32} {d F : Nat} {x1 : Int32} {x2 : Int32} {S : AmT} {q : Int32 × AmT} (hd : 2 ≤ d) (H : f9 F x1 x2 S = some q) : Ex (am_X Lg xs) d 9 (am_P 9) (am_ini (am_Mi 9).1 [.ref 69, .int x1, .int x2]) [] (hS S) (some q.1, hS q.2) := by
  obtain ⟨d, rfl⟩ : ∃ d2, d = d2 + 1 := ⟨d - 1, by omega⟩
  unfold f9 at H
  show Ex (am_X Lg xs) _ 9 am_c9_0 [.ref 69, .int x1, .int x2, .long 0, .long 0, .long 0, .long 0, .long 0, .long 0] [] (hS S) (some q.1, hS q.2)
  refine ex_iload_n rfl ?_
  by_cases h1 : 0 ≤ x2
  · rw [if_pos h1] at H
    refine ex_if_ge_j (ct := am_c9_7) h1 rfl ?_
    refine ex_aload_n rfl ?_
    refine ex_iload_n rfl ?_
    obtain ⟨v2, S3, hp, H⟩ := am_b2_el H
    refine ex_callV rfl rfl (Nat.le_of_ble_eq_true rfl) (Nat.le_of_ble_eq_true rfl) rfl (r5 (by omega) hp) rfl ?_
    refine ex_istore_n (L2 := [.ref 69, .int x1, .int x2, .int v2, .long 0, .long 0, .long 0, .long 0, .long 0]) (Nat.le_of_ble_eq_true rfl) rfl ?_
    refine ex_aload_n rfl ?_
    refine ex_getR (w := 74) rfl rfl rfl ?_
    refine ex_iload_n rfl ?_
    refine ex_kget (c := 74) (ar := 75) (n := 4) rfl (Nat.le_of_ble_eq_true rfl) ?_
    refine ex_istore (L2 := [.ref 69, .int x1, .int x2, .int v2, .int (kg S3.1 75 4 x1), .long 0, .long 0, .long 0, .long 0]) (Nat.le_of_ble_eq_true rfl) rfl ?_
    refine ex_iload_n rfl ?_
    refine ex_istore (L2 := [.ref 69, .int x1, .int x2, .int v2, .int (kg S3.1 75 4 x1), .int x2, .long 0, .long 0, .long 0]) (Nat.le_of_ble_eq_true rfl) rfl ?_
    refine ex_iconst (v := 0) (by decide) ?_
    refine ex_istore (L2 := [.ref 69, .int x1, .int x2, .int v2, .int (kg S3.1 75 4 x1), .int x2, .int 0, .long 0, .long 0]) (Nat.le_of_ble_eq_true rfl) rfl ?_
    exact e9_29 hd _ _ _ _ _ _ _ _ _ _ _ H
  · rw [if_neg h1] at H
    refine ex_if_ge_f h1 ?_
    refine ex_bipush (v := (-12)) (by decide) ?_
    have H := Option.some.inj H
    subst H
    exact ex_iret (M := 9) (Or.inl rfl)
-- X0_append
def f13 (F : Nat) (x1 : Int32) (S : AmT) : Option (Int32 × AmT) := am_nn S (am_lt (ks S 82 83 4 (kg S.1 81 1 0) x1) fun S1 => am_nn S1 (am_lt (ks S1 78 79 4 x1 1) fun S2 => am_nn S2 (am_lt (ks S2 80 81 1 0 ((kg S.1 81 1 0) + 1)) fun S3 => some (((kg S.1 81 1 0) + 1), S3))))
set_option maxHeartbeats 1000000 in
set_option maxRecDepth 20000 in
theorem r13 {Lg : Nat} {xs : Nat → Int32} {d F : Nat} {x1 : Int32} {S : AmT} {q : Int32 × AmT} (hd : 2 ≤ d) (H : f13 F x1 S = some q) : Ex (am_X Lg xs) d 13 (am_P 13) (am_ini (am_Mi 13).1 [.ref 69, .int x1]) [] (hS S) (some q.1, hS q.2) := by
  obtain ⟨d, rfl⟩ : ∃ d2, d = d2 + 1 := ⟨d - 1, by omega⟩
  unfold f13 at H
  show Ex (am_X Lg xs) _ 13 am_c13_0 [.ref 69, .int x1, .long 0] [] (hS S) (some q.1, hS q.2)
  refine ex_aload_n rfl ?_
  refine ex_getR (w := 80) rfl rfl rfl ?_
  refine ex_iconst (v := 0) (by decide) ?_
  refine ex_kget (c := 80) (ar := 81) (n := 1) rfl (Nat.le_of_ble_eq_true rfl) ?_
  refine ex_istore_n (L2 := [.ref 69, .int x1, .int (kg S.1 81 1 0)]) (Nat.le_of_ble_eq_true rfl) rfl ?_
  refine ex_aload_n rfl ?_
  refine ex_getR (w := 82) rfl rfl rfl ?_
  refine ex_iload_n rfl ?_
  refine ex_iload_n rfl ?_
  obtain ⟨hnn, H⟩ := am_nn_el H
  refine ex_kset (c := 82) (ar := 83) (n := 4) rfl hnn (by omega) (Nat.le_of_ble_eq_true rfl) ?_
  generalize (ks S 82 83 4 (kg S.1 81 1 0) x1) = S1 at H ⊢
  have H := am_lt_el H
  refine ex_aload_n rfl ?_
  refine ex_getR (w := 78) rfl rfl rfl ?_
  refine ex_iload_n rfl ?_
  refine ex_iconst (v := 1) (by decide) ?_
  obtain ⟨hnn, H⟩ := am_nn_el H
  refine ex_kset (c := 78) (ar := 79) (n := 4) rfl hnn (by omega) (Nat.le_of_ble_eq_true rfl) ?_
  generalize (ks S1 78 79 4 x1 1) = S2 at H ⊢
  have H := am_lt_el H
  refine ex_aload_n rfl ?_
  refine ex_getR (w := 80) rfl rfl rfl ?_
  refine ex_iconst (v := 0) (by decide) ?_
  refine ex_iload_n rfl ?_
  refine ex_iconst (v := 1) (by decide) ?_
  refine ex_iadd ?_
  obtain ⟨hnn, H⟩ := am_nn_el H
  refine ex_kset (c := 80) (ar := 81) (n := 1) rfl hnn (by omega) (Nat.le_of_ble_eq_true rfl) ?_
  generalize (ks S2 80 81 1 0 ((kg S.1 81 1 0) + 1)) = S3 at H ⊢
  have H := am_lt_el H
  refine ex_iload_n rfl ?_
  refine ex_iconst (v := 1) (by decide) ?_
  refine ex_iadd ?_
  have H := Option.some.inj H
  subst H
  exact ex_iret (M := 13) (Or.inl rfl)
def g15_4 (F : Nat) : Nat → Int32 → Int32 → Int32 → AmT → Option (Int32 × AmT)
  | 0, _, _, _, _ => none
  | n + 1, x1, x2, x3, S => if (kg S.1 75 4 x1) ≤ x3 then (some (x2, S)) else (am_b2 (f7 F x1 x3 S) fun v2 S3 => am_b2 (f99 F v2 S3) fun v4 S5 => g15_4 F n x1 (x2 + (2 * v4)) (x3 + 1) S5)
-- X0_faceCount
def f15 (F : Nat) (x1 : Int32) (S : AmT) : Option (Int32 × AmT) := g15_4 F F x1 0 0 S
set_option maxHeartbeats 1000000 in
set_option maxRecDepth 20000 in
theorem e15_4 {Lg : Nat} {xs : Nat → Int32} {d F : Nat} (hd : 2 ≤ d) : ∀ (n : Nat) (x1 : Int32) (x2 : Int32) (x3 : Int32) (S : AmT) (q : Int32 × AmT), g15_4 F n x1 x2 x3 S = some q → Ex (am_X Lg xs) d 15 am_c15_4 [.ref 69, .int x1, .int x2, .int x3] [] (hS S) (some q.1, hS q.2) := by
  obtain ⟨d, rfl⟩ : ∃ d2, d = d2 + 1 := ⟨d - 1, by omega⟩
  intro n
  induction n with
  | zero =>
    intro x1 x2 x3 S q H
    cases H
  | succ n ih =>
    intro x1 x2 x3 S q H
    have H : (if (kg S.1 75 4 x1) ≤ x3 then (some (x2, S)) else (am_b2 (f7 F x1 x3 S) fun v2 S3 => am_b2 (f99 F v2 S3) fun v4 S5 => g15_4 F n x1 (x2 + (2 * v4)) (x3 + 1) S5)) = some q := H
    refine ex_iload_n rfl ?_
    refine ex_aload_n rfl ?_
    refine ex_getR (w := 74) rfl rfl rfl ?_
    refine ex_iload_n rfl ?_
    refine ex_kget (c := 74) (ar := 75) (n := 4) rfl (Nat.le_of_ble_eq_true rfl) ?_
    by_cases h1 : (kg S.1 75 4 x1) ≤ x3
    · rw [if_pos h1] at H
      refine ex_icmp_ge_j (ct := am_c15_40) h1 rfl ?_
      refine ex_iload_n rfl ?_
      have H := Option.some.inj H
      subst H
      exact ex_iret (M := 15) (Or.inl rfl)
    · rw [if_neg h1] at H
      refine ex_icmp_ge_f h1 ?_
      refine ex_iload_n rfl ?_
      refine ex_iconst (v := 2) (by decide) ?_
      refine ex_aload_n rfl ?_
      refine ex_getR (w := 46) rfl rfl rfl ?_
      refine ex_aload_n rfl ?_
      refine ex_iload_n rfl ?_
      refine ex_iload_n rfl ?_
      obtain ⟨v2, S3, hp, H⟩ := am_b2_el H
      refine ex_callV rfl rfl (Nat.le_of_ble_eq_true rfl) (Nat.le_of_ble_eq_true rfl) rfl (r7 (by omega) hp) rfl ?_
      obtain ⟨v4, S5, hp, H⟩ := am_b2_el H
      refine ex_callV rfl rfl (Nat.le_of_ble_eq_true rfl) (Nat.le_of_ble_eq_true rfl) rfl (r99 (by omega) hp) rfl ?_
      refine ex_imul ?_
      refine ex_iadd ?_
      refine ex_istore_n (L2 := [.ref 69, .int x1, .int (x2 + (2 * v4)), .int x3]) (Nat.le_of_ble_eq_true rfl) rfl ?_
      refine ex_iinc (L2 := [.ref 69, .int x1, .int (x2 + (2 * v4)), .int (x3 + 1)]) (v := (x3 + 1)) rfl (Nat.le_of_ble_eq_true rfl) (congrArg (fun z => x3 + z) (by decide)) rfl ?_
      refine ex_goto (ct := am_c15_4) rfl ?_
      exact ih _ _ _ _ _ H
set_option maxHeartbeats 1000000 in
set_option maxRecDepth 20000 in
theorem r15 {Lg : Nat} {xs : Nat → Int32} {d F : Nat} {x1 : Int32} {S : AmT} {q : Int32 × AmT} (hd : 2 ≤ d) (H : f15 F x1 S = some q) : Ex (am_X Lg xs) d 15 (am_P 15) (am_ini (am_Mi 15).1 [.ref 69, .int x1]) [] (hS S) (some q.1, hS q.2) := by
  obtain ⟨d, rfl⟩ : ∃ d2, d = d2 + 1 := ⟨d - 1, by omega⟩
  unfold f15 at H
  show Ex (am_X Lg xs) _ 15 am_c15_0 [.ref 69, .int x1, .long 0, .long 0] [] (hS S) (some q.1, hS q.2)
  refine ex_iconst (v := 0) (by decide) ?_
  refine ex_istore_n (L2 := [.ref 69, .int x1, .int 0, .long 0]) (Nat.le_of_ble_eq_true rfl) rfl ?_
  refine ex_iconst (v := 0) (by decide) ?_
  refine ex_istore_n (L2 := [.ref 69, .int x1, .int 0, .int 0]) (Nat.le_of_ble_eq_true rfl) rfl ?_
  exact e15_4 hd _ _ _ _ _ _ H
-- X0_coverWith
def f16 (F : Nat) (x1 : Int32) (S : AmT) : Option (Int32 × AmT) := am_nn S (am_lt (ks S 84 85 1 0 x1) fun S1 => some (1, S1))
set_option maxHeartbeats 1000000 in
set_option maxRecDepth 20000 in
theorem r16 {Lg : Nat} {xs : Nat → Int32} {d F : Nat} {x1 : Int32} {S : AmT} {q : Int32 × AmT} (hd : 2 ≤ d) (H : f16 F x1 S = some q) : Ex (am_X Lg xs) d 16 (am_P 16) (am_ini (am_Mi 16).1 [.ref 69, .int x1]) [] (hS S) (some q.1, hS q.2) := by
  obtain ⟨d, rfl⟩ : ∃ d2, d = d2 + 1 := ⟨d - 1, by omega⟩
  unfold f16 at H
  show Ex (am_X Lg xs) _ 16 am_c16_0 [.ref 69, .int x1] [] (hS S) (some q.1, hS q.2)
  refine ex_aload_n rfl ?_
  refine ex_getR (w := 84) rfl rfl rfl ?_
  refine ex_iconst (v := 0) (by decide) ?_
  refine ex_iload_n rfl ?_
  obtain ⟨hnn, H⟩ := am_nn_el H
  refine ex_kset (c := 84) (ar := 85) (n := 1) rfl hnn (by omega) (Nat.le_of_ble_eq_true rfl) ?_
  generalize (ks S 84 85 1 0 x1) = S1 at H ⊢
  have H := am_lt_el H
  refine ex_iconst (v := 1) (by decide) ?_
  have H := Option.some.inj H
  subst H
  exact ex_iret (M := 16) (Or.inl rfl)
def g18_11 (F : Nat) : Nat → Int32 → Int32 → Int32 → AmT → Option (Int32 × AmT)
  | 0, _, _, _, _ => none
  | n + 1, x1, x2, x3, S => if x2 ≤ x3 then (some (x3, S)) else (am_b2 (f7 F x1 x3 S) fun v2 S3 => am_b2 (f120 F v2 S3) fun v4 S5 => if v4 = 5 then (g18_11 F n x1 x2 (x3 + 1) S5) else (some (x3, S5)))
-- X0_goodSheets
def f18 (F : Nat) (x1 : Int32) (S : AmT) : Option (Int32 × AmT) := g18_11 F F x1 (kg S.1 75 4 x1) 0 S
set_option maxHeartbeats 1000000 in
set_option maxRecDepth 20000 in
theorem e18_11 {Lg : Nat} {xs : Nat → Int32} {d F : Nat} (hd : 2 ≤ d) : ∀ (n : Nat) (x1 : Int32) (x2 : Int32) (x3 : Int32) (S : AmT) (q : Int32 × AmT), g18_11 F n x1 x2 x3 S = some q → Ex (am_X Lg xs) d 18 am_c18_11 [.ref 69, .int x1, .int x2, .int x3] [] (hS S) (some q.1, hS q.2) := by
  obtain ⟨d, rfl⟩ : ∃ d2, d = d2 + 1 := ⟨d - 1, by omega⟩
  intro n
  induction n with
  | zero =>
    intro x1 x2 x3 S q H
    cases H
  | succ n ih =>
    intro x1 x2 x3 S q H
    have H : (if x2 ≤ x3 then (some (x3, S)) else (am_b2 (f7 F x1 x3 S) fun v2 S3 => am_b2 (f120 F v2 S3) fun v4 S5 => if v4 = 5 then (g18_11 F n x1 x2 (x3 + 1) S5) else (some (x3, S5)))) = some q := H
    refine ex_iload_n rfl ?_
    refine ex_iload_n rfl ?_
    by_cases h1 : x2 ≤ x3
    · rw [if_pos h1] at H
      refine ex_icmp_ge_j (ct := am_c18_39) h1 rfl ?_
      refine ex_iload_n rfl ?_
      have H := Option.some.inj H
      subst H
      exact ex_iret (M := 18) (Or.inl rfl)
    · rw [if_neg h1] at H
      refine ex_icmp_ge_f h1 ?_
      refine ex_aload_n rfl ?_
      refine ex_getR (w := 46) rfl rfl rfl ?_
      refine ex_aload_n rfl ?_
      refine ex_iload_n rfl ?_
      refine ex_iload_n rfl ?_
      obtain ⟨v2, S3, hp, H⟩ := am_b2_el H
      refine ex_callV rfl rfl (Nat.le_of_ble_eq_true rfl) (Nat.le_of_ble_eq_true rfl) rfl (r7 (by omega) hp) rfl ?_
      obtain ⟨v4, S5, hp, H⟩ := am_b2_el H
      refine ex_callV rfl rfl (Nat.le_of_ble_eq_true rfl) (Nat.le_of_ble_eq_true rfl) rfl (r120 (by omega) hp) rfl ?_
      refine ex_iconst (v := 5) (by decide) ?_
      by_cases h6 : v4 = 5
      · rw [if_pos h6] at H
        refine ex_icmp_ne_f h6 ?_
        refine ex_iinc (L2 := [.ref 69, .int x1, .int x2, .int (x3 + 1)]) (v := (x3 + 1)) rfl (Nat.le_of_ble_eq_true rfl) (congrArg (fun z => x3 + z) (by decide)) rfl ?_
        refine ex_goto (ct := am_c18_11) rfl ?_
        exact ih _ _ _ _ _ H
      · rw [if_neg h6] at H
        refine ex_icmp_ne_j (ct := am_c18_39) h6 rfl ?_
        refine ex_iload_n rfl ?_
        have H := Option.some.inj H
        subst H
        exact ex_iret (M := 18) (Or.inl rfl)
set_option maxHeartbeats 1000000 in
set_option maxRecDepth 20000 in
theorem r18 {Lg : Nat} {xs : Nat → Int32} {d F : Nat} {x1 : Int32} {S : AmT} {q : Int32 × AmT} (hd : 2 ≤ d) (H : f18 F x1 S = some q) : Ex (am_X Lg xs) d 18 (am_P 18) (am_ini (am_Mi 18).1 [.ref 69, .int x1]) [] (hS S) (some q.1, hS q.2) := by
  obtain ⟨d, rfl⟩ : ∃ d2, d = d2 + 1 := ⟨d - 1, by omega⟩
  unfold f18 at H
  show Ex (am_X Lg xs) _ 18 am_c18_0 [.ref 69, .int x1, .long 0, .long 0] [] (hS S) (some q.1, hS q.2)
  refine ex_aload_n rfl ?_
  refine ex_getR (w := 74) rfl rfl rfl ?_
  refine ex_iload_n rfl ?_
  refine ex_kget (c := 74) (ar := 75) (n := 4) rfl (Nat.le_of_ble_eq_true rfl) ?_
  refine ex_istore_n (L2 := [.ref 69, .int x1, .int (kg S.1 75 4 x1), .long 0]) (Nat.le_of_ble_eq_true rfl) rfl ?_
  refine ex_iconst (v := 0) (by decide) ?_
  refine ex_istore_n (L2 := [.ref 69, .int x1, .int (kg S.1 75 4 x1), .int 0]) (Nat.le_of_ble_eq_true rfl) rfl ?_
  exact e18_11 hd _ _ _ _ _ _ H
def g27_82 (F : Nat) (x3 : Int32) (S : AmT) : Option (Int32 × AmT) := am_nn S (am_lt (ks S 30 31 1 0 (x3 + 1)) fun S5 => some (x3, S5))
-- X1_makePlain
def f27 (F : Nat) (x1 : Int32) (x2 : Int32) (S : AmT) : Option (Int32 × AmT) := am_nn S (am_lt (ks S 32 33 16 (kg S.1 31 1 0) x1) fun S1 => am_nn S1 (am_lt (ks S1 34 35 16 (kg S.1 31 1 0) x2) fun S2 => am_nn S2 (am_lt (ks S2 40 41 16 (kg S.1 31 1 0) 1) fun S3 => if x1 < 0 then (g27_82 F (kg S.1 31 1 0) S3) else (if 5 ≤ x1 then (g27_82 F (kg S.1 31 1 0) S3) else (if 5 ≤ x1 then (g27_82 F (kg S.1 31 1 0) S3) else (am_ck x1 5 (am_nn S3 (am_lt (ks S3 42 43 16 (kg S.1 31 1 0) (am_thick x1.toNatClampNeg)) fun S8 => am_ck x1 5 (am_nn S8 (am_lt (ks S8 44 45 16 (kg S.1 31 1 0) (am_trims x1.toNatClampNeg)) fun S9 => g27_82 F (kg S.1 31 1 0) S9))))))))))
set_option maxHeartbeats 1000000 in
set_option maxRecDepth 20000 in
theorem e27_82 {Lg : Nat} {xs : Nat → Int32} {d F : Nat} {x3 : Int32} {w1 : Value} {w2 : Value} {S : AmT} {q : Int32 × AmT} (hd : 2 ≤ d) (H : g27_82 F x3 S = some q) : Ex (am_X Lg xs) d 27 am_c27_82 [.ref 22, w1, w2, .int x3] [] (hS S) (some q.1, hS q.2) := by
  obtain ⟨d, rfl⟩ : ∃ d2, d = d2 + 1 := ⟨d - 1, by omega⟩
  unfold g27_82 at H
  refine ex_aload_n rfl ?_
  refine ex_getR (w := 30) rfl rfl rfl ?_
  refine ex_iconst (v := 0) (by decide) ?_
  refine ex_iload_n rfl ?_
  refine ex_iconst (v := 1) (by decide) ?_
  refine ex_iadd ?_
  obtain ⟨hnn, H⟩ := am_nn_el H
  refine ex_kset (c := 30) (ar := 31) (n := 1) rfl hnn (by omega) (Nat.le_of_ble_eq_true rfl) ?_
  generalize (ks S 30 31 1 0 (x3 + 1)) = S5 at H ⊢
  have H := am_lt_el H
  refine ex_iload_n rfl ?_
  have H := Option.some.inj H
  subst H
  exact ex_iret (M := 27) (Or.inl rfl)
set_option maxHeartbeats 1000000 in
set_option maxRecDepth 20000 in
theorem r27 {Lg : Nat} {xs : Nat → Int32} {d F : Nat} {x1 : Int32} {x2 : Int32} {S : AmT} {q : Int32 × AmT} (hd : 2 ≤ d) (H : f27 F x1 x2 S = some q) : Ex (am_X Lg xs) d 27 (am_P 27) (am_ini (am_Mi 27).1 [.ref 22, .int x1, .int x2]) [] (hS S) (some q.1, hS q.2) := by
  obtain ⟨d, rfl⟩ : ∃ d2, d = d2 + 1 := ⟨d - 1, by omega⟩
  unfold f27 at H
  show Ex (am_X Lg xs) _ 27 am_c27_0 [.ref 22, .int x1, .int x2, .long 0] [] (hS S) (some q.1, hS q.2)
  refine ex_aload_n rfl ?_
  refine ex_getR (w := 30) rfl rfl rfl ?_
  refine ex_iconst (v := 0) (by decide) ?_
  refine ex_kget (c := 30) (ar := 31) (n := 1) rfl (Nat.le_of_ble_eq_true rfl) ?_
  refine ex_istore_n (L2 := [.ref 22, .int x1, .int x2, .int (kg S.1 31 1 0)]) (Nat.le_of_ble_eq_true rfl) rfl ?_
  refine ex_aload_n rfl ?_
  refine ex_getR (w := 32) rfl rfl rfl ?_
  refine ex_iload_n rfl ?_
  refine ex_iload_n rfl ?_
  obtain ⟨hnn, H⟩ := am_nn_el H
  refine ex_kset (c := 32) (ar := 33) (n := 16) rfl hnn (by omega) (Nat.le_of_ble_eq_true rfl) ?_
  generalize (ks S 32 33 16 (kg S.1 31 1 0) x1) = S1 at H ⊢
  have H := am_lt_el H
  refine ex_aload_n rfl ?_
  refine ex_getR (w := 34) rfl rfl rfl ?_
  refine ex_iload_n rfl ?_
  refine ex_iload_n rfl ?_
  obtain ⟨hnn, H⟩ := am_nn_el H
  refine ex_kset (c := 34) (ar := 35) (n := 16) rfl hnn (by omega) (Nat.le_of_ble_eq_true rfl) ?_
  generalize (ks S1 34 35 16 (kg S.1 31 1 0) x2) = S2 at H ⊢
  have H := am_lt_el H
  refine ex_aload_n rfl ?_
  refine ex_getR (w := 40) rfl rfl rfl ?_
  refine ex_iload_n rfl ?_
  refine ex_iconst (v := 1) (by decide) ?_
  obtain ⟨hnn, H⟩ := am_nn_el H
  refine ex_kset (c := 40) (ar := 41) (n := 16) rfl hnn (by omega) (Nat.le_of_ble_eq_true rfl) ?_
  generalize (ks S2 40 41 16 (kg S.1 31 1 0) 1) = S3 at H ⊢
  have H := am_lt_el H
  refine ex_iload_n rfl ?_
  by_cases h4 : x1 < 0
  · rw [if_pos h4] at H
    refine ex_if_lt_j (ct := am_c27_82) h4 rfl ?_
    exact e27_82 hd H
  · rw [if_neg h4] at H
    refine ex_if_lt_f h4 ?_
    refine ex_iload_n rfl ?_
    refine ex_getst ?_
    refine ex_alen (k := 5) (v := 5) rfl (by decide) ?_
    by_cases h6 : 5 ≤ x1
    · rw [if_pos h6] at H
      refine ex_icmp_ge_j (ct := am_c27_82) h6 rfl ?_
      exact e27_82 hd H
    · rw [if_neg h6] at H
      refine ex_icmp_ge_f h6 ?_
      refine ex_iload_n rfl ?_
      refine ex_getst ?_
      refine ex_alen (k := 5) (v := 5) rfl (by decide) ?_
      by_cases h7 : 5 ≤ x1
      · rw [if_pos h7] at H
        refine ex_icmp_ge_j (ct := am_c27_82) h7 rfl ?_
        exact e27_82 hd H
      · rw [if_neg h7] at H
        refine ex_icmp_ge_f h7 ?_
        refine ex_aload_n rfl ?_
        refine ex_getR (w := 42) rfl rfl rfl ?_
        refine ex_iload_n rfl ?_
        refine ex_getst ?_
        refine ex_iload_n rfl ?_
        obtain ⟨hj, H⟩ := am_ck_el H
        refine ex_iald (k := 5) (v := am_thick x1.toNatClampNeg) rfl hj rfl ?_
        obtain ⟨hnn, H⟩ := am_nn_el H
        refine ex_kset (c := 42) (ar := 43) (n := 16) rfl hnn (by omega) (Nat.le_of_ble_eq_true rfl) ?_
        generalize (ks S3 42 43 16 (kg S.1 31 1 0) (am_thick x1.toNatClampNeg)) = S8 at H ⊢
        have H := am_lt_el H
        refine ex_aload_n rfl ?_
        refine ex_getR (w := 44) rfl rfl rfl ?_
        refine ex_iload_n rfl ?_
        refine ex_getst ?_
        refine ex_iload_n rfl ?_
        obtain ⟨hj, H⟩ := am_ck_el H
        refine ex_iald (k := 5) (v := am_trims x1.toNatClampNeg) rfl hj rfl ?_
        obtain ⟨hnn, H⟩ := am_nn_el H
        refine ex_kset (c := 44) (ar := 45) (n := 16) rfl hnn (by omega) (Nat.le_of_ble_eq_true rfl) ?_
        generalize (ks S8 44 45 16 (kg S.1 31 1 0) (am_trims x1.toNatClampNeg)) = S9 at H ⊢
        have H := am_lt_el H
        exact e27_82 hd H
