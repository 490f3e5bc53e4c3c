/-! printed by wip/gen/gen20.py -/
def g222_37 (F : Nat) (S : AmT) : Option (Int32 × AmT) := am_b2 (f203 F 4 S) fun v9 S10 => some (v9, S10)
def g222_51 (F : Nat) (S : AmT) : Option (Int32 × AmT) := am_b2 (f203 F 3 S) fun v13 S14 => some (v13, S14)
def g222_175 (F : Nat) (k74 : Int32 → Int32 → Int32 → Int32 → AmT → Option (Int32 × AmT)) (k125 : Int32 → Int32 → Int32 → Int32 → Int32 → Int32 → AmT → Option (Int32 × AmT)) (x1 : Int32) (x2 : Int32) (x3 : Int32) (x4 : Int32) (x5 : Int32) (x6 : Int32) (s1 : Int32) (s2 : Int32) (S : AmT) : Option (Int32 × AmT) := am_ck s1 1152 (am_lt ((am_upI S.1 101 s1.toNatClampNeg s2, S.2) : AmT) fun S25 => k125 x1 x2 x3 x4 x5 (x6 + 1) S25)
def g222_125 (F : Nat) (k74 : Int32 → Int32 → Int32 → Int32 → AmT → Option (Int32 × AmT)) : Nat → Int32 → Int32 → Int32 → Int32 → Int32 → Int32 → AmT → Option (Int32 × AmT)
  | 0, _, _, _, _, _, _, _ => none
  | n + 1, x1, x2, x3, x4, x5, x6, S => am_ck x5 144 (if (S.1 100 x5.toNatClampNeg) ≤ x6 then (k74 x1 x2 x3 (x4 + 1) S) else (am_ck ((8 * x5) + x6) 1152 (if (S.1 101 ((8 * x5) + x6).toNatClampNeg) ≤ x3 then (am_ck ((8 * x5) + x6) 1152 (g222_175 F k74 (fun x1 x2 x3 x4 x5 x6 S => g222_125 F k74 n x1 x2 x3 x4 x5 x6 S) x1 x2 x3 x4 x5 x6 ((8 * x5) + x6) (S.1 101 ((8 * x5) + x6).toNatClampNeg) S)) else (g222_175 F k74 (fun x1 x2 x3 x4 x5 x6 S => g222_125 F k74 n x1 x2 x3 x4 x5 x6 S) x1 x2 x3 x4 x5 x6 ((8 * x5) + x6) x3 S))))
def g222_121 (F : Nat) (k74 : Int32 → Int32 → Int32 → Int32 → AmT → Option (Int32 × AmT)) (x1 : Int32) (x2 : Int32) (x3 : Int32) (x4 : Int32) (x5 : Int32) (s1 : Int32) (s2 : Int32) (S : AmT) : Option (Int32 × AmT) := am_ck s1 144 (am_lt ((am_upI S.1 100 s1.toNatClampNeg s2, S.2) : AmT) fun S22 => g222_125 F k74 F x1 x2 x3 x4 x5 0 S22)
def g222_74 (F : Nat) : Nat → Int32 → Int32 → Int32 → Int32 → AmT → Option (Int32 × AmT)
  | 0, _, _, _, _, _ => none
  | n + 1, x1, x2, x3, x4, S => am_ck x1 6 (if (S.1 97 x1.toNatClampNeg) < x4 then (some (1, S)) else (am_b2 (f207 F x1 x4 S) fun v19 S20 => am_ck v19 144 (if (S20.1 100 v19.toNatClampNeg) ≤ x2 then (am_ck v19 144 (g222_121 F (fun x1 x2 x3 x4 S => g222_74 F n x1 x2 x3 x4 S) x1 x2 x3 x4 v19 v19 (S20.1 100 v19.toNatClampNeg) S20)) else (g222_121 F (fun x1 x2 x3 x4 S => g222_74 F n x1 x2 x3 x4 S) x1 x2 x3 x4 v19 v19 x2 S20))))
-- X10_cut
def f222 (F : Nat) (x1 : Int32) (x2 : Int32) (x3 : Int32) (S : AmT) : Option (Int32 × AmT) := am_b2 (f202 F S) fun v1 S2 => if v1 = 0 then (am_b2 (f205 F x1 S2) fun v4 S5 => if v4 = 0 then (some ((-2), S5)) else ((f201 F S5).bind fun S7 => if 8 < x2 then (g222_37 F S7) else (if x3 ≤ 10 then (if x2 < 0 then (g222_51 F S7) else (if 0 ≤ x3 then (am_ck x1 6 (am_lt ((am_upI S7.1 98 x1.toNatClampNeg x2, S7.2) : AmT) fun S16 => am_ck x1 6 (am_lt ((am_upI S16.1 99 x1.toNatClampNeg x3, S16.2) : AmT) fun S17 => g222_74 F F x1 x2 x3 1 S17))) else (g222_51 F S7))) else (g222_37 F S7)))) else (some ((-4), S2))
set_option maxHeartbeats 1000000 in
set_option maxRecDepth 20000 in
theorem e222_37 {Lg : Nat} {xs : Nat → Int32} {d F : Nat} {w1 : Value} {w2 : Value} {w3 : Value} {w4 : Value} {w5 : Value} {w6 : Value} {w7 : Value} {S : AmT} {q : Int32 × AmT} (hd : 3 ≤ d) (H : g222_37 F S = some q) : Ex (am_X Lg xs) d 222 am_c222_37 [.ref 95, w1, w2, w3, w4, w5, w6, w7] [] (hS S) (some q.1, hS q.2) := by
  obtain ⟨d, rfl⟩ : ∃ d2, d = d2 + 1 := ⟨d - 1, by omega⟩
  unfold g222_37 at H
  refine ex_aload_n rfl ?_
  refine ex_iconst (v := 4) (by decide) ?_
  obtain ⟨v9, S10, hp, H⟩ := am_b2_el H
  refine ex_callV rfl rfl (Nat.le_of_ble_eq_true rfl) (Nat.le_of_ble_eq_true rfl) rfl (r203 (by omega) hp) rfl ?_
  have H := Option.some.inj H
  subst H
  exact ex_iret (M := 222) (Or.inl rfl)
set_option maxHeartbeats 1000000 in
set_option maxRecDepth 20000 in
theorem e222_51 {Lg : Nat} {xs : Nat → Int32} {d F : Nat} {w1 : Value} {w2 : Value} {w3 : Value} {w4 : Value} {w5 : Value} {w6 : Value} {w7 : Value} {S : AmT} {q : Int32 × AmT} (hd : 3 ≤ d) (H : g222_51 F S = some q) : Ex (am_X Lg xs) d 222 am_c222_51 [.ref 95, w1, w2, w3, w4, w5, w6, w7] [] (hS S) (some q.1, hS q.2) := by
  obtain ⟨d, rfl⟩ : ∃ d2, d = d2 + 1 := ⟨d - 1, by omega⟩
  unfold g222_51 at H
  refine ex_aload_n rfl ?_
  refine ex_iconst (v := 3) (by decide) ?_
  obtain ⟨v13, S14, hp, H⟩ := am_b2_el H
  refine ex_callV rfl rfl (Nat.le_of_ble_eq_true rfl) (Nat.le_of_ble_eq_true rfl) rfl (r203 (by omega) hp) rfl ?_
  have H := Option.some.inj H
  subst H
  exact ex_iret (M := 222) (Or.inl rfl)
set_option maxHeartbeats 1000000 in
set_option maxRecDepth 20000 in
theorem e222_175 {Lg : Nat} {xs : Nat → Int32} {d F : Nat} {k74 : Int32 → Int32 → Int32 → Int32 → AmT → Option (Int32 × AmT)} {k125 : Int32 → Int32 → Int32 → Int32 → Int32 → Int32 → AmT → Option (Int32 × AmT)} {x1 : Int32} {x2 : Int32} {x3 : Int32} {x4 : Int32} {x5 : Int32} {x6 : Int32} {s1 : Int32} {s2 : Int32} {w7 : Value} {S : AmT} {q : Int32 × AmT} (hd : 3 ≤ d) (hk74 : ∀ (x1 : Int32) (x2 : Int32) (x3 : Int32) (x4 : Int32) (w5 : Value) (w6 : Value) (w7 : Value) (S : AmT) (q : Int32 × AmT), k74 x1 x2 x3 x4 S = some q → Ex (am_X Lg xs) d 222 am_c222_74 [.ref 95, .int x1, .int x2, .int x3, .int x4, w5, w6, w7] [] (hS S) (some q.1, hS q.2)) (hk125 : ∀ (x1 : Int32) (x2 : Int32) (x3 : Int32) (x4 : Int32) (x5 : Int32) (x6 : Int32) (w7 : Value) (S : AmT) (q : Int32 × AmT), k125 x1 x2 x3 x4 x5 x6 S = some q → Ex (am_X Lg xs) d 222 am_c222_125 [.ref 95, .int x1, .int x2, .int x3, .int x4, .int x5, .int x6, w7] [] (hS S) (some q.1, hS q.2)) (H : g222_175 F k74 k125 x1 x2 x3 x4 x5 x6 s1 s2 S = some q) : Ex (am_X Lg xs) d 222 am_c222_175 [.ref 95, .int x1, .int x2, .int x3, .int x4, .int x5, .int x6, w7] [.int s2, .int s1, .ref 101] (hS S) (some q.1, hS q.2) := by
  obtain ⟨d, rfl⟩ : ∃ d2, d = d2 + 1 := ⟨d - 1, by omega⟩
  unfold g222_175 at H
  obtain ⟨hj, H⟩ := am_ck_el H
  refine ex_iast (k := 1152) rfl rfl hj ?_
  generalize ((am_upI S.1 101 s1.toNatClampNeg s2, S.2) : AmT) = S25 at H ⊢
  have H := am_lt_el H
  refine ex_iinc (L2 := [.ref 95, .int x1, .int x2, .int x3, .int x4, .int x5, .int (x6 + 1), w7]) (v := (x6 + 1)) rfl (Nat.le_of_ble_eq_true rfl) (congrArg (fun z => x6 + z) (by decide)) rfl ?_
  refine ex_goto (ct := am_c222_125) rfl ?_
  exact hk125 _ _ _ _ _ _ _ _ _ H
set_option maxHeartbeats 1000000 in
set_option maxRecDepth 20000 in
theorem e222_125 {Lg : Nat} {xs : Nat → Int32} {d F : Nat} {k74 : Int32 → Int32 → Int32 → Int32 → AmT → Option (Int32 × AmT)} (hd : 3 ≤ d) (hk74 : ∀ (x1 : Int32) (x2 : Int32) (x3 : Int32) (x4 : Int32) (w5 : Value) (w6 : Value) (w7 : Value) (S : AmT) (q : Int32 × AmT), k74 x1 x2 x3 x4 S = some q → Ex (am_X Lg xs) d 222 am_c222_74 [.ref 95, .int x1, .int x2, .int x3, .int x4, w5, w6, w7] [] (hS S) (some q.1, hS q.2)) : ∀ (n : Nat) (x1 : Int32) (x2 : Int32) (x3 : Int32) (x4 : Int32) (x5 : Int32) (x6 : Int32) (w7 : Value) (S : AmT) (q : Int32 × AmT), g222_125 F k74 n x1 x2 x3 x4 x5 x6 S = some q → Ex (am_X Lg xs) d 222 am_c222_125 [.ref 95, .int x1, .int x2, .int x3, .int x4, .int x5, .int x6, w7] [] (hS S) (some q.1, hS q.2) := by
  obtain ⟨d, rfl⟩ : ∃ d2, d = d2 + 1 := ⟨d - 1, by omega⟩
  intro n
  induction n with
  | zero =>
    intro x1 x2 x3 x4 x5 x6 w7 S q H
    cases H
  | succ n ih =>
    intro x1 x2 x3 x4 x5 x6 w7 S q H
    have H : (am_ck x5 144 (if (S.1 100 x5.toNatClampNeg) ≤ x6 then (k74 x1 x2 x3 (x4 + 1) S) else (am_ck ((8 * x5) + x6) 1152 (if (S.1 101 ((8 * x5) + x6).toNatClampNeg) ≤ x3 then (am_ck ((8 * x5) + x6) 1152 (g222_175 F k74 (fun x1 x2 x3 x4 x5 x6 S => g222_125 F k74 n x1 x2 x3 x4 x5 x6 S) x1 x2 x3 x4 x5 x6 ((8 * x5) + x6) (S.1 101 ((8 * x5) + x6).toNatClampNeg) S)) else (g222_175 F k74 (fun x1 x2 x3 x4 x5 x6 S => g222_125 F k74 n x1 x2 x3 x4 x5 x6 S) x1 x2 x3 x4 x5 x6 ((8 * x5) + x6) x3 S))))) = some q := H
    refine ex_iload rfl ?_
    refine ex_aload_n rfl ?_
    refine ex_getR (w := 100) rfl rfl rfl ?_
    refine ex_iload rfl ?_
    obtain ⟨hj, H⟩ := am_ck_el H
    refine ex_iald (k := 144) (v := S.1 100 x5.toNatClampNeg) rfl hj rfl ?_
    by_cases h23 : (S.1 100 x5.toNatClampNeg) ≤ x6
    · rw [if_pos h23] at H
      refine ex_icmp_ge_j (ct := am_c222_182) h23 rfl ?_
      refine ex_iinc (L2 := [.ref 95, .int x1, .int x2, .int x3, .int (x4 + 1), .int x5, .int x6, w7]) (v := (x4 + 1)) rfl (Nat.le_of_ble_eq_true rfl) (congrArg (fun z => x4 + z) (by decide)) rfl ?_
      refine ex_goto (ct := am_c222_74) rfl ?_
      exact hk74 _ _ _ _ _ _ _ _ _ H
    · rw [if_neg h23] at H
      refine ex_icmp_ge_f h23 ?_
      refine ex_bipush (v := 8) (by decide) ?_
      refine ex_iload rfl ?_
      refine ex_imul ?_
      refine ex_iload rfl ?_
      refine ex_iadd ?_
      refine ex_istore (L2 := [.ref 95, .int x1, .int x2, .int x3, .int x4, .int x5, .int x6, .int ((8 * x5) + x6)]) (Nat.le_of_ble_eq_true rfl) rfl ?_
      refine ex_aload_n rfl ?_
      refine ex_getR (w := 101) rfl rfl rfl ?_
      refine ex_iload rfl ?_
      refine ex_aload_n rfl ?_
      refine ex_getR (w := 101) rfl rfl rfl ?_
      refine ex_iload rfl ?_
      obtain ⟨hj, H⟩ := am_ck_el H
      refine ex_iald (k := 1152) (v := S.1 101 ((8 * x5) + x6).toNatClampNeg) rfl hj rfl ?_
      refine ex_iload_n rfl ?_
      by_cases h24 : (S.1 101 ((8 * x5) + x6).toNatClampNeg) ≤ x3
      · rw [if_pos h24] at H
        refine ex_icmp_le_j (ct := am_c222_168) h24 rfl ?_
        refine ex_aload_n rfl ?_
        refine ex_getR (w := 101) rfl rfl rfl ?_
        refine ex_iload rfl ?_
        obtain ⟨hj, H⟩ := am_ck_el H
        refine ex_iald (k := 1152) (v := S.1 101 ((8 * x5) + x6).toNatClampNeg) rfl hj rfl ?_
        exact e222_175 hd hk74 (fun x1 x2 x3 x4 x5 x6 w7 S q H => ih x1 x2 x3 x4 x5 x6 w7 S q H) H
      · rw [if_neg h24] at H
        refine ex_icmp_le_f h24 ?_
        refine ex_iload_n rfl ?_
        refine ex_goto (ct := am_c222_175) rfl ?_
        exact e222_175 hd hk74 (fun x1 x2 x3 x4 x5 x6 w7 S q H => ih x1 x2 x3 x4 x5 x6 w7 S q H) H
set_option maxHeartbeats 1000000 in
set_option maxRecDepth 20000 in
theorem e222_121 {Lg : Nat} {xs : Nat → Int32} {d F : Nat} {k74 : Int32 → Int32 → Int32 → Int32 → AmT → Option (Int32 × AmT)} {x1 : Int32} {x2 : Int32} {x3 : Int32} {x4 : Int32} {x5 : Int32} {s1 : Int32} {s2 : Int32} {w6 : Value} {w7 : Value} {S : AmT} {q : Int32 × AmT} (hd : 3 ≤ d) (hk74 : ∀ (x1 : Int32) (x2 : Int32) (x3 : Int32) (x4 : Int32) (w5 : Value) (w6 : Value) (w7 : Value) (S : AmT) (q : Int32 × AmT), k74 x1 x2 x3 x4 S = some q → Ex (am_X Lg xs) d 222 am_c222_74 [.ref 95, .int x1, .int x2, .int x3, .int x4, w5, w6, w7] [] (hS S) (some q.1, hS q.2)) (H : g222_121 F k74 x1 x2 x3 x4 x5 s1 s2 S = some q) : Ex (am_X Lg xs) d 222 am_c222_121 [.ref 95, .int x1, .int x2, .int x3, .int x4, .int x5, w6, w7] [.int s2, .int s1, .ref 100] (hS S) (some q.1, hS q.2) := by
  obtain ⟨d, rfl⟩ : ∃ d2, d = d2 + 1 := ⟨d - 1, by omega⟩
  unfold g222_121 at H
  obtain ⟨hj, H⟩ := am_ck_el H
  refine ex_iast (k := 144) rfl rfl hj ?_
  generalize ((am_upI S.1 100 s1.toNatClampNeg s2, S.2) : AmT) = S22 at H ⊢
  have H := am_lt_el H
  refine ex_iconst (v := 0) (by decide) ?_
  refine ex_istore (L2 := [.ref 95, .int x1, .int x2, .int x3, .int x4, .int x5, .int 0, w7]) (Nat.le_of_ble_eq_true rfl) rfl ?_
  exact e222_125 hd hk74 _ _ _ _ _ _ _ _ _ _ H
set_option maxHeartbeats 1000000 in
set_option maxRecDepth 20000 in
theorem e222_74 {Lg : Nat} {xs : Nat → Int32} {d F : Nat} (hd : 3 ≤ d) : ∀ (n : Nat) (x1 : Int32) (x2 : Int32) (x3 : Int32) (x4 : Int32) (w5 : Value) (w6 : Value) (w7 : Value) (S : AmT) (q : Int32 × AmT), g222_74 F n x1 x2 x3 x4 S = some q → Ex (am_X Lg xs) d 222 am_c222_74 [.ref 95, .int x1, .int x2, .int x3, .int x4, w5, w6, w7] [] (hS S) (some q.1, hS q.2) := by
  obtain ⟨d, rfl⟩ : ∃ d2, d = d2 + 1 := ⟨d - 1, by omega⟩
  intro n
  induction n with
  | zero =>
    intro x1 x2 x3 x4 w5 w6 w7 S q H
    cases H
  | succ n ih =>
    intro x1 x2 x3 x4 w5 w6 w7 S q H
    have H : (am_ck x1 6 (if (S.1 97 x1.toNatClampNeg) < x4 then (some (1, S)) else (am_b2 (f207 F x1 x4 S) fun v19 S20 => am_ck v19 144 (if (S20.1 100 v19.toNatClampNeg) ≤ x2 then (am_ck v19 144 (g222_121 F (fun x1 x2 x3 x4 S => g222_74 F n x1 x2 x3 x4 S) x1 x2 x3 x4 v19 v19 (S20.1 100 v19.toNatClampNeg) S20)) else (g222_121 F (fun x1 x2 x3 x4 S => g222_74 F n x1 x2 x3 x4 S) x1 x2 x3 x4 v19 v19 x2 S20))))) = some q := H
    refine ex_iload rfl ?_
    refine ex_aload_n rfl ?_
    refine ex_getR (w := 97) rfl rfl rfl ?_
    refine ex_iload_n rfl ?_
    obtain ⟨hj, H⟩ := am_ck_el H
    refine ex_iald (k := 6) (v := S.1 97 x1.toNatClampNeg) rfl hj rfl ?_
    by_cases h18 : (S.1 97 x1.toNatClampNeg) < x4
    · rw [if_pos h18] at H
      refine ex_icmp_gt_j (ct := am_c222_188) h18 rfl ?_
      refine ex_iconst (v := 1) (by decide) ?_
      have H := Option.some.inj H
      subst H
      exact ex_iret (M := 222) (Or.inl rfl)
    · rw [if_neg h18] at H
      refine ex_icmp_gt_f h18 ?_
      refine ex_iload_n rfl ?_
      refine ex_iload rfl ?_
      obtain ⟨v19, S20, hp, H⟩ := am_b2_el H
      refine ex_callS rfl rfl (Nat.le_of_ble_eq_true rfl) (Nat.le_of_ble_eq_true rfl) (r207 (by omega) hp) rfl ?_
      refine ex_istore (L2 := [.ref 95, .int x1, .int x2, .int x3, .int x4, .int v19, w6, w7]) (Nat.le_of_ble_eq_true rfl) rfl ?_
      refine ex_aload_n rfl ?_
      refine ex_getR (w := 100) rfl rfl rfl ?_
      refine ex_iload rfl ?_
      refine ex_aload_n rfl ?_
      refine ex_getR (w := 100) rfl rfl rfl ?_
      refine ex_iload rfl ?_
      obtain ⟨hj, H⟩ := am_ck_el H
      refine ex_iald (k := 144) (v := S20.1 100 v19.toNatClampNeg) rfl hj rfl ?_
      refine ex_iload_n rfl ?_
      by_cases h21 : (S20.1 100 v19.toNatClampNeg) ≤ x2
      · rw [if_pos h21] at H
        refine ex_icmp_le_j (ct := am_c222_114) h21 rfl ?_
        refine ex_aload_n rfl ?_
        refine ex_getR (w := 100) rfl rfl rfl ?_
        refine ex_iload rfl ?_
        obtain ⟨hj, H⟩ := am_ck_el H
        refine ex_iald (k := 144) (v := S20.1 100 v19.toNatClampNeg) rfl hj rfl ?_
        exact e222_121 hd (fun x1 x2 x3 x4 w5 w6 w7 S q H => ih x1 x2 x3 x4 w5 w6 w7 S q H) H
      · rw [if_neg h21] at H
        refine ex_icmp_le_f h21 ?_
        refine ex_iload_n rfl ?_
        refine ex_goto (ct := am_c222_121) rfl ?_
        exact e222_121 hd (fun x1 x2 x3 x4 w5 w6 w7 S q H => ih x1 x2 x3 x4 w5 w6 w7 S q H) H
set_option maxHeartbeats 1000000 in
set_option maxRecDepth 20000 in
theorem r222 {Lg : Nat} {xs : Nat → Int32} {d F : Nat} {x1 : Int32} {x2 : Int32} {x3 : Int32} {S : AmT} {q : Int32 × AmT} (hd : 3 ≤ d) (H : f222 F x1 x2 x3 S = some q) : Ex (am_X Lg xs) d 222 (am_P 222) (am_ini (am_Mi 222).1 [.ref 95, .int x1, .int x2, .int x3]) [] (hS S) (some q.1, hS q.2) := by
  obtain ⟨d, rfl⟩ : ∃ d2, d = d2 + 1 := ⟨d - 1, by omega⟩
  unfold f222 at H
  show Ex (am_X Lg xs) _ 222 am_c222_0 [.ref 95, .int x1, .int x2, .int x3, .long 0, .long 0, .long 0, .long 0] [] (hS S) (some q.1, hS q.2)
  refine ex_aload_n rfl ?_
  obtain ⟨v1, S2, hp, H⟩ := am_b2_el H
  refine ex_callV rfl rfl (Nat.le_of_ble_eq_true rfl) (Nat.le_of_ble_eq_true rfl) rfl (r202 (by omega) hp) rfl ?_
  by_cases h3 : v1 = 0
  · rw [if_pos h3] at H
    refine ex_if_eq_j (ct := am_c222_10) h3 rfl ?_
    refine ex_aload_n rfl ?_
    refine ex_iload_n rfl ?_
    obtain ⟨v4, S5, hp, H⟩ := am_b2_el H
    refine ex_callV rfl rfl (Nat.le_of_ble_eq_true rfl) (Nat.le_of_ble_eq_true rfl) rfl (r205 (by omega) hp) rfl ?_
    by_cases h6 : v4 = 0
    · rw [if_pos h6] at H
      refine ex_if_ne_f h6 ?_
      refine ex_bipush (v := (-2)) (by decide) ?_
      have H := Option.some.inj H
      subst H
      exact ex_iret (M := 222) (Or.inl rfl)
    · rw [if_neg h6] at H
      refine ex_if_ne_j (ct := am_c222_21) h6 rfl ?_
      refine ex_aload_n rfl ?_
      obtain ⟨S7, hp, H⟩ := Option.bind_eq_some_iff.mp H
      refine ex_callV rfl rfl (Nat.le_of_ble_eq_true rfl) (Nat.le_of_ble_eq_true rfl) rfl (r201 (by omega) hp) rfl ?_
      refine ex_iload_n rfl ?_
      refine ex_bipush (v := 8) (by decide) ?_
      by_cases h8 : 8 < x2
      · rw [if_pos h8] at H
        refine ex_icmp_gt_j (ct := am_c222_37) h8 rfl ?_
        exact e222_37 hd H
      · rw [if_neg h8] at H
        refine ex_icmp_gt_f h8 ?_
        refine ex_iload_n rfl ?_
        refine ex_bipush (v := 10) (by decide) ?_
        by_cases h11 : x3 ≤ 10
        · rw [if_pos h11] at H
          refine ex_icmp_le_j (ct := am_c222_43) h11 rfl ?_
          refine ex_iload_n rfl ?_
          by_cases h12 : x2 < 0
          · rw [if_pos h12] at H
            refine ex_if_lt_j (ct := am_c222_51) h12 rfl ?_
            exact e222_51 hd H
          · rw [if_neg h12] at H
            refine ex_if_lt_f h12 ?_
            refine ex_iload_n rfl ?_
            by_cases h15 : 0 ≤ x3
            · rw [if_pos h15] at H
              refine ex_if_ge_j (ct := am_c222_57) h15 rfl ?_
              refine ex_aload_n rfl ?_
              refine ex_getR (w := 98) rfl rfl rfl ?_
              refine ex_iload_n rfl ?_
              refine ex_iload_n rfl ?_
              obtain ⟨hj, H⟩ := am_ck_el H
              refine ex_iast (k := 6) rfl rfl hj ?_
              generalize ((am_upI S7.1 98 x1.toNatClampNeg x2, S7.2) : AmT) = S16 at H ⊢
              have H := am_lt_el H
              refine ex_aload_n rfl ?_
              refine ex_getR (w := 99) rfl rfl rfl ?_
              refine ex_iload_n rfl ?_
              refine ex_iload_n rfl ?_
              obtain ⟨hj, H⟩ := am_ck_el H
              refine ex_iast (k := 6) rfl rfl hj ?_
              generalize ((am_upI S16.1 99 x1.toNatClampNeg x3, S16.2) : AmT) = S17 at H ⊢
              have H := am_lt_el H
              refine ex_iconst (v := 1) (by decide) ?_
              refine ex_istore (L2 := [.ref 95, .int x1, .int x2, .int x3, .int 1, .long 0, .long 0, .long 0]) (Nat.le_of_ble_eq_true rfl) rfl ?_
              exact e222_74 hd _ _ _ _ _ _ _ _ _ _ H
            · rw [if_neg h15] at H
              refine ex_if_ge_f h15 ?_
              exact e222_51 hd H
        · rw [if_neg h11] at H
          refine ex_icmp_le_f h11 ?_
          exact e222_37 hd H
  · rw [if_neg h3] at H
    refine ex_if_eq_f h3 ?_
    refine ex_bipush (v := (-4)) (by decide) ?_
    have H := Option.some.inj H
    subst H
    exact ex_iret (M := 222) (Or.inl rfl)
def g223_154 (F : Nat) (k59 : Int32 → Int32 → Int32 → Int32 → AmT → Option (Int32 × AmT)) : Nat → Int32 → Int32 → Int32 → Int32 → Int32 → Int32 → Int32 → AmT → Option (Int32 × AmT)
  | 0, _, _, _, _, _, _, _, _ => none
  | n + 1, x1, x2, x3, x4, x5, x6, x7, S => if 80 ≤ x7 then (k59 x1 x2 x3 (x4 + 1) S) else (am_ck ((80 * x5) + x7) 11520 (am_ck ((80 * x6) + x7) 11520 (am_lt ((am_upI S.1 102 ((80 * x6) + x7).toNatClampNeg (S.1 102 ((80 * x5) + x7).toNatClampNeg), S.2) : AmT) fun S21 => g223_154 F k59 n x1 x2 x3 x4 x5 x6 (x7 + 1) S21)))
def g223_112 (F : Nat) (k59 : Int32 → Int32 → Int32 → Int32 → AmT → Option (Int32 × AmT)) : Nat → Int32 → Int32 → Int32 → Int32 → Int32 → Int32 → Int32 → AmT → Option (Int32 × AmT)
  | 0, _, _, _, _, _, _, _, _ => none
  | n + 1, x1, x2, x3, x4, x5, x6, x7, S => if 8 ≤ x7 then (g223_154 F k59 F x1 x2 x3 x4 x5 x6 0 S) else (am_ck ((8 * x5) + x7) 1152 (am_ck ((8 * x6) + x7) 1152 (am_lt ((am_upI S.1 101 ((8 * x6) + x7).toNatClampNeg (S.1 101 ((8 * x5) + x7).toNatClampNeg), S.2) : AmT) fun S22 => g223_112 F k59 n x1 x2 x3 x4 x5 x6 (x7 + 1) S22)))
def g223_59 (F : Nat) : Nat → Int32 → Int32 → Int32 → Int32 → AmT → Option (Int32 × AmT)
  | 0, _, _, _, _, _ => none
  | n + 1, x1, x2, x3, x4, S => if x3 < x4 then (am_ck x1 6 (some ((S.1 97 x1.toNatClampNeg), S))) else (am_ck x1 6 (am_ck x1 6 (am_lt ((am_upI S.1 97 x1.toNatClampNeg ((S.1 97 x1.toNatClampNeg) + 1), S.2) : AmT) fun S13 => am_b2 (f207 F x2 x4 S13) fun v14 S15 => am_ck x1 6 (am_b2 (f207 F x1 (S15.1 97 x1.toNatClampNeg) S15) fun v16 S17 => am_ck v14 144 (am_ck v16 144 (am_lt ((am_upI S17.1 100 v16.toNatClampNeg (S17.1 100 v14.toNatClampNeg), S17.2) : AmT) fun S18 => g223_112 F (fun x1 x2 x3 x4 S => g223_59 F n x1 x2 x3 x4 S) F x1 x2 x3 x4 v14 v16 0 S18))))))
-- X10_join
def f223 (F : Nat) (x1 : Int32) (x2 : Int32) (S : AmT) : Option (Int32 × AmT) := am_b2 (f202 F S) fun v1 S2 => if v1 = 0 then (am_b2 (f205 F x1 S2) fun v4 S5 => if v4 = 0 then (some ((-2), S5)) else (am_b2 (f205 F x2 S5) fun v7 S8 => if v7 = 0 then (some ((-2), S8)) else (am_ck x2 6 (am_ck x1 6 (if ((S8.1 97 x1.toNatClampNeg) + (S8.1 97 x2.toNatClampNeg)) ≤ 24 then ((f201 F S8).bind fun S11 => g223_59 F F x1 x2 (S8.1 97 x2.toNatClampNeg) 1 S11) else (some ((-3), S8))))))) else (some ((-4), S2))
set_option maxHeartbeats 1000000 in
set_option maxRecDepth 20000 in
theorem e223_154 {Lg : Nat} {xs : Nat → Int32} {d F : Nat} {k59 : Int32 → Int32 → Int32 → Int32 → AmT → Option (Int32 × AmT)} (hd : 3 ≤ d) (hk59 : ∀ (x1 : Int32) (x2 : Int32) (x3 : Int32) (x4 : Int32) (w5 : Value) (w6 : Value) (w7 : Value) (S : AmT) (q : Int32 × AmT), k59 x1 x2 x3 x4 S = some q → Ex (am_X Lg xs) d 223 am_c223_59 [.ref 95, .int x1, .int x2, .int x3, .int x4, w5, w6, w7] [] (hS S) (some q.1, hS q.2)) : ∀ (n : Nat) (x1 : Int32) (x2 : Int32) (x3 : Int32) (x4 : Int32) (x5 : Int32) (x6 : Int32) (x7 : Int32) (S : AmT) (q : Int32 × AmT), g223_154 F k59 n x1 x2 x3 x4 x5 x6 x7 S = some q → Ex (am_X Lg xs) d 223 am_c223_154 [.ref 95, .int x1, .int x2, .int x3, .int x4, .int x5, .int x6, .int x7] [] (hS S) (some q.1, hS q.2) := by
  obtain ⟨d, rfl⟩ : ∃ d2, d = d2 + 1 := ⟨d - 1, by omega⟩
  intro n
  induction n with
  | zero =>
    intro x1 x2 x3 x4 x5 x6 x7 S q H
    cases H
  | succ n ih =>
    intro x1 x2 x3 x4 x5 x6 x7 S q H
    have H : (if 80 ≤ x7 then (k59 x1 x2 x3 (x4 + 1) S) else (am_ck ((80 * x5) + x7) 11520 (am_ck ((80 * x6) + x7) 11520 (am_lt ((am_upI S.1 102 ((80 * x6) + x7).toNatClampNeg (S.1 102 ((80 * x5) + x7).toNatClampNeg), S.2) : AmT) fun S21 => g223_154 F k59 n x1 x2 x3 x4 x5 x6 (x7 + 1) S21)))) = some q := H
    refine ex_iload rfl ?_
    refine ex_bipush (v := 80) (by decide) ?_
    by_cases h20 : 80 ≤ x7
    · rw [if_pos h20] at H
      refine ex_icmp_ge_j (ct := am_c223_193) h20 rfl ?_
      refine ex_iinc (L2 := [.ref 95, .int x1, .int x2, .int x3, .int (x4 + 1), .int x5, .int x6, .int x7]) (v := (x4 + 1)) rfl (Nat.le_of_ble_eq_true rfl) (congrArg (fun z => x4 + z) (by decide)) rfl ?_
      refine ex_goto (ct := am_c223_59) rfl ?_
      exact hk59 _ _ _ _ _ _ _ _ _ H
    · rw [if_neg h20] at H
      refine ex_icmp_ge_f h20 ?_
      refine ex_aload_n rfl ?_
      refine ex_getR (w := 102) rfl rfl rfl ?_
      refine ex_bipush (v := 80) (by decide) ?_
      refine ex_iload rfl ?_
      refine ex_imul ?_
      refine ex_iload rfl ?_
      refine ex_iadd ?_
      refine ex_aload_n rfl ?_
      refine ex_getR (w := 102) rfl rfl rfl ?_
      refine ex_bipush (v := 80) (by decide) ?_
      refine ex_iload rfl ?_
      refine ex_imul ?_
      refine ex_iload rfl ?_
      refine ex_iadd ?_
      obtain ⟨hj, H⟩ := am_ck_el H
      refine ex_iald (k := 11520) (v := S.1 102 ((80 * x5) + x7).toNatClampNeg) rfl hj rfl ?_
      obtain ⟨hj, H⟩ := am_ck_el H
      refine ex_iast (k := 11520) rfl rfl hj ?_
      generalize ((am_upI S.1 102 ((80 * x6) + x7).toNatClampNeg (S.1 102 ((80 * x5) + x7).toNatClampNeg), S.2) : AmT) = S21 at H ⊢
      have H := am_lt_el H
      refine ex_iinc (L2 := [.ref 95, .int x1, .int x2, .int x3, .int x4, .int x5, .int x6, .int (x7 + 1)]) (v := (x7 + 1)) rfl (Nat.le_of_ble_eq_true rfl) (congrArg (fun z => x7 + z) (by decide)) rfl ?_
      refine ex_goto (ct := am_c223_154) rfl ?_
      exact ih _ _ _ _ _ _ _ _ _ H
set_option maxHeartbeats 1000000 in
set_option maxRecDepth 20000 in
theorem e223_112 {Lg : Nat} {xs : Nat → Int32} {d F : Nat} {k59 : Int32 → Int32 → Int32 → Int32 → AmT → Option (Int32 × AmT)} (hd : 3 ≤ d) (hk59 : ∀ (x1 : Int32) (x2 : Int32) (x3 : Int32) (x4 : Int32) (w5 : Value) (w6 : Value) (w7 : Value) (S : AmT) (q : Int32 × AmT), k59 x1 x2 x3 x4 S = some q → Ex (am_X Lg xs) d 223 am_c223_59 [.ref 95, .int x1, .int x2, .int x3, .int x4, w5, w6, w7] [] (hS S) (some q.1, hS q.2)) : ∀ (n : Nat) (x1 : Int32) (x2 : Int32) (x3 : Int32) (x4 : Int32) (x5 : Int32) (x6 : Int32) (x7 : Int32) (S : AmT) (q : Int32 × AmT), g223_112 F k59 n x1 x2 x3 x4 x5 x6 x7 S = some q → Ex (am_X Lg xs) d 223 am_c223_112 [.ref 95, .int x1, .int x2, .int x3, .int x4, .int x5, .int x6, .int x7] [] (hS S) (some q.1, hS q.2) := by
  obtain ⟨d, rfl⟩ : ∃ d2, d = d2 + 1 := ⟨d - 1, by omega⟩
  intro n
  induction n with
  | zero =>
    intro x1 x2 x3 x4 x5 x6 x7 S q H
    cases H
  | succ n ih =>
    intro x1 x2 x3 x4 x5 x6 x7 S q H
    have H : (if 8 ≤ x7 then (g223_154 F k59 F x1 x2 x3 x4 x5 x6 0 S) else (am_ck ((8 * x5) + x7) 1152 (am_ck ((8 * x6) + x7) 1152 (am_lt ((am_upI S.1 101 ((8 * x6) + x7).toNatClampNeg (S.1 101 ((8 * x5) + x7).toNatClampNeg), S.2) : AmT) fun S22 => g223_112 F k59 n x1 x2 x3 x4 x5 x6 (x7 + 1) S22)))) = some q := H
    refine ex_iload rfl ?_
    refine ex_bipush (v := 8) (by decide) ?_
    by_cases h19 : 8 ≤ x7
    · rw [if_pos h19] at H
      refine ex_icmp_ge_j (ct := am_c223_151) h19 rfl ?_
      refine ex_iconst (v := 0) (by decide) ?_
      refine ex_istore (L2 := [.ref 95, .int x1, .int x2, .int x3, .int x4, .int x5, .int x6, .int 0]) (Nat.le_of_ble_eq_true rfl) rfl ?_
      exact e223_154 hd hk59 _ _ _ _ _ _ _ _ _ _ H
    · rw [if_neg h19] at H
      refine ex_icmp_ge_f h19 ?_
      refine ex_aload_n rfl ?_
      refine ex_getR (w := 101) rfl rfl rfl ?_
      refine ex_bipush (v := 8) (by decide) ?_
      refine ex_iload rfl ?_
      refine ex_imul ?_
      refine ex_iload rfl ?_
      refine ex_iadd ?_
      refine ex_aload_n rfl ?_
      refine ex_getR (w := 101) rfl rfl rfl ?_
      refine ex_bipush (v := 8) (by decide) ?_
      refine ex_iload rfl ?_
      refine ex_imul ?_
      refine ex_iload rfl ?_
      refine ex_iadd ?_
      obtain ⟨hj, H⟩ := am_ck_el H
      refine ex_iald (k := 1152) (v := S.1 101 ((8 * x5) + x7).toNatClampNeg) rfl hj rfl ?_
      obtain ⟨hj, H⟩ := am_ck_el H
      refine ex_iast (k := 1152) rfl rfl hj ?_
      generalize ((am_upI S.1 101 ((8 * x6) + x7).toNatClampNeg (S.1 101 ((8 * x5) + x7).toNatClampNeg), S.2) : AmT) = S22 at H ⊢
      have H := am_lt_el H
      refine ex_iinc (L2 := [.ref 95, .int x1, .int x2, .int x3, .int x4, .int x5, .int x6, .int (x7 + 1)]) (v := (x7 + 1)) rfl (Nat.le_of_ble_eq_true rfl) (congrArg (fun z => x7 + z) (by decide)) rfl ?_
      refine ex_goto (ct := am_c223_112) rfl ?_
      exact ih _ _ _ _ _ _ _ _ _ H
set_option maxHeartbeats 1000000 in
set_option maxRecDepth 20000 in
theorem e223_59 {Lg : Nat} {xs : Nat → Int32} {d F : Nat} (hd : 3 ≤ d) : ∀ (n : Nat) (x1 : Int32) (x2 : Int32) (x3 : Int32) (x4 : Int32) (w5 : Value) (w6 : Value) (w7 : Value) (S : AmT) (q : Int32 × AmT), g223_59 F n x1 x2 x3 x4 S = some q → Ex (am_X Lg xs) d 223 am_c223_59 [.ref 95, .int x1, .int x2, .int x3, .int x4, w5, w6, w7] [] (hS S) (some q.1, hS q.2) := by
  obtain ⟨d, rfl⟩ : ∃ d2, d = d2 + 1 := ⟨d - 1, by omega⟩
  intro n
  induction n with
  | zero =>
    intro x1 x2 x3 x4 w5 w6 w7 S q H
    cases H
  | succ n ih =>
    intro x1 x2 x3 x4 w5 w6 w7 S q H
    have H : (if x3 < x4 then (am_ck x1 6 (some ((S.1 97 x1.toNatClampNeg), S))) else (am_ck x1 6 (am_ck x1 6 (am_lt ((am_upI S.1 97 x1.toNatClampNeg ((S.1 97 x1.toNatClampNeg) + 1), S.2) : AmT) fun S13 => am_b2 (f207 F x2 x4 S13) fun v14 S15 => am_ck x1 6 (am_b2 (f207 F x1 (S15.1 97 x1.toNatClampNeg) S15) fun v16 S17 => am_ck v14 144 (am_ck v16 144 (am_lt ((am_upI S17.1 100 v16.toNatClampNeg (S17.1 100 v14.toNatClampNeg), S17.2) : AmT) fun S18 => g223_112 F (fun x1 x2 x3 x4 S => g223_59 F n x1 x2 x3 x4 S) F x1 x2 x3 x4 v14 v16 0 S18))))))) = some q := H
    refine ex_iload rfl ?_
    refine ex_iload_n rfl ?_
    by_cases h12 : x3 < x4
    · rw [if_pos h12] at H
      refine ex_icmp_gt_j (ct := am_c223_199) h12 rfl ?_
      refine ex_aload_n rfl ?_
      refine ex_getR (w := 97) rfl rfl rfl ?_
      refine ex_iload_n rfl ?_
      obtain ⟨hj, H⟩ := am_ck_el H
      refine ex_iald (k := 6) (v := S.1 97 x1.toNatClampNeg) rfl hj rfl ?_
      have H := Option.some.inj H
      subst H
      exact ex_iret (M := 223) (Or.inl rfl)
    · rw [if_neg h12] at H
      refine ex_icmp_gt_f h12 ?_
      refine ex_aload_n rfl ?_
      refine ex_getR (w := 97) rfl rfl rfl ?_
      refine ex_iload_n rfl ?_
      refine ex_dup2 ?_
      obtain ⟨hj, H⟩ := am_ck_el H
      refine ex_iald (k := 6) (v := S.1 97 x1.toNatClampNeg) rfl hj rfl ?_
      refine ex_iconst (v := 1) (by decide) ?_
      refine ex_iadd ?_
      obtain ⟨hj, H⟩ := am_ck_el H
      refine ex_iast (k := 6) rfl rfl hj ?_
      generalize ((am_upI S.1 97 x1.toNatClampNeg ((S.1 97 x1.toNatClampNeg) + 1), S.2) : AmT) = S13 at H ⊢
      have H := am_lt_el H
      refine ex_iload_n rfl ?_
      refine ex_iload rfl ?_
      obtain ⟨v14, S15, hp, H⟩ := am_b2_el H
      refine ex_callS rfl rfl (Nat.le_of_ble_eq_true rfl) (Nat.le_of_ble_eq_true rfl) (r207 (by omega) hp) rfl ?_
      refine ex_istore (L2 := [.ref 95, .int x1, .int x2, .int x3, .int x4, .int v14, w6, w7]) (Nat.le_of_ble_eq_true rfl) rfl ?_
      refine ex_iload_n rfl ?_
      refine ex_aload_n rfl ?_
      refine ex_getR (w := 97) rfl rfl rfl ?_
      refine ex_iload_n rfl ?_
      obtain ⟨hj, H⟩ := am_ck_el H
      refine ex_iald (k := 6) (v := S15.1 97 x1.toNatClampNeg) rfl hj rfl ?_
      obtain ⟨v16, S17, hp, H⟩ := am_b2_el H
      refine ex_callS rfl rfl (Nat.le_of_ble_eq_true rfl) (Nat.le_of_ble_eq_true rfl) (r207 (by omega) hp) rfl ?_
      refine ex_istore (L2 := [.ref 95, .int x1, .int x2, .int x3, .int x4, .int v14, .int v16, w7]) (Nat.le_of_ble_eq_true rfl) rfl ?_
      refine ex_aload_n rfl ?_
      refine ex_getR (w := 100) rfl rfl rfl ?_
      refine ex_iload rfl ?_
      refine ex_aload_n rfl ?_
      refine ex_getR (w := 100) rfl rfl rfl ?_
      refine ex_iload rfl ?_
      obtain ⟨hj, H⟩ := am_ck_el H
      refine ex_iald (k := 144) (v := S17.1 100 v14.toNatClampNeg) rfl hj rfl ?_
      obtain ⟨hj, H⟩ := am_ck_el H
      refine ex_iast (k := 144) rfl rfl hj ?_
      generalize ((am_upI S17.1 100 v16.toNatClampNeg (S17.1 100 v14.toNatClampNeg), S17.2) : AmT) = S18 at H ⊢
      have H := am_lt_el H
      refine ex_iconst (v := 0) (by decide) ?_
      refine ex_istore (L2 := [.ref 95, .int x1, .int x2, .int x3, .int x4, .int v14, .int v16, .int 0]) (Nat.le_of_ble_eq_true rfl) rfl ?_
      exact e223_112 hd (fun x1 x2 x3 x4 w5 w6 w7 S q H => ih x1 x2 x3 x4 w5 w6 w7 S q H) _ _ _ _ _ _ _ _ _ _ H
set_option maxHeartbeats 1000000 in
set_option maxRecDepth 20000 in
theorem r223 {Lg : Nat} {xs : Nat → Int32} {d F : Nat} {x1 : Int32} {x2 : Int32} {S : AmT} {q : Int32 × AmT} (hd : 3 ≤ d) (H : f223 F x1 x2 S = some q) : Ex (am_X Lg xs) d 223 (am_P 223) (am_ini (am_Mi 223).1 [.ref 95, .int x1, .int x2]) [] (hS S) (some q.1, hS q.2) := by
  obtain ⟨d, rfl⟩ : ∃ d2, d = d2 + 1 := ⟨d - 1, by omega⟩
  unfold f223 at H
  show Ex (am_X Lg xs) _ 223 am_c223_0 [.ref 95, .int x1, .int x2, .long 0, .long 0, .long 0, .long 0, .long 0] [] (hS S) (some q.1, hS q.2)
  refine ex_aload_n rfl ?_
  obtain ⟨v1, S2, hp, H⟩ := am_b2_el H
  refine ex_callV rfl rfl (Nat.le_of_ble_eq_true rfl) (Nat.le_of_ble_eq_true rfl) rfl (r202 (by omega) hp) rfl ?_
  by_cases h3 : v1 = 0
  · rw [if_pos h3] at H
    refine ex_if_eq_j (ct := am_c223_10) h3 rfl ?_
    refine ex_aload_n rfl ?_
    refine ex_iload_n rfl ?_
    obtain ⟨v4, S5, hp, H⟩ := am_b2_el H
    refine ex_callV rfl rfl (Nat.le_of_ble_eq_true rfl) (Nat.le_of_ble_eq_true rfl) rfl (r205 (by omega) hp) rfl ?_
    by_cases h6 : v4 = 0
    · rw [if_pos h6] at H
      refine ex_if_eq_j (ct := am_c223_26) h6 rfl ?_
      refine ex_bipush (v := (-2)) (by decide) ?_
      have H := Option.some.inj H
      subst H
      exact ex_iret (M := 223) (Or.inl rfl)
    · rw [if_neg h6] at H
      refine ex_if_eq_f h6 ?_
      refine ex_aload_n rfl ?_
      refine ex_iload_n rfl ?_
      obtain ⟨v7, S8, hp, H⟩ := am_b2_el H
      refine ex_callV rfl rfl (Nat.le_of_ble_eq_true rfl) (Nat.le_of_ble_eq_true rfl) rfl (r205 (by omega) hp) rfl ?_
      by_cases h9 : v7 = 0
      · rw [if_pos h9] at H
        refine ex_if_ne_f h9 ?_
        refine ex_bipush (v := (-2)) (by decide) ?_
        have H := Option.some.inj H
        subst H
        exact ex_iret (M := 223) (Or.inl rfl)
      · rw [if_neg h9] at H
        refine ex_if_ne_j (ct := am_c223_29) h9 rfl ?_
        refine ex_aload_n rfl ?_
        refine ex_getR (w := 97) rfl rfl rfl ?_
        refine ex_iload_n rfl ?_
        obtain ⟨hj, H⟩ := am_ck_el H
        refine ex_iald (k := 6) (v := S8.1 97 x2.toNatClampNeg) rfl hj rfl ?_
        refine ex_istore_n (L2 := [.ref 95, .int x1, .int x2, .int (S8.1 97 x2.toNatClampNeg), .long 0, .long 0, .long 0, .long 0]) (Nat.le_of_ble_eq_true rfl) rfl ?_
        refine ex_aload_n rfl ?_
        refine ex_getR (w := 97) rfl rfl rfl ?_
        refine ex_iload_n rfl ?_
        obtain ⟨hj, H⟩ := am_ck_el H
        refine ex_iald (k := 6) (v := S8.1 97 x1.toNatClampNeg) rfl hj rfl ?_
        refine ex_iload_n rfl ?_
        refine ex_iadd ?_
        refine ex_bipush (v := 24) (by decide) ?_
        by_cases h10 : ((S8.1 97 x1.toNatClampNeg) + (S8.1 97 x2.toNatClampNeg)) ≤ 24
        · rw [if_pos h10] at H
          refine ex_icmp_le_j (ct := am_c223_52) h10 rfl ?_
          refine ex_aload_n rfl ?_
          obtain ⟨S11, hp, H⟩ := Option.bind_eq_some_iff.mp H
          refine ex_callV rfl rfl (Nat.le_of_ble_eq_true rfl) (Nat.le_of_ble_eq_true rfl) rfl (r201 (by omega) hp) rfl ?_
          refine ex_iconst (v := 1) (by decide) ?_
          refine ex_istore (L2 := [.ref 95, .int x1, .int x2, .int (S8.1 97 x2.toNatClampNeg), .int 1, .long 0, .long 0, .long 0]) (Nat.le_of_ble_eq_true rfl) rfl ?_
          exact e223_59 hd _ _ _ _ _ _ _ _ _ _ H
        · rw [if_neg h10] at H
          refine ex_icmp_le_f h10 ?_
          refine ex_bipush (v := (-3)) (by decide) ?_
          have H := Option.some.inj H
          subst H
          exact ex_iret (M := 223) (Or.inl rfl)
  · rw [if_neg h3] at H
    refine ex_if_eq_f h3 ?_
    refine ex_bipush (v := (-4)) (by decide) ?_
    have H := Option.some.inj H
    subst H
    exact ex_iret (M := 223) (Or.inl rfl)
-- X10_fold
def f226 (F : Nat) (x1 : Int32) (x2 : Int32) (S : AmT) : Option (Int32 × AmT) := am_b2 (f202 F S) fun v1 S2 => if v1 = 0 then (am_b2 (f197 F x1 0 4 S2) fun v4 S5 => if v4 = 0 then (some ((-1), S5)) else (am_b2 (f197 F x2 0 1 S5) fun v7 S8 => if v7 = 0 then (some ((-1), S8)) else (if (S8.1 96 1) = 16 then (some ((-3), S8)) else ((f201 F S8).bind fun S11 => am_b2 (f225 F x1 x2 0 0 1 S11) fun v12 S13 => some (v12, S13))))) else (some ((-4), S2))
set_option maxHeartbeats 1000000 in
set_option maxRecDepth 20000 in
theorem r226 {Lg : Nat} {xs : Nat → Int32} {d F : Nat} {x1 : Int32} {x2 : Int32} {S : AmT} {q : Int32 × AmT} (hd : 3 ≤ d) (H : f226 F x1 x2 S = some q) : Ex (am_X Lg xs) d 226 (am_P 226) (am_ini (am_Mi 226).1 [.ref 95, .int x1, .int x2]) [] (hS S) (some q.1, hS q.2) := by
  obtain ⟨d, rfl⟩ : ∃ d2, d = d2 + 1 := ⟨d - 1, by omega⟩
  unfold f226 at H
  show Ex (am_X Lg xs) _ 226 am_c226_0 [.ref 95, .int x1, .int x2] [] (hS S) (some q.1, hS q.2)
  refine ex_aload_n rfl ?_
  obtain ⟨v1, S2, hp, H⟩ := am_b2_el H
  refine ex_callV rfl rfl (Nat.le_of_ble_eq_true rfl) (Nat.le_of_ble_eq_true rfl) rfl (r202 (by omega) hp) rfl ?_
  by_cases h3 : v1 = 0
  · rw [if_pos h3] at H
    refine ex_if_eq_j (ct := am_c226_10) h3 rfl ?_
    refine ex_iload_n rfl ?_
    refine ex_iconst (v := 0) (by decide) ?_
    refine ex_iconst (v := 4) (by decide) ?_
    obtain ⟨v4, S5, hp, H⟩ := am_b2_el H
    refine ex_callS rfl rfl (Nat.le_of_ble_eq_true rfl) (Nat.le_of_ble_eq_true rfl) (r197 (by omega) hp) rfl ?_
    by_cases h6 : v4 = 0
    · rw [if_pos h6] at H
      refine ex_if_eq_j (ct := am_c226_28) h6 rfl ?_
      refine ex_iconst (v := (-1)) (by decide) ?_
      have H := Option.some.inj H
      subst H
      exact ex_iret (M := 226) (Or.inl rfl)
    · rw [if_neg h6] at H
      refine ex_if_eq_f h6 ?_
      refine ex_iload_n rfl ?_
      refine ex_iconst (v := 0) (by decide) ?_
      refine ex_iconst (v := 1) (by decide) ?_
      obtain ⟨v7, S8, hp, H⟩ := am_b2_el H
      refine ex_callS rfl rfl (Nat.le_of_ble_eq_true rfl) (Nat.le_of_ble_eq_true rfl) (r197 (by omega) hp) rfl ?_
      by_cases h9 : v7 = 0
      · rw [if_pos h9] at H
        refine ex_if_ne_f h9 ?_
        refine ex_iconst (v := (-1)) (by decide) ?_
        have H := Option.some.inj H
        subst H
        exact ex_iret (M := 226) (Or.inl rfl)
      · rw [if_neg h9] at H
        refine ex_if_ne_j (ct := am_c226_30) h9 rfl ?_
        refine ex_aload_n rfl ?_
        refine ex_getR (w := 96) rfl rfl rfl ?_
        refine ex_iconst (v := 1) (by decide) ?_
        refine ex_iald (v := S8.1 96 1) rfl (by decide) rfl ?_
        refine ex_bipush (v := 16) (by decide) ?_
        by_cases h10 : (S8.1 96 1) = 16
        · rw [if_pos h10] at H
          refine ex_icmp_ne_f h10 ?_
          refine ex_bipush (v := (-3)) (by decide) ?_
          have H := Option.some.inj H
          subst H
          exact ex_iret (M := 226) (Or.inl rfl)
        · rw [if_neg h10] at H
          refine ex_icmp_ne_j (ct := am_c226_44) h10 rfl ?_
          refine ex_aload_n rfl ?_
          obtain ⟨S11, hp, H⟩ := Option.bind_eq_some_iff.mp H
          refine ex_callV rfl rfl (Nat.le_of_ble_eq_true rfl) (Nat.le_of_ble_eq_true rfl) rfl (r201 (by omega) hp) rfl ?_
          refine ex_aload_n rfl ?_
          refine ex_iload_n rfl ?_
          refine ex_iload_n rfl ?_
          refine ex_iconst (v := 0) (by decide) ?_
          refine ex_iconst (v := 0) (by decide) ?_
          refine ex_iconst (v := 1) (by decide) ?_
          obtain ⟨v12, S13, hp, H⟩ := am_b2_el H
          refine ex_callV rfl rfl (Nat.le_of_ble_eq_true rfl) (Nat.le_of_ble_eq_true rfl) rfl (r225 (by omega) hp) rfl ?_
          have H := Option.some.inj H
          subst H
          exact ex_iret (M := 226) (Or.inl rfl)
  · rw [if_neg h3] at H
    refine ex_if_eq_f h3 ?_
    refine ex_bipush (v := (-4)) (by decide) ?_
    have H := Option.some.inj H
    subst H
    exact ex_iret (M := 226) (Or.inl rfl)
-- X10_cross
def f227 (F : Nat) (x1 : Int32) (x2 : Int32) (S : AmT) : Option (Int32 × AmT) := am_b2 (f202 F S) fun v1 S2 => if v1 = 0 then (am_b2 (f224 F x1 S2) fun v4 S5 => if v4 = 0 then (some ((-2), S5)) else (am_b2 (f224 F x2 S5) fun v7 S8 => if v7 = 0 then (some ((-2), S8)) else (am_ck x1 32 (am_ck x2 32 (if (S8.1 96 1) = 16 then (some ((-3), S8)) else (if ((S8.1 107 x1.toNatClampNeg) + (S8.1 107 x2.toNatClampNeg)) ≤ 8 then ((f201 F S8).bind fun S12 => am_b2 (f225 F 5 0 x1 x2 ((S8.1 107 x1.toNatClampNeg) + (S8.1 107 x2.toNatClampNeg)) S12) fun v13 S14 => some (v13, S14)) else (some ((-3), S8)))))))) else (some ((-4), S2))
set_option maxHeartbeats 1000000 in
set_option maxRecDepth 20000 in
theorem r227 {Lg : Nat} {xs : Nat → Int32} {d F : Nat} {x1 : Int32} {x2 : Int32} {S : AmT} {q : Int32 × AmT} (hd : 3 ≤ d) (H : f227 F x1 x2 S = some q) : Ex (am_X Lg xs) d 227 (am_P 227) (am_ini (am_Mi 227).1 [.ref 95, .int x1, .int x2]) [] (hS S) (some q.1, hS q.2) := by
  obtain ⟨d, rfl⟩ : ∃ d2, d = d2 + 1 := ⟨d - 1, by omega⟩
  unfold f227 at H
  show Ex (am_X Lg xs) _ 227 am_c227_0 [.ref 95, .int x1, .int x2, .long 0] [] (hS S) (some q.1, hS q.2)
  refine ex_aload_n rfl ?_
  obtain ⟨v1, S2, hp, H⟩ := am_b2_el H
  refine ex_callV rfl rfl (Nat.le_of_ble_eq_true rfl) (Nat.le_of_ble_eq_true rfl) rfl (r202 (by omega) hp) rfl ?_
  by_cases h3 : v1 = 0
  · rw [if_pos h3] at H
    refine ex_if_eq_j (ct := am_c227_10) h3 rfl ?_
    refine ex_aload_n rfl ?_
    refine ex_iload_n rfl ?_
    obtain ⟨v4, S5, hp, H⟩ := am_b2_el H
    refine ex_callV rfl rfl (Nat.le_of_ble_eq_true rfl) (Nat.le_of_ble_eq_true rfl) rfl (r224 (by omega) hp) rfl ?_
    by_cases h6 : v4 = 0
    · rw [if_pos h6] at H
      refine ex_if_eq_j (ct := am_c227_26) h6 rfl ?_
      refine ex_bipush (v := (-2)) (by decide) ?_
      have H := Option.some.inj H
      subst H
      exact ex_iret (M := 227) (Or.inl rfl)
    · rw [if_neg h6] at H
      refine ex_if_eq_f h6 ?_
      refine ex_aload_n rfl ?_
      refine ex_iload_n rfl ?_
      obtain ⟨v7, S8, hp, H⟩ := am_b2_el H
      refine ex_callV rfl rfl (Nat.le_of_ble_eq_true rfl) (Nat.le_of_ble_eq_true rfl) rfl (r224 (by omega) hp) rfl ?_
      by_cases h9 : v7 = 0
      · rw [if_pos h9] at H
        refine ex_if_ne_f h9 ?_
        refine ex_bipush (v := (-2)) (by decide) ?_
        have H := Option.some.inj H
        subst H
        exact ex_iret (M := 227) (Or.inl rfl)
      · rw [if_neg h9] at H
        refine ex_if_ne_j (ct := am_c227_29) h9 rfl ?_
        refine ex_aload_n rfl ?_
        refine ex_getR (w := 107) rfl rfl rfl ?_
        refine ex_iload_n rfl ?_
        obtain ⟨hj, H⟩ := am_ck_el H
        refine ex_iald (k := 32) (v := S8.1 107 x1.toNatClampNeg) rfl hj rfl ?_
        refine ex_aload_n rfl ?_
        refine ex_getR (w := 107) rfl rfl rfl ?_
        refine ex_iload_n rfl ?_
        obtain ⟨hj, H⟩ := am_ck_el H
        refine ex_iald (k := 32) (v := S8.1 107 x2.toNatClampNeg) rfl hj rfl ?_
        refine ex_iadd ?_
        refine ex_istore_n (L2 := [.ref 95, .int x1, .int x2, .int ((S8.1 107 x1.toNatClampNeg) + (S8.1 107 x2.toNatClampNeg))]) (Nat.le_of_ble_eq_true rfl) rfl ?_
        refine ex_aload_n rfl ?_
        refine ex_getR (w := 96) rfl rfl rfl ?_
        refine ex_iconst (v := 1) (by decide) ?_
        refine ex_iald (v := S8.1 96 1) rfl (by decide) rfl ?_
        refine ex_bipush (v := 16) (by decide) ?_
        by_cases h10 : (S8.1 96 1) = 16
        · rw [if_pos h10] at H
          refine ex_icmp_eq_j (ct := am_c227_60) h10 rfl ?_
          refine ex_bipush (v := (-3)) (by decide) ?_
          have H := Option.some.inj H
          subst H
          exact ex_iret (M := 227) (Or.inl rfl)
        · rw [if_neg h10] at H
          refine ex_icmp_eq_f h10 ?_
          refine ex_iload_n rfl ?_
          refine ex_bipush (v := 8) (by decide) ?_
          by_cases h11 : ((S8.1 107 x1.toNatClampNeg) + (S8.1 107 x2.toNatClampNeg)) ≤ 8
          · rw [if_pos h11] at H
            refine ex_icmp_le_j (ct := am_c227_63) h11 rfl ?_
            refine ex_aload_n rfl ?_
            obtain ⟨S12, hp, H⟩ := Option.bind_eq_some_iff.mp H
            refine ex_callV rfl rfl (Nat.le_of_ble_eq_true rfl) (Nat.le_of_ble_eq_true rfl) rfl (r201 (by omega) hp) rfl ?_
            refine ex_aload_n rfl ?_
            refine ex_iconst (v := 5) (by decide) ?_
            refine ex_iconst (v := 0) (by decide) ?_
            refine ex_iload_n rfl ?_
            refine ex_iload_n rfl ?_
            refine ex_iload_n rfl ?_
            obtain ⟨v13, S14, hp, H⟩ := am_b2_el H
            refine ex_callV rfl rfl (Nat.le_of_ble_eq_true rfl) (Nat.le_of_ble_eq_true rfl) rfl (r225 (by omega) hp) rfl ?_
            have H := Option.some.inj H
            subst H
            exact ex_iret (M := 227) (Or.inl rfl)
          · rw [if_neg h11] at H
            refine ex_icmp_le_f h11 ?_
            refine ex_bipush (v := (-3)) (by decide) ?_
            have H := Option.some.inj H
            subst H
            exact ex_iret (M := 227) (Or.inl rfl)
  · rw [if_neg h3] at H
    refine ex_if_eq_f h3 ?_
    refine ex_bipush (v := (-4)) (by decide) ?_
    have H := Option.some.inj H
    subst H
    exact ex_iret (M := 227) (Or.inl rfl)
-- X10_folds
def f239 (F : Nat) (x1 : Int32) (S : AmT) : Option (Int32 × AmT) := am_ck x1 32 (am_ck x1 32 ((f233 F ((S.1 103 x1.toNatClampNeg) + 1) S).bind fun S1 => if (S.1 103 x1.toNatClampNeg) = 0 then (some (1, S1)) else (if (S.1 103 x1.toNatClampNeg) = 4 then ((f233 F 4 S1).bind fun S4 => am_b2 (f238 F 3 (S.1 104 x1.toNatClampNeg) S4) fun v5 S6 => if v5 = 0 then (some (0, S6)) else ((f233 F 2 S6).bind fun S8 => am_b2 (f238 F 1 (S.1 104 x1.toNatClampNeg) S8) fun v9 S10 => am_b01 v9 (some (v9, S10)))) else (am_b2 (f238 F (S.1 103 x1.toNatClampNeg) (S.1 104 x1.toNatClampNeg) S1) fun v11 S12 => am_b01 v11 (some (v11, S12))))))
set_option maxHeartbeats 1000000 in
set_option maxRecDepth 20000 in
theorem r239 {Lg : Nat} {xs : Nat → Int32} {d F : Nat} {x1 : Int32} {S : AmT} {q : Int32 × AmT} (hd : 3 ≤ d) (H : f239 F x1 S = some q) : Ex (am_X Lg xs) d 239 (am_P 239) (am_ini (am_Mi 239).1 [.ref 95, .int x1]) [] (hS S) (some q.1, hS q.2) := by
  obtain ⟨d, rfl⟩ : ∃ d2, d = d2 + 1 := ⟨d - 1, by omega⟩
  unfold f239 at H
  show Ex (am_X Lg xs) _ 239 am_c239_0 [.ref 95, .int x1, .long 0, .long 0] [] (hS S) (some q.1, hS q.2)
  refine ex_aload_n rfl ?_
  refine ex_getR (w := 103) rfl rfl rfl ?_
  refine ex_iload_n rfl ?_
  obtain ⟨hj, H⟩ := am_ck_el H
  refine ex_iald (k := 32) (v := S.1 103 x1.toNatClampNeg) rfl hj rfl ?_
  refine ex_istore_n (L2 := [.ref 95, .int x1, .int (S.1 103 x1.toNatClampNeg), .long 0]) (Nat.le_of_ble_eq_true rfl) rfl ?_
  refine ex_aload_n rfl ?_
  refine ex_getR (w := 104) rfl rfl rfl ?_
  refine ex_iload_n rfl ?_
  obtain ⟨hj, H⟩ := am_ck_el H
  refine ex_iald (k := 32) (v := S.1 104 x1.toNatClampNeg) rfl hj rfl ?_
  refine ex_istore_n (L2 := [.ref 95, .int x1, .int (S.1 103 x1.toNatClampNeg), .int (S.1 104 x1.toNatClampNeg)]) (Nat.le_of_ble_eq_true rfl) rfl ?_
  refine ex_aload_n rfl ?_
  refine ex_iload_n rfl ?_
  refine ex_iconst (v := 1) (by decide) ?_
  refine ex_iadd ?_
  obtain ⟨S1, hp, H⟩ := Option.bind_eq_some_iff.mp H
  refine ex_callV rfl rfl (Nat.le_of_ble_eq_true rfl) (Nat.le_of_ble_eq_true rfl) rfl (r233 (by omega) hp) rfl ?_
  refine ex_iload_n rfl ?_
  by_cases h2 : (S.1 103 x1.toNatClampNeg) = 0
  · rw [if_pos h2] at H
    refine ex_if_ne_f h2 ?_
    refine ex_iconst (v := 1) (by decide) ?_
    have H := Option.some.inj H
    subst H
    exact ex_iret (M := 239) (Or.inr ⟨rfl, by decide⟩)
  · rw [if_neg h2] at H
    refine ex_if_ne_j (ct := am_c239_27) h2 rfl ?_
    refine ex_iload_n rfl ?_
    refine ex_iconst (v := 4) (by decide) ?_
    by_cases h3 : (S.1 103 x1.toNatClampNeg) = 4
    · rw [if_pos h3] at H
      refine ex_icmp_eq_j (ct := am_c239_39) h3 rfl ?_
      refine ex_aload_n rfl ?_
      refine ex_iconst (v := 4) (by decide) ?_
      obtain ⟨S4, hp, H⟩ := Option.bind_eq_some_iff.mp H
      refine ex_callV rfl rfl (Nat.le_of_ble_eq_true rfl) (Nat.le_of_ble_eq_true rfl) rfl (r233 (by omega) hp) rfl ?_
      refine ex_aload_n rfl ?_
      refine ex_iconst (v := 3) (by decide) ?_
      refine ex_iload_n rfl ?_
      obtain ⟨v5, S6, hp, H⟩ := am_b2_el H
      refine ex_callV rfl rfl (Nat.le_of_ble_eq_true rfl) (Nat.le_of_ble_eq_true rfl) rfl (r238 (by omega) hp) rfl ?_
      by_cases h7 : v5 = 0
      · rw [if_pos h7] at H
        refine ex_if_ne_f h7 ?_
        refine ex_iconst (v := 0) (by decide) ?_
        have H := Option.some.inj H
        subst H
        exact ex_iret (M := 239) (Or.inr ⟨rfl, by decide⟩)
      · rw [if_neg h7] at H
        refine ex_if_ne_j (ct := am_c239_55) h7 rfl ?_
        refine ex_aload_n rfl ?_
        refine ex_iconst (v := 2) (by decide) ?_
        obtain ⟨S8, hp, H⟩ := Option.bind_eq_some_iff.mp H
        refine ex_callV rfl rfl (Nat.le_of_ble_eq_true rfl) (Nat.le_of_ble_eq_true rfl) rfl (r233 (by omega) hp) rfl ?_
        refine ex_aload_n rfl ?_
        refine ex_iconst (v := 1) (by decide) ?_
        refine ex_iload_n rfl ?_
        obtain ⟨v9, S10, hp, H⟩ := am_b2_el H
        refine ex_callV rfl rfl (Nat.le_of_ble_eq_true rfl) (Nat.le_of_ble_eq_true rfl) rfl (r238 (by omega) hp) rfl ?_
        obtain ⟨hb, H⟩ := am_b01_el H
        have H := Option.some.inj H
        subst H
        exact ex_iret (M := 239) (Or.inr ⟨rfl, hb⟩)
    · rw [if_neg h3] at H
      refine ex_icmp_eq_f h3 ?_
      refine ex_aload_n rfl ?_
      refine ex_iload_n rfl ?_
      refine ex_iload_n rfl ?_
      obtain ⟨v11, S12, hp, H⟩ := am_b2_el H
      refine ex_callV rfl rfl (Nat.le_of_ble_eq_true rfl) (Nat.le_of_ble_eq_true rfl) rfl (r238 (by omega) hp) rfl ?_
      obtain ⟨hb, H⟩ := am_b01_el H
      have H := Option.some.inj H
      subst H
      exact ex_iret (M := 239) (Or.inr ⟨rfl, hb⟩)
def g252_173 (F : Nat) : Nat → Int32 → Int32 → AmT → Option (Int32 × AmT)
  | 0, _, _, _ => none
  | n + 1, x5, x6, S => if 128 ≤ x6 then (some (x5, S)) else (am_ck ((128 * x5) + x6) 2048 (am_lt ((am_upI S.1 117 ((128 * x5) + x6).toNatClampNeg 0, S.2) : AmT) fun S23 => am_ck ((128 * x5) + x6) 2048 (am_lt ((am_upI S23.1 118 ((128 * x5) + x6).toNatClampNeg 0, S23.2) : AmT) fun S24 => g252_173 F n x5 (x6 + 1) S24)))
def g252_143 (F : Nat) : Nat → Int32 → Int32 → AmT → Option (Int32 × AmT)
  | 0, _, _, _ => none
  | n + 1, x5, x6, S => if 16 ≤ x6 then (g252_173 F F x5 0 S) else (am_ck ((16 * x5) + x6) 256 (am_lt ((am_upI S.1 116 ((16 * x5) + x6).toNatClampNeg 0, S.2) : AmT) fun S25 => g252_143 F n x5 (x6 + 1) S25))
-- X10_sheet
def f252 (F : Nat) (x1 : Int32) (x2 : Int32) (x3 : Int32) (S : AmT) : Option (Int32 × AmT) := am_b2 (f202 F S) fun v1 S2 => if v1 = 0 then (am_b2 (f205 F x1 S2) fun v4 S5 => if v4 = 0 then (some ((-2), S5)) else (if (S5.1 96 2) = 8 then (some ((-3), S5)) else ((f201 F S5).bind fun S8 => am_b2 (f246 F x2 x3 S8) fun v9 S10 => if v9 ≤ 0 then (am_lt ((am_upI S10.1 96 (2 : Int32).toNatClampNeg ((S10.1 96 2) + 1), S10.2) : AmT) fun S12 => am_ck (S10.1 96 2) 16 (am_lt ((am_upI S12.1 108 (S10.1 96 2).toNatClampNeg x1, S12.2) : AmT) fun S13 => am_ck (S10.1 96 2) 16 (am_lt ((am_upI S13.1 109 (S10.1 96 2).toNatClampNeg x2, S13.2) : AmT) fun S14 => am_ck (S10.1 96 2) 16 (am_lt ((am_upI S14.1 110 (S10.1 96 2).toNatClampNeg x3, S14.2) : AmT) fun S15 => am_ck (S10.1 96 2) 16 (am_lt ((am_upI S15.1 111 (S10.1 96 2).toNatClampNeg (-1), S15.2) : AmT) fun S16 => am_ck (S10.1 96 2) 16 (am_lt ((am_upI S16.1 112 (S10.1 96 2).toNatClampNeg (-1), S16.2) : AmT) fun S17 => am_ck (S10.1 96 2) 16 (am_lt ((am_upI S17.1 113 (S10.1 96 2).toNatClampNeg (-1), S17.2) : AmT) fun S18 => am_ck (S10.1 96 2) 16 (am_lt ((am_upI S18.1 114 (S10.1 96 2).toNatClampNeg 0, S18.2) : AmT) fun S19 => am_ck (S10.1 96 2) 16 (am_lt ((am_upI S19.1 115 (S10.1 96 2).toNatClampNeg (-1), S19.2) : AmT) fun S20 => g252_143 F F (S10.1 96 2) 0 S20))))))))) else (am_b2 (f203 F v9 S10) fun v26 S27 => some (v26, S27))))) else (some ((-4), S2))
set_option maxHeartbeats 1000000 in
set_option maxRecDepth 20000 in
theorem e252_173 {Lg : Nat} {xs : Nat → Int32} {d F : Nat} (hd : 3 ≤ d) : ∀ (n : Nat) (x5 : Int32) (x6 : Int32) (w1 : Value) (w2 : Value) (w3 : Value) (w4 : Value) (S : AmT) (q : Int32 × AmT), g252_173 F n x5 x6 S = some q → Ex (am_X Lg xs) d 252 am_c252_173 [.ref 95, w1, w2, w3, w4, .int x5, .int x6] [] (hS S) (some q.1, hS q.2) := by
  obtain ⟨d, rfl⟩ : ∃ d2, d = d2 + 1 := ⟨d - 1, by omega⟩
  intro n
  induction n with
  | zero =>
    intro x5 x6 w1 w2 w3 w4 S q H
    cases H
  | succ n ih =>
    intro x5 x6 w1 w2 w3 w4 S q H
    have H : (if 128 ≤ x6 then (some (x5, S)) else (am_ck ((128 * x5) + x6) 2048 (am_lt ((am_upI S.1 117 ((128 * x5) + x6).toNatClampNeg 0, S.2) : AmT) fun S23 => am_ck ((128 * x5) + x6) 2048 (am_lt ((am_upI S23.1 118 ((128 * x5) + x6).toNatClampNeg 0, S23.2) : AmT) fun S24 => g252_173 F n x5 (x6 + 1) S24)))) = some q := H
    refine ex_iload rfl ?_
    refine ex_sipush (v := 128) (by decide) ?_
    by_cases h22 : 128 ≤ x6
    · rw [if_pos h22] at H
      refine ex_icmp_ge_j (ct := am_c252_217) h22 rfl ?_
      refine ex_iload rfl ?_
      have H := Option.some.inj H
      subst H
      exact ex_iret (M := 252) (Or.inl rfl)
    · rw [if_neg h22] at H
      refine ex_icmp_ge_f h22 ?_
      refine ex_aload_n rfl ?_
      refine ex_getR (w := 117) rfl rfl rfl ?_
      refine ex_sipush (v := 128) (by decide) ?_
      refine ex_iload rfl ?_
      refine ex_imul ?_
      refine ex_iload rfl ?_
      refine ex_iadd ?_
      refine ex_iconst (v := 0) (by decide) ?_
      obtain ⟨hj, H⟩ := am_ck_el H
      refine ex_iast (k := 2048) rfl rfl hj ?_
      generalize ((am_upI S.1 117 ((128 * x5) + x6).toNatClampNeg 0, S.2) : AmT) = S23 at H ⊢
      have H := am_lt_el H
      refine ex_aload_n rfl ?_
      refine ex_getR (w := 118) rfl rfl rfl ?_
      refine ex_sipush (v := 128) (by decide) ?_
      refine ex_iload rfl ?_
      refine ex_imul ?_
      refine ex_iload rfl ?_
      refine ex_iadd ?_
      refine ex_iconst (v := 0) (by decide) ?_
      obtain ⟨hj, H⟩ := am_ck_el H
      refine ex_iast (k := 2048) rfl rfl hj ?_
      generalize ((am_upI S23.1 118 ((128 * x5) + x6).toNatClampNeg 0, S23.2) : AmT) = S24 at H ⊢
      have H := am_lt_el H
      refine ex_iinc (L2 := [.ref 95, w1, w2, w3, w4, .int x5, .int (x6 + 1)]) (v := (x6 + 1)) rfl (Nat.le_of_ble_eq_true rfl) (congrArg (fun z => x6 + z) (by decide)) rfl ?_
      refine ex_goto (ct := am_c252_173) rfl ?_
      exact ih _ _ _ _ _ _ _ _ H
set_option maxHeartbeats 1000000 in
set_option maxRecDepth 20000 in
theorem e252_143 {Lg : Nat} {xs : Nat → Int32} {d F : Nat} (hd : 3 ≤ d) : ∀ (n : Nat) (x5 : Int32) (x6 : Int32) (w1 : Value) (w2 : Value) (w3 : Value) (w4 : Value) (S : AmT) (q : Int32 × AmT), g252_143 F n x5 x6 S = some q → Ex (am_X Lg xs) d 252 am_c252_143 [.ref 95, w1, w2, w3, w4, .int x5, .int x6] [] (hS S) (some q.1, hS q.2) := by
  obtain ⟨d, rfl⟩ : ∃ d2, d = d2 + 1 := ⟨d - 1, by omega⟩
  intro n
  induction n with
  | zero =>
    intro x5 x6 w1 w2 w3 w4 S q H
    cases H
  | succ n ih =>
    intro x5 x6 w1 w2 w3 w4 S q H
    have H : (if 16 ≤ x6 then (g252_173 F F x5 0 S) else (am_ck ((16 * x5) + x6) 256 (am_lt ((am_upI S.1 116 ((16 * x5) + x6).toNatClampNeg 0, S.2) : AmT) fun S25 => g252_143 F n x5 (x6 + 1) S25))) = some q := H
    refine ex_iload rfl ?_
    refine ex_bipush (v := 16) (by decide) ?_
    by_cases h21 : 16 ≤ x6
    · rw [if_pos h21] at H
      refine ex_icmp_ge_j (ct := am_c252_170) h21 rfl ?_
      refine ex_iconst (v := 0) (by decide) ?_
      refine ex_istore (L2 := [.ref 95, w1, w2, w3, w4, .int x5, .int 0]) (Nat.le_of_ble_eq_true rfl) rfl ?_
      exact e252_173 hd _ _ _ _ _ _ _ _ _ H
    · rw [if_neg h21] at H
      refine ex_icmp_ge_f h21 ?_
      refine ex_aload_n rfl ?_
      refine ex_getR (w := 116) rfl rfl rfl ?_
      refine ex_bipush (v := 16) (by decide) ?_
      refine ex_iload rfl ?_
      refine ex_imul ?_
      refine ex_iload rfl ?_
      refine ex_iadd ?_
      refine ex_iconst (v := 0) (by decide) ?_
      obtain ⟨hj, H⟩ := am_ck_el H
      refine ex_bast (k := 256) rfl rfl hj (by decide) ?_
      generalize ((am_upI S.1 116 ((16 * x5) + x6).toNatClampNeg 0, S.2) : AmT) = S25 at H ⊢
      have H := am_lt_el H
      refine ex_iinc (L2 := [.ref 95, w1, w2, w3, w4, .int x5, .int (x6 + 1)]) (v := (x6 + 1)) rfl (Nat.le_of_ble_eq_true rfl) (congrArg (fun z => x6 + z) (by decide)) rfl ?_
      refine ex_goto (ct := am_c252_143) rfl ?_
      exact ih _ _ _ _ _ _ _ _ H
set_option maxHeartbeats 1000000 in
set_option maxRecDepth 20000 in
theorem r252 {Lg : Nat} {xs : Nat → Int32} {d F : Nat} {x1 : Int32} {x2 : Int32} {x3 : Int32} {S : AmT} {q : Int32 × AmT} (hd : 3 ≤ d) (H : f252 F x1 x2 x3 S = some q) : Ex (am_X Lg xs) d 252 (am_P 252) (am_ini (am_Mi 252).1 [.ref 95, .int x1, .int x2, .int x3]) [] (hS S) (some q.1, hS q.2) := by
  obtain ⟨d, rfl⟩ : ∃ d2, d = d2 + 1 := ⟨d - 1, by omega⟩
  unfold f252 at H
  show Ex (am_X Lg xs) _ 252 am_c252_0 [.ref 95, .int x1, .int x2, .int x3, .long 0, .long 0, .long 0] [] (hS S) (some q.1, hS q.2)
  refine ex_aload_n rfl ?_
  obtain ⟨v1, S2, hp, H⟩ := am_b2_el H
  refine ex_callV rfl rfl (Nat.le_of_ble_eq_true rfl) (Nat.le_of_ble_eq_true rfl) rfl (r202 (by omega) hp) rfl ?_
  by_cases h3 : v1 = 0
  · rw [if_pos h3] at H
    refine ex_if_eq_j (ct := am_c252_10) h3 rfl ?_
    refine ex_aload_n rfl ?_
    refine ex_iload_n rfl ?_
    obtain ⟨v4, S5, hp, H⟩ := am_b2_el H
    refine ex_callV rfl rfl (Nat.le_of_ble_eq_true rfl) (Nat.le_of_ble_eq_true rfl) rfl (r205 (by omega) hp) rfl ?_
    by_cases h6 : v4 = 0
    · rw [if_pos h6] at H
      refine ex_if_ne_f h6 ?_
      refine ex_bipush (v := (-2)) (by decide) ?_
      have H := Option.some.inj H
      subst H
      exact ex_iret (M := 252) (Or.inl rfl)
    · rw [if_neg h6] at H
      refine ex_if_ne_j (ct := am_c252_21) h6 rfl ?_
      refine ex_aload_n rfl ?_
      refine ex_getR (w := 96) rfl rfl rfl ?_
      refine ex_iconst (v := 2) (by decide) ?_
      refine ex_iald (v := S5.1 96 2) rfl (by decide) rfl ?_
      refine ex_bipush (v := 8) (by decide) ?_
      by_cases h7 : (S5.1 96 2) = 8
      · rw [if_pos h7] at H
        refine ex_icmp_ne_f h7 ?_
        refine ex_bipush (v := (-3)) (by decide) ?_
        have H := Option.some.inj H
        subst H
        exact ex_iret (M := 252) (Or.inl rfl)
      · rw [if_neg h7] at H
        refine ex_icmp_ne_j (ct := am_c252_35) h7 rfl ?_
        refine ex_aload_n rfl ?_
        obtain ⟨S8, hp, H⟩ := Option.bind_eq_some_iff.mp H
        refine ex_callV rfl rfl (Nat.le_of_ble_eq_true rfl) (Nat.le_of_ble_eq_true rfl) rfl (r201 (by omega) hp) rfl ?_
        refine ex_iload_n rfl ?_
        refine ex_iload_n rfl ?_
        obtain ⟨v9, S10, hp, H⟩ := am_b2_el H
        refine ex_callS rfl rfl (Nat.le_of_ble_eq_true rfl) (Nat.le_of_ble_eq_true rfl) (r246 (by omega) hp) rfl ?_
        refine ex_istore (L2 := [.ref 95, .int x1, .int x2, .int x3, .int v9, .long 0, .long 0]) (Nat.le_of_ble_eq_true rfl) rfl ?_
        refine ex_iload rfl ?_
        by_cases h11 : v9 ≤ 0
        · rw [if_pos h11] at H
          refine ex_if_le_j (ct := am_c252_58) h11 rfl ?_
          refine ex_aload_n rfl ?_
          refine ex_getR (w := 96) rfl rfl rfl ?_
          refine ex_iconst (v := 2) (by decide) ?_
          refine ex_iald (v := S10.1 96 2) rfl (by decide) rfl ?_
          refine ex_istore (L2 := [.ref 95, .int x1, .int x2, .int x3, .int v9, .int (S10.1 96 2), .long 0]) (Nat.le_of_ble_eq_true rfl) rfl ?_
          refine ex_aload_n rfl ?_
          refine ex_getR (w := 96) rfl rfl rfl ?_
          refine ex_iconst (v := 2) (by decide) ?_
          refine ex_dup2 ?_
          refine ex_iald (v := S10.1 96 2) rfl (by decide) rfl ?_
          refine ex_iconst (v := 1) (by decide) ?_
          refine ex_iadd ?_
          refine ex_iast (k := 32) rfl rfl (by decide) ?_
          generalize ((am_upI S10.1 96 (2 : Int32).toNatClampNeg ((S10.1 96 2) + 1), S10.2) : AmT) = S12 at H ⊢
          have H := am_lt_el H
          refine ex_aload_n rfl ?_
          refine ex_getR (w := 108) rfl rfl rfl ?_
          refine ex_iload rfl ?_
          refine ex_iload_n rfl ?_
          obtain ⟨hj, H⟩ := am_ck_el H
          refine ex_iast (k := 16) rfl rfl hj ?_
          generalize ((am_upI S12.1 108 (S10.1 96 2).toNatClampNeg x1, S12.2) : AmT) = S13 at H ⊢
          have H := am_lt_el H
          refine ex_aload_n rfl ?_
          refine ex_getR (w := 109) rfl rfl rfl ?_
          refine ex_iload rfl ?_
          refine ex_iload_n rfl ?_
          obtain ⟨hj, H⟩ := am_ck_el H
          refine ex_iast (k := 16) rfl rfl hj ?_
          generalize ((am_upI S13.1 109 (S10.1 96 2).toNatClampNeg x2, S13.2) : AmT) = S14 at H ⊢
          have H := am_lt_el H
          refine ex_aload_n rfl ?_
          refine ex_getR (w := 110) rfl rfl rfl ?_
          refine ex_iload rfl ?_
          refine ex_iload_n rfl ?_
          obtain ⟨hj, H⟩ := am_ck_el H
          refine ex_iast (k := 16) rfl rfl hj ?_
          generalize ((am_upI S14.1 110 (S10.1 96 2).toNatClampNeg x3, S14.2) : AmT) = S15 at H ⊢
          have H := am_lt_el H
          refine ex_aload_n rfl ?_
          refine ex_getR (w := 111) rfl rfl rfl ?_
          refine ex_iload rfl ?_
          refine ex_iconst (v := (-1)) (by decide) ?_
          obtain ⟨hj, H⟩ := am_ck_el H
          refine ex_iast (k := 16) rfl rfl hj ?_
          generalize ((am_upI S15.1 111 (S10.1 96 2).toNatClampNeg (-1), S15.2) : AmT) = S16 at H ⊢
          have H := am_lt_el H
          refine ex_aload_n rfl ?_
          refine ex_getR (w := 112) rfl rfl rfl ?_
          refine ex_iload rfl ?_
          refine ex_iconst (v := (-1)) (by decide) ?_
          obtain ⟨hj, H⟩ := am_ck_el H
          refine ex_iast (k := 16) rfl rfl hj ?_
          generalize ((am_upI S16.1 112 (S10.1 96 2).toNatClampNeg (-1), S16.2) : AmT) = S17 at H ⊢
          have H := am_lt_el H
          refine ex_aload_n rfl ?_
          refine ex_getR (w := 113) rfl rfl rfl ?_
          refine ex_iload rfl ?_
          refine ex_iconst (v := (-1)) (by decide) ?_
          obtain ⟨hj, H⟩ := am_ck_el H
          refine ex_iast (k := 16) rfl rfl hj ?_
          generalize ((am_upI S17.1 113 (S10.1 96 2).toNatClampNeg (-1), S17.2) : AmT) = S18 at H ⊢
          have H := am_lt_el H
          refine ex_aload_n rfl ?_
          refine ex_getR (w := 114) rfl rfl rfl ?_
          refine ex_iload rfl ?_
          refine ex_iconst (v := 0) (by decide) ?_
          obtain ⟨hj, H⟩ := am_ck_el H
          refine ex_iast (k := 16) rfl rfl hj ?_
          generalize ((am_upI S18.1 114 (S10.1 96 2).toNatClampNeg 0, S18.2) : AmT) = S19 at H ⊢
          have H := am_lt_el H
          refine ex_aload_n rfl ?_
          refine ex_getR (w := 115) rfl rfl rfl ?_
          refine ex_iload rfl ?_
          refine ex_iconst (v := (-1)) (by decide) ?_
          obtain ⟨hj, H⟩ := am_ck_el H
          refine ex_iast (k := 16) rfl rfl hj ?_
          generalize ((am_upI S19.1 115 (S10.1 96 2).toNatClampNeg (-1), S19.2) : AmT) = S20 at H ⊢
          have H := am_lt_el H
          refine ex_iconst (v := 0) (by decide) ?_
          refine ex_istore (L2 := [.ref 95, .int x1, .int x2, .int x3, .int v9, .int (S10.1 96 2), .int 0]) (Nat.le_of_ble_eq_true rfl) rfl ?_
          exact e252_143 hd _ _ _ _ _ _ _ _ _ H
        · rw [if_neg h11] at H
          refine ex_if_le_f h11 ?_
          refine ex_aload_n rfl ?_
          refine ex_iload rfl ?_
          obtain ⟨v26, S27, hp, H⟩ := am_b2_el H
          refine ex_callV rfl rfl (Nat.le_of_ble_eq_true rfl) (Nat.le_of_ble_eq_true rfl) rfl (r203 (by omega) hp) rfl ?_
          have H := Option.some.inj H
          subst H
          exact ex_iret (M := 252) (Or.inl rfl)
  · rw [if_neg h3] at H
    refine ex_if_eq_f h3 ?_
    refine ex_bipush (v := (-4)) (by decide) ?_
    have H := Option.some.inj H
    subst H
    exact ex_iret (M := 252) (Or.inl rfl)
