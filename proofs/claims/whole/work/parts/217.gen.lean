/-! printed by wip/gen/gen20.py -/
def g267_60 (F : Nat) (s0 : Int32) (S : AmT) : Option (Int32 × AmT) := if s0 ≤ 0 then (some ((S.1 95 50), S)) else (am_b2 (f203 F s0 S) fun v15 S16 => some (v15, S16))
-- X10_seen
def f267 (F : Nat) (x1 : Int32) (x2 : Int32) (x3 : Int32) (x4 : Int32) (x5 : Int32) (x6 : Int32) (S : AmT) : Option (Int32 × AmT) := am_b2 (f249 F x1 S) fun v1 S2 => if v1 = 0 then (some ((-2), S2)) else (am_b2 (f197 F x2 0 1 S2) fun v4 S5 => if v4 = 0 then (some ((-1), S5)) else (am_b2 (f254 F x1 x2 x3 x4 S5) fun v7 S8 => if v7 ≤ 0 then (am_b2 (f251 F x1 x2 x3 x4 S8) fun v10 S11 => am_b2 (f266 F x1 v10 x5 x6 S11) fun v12 S13 => g267_60 F v12 S13) else (g267_60 F v7 S8)))
set_option maxHeartbeats 1000000 in
set_option maxRecDepth 20000 in
theorem e267_60 {Lg : Nat} {xs : Nat → Int32} {d F : Nat} {s0 : Int32} {w1 : Value} {w2 : Value} {w3 : Value} {w4 : Value} {w5 : Value} {w6 : Value} {w7 : Value} {S : AmT} {q : Int32 × AmT} (hd : 4 ≤ d) (H : g267_60 F s0 S = some q) : Ex (am_X Lg xs) d 267 am_c267_60 [.ref 95, w1, w2, w3, w4, w5, w6, w7] [.int s0] (hS S) (some q.1, hS q.2) := by
  obtain ⟨d, rfl⟩ : ∃ d2, d = d2 + 1 := ⟨d - 1, by omega⟩
  unfold g267_60 at H
  refine ex_istore (L2 := [.ref 95, w1, w2, w3, w4, w5, w6, .int s0]) (Nat.le_of_ble_eq_true rfl) rfl ?_
  refine ex_iload rfl ?_
  by_cases h14 : s0 ≤ 0
  · rw [if_pos h14] at H
    refine ex_if_le_j (ct := am_c267_76) h14 rfl ?_
    refine ex_aload_n rfl ?_
    refine ex_gI rfl (by decide) ?_
    have H := Option.some.inj H
    subst H
    exact ex_iret (M := 267) (Or.inl rfl)
  · rw [if_neg h14] at H
    refine ex_if_le_f h14 ?_
    refine ex_aload_n rfl ?_
    refine ex_iload rfl ?_
    obtain ⟨v15, S16, hp, H⟩ := am_b2_el H
    refine ex_callV rfl rfl (Nat.le_of_ble_eq_true rfl) (Nat.le_of_ble_eq_true rfl) rfl (r203 (by omega) hp) rfl ?_
    refine ex_goto (ct := am_c267_80) rfl ?_
    have H := Option.some.inj H
    subst H
    exact ex_iret (M := 267) (Or.inl rfl)
set_option maxHeartbeats 1000000 in
set_option maxRecDepth 20000 in
theorem r267 {Lg : Nat} {xs : Nat → Int32} {d F : Nat} {x1 : Int32} {x2 : Int32} {x3 : Int32} {x4 : Int32} {x5 : Int32} {x6 : Int32} {S : AmT} {q : Int32 × AmT} (hd : 4 ≤ d) (H : f267 F x1 x2 x3 x4 x5 x6 S = some q) : Ex (am_X Lg xs) d 267 (am_P 267) (am_ini (am_Mi 267).1 [.ref 95, .int x1, .int x2, .int x3, .int x4, .int x5, .int x6]) [] (hS S) (some q.1, hS q.2) := by
  obtain ⟨d, rfl⟩ : ∃ d2, d = d2 + 1 := ⟨d - 1, by omega⟩
  unfold f267 at H
  show Ex (am_X Lg xs) _ 267 am_c267_0 [.ref 95, .int x1, .int x2, .int x3, .int x4, .int x5, .int x6, .long 0] [] (hS S) (some q.1, hS q.2)
  refine ex_aload_n rfl ?_
  refine ex_iload_n rfl ?_
  obtain ⟨v1, S2, hp, H⟩ := am_b2_el H
  refine ex_callV rfl rfl (Nat.le_of_ble_eq_true rfl) (Nat.le_of_ble_eq_true rfl) rfl (r249 (by omega) hp) rfl ?_
  by_cases h3 : v1 = 0
  · rw [if_pos h3] at H
    refine ex_if_ne_f h3 ?_
    refine ex_bipush (v := (-2)) (by decide) ?_
    have H := Option.some.inj H
    subst H
    exact ex_iret (M := 267) (Or.inl rfl)
  · rw [if_neg h3] at H
    refine ex_if_ne_j (ct := am_c267_11) h3 rfl ?_
    refine ex_iload_n rfl ?_
    refine ex_iconst (v := 0) (by decide) ?_
    refine ex_iconst (v := 1) (by decide) ?_
    obtain ⟨v4, S5, hp, H⟩ := am_b2_el H
    refine ex_callS rfl rfl (Nat.le_of_ble_eq_true rfl) (Nat.le_of_ble_eq_true rfl) (r197 (by omega) hp) rfl ?_
    by_cases h6 : v4 = 0
    · rw [if_pos h6] at H
      refine ex_if_ne_f h6 ?_
      refine ex_iconst (v := (-1)) (by decide) ?_
      have H := Option.some.inj H
      subst H
      exact ex_iret (M := 267) (Or.inl rfl)
    · rw [if_neg h6] at H
      refine ex_if_ne_j (ct := am_c267_22) h6 rfl ?_
      refine ex_aload_n rfl ?_
      refine ex_iload_n rfl ?_
      refine ex_iload_n rfl ?_
      refine ex_iload_n rfl ?_
      refine ex_iload rfl ?_
      obtain ⟨v7, S8, hp, H⟩ := am_b2_el H
      refine ex_callV rfl rfl (Nat.le_of_ble_eq_true rfl) (Nat.le_of_ble_eq_true rfl) rfl (r254 (by omega) hp) rfl ?_
      refine ex_istore (L2 := [.ref 95, .int x1, .int x2, .int x3, .int x4, .int x5, .int x6, .int v7]) (Nat.le_of_ble_eq_true rfl) rfl ?_
      refine ex_iload rfl ?_
      by_cases h9 : v7 ≤ 0
      · rw [if_pos h9] at H
        refine ex_if_le_j (ct := am_c267_43) h9 rfl ?_
        refine ex_aload_n rfl ?_
        refine ex_iload_n rfl ?_
        refine ex_iload_n rfl ?_
        refine ex_iload_n rfl ?_
        refine ex_iload_n rfl ?_
        refine ex_iload rfl ?_
        obtain ⟨v10, S11, hp, H⟩ := am_b2_el H
        refine ex_callS rfl rfl (Nat.le_of_ble_eq_true rfl) (Nat.le_of_ble_eq_true rfl) (r251 (by omega) hp) rfl ?_
        refine ex_iload rfl ?_
        refine ex_iload rfl ?_
        obtain ⟨v12, S13, hp, H⟩ := am_b2_el H
        refine ex_callV rfl rfl (Nat.le_of_ble_eq_true rfl) (Nat.le_of_ble_eq_true rfl) rfl (r266 (by omega) hp) rfl ?_
        exact e267_60 hd H
      · rw [if_neg h9] at H
        refine ex_if_le_f h9 ?_
        refine ex_iload rfl ?_
        refine ex_goto (ct := am_c267_60) rfl ?_
        exact e267_60 hd H
def g284_108 (F : Nat) (k2 : Int32 → Int32 → Int32 → AmT → Option (Int32 × AmT)) (k31 : Int32 → Int32 → Int32 → Int32 → AmT → Option (Int32 × AmT)) (x1 : Int32) (x2 : Int32) (x3 : Int32) (x4 : Int32) (s1 : Int32) (s2 : Int32) (S : AmT) : Option (Int32 × AmT) := am_lt ((am_upI S.1 95 33 (s1 + s2), S.2) : AmT) fun S13 => k31 x1 x2 x3 (x4 + 1) S13
def g284_75 (F : Nat) (k2 : Int32 → Int32 → Int32 → AmT → Option (Int32 × AmT)) (k31 : Int32 → Int32 → Int32 → Int32 → AmT → Option (Int32 × AmT)) (x1 : Int32) (x2 : Int32) (x3 : Int32) (x4 : Int32) (x5 : Int32) (s0 : Int32) (S : AmT) : Option (Int32 × AmT) := if s0 ≤ 0 then (am_ck x5 2048 (if (S.1 117 x5.toNatClampNeg) = 0 then (g284_108 F k2 k31 x1 x2 x3 x4 (S.1 95 33) 0 S) else (g284_108 F k2 k31 x1 x2 x3 x4 (S.1 95 33) (S.1 95 50) S))) else (some (s0, S))
def g284_31 (F : Nat) (k2 : Int32 → Int32 → Int32 → AmT → Option (Int32 × AmT)) : Nat → Int32 → Int32 → Int32 → Int32 → AmT → Option (Int32 × AmT)
  | 0, _, _, _, _, _ => none
  | n + 1, x1, x2, x3, x4, S => am_ck x1 16 (if (S.1 110 x1.toNatClampNeg) ≤ x4 then (k2 x1 x2 (x3 + 1) S) else (am_b2 (f251 F x1 x2 x3 x4 S) fun v6 S7 => am_ck v6 2048 (if (S7.1 117 v6.toNatClampNeg) = 0 then (g284_75 F k2 (fun x1 x2 x3 x4 S => g284_31 F k2 n x1 x2 x3 x4 S) x1 x2 x3 x4 v6 0 S7) else (am_b2 (f266 F x1 v6 0 0 S7) fun v9 S10 => g284_75 F k2 (fun x1 x2 x3 x4 S => g284_31 F k2 n x1 x2 x3 x4 S) x1 x2 x3 x4 v6 v9 S10))))
def g284_2 (F : Nat) : Nat → Int32 → Int32 → Int32 → AmT → Option (Int32 × AmT)
  | 0, _, _, _, _ => none
  | n + 1, x1, x2, x3, S => am_ck x1 16 (if (S.1 109 x1.toNatClampNeg) ≤ x3 then (some (0, S)) else (am_b2 (f250 F x1 x2 x3 S) fun v2 S3 => am_ck v2 256 (if (S3.1 116 v2.toNatClampNeg) = 0 then (g284_31 F (fun x1 x2 x3 S => g284_2 F n x1 x2 x3 S) F x1 x2 x3 0 S3) else (some (1, S3)))))
-- X10_prints
def f284 (F : Nat) (x1 : Int32) (x2 : Int32) (S : AmT) : Option (Int32 × AmT) := g284_2 F F x1 x2 0 S
set_option maxHeartbeats 1000000 in
set_option maxRecDepth 20000 in
theorem e284_108 {Lg : Nat} {xs : Nat → Int32} {d F : Nat} {k2 : Int32 → Int32 → Int32 → AmT → Option (Int32 × AmT)} {k31 : Int32 → Int32 → Int32 → Int32 → AmT → Option (Int32 × AmT)} {x1 : Int32} {x2 : Int32} {x3 : Int32} {x4 : Int32} {s1 : Int32} {s2 : Int32} {w5 : Value} {w6 : Value} {S : AmT} {q : Int32 × AmT} (hd : 4 ≤ d) (hk2 : ∀ (x1 : Int32) (x2 : Int32) (x3 : Int32) (w4 : Value) (w5 : Value) (w6 : Value) (S : AmT) (q : Int32 × AmT), k2 x1 x2 x3 S = some q → Ex (am_X Lg xs) d 284 am_c284_2 [.ref 95, .int x1, .int x2, .int x3, w4, w5, w6] [] (hS S) (some q.1, hS q.2)) (hk31 : ∀ (x1 : Int32) (x2 : Int32) (x3 : Int32) (x4 : Int32) (w5 : Value) (w6 : Value) (S : AmT) (q : Int32 × AmT), k31 x1 x2 x3 x4 S = some q → Ex (am_X Lg xs) d 284 am_c284_31 [.ref 95, .int x1, .int x2, .int x3, .int x4, w5, w6] [] (hS S) (some q.1, hS q.2)) (H : g284_108 F k2 k31 x1 x2 x3 x4 s1 s2 S = some q) : Ex (am_X Lg xs) d 284 am_c284_108 [.ref 95, .int x1, .int x2, .int x3, .int x4, w5, w6] [.int s2, .int s1, .ref 95] (hS S) (some q.1, hS q.2) := by
  obtain ⟨d, rfl⟩ : ∃ d2, d = d2 + 1 := ⟨d - 1, by omega⟩
  unfold g284_108 at H
  refine ex_iadd ?_
  refine ex_putI rfl (by decide) (fun z => absurd z.1 (by decide)) ?_
  generalize ((am_upI S.1 95 33 (s1 + s2), S.2) : AmT) = S13 at H ⊢
  have H := am_lt_el H
  refine ex_iinc (L2 := [.ref 95, .int x1, .int x2, .int x3, .int (x4 + 1), w5, w6]) (v := (x4 + 1)) rfl (Nat.le_of_ble_eq_true rfl) (congrArg (fun z => x4 + z) (by decide)) rfl ?_
  refine ex_goto (ct := am_c284_31) rfl ?_
  exact hk31 _ _ _ _ _ _ _ _ H
set_option maxHeartbeats 1000000 in
set_option maxRecDepth 20000 in
theorem e284_75 {Lg : Nat} {xs : Nat → Int32} {d F : Nat} {k2 : Int32 → Int32 → Int32 → AmT → Option (Int32 × AmT)} {k31 : Int32 → Int32 → Int32 → Int32 → AmT → Option (Int32 × AmT)} {x1 : Int32} {x2 : Int32} {x3 : Int32} {x4 : Int32} {x5 : Int32} {s0 : Int32} {w6 : Value} {S : AmT} {q : Int32 × AmT} (hd : 4 ≤ d) (hk2 : ∀ (x1 : Int32) (x2 : Int32) (x3 : Int32) (w4 : Value) (w5 : Value) (w6 : Value) (S : AmT) (q : Int32 × AmT), k2 x1 x2 x3 S = some q → Ex (am_X Lg xs) d 284 am_c284_2 [.ref 95, .int x1, .int x2, .int x3, w4, w5, w6] [] (hS S) (some q.1, hS q.2)) (hk31 : ∀ (x1 : Int32) (x2 : Int32) (x3 : Int32) (x4 : Int32) (w5 : Value) (w6 : Value) (S : AmT) (q : Int32 × AmT), k31 x1 x2 x3 x4 S = some q → Ex (am_X Lg xs) d 284 am_c284_31 [.ref 95, .int x1, .int x2, .int x3, .int x4, w5, w6] [] (hS S) (some q.1, hS q.2)) (H : g284_75 F k2 k31 x1 x2 x3 x4 x5 s0 S = some q) : Ex (am_X Lg xs) d 284 am_c284_75 [.ref 95, .int x1, .int x2, .int x3, .int x4, .int x5, w6] [.int s0] (hS S) (some q.1, hS q.2) := by
  obtain ⟨d, rfl⟩ : ∃ d2, d = d2 + 1 := ⟨d - 1, by omega⟩
  unfold g284_75 at H
  refine ex_istore (L2 := [.ref 95, .int x1, .int x2, .int x3, .int x4, .int x5, .int s0]) (Nat.le_of_ble_eq_true rfl) rfl ?_
  refine ex_iload rfl ?_
  by_cases h11 : s0 ≤ 0
  · rw [if_pos h11] at H
    refine ex_if_le_j (ct := am_c284_85) h11 rfl ?_
    refine ex_aload_n rfl ?_
    refine ex_dupr ?_
    refine ex_gI rfl (by decide) ?_
    refine ex_aload_n rfl ?_
    refine ex_getR (w := 117) rfl rfl rfl ?_
    refine ex_iload rfl ?_
    obtain ⟨hj, H⟩ := am_ck_el H
    refine ex_iald (k := 2048) (v := S.1 117 x5.toNatClampNeg) rfl hj rfl ?_
    by_cases h12 : (S.1 117 x5.toNatClampNeg) = 0
    · rw [if_pos h12] at H
      refine ex_if_ne_f h12 ?_
      refine ex_iconst (v := 0) (by decide) ?_
      refine ex_goto (ct := am_c284_108) rfl ?_
      exact e284_108 hd hk2 hk31 H
    · rw [if_neg h12] at H
      refine ex_if_ne_j (ct := am_c284_104) h12 rfl ?_
      refine ex_aload_n rfl ?_
      refine ex_gI rfl (by decide) ?_
      exact e284_108 hd hk2 hk31 H
  · rw [if_neg h11] at H
    refine ex_if_le_f h11 ?_
    refine ex_iload rfl ?_
    have H := Option.some.inj H
    subst H
    exact ex_iret (M := 284) (Or.inl rfl)
set_option maxHeartbeats 1000000 in
set_option maxRecDepth 20000 in
theorem e284_31 {Lg : Nat} {xs : Nat → Int32} {d F : Nat} {k2 : Int32 → Int32 → Int32 → AmT → Option (Int32 × AmT)} (hd : 4 ≤ d) (hk2 : ∀ (x1 : Int32) (x2 : Int32) (x3 : Int32) (w4 : Value) (w5 : Value) (w6 : Value) (S : AmT) (q : Int32 × AmT), k2 x1 x2 x3 S = some q → Ex (am_X Lg xs) d 284 am_c284_2 [.ref 95, .int x1, .int x2, .int x3, w4, w5, w6] [] (hS S) (some q.1, hS q.2)) : ∀ (n : Nat) (x1 : Int32) (x2 : Int32) (x3 : Int32) (x4 : Int32) (w5 : Value) (w6 : Value) (S : AmT) (q : Int32 × AmT), g284_31 F k2 n x1 x2 x3 x4 S = some q → Ex (am_X Lg xs) d 284 am_c284_31 [.ref 95, .int x1, .int x2, .int x3, .int x4, w5, w6] [] (hS S) (some q.1, hS q.2) := by
  obtain ⟨d, rfl⟩ : ∃ d2, d = d2 + 1 := ⟨d - 1, by omega⟩
  intro n
  induction n with
  | zero =>
    intro x1 x2 x3 x4 w5 w6 S q H
    cases H
  | succ n ih =>
    intro x1 x2 x3 x4 w5 w6 S q H
    have H : (am_ck x1 16 (if (S.1 110 x1.toNatClampNeg) ≤ x4 then (k2 x1 x2 (x3 + 1) S) else (am_b2 (f251 F x1 x2 x3 x4 S) fun v6 S7 => am_ck v6 2048 (if (S7.1 117 v6.toNatClampNeg) = 0 then (g284_75 F k2 (fun x1 x2 x3 x4 S => g284_31 F k2 n x1 x2 x3 x4 S) x1 x2 x3 x4 v6 0 S7) else (am_b2 (f266 F x1 v6 0 0 S7) fun v9 S10 => g284_75 F k2 (fun x1 x2 x3 x4 S => g284_31 F k2 n x1 x2 x3 x4 S) x1 x2 x3 x4 v6 v9 S10))))) = some q := H
    refine ex_iload rfl ?_
    refine ex_aload_n rfl ?_
    refine ex_getR (w := 110) rfl rfl rfl ?_
    refine ex_iload_n rfl ?_
    obtain ⟨hj, H⟩ := am_ck_el H
    refine ex_iald (k := 16) (v := S.1 110 x1.toNatClampNeg) rfl hj rfl ?_
    by_cases h5 : (S.1 110 x1.toNatClampNeg) ≤ x4
    · rw [if_pos h5] at H
      refine ex_icmp_ge_j (ct := am_c284_118) h5 rfl ?_
      refine ex_iinc (L2 := [.ref 95, .int x1, .int x2, .int (x3 + 1), .int x4, w5, w6]) (v := (x3 + 1)) rfl (Nat.le_of_ble_eq_true rfl) (congrArg (fun z => x3 + z) (by decide)) rfl ?_
      refine ex_goto (ct := am_c284_2) rfl ?_
      exact hk2 _ _ _ _ _ _ _ _ H
    · rw [if_neg h5] at H
      refine ex_icmp_ge_f h5 ?_
      refine ex_iload_n rfl ?_
      refine ex_iload_n rfl ?_
      refine ex_iload_n rfl ?_
      refine ex_iload rfl ?_
      obtain ⟨v6, S7, hp, H⟩ := am_b2_el H
      refine ex_callS rfl rfl (Nat.le_of_ble_eq_true rfl) (Nat.le_of_ble_eq_true rfl) (r251 (by omega) hp) rfl ?_
      refine ex_istore (L2 := [.ref 95, .int x1, .int x2, .int x3, .int x4, .int v6, w6]) (Nat.le_of_ble_eq_true rfl) rfl ?_
      refine ex_aload_n rfl ?_
      refine ex_getR (w := 117) rfl rfl rfl ?_
      refine ex_iload rfl ?_
      obtain ⟨hj, H⟩ := am_ck_el H
      refine ex_iald (k := 2048) (v := S7.1 117 v6.toNatClampNeg) rfl hj rfl ?_
      by_cases h8 : (S7.1 117 v6.toNatClampNeg) = 0
      · rw [if_pos h8] at H
        refine ex_if_ne_f h8 ?_
        refine ex_iconst (v := 0) (by decide) ?_
        refine ex_goto (ct := am_c284_75) rfl ?_
        exact e284_75 hd hk2 (fun x1 x2 x3 x4 w5 w6 S q H => ih x1 x2 x3 x4 w5 w6 S q H) H
      · rw [if_neg h8] at H
        refine ex_if_ne_j (ct := am_c284_66) h8 rfl ?_
        refine ex_aload_n rfl ?_
        refine ex_iload_n rfl ?_
        refine ex_iload rfl ?_
        refine ex_iconst (v := 0) (by decide) ?_
        refine ex_iconst (v := 0) (by decide) ?_
        obtain ⟨v9, S10, hp, H⟩ := am_b2_el H
        refine ex_callV rfl rfl (Nat.le_of_ble_eq_true rfl) (Nat.le_of_ble_eq_true rfl) rfl (r266 (by omega) hp) rfl ?_
        exact e284_75 hd hk2 (fun x1 x2 x3 x4 w5 w6 S q H => ih x1 x2 x3 x4 w5 w6 S q H) H
set_option maxHeartbeats 1000000 in
set_option maxRecDepth 20000 in
theorem e284_2 {Lg : Nat} {xs : Nat → Int32} {d F : Nat} (hd : 4 ≤ d) : ∀ (n : Nat) (x1 : Int32) (x2 : Int32) (x3 : Int32) (w4 : Value) (w5 : Value) (w6 : Value) (S : AmT) (q : Int32 × AmT), g284_2 F n x1 x2 x3 S = some q → Ex (am_X Lg xs) d 284 am_c284_2 [.ref 95, .int x1, .int x2, .int x3, w4, w5, w6] [] (hS S) (some q.1, hS q.2) := by
  obtain ⟨d, rfl⟩ : ∃ d2, d = d2 + 1 := ⟨d - 1, by omega⟩
  intro n
  induction n with
  | zero =>
    intro x1 x2 x3 w4 w5 w6 S q H
    cases H
  | succ n ih =>
    intro x1 x2 x3 w4 w5 w6 S q H
    have H : (am_ck x1 16 (if (S.1 109 x1.toNatClampNeg) ≤ x3 then (some (0, S)) else (am_b2 (f250 F x1 x2 x3 S) fun v2 S3 => am_ck v2 256 (if (S3.1 116 v2.toNatClampNeg) = 0 then (g284_31 F (fun x1 x2 x3 S => g284_2 F n x1 x2 x3 S) F x1 x2 x3 0 S3) else (some (1, S3)))))) = some q := H
    refine ex_iload_n rfl ?_
    refine ex_aload_n rfl ?_
    refine ex_getR (w := 109) rfl rfl rfl ?_
    refine ex_iload_n rfl ?_
    obtain ⟨hj, H⟩ := am_ck_el H
    refine ex_iald (k := 16) (v := S.1 109 x1.toNatClampNeg) rfl hj rfl ?_
    by_cases h1 : (S.1 109 x1.toNatClampNeg) ≤ x3
    · rw [if_pos h1] at H
      refine ex_icmp_ge_j (ct := am_c284_124) h1 rfl ?_
      refine ex_iconst (v := 0) (by decide) ?_
      have H := Option.some.inj H
      subst H
      exact ex_iret (M := 284) (Or.inl rfl)
    · rw [if_neg h1] at H
      refine ex_icmp_ge_f h1 ?_
      refine ex_aload_n rfl ?_
      refine ex_getR (w := 116) rfl rfl rfl ?_
      refine ex_iload_n rfl ?_
      refine ex_iload_n rfl ?_
      refine ex_iload_n rfl ?_
      obtain ⟨v2, S3, hp, H⟩ := am_b2_el H
      refine ex_callS rfl rfl (Nat.le_of_ble_eq_true rfl) (Nat.le_of_ble_eq_true rfl) (r250 (by omega) hp) rfl ?_
      obtain ⟨hj, H⟩ := am_ck_el H
      refine ex_bald (k := 256) (v := S3.1 116 v2.toNatClampNeg) rfl hj rfl ?_
      by_cases h4 : (S3.1 116 v2.toNatClampNeg) = 0
      · rw [if_pos h4] at H
        refine ex_if_eq_j (ct := am_c284_28) h4 rfl ?_
        refine ex_iconst (v := 0) (by decide) ?_
        refine ex_istore (L2 := [.ref 95, .int x1, .int x2, .int x3, .int 0, w5, w6]) (Nat.le_of_ble_eq_true rfl) rfl ?_
        exact e284_31 hd (fun x1 x2 x3 w4 w5 w6 S q H => ih x1 x2 x3 w4 w5 w6 S q H) _ _ _ _ _ _ _ _ _ H
      · rw [if_neg h4] at H
        refine ex_if_eq_f h4 ?_
        refine ex_iconst (v := 1) (by decide) ?_
        have H := Option.some.inj H
        subst H
        exact ex_iret (M := 284) (Or.inl rfl)
set_option maxHeartbeats 1000000 in
set_option maxRecDepth 20000 in
theorem r284 {Lg : Nat} {xs : Nat → Int32} {d F : Nat} {x1 : Int32} {x2 : Int32} {S : AmT} {q : Int32 × AmT} (hd : 4 ≤ d) (H : f284 F x1 x2 S = some q) : Ex (am_X Lg xs) d 284 (am_P 284) (am_ini (am_Mi 284).1 [.ref 95, .int x1, .int x2]) [] (hS S) (some q.1, hS q.2) := by
  obtain ⟨d, rfl⟩ : ∃ d2, d = d2 + 1 := ⟨d - 1, by omega⟩
  unfold f284 at H
  show Ex (am_X Lg xs) _ 284 am_c284_0 [.ref 95, .int x1, .int x2, .long 0, .long 0, .long 0, .long 0] [] (hS S) (some q.1, hS q.2)
  refine ex_iconst (v := 0) (by decide) ?_
  refine ex_istore_n (L2 := [.ref 95, .int x1, .int x2, .int 0, .long 0, .long 0, .long 0]) (Nat.le_of_ble_eq_true rfl) rfl ?_
  exact e284_2 hd _ _ _ _ _ _ _ _ _ H
def g247_83 (F : Nat) (x4 : Int32) (x5 : Int32) (s0 : Int32) (S : AmT) : Option (Int32 × AmT) := if s0 ≤ 0 then (am_b2 (f241 F x4 S) fun v17 S18 => if x5 = 0 then (am_b2 (f242 F v17 S18) fun v28 S29 => some (v28, S29)) else (if x5 = 1 then (am_b2 (f243 F v17 S18) fun v26 S27 => some (v26, S27)) else (if x5 = 2 then (am_b2 (f244 F v17 S18) fun v24 S25 => some (v24, S25)) else (am_b2 (f245 F v17 S18) fun v22 S23 => some (v22, S23))))) else (am_b2 (f203 F s0 S) fun v30 S31 => some (v30, S31))
def g247_47 (F : Nat) (x4 : Int32) (x5 : Int32) (s0 : Int32) (S : AmT) : Option (Int32 × AmT) := if s0 ≤ 0 then (am_b2 (f197 F x4 0 ((2 * (S.1 127 0)) - 1) S) fun v13 S14 => if v13 = 0 then (g247_83 F x4 x5 2 S14) else (g247_83 F x4 x5 0 S14)) else (g247_83 F x4 x5 s0 S)
-- X10_face
def f247 (F : Nat) (x1 : Int32) (x2 : Int32) (x3 : Int32) (x4 : Int32) (x5 : Int32) (S : AmT) : Option (Int32 × AmT) := am_b2 (f224 F x1 S) fun v1 S2 => if v1 = 0 then (some ((-2), S2)) else (am_b2 (f197 F x5 0 3 S2) fun v4 S5 => if v4 = 0 then (some ((-1), S5)) else (am_b2 (f246 F x2 x3 S5) fun v7 S8 => if v7 ≤ 0 then (am_b2 (f240 F x1 x2 x3 S8) fun v10 S11 => g247_47 F x4 x5 v10 S11) else (g247_47 F x4 x5 v7 S8)))
set_option maxHeartbeats 1000000 in
set_option maxRecDepth 20000 in
theorem e247_83 {Lg : Nat} {xs : Nat → Int32} {d F : Nat} {x4 : Int32} {x5 : Int32} {s0 : Int32} {w1 : Value} {w2 : Value} {w3 : Value} {w6 : Value} {w7 : Value} {S : AmT} {q : Int32 × AmT} (hd : 5 ≤ d) (H : g247_83 F x4 x5 s0 S = some q) : Ex (am_X Lg xs) d 247 am_c247_83 [.ref 95, w1, w2, w3, .int x4, .int x5, w6, w7] [.int s0] (hS S) (some q.1, hS q.2) := by
  obtain ⟨d, rfl⟩ : ∃ d2, d = d2 + 1 := ⟨d - 1, by omega⟩
  unfold g247_83 at H
  refine ex_istore (L2 := [.ref 95, w1, w2, w3, .int x4, .int x5, .int s0, w7]) (Nat.le_of_ble_eq_true rfl) rfl ?_
  refine ex_iload rfl ?_
  by_cases h16 : s0 ≤ 0
  · rw [if_pos h16] at H
    refine ex_if_le_j (ct := am_c247_97) h16 rfl ?_
    refine ex_aload_n rfl ?_
    refine ex_iload rfl ?_
    obtain ⟨v17, S18, hp, H⟩ := am_b2_el H
    refine ex_callV rfl rfl (Nat.le_of_ble_eq_true rfl) (Nat.le_of_ble_eq_true rfl) rfl (r241 (by omega) hp) rfl ?_
    refine ex_istore (L2 := [.ref 95, w1, w2, w3, .int x4, .int x5, .int s0, .int v17]) (Nat.le_of_ble_eq_true rfl) rfl ?_
    refine ex_iload rfl ?_
    by_cases h19 : x5 = 0
    · rw [if_pos h19] at H
      refine ex_if_ne_f h19 ?_
      refine ex_iload rfl ?_
      obtain ⟨v28, S29, hp, H⟩ := am_b2_el H
      refine ex_callS rfl rfl (Nat.le_of_ble_eq_true rfl) (Nat.le_of_ble_eq_true rfl) (r242 (by omega) hp) rfl ?_
      refine ex_goto (ct := am_c247_151) rfl ?_
      have H := Option.some.inj H
      subst H
      exact ex_iret (M := 247) (Or.inl rfl)
    · rw [if_neg h19] at H
      refine ex_if_ne_j (ct := am_c247_118) h19 rfl ?_
      refine ex_iload rfl ?_
      refine ex_iconst (v := 1) (by decide) ?_
      by_cases h20 : x5 = 1
      · rw [if_pos h20] at H
        refine ex_icmp_ne_f h20 ?_
        refine ex_iload rfl ?_
        obtain ⟨v26, S27, hp, H⟩ := am_b2_el H
        refine ex_callS rfl rfl (Nat.le_of_ble_eq_true rfl) (Nat.le_of_ble_eq_true rfl) (r243 (by omega) hp) rfl ?_
        refine ex_goto (ct := am_c247_151) rfl ?_
        have H := Option.some.inj H
        subst H
        exact ex_iret (M := 247) (Or.inl rfl)
      · rw [if_neg h20] at H
        refine ex_icmp_ne_j (ct := am_c247_132) h20 rfl ?_
        refine ex_iload rfl ?_
        refine ex_iconst (v := 2) (by decide) ?_
        by_cases h21 : x5 = 2
        · rw [if_pos h21] at H
          refine ex_icmp_ne_f h21 ?_
          refine ex_iload rfl ?_
          obtain ⟨v24, S25, hp, H⟩ := am_b2_el H
          refine ex_callS rfl rfl (Nat.le_of_ble_eq_true rfl) (Nat.le_of_ble_eq_true rfl) (r244 (by omega) hp) rfl ?_
          refine ex_goto (ct := am_c247_151) rfl ?_
          have H := Option.some.inj H
          subst H
          exact ex_iret (M := 247) (Or.inl rfl)
        · rw [if_neg h21] at H
          refine ex_icmp_ne_j (ct := am_c247_146) h21 rfl ?_
          refine ex_iload rfl ?_
          obtain ⟨v22, S23, hp, H⟩ := am_b2_el H
          refine ex_callS rfl rfl (Nat.le_of_ble_eq_true rfl) (Nat.le_of_ble_eq_true rfl) (r245 (by omega) hp) rfl ?_
          have H := Option.some.inj H
          subst H
          exact ex_iret (M := 247) (Or.inl rfl)
  · rw [if_neg h16] at H
    refine ex_if_le_f h16 ?_
    refine ex_aload_n rfl ?_
    refine ex_iload rfl ?_
    obtain ⟨v30, S31, hp, H⟩ := am_b2_el H
    refine ex_callV rfl rfl (Nat.le_of_ble_eq_true rfl) (Nat.le_of_ble_eq_true rfl) rfl (r203 (by omega) hp) rfl ?_
    have H := Option.some.inj H
    subst H
    exact ex_iret (M := 247) (Or.inl rfl)
set_option maxHeartbeats 1000000 in
set_option maxRecDepth 20000 in
theorem e247_47 {Lg : Nat} {xs : Nat → Int32} {d F : Nat} {x4 : Int32} {x5 : Int32} {s0 : Int32} {w1 : Value} {w2 : Value} {w3 : Value} {w6 : Value} {w7 : Value} {S : AmT} {q : Int32 × AmT} (hd : 5 ≤ d) (H : g247_47 F x4 x5 s0 S = some q) : Ex (am_X Lg xs) d 247 am_c247_47 [.ref 95, w1, w2, w3, .int x4, .int x5, w6, w7] [.int s0] (hS S) (some q.1, hS q.2) := by
  obtain ⟨d, rfl⟩ : ∃ d2, d = d2 + 1 := ⟨d - 1, by omega⟩
  unfold g247_47 at H
  refine ex_istore (L2 := [.ref 95, w1, w2, w3, .int x4, .int x5, .int s0, w7]) (Nat.le_of_ble_eq_true rfl) rfl ?_
  refine ex_iload rfl ?_
  by_cases h12 : s0 ≤ 0
  · rw [if_pos h12] at H
    refine ex_if_le_j (ct := am_c247_59) h12 rfl ?_
    refine ex_iload rfl ?_
    refine ex_iconst (v := 0) (by decide) ?_
    refine ex_iconst (v := 2) (by decide) ?_
    refine ex_aload_n rfl ?_
    refine ex_getR (w := 127) rfl rfl rfl ?_
    refine ex_iconst (v := 0) (by decide) ?_
    refine ex_iald (v := S.1 127 0) rfl (by decide) rfl ?_
    refine ex_imul ?_
    refine ex_iconst (v := 1) (by decide) ?_
    refine ex_isub ?_
    obtain ⟨v13, S14, hp, H⟩ := am_b2_el H
    refine ex_callS rfl rfl (Nat.le_of_ble_eq_true rfl) (Nat.le_of_ble_eq_true rfl) (r197 (by omega) hp) rfl ?_
    by_cases h15 : v13 = 0
    · rw [if_pos h15] at H
      refine ex_if_eq_j (ct := am_c247_82) h15 rfl ?_
      refine ex_iconst (v := 2) (by decide) ?_
      exact e247_83 hd H
    · rw [if_neg h15] at H
      refine ex_if_eq_f h15 ?_
      refine ex_iconst (v := 0) (by decide) ?_
      refine ex_goto (ct := am_c247_83) rfl ?_
      exact e247_83 hd H
  · rw [if_neg h12] at H
    refine ex_if_le_f h12 ?_
    refine ex_iload rfl ?_
    refine ex_goto (ct := am_c247_83) rfl ?_
    exact e247_83 hd H
set_option maxHeartbeats 1000000 in
set_option maxRecDepth 20000 in
theorem r247 {Lg : Nat} {xs : Nat → Int32} {d F : Nat} {x1 : Int32} {x2 : Int32} {x3 : Int32} {x4 : Int32} {x5 : Int32} {S : AmT} {q : Int32 × AmT} (hd : 5 ≤ d) (H : f247 F x1 x2 x3 x4 x5 S = some q) : Ex (am_X Lg xs) d 247 (am_P 247) (am_ini (am_Mi 247).1 [.ref 95, .int x1, .int x2, .int x3, .int x4, .int x5]) [] (hS S) (some q.1, hS q.2) := by
  obtain ⟨d, rfl⟩ : ∃ d2, d = d2 + 1 := ⟨d - 1, by omega⟩
  unfold f247 at H
  show Ex (am_X Lg xs) _ 247 am_c247_0 [.ref 95, .int x1, .int x2, .int x3, .int x4, .int x5, .long 0, .long 0] [] (hS S) (some q.1, hS q.2)
  refine ex_aload_n rfl ?_
  refine ex_iload_n rfl ?_
  obtain ⟨v1, S2, hp, H⟩ := am_b2_el H
  refine ex_callV rfl rfl (Nat.le_of_ble_eq_true rfl) (Nat.le_of_ble_eq_true rfl) rfl (r224 (by omega) hp) rfl ?_
  by_cases h3 : v1 = 0
  · rw [if_pos h3] at H
    refine ex_if_ne_f h3 ?_
    refine ex_bipush (v := (-2)) (by decide) ?_
    have H := Option.some.inj H
    subst H
    exact ex_iret (M := 247) (Or.inl rfl)
  · rw [if_neg h3] at H
    refine ex_if_ne_j (ct := am_c247_11) h3 rfl ?_
    refine ex_iload rfl ?_
    refine ex_iconst (v := 0) (by decide) ?_
    refine ex_iconst (v := 3) (by decide) ?_
    obtain ⟨v4, S5, hp, H⟩ := am_b2_el H
    refine ex_callS rfl rfl (Nat.le_of_ble_eq_true rfl) (Nat.le_of_ble_eq_true rfl) (r197 (by omega) hp) rfl ?_
    by_cases h6 : v4 = 0
    · rw [if_pos h6] at H
      refine ex_if_ne_f h6 ?_
      refine ex_iconst (v := (-1)) (by decide) ?_
      have H := Option.some.inj H
      subst H
      exact ex_iret (M := 247) (Or.inl rfl)
    · rw [if_neg h6] at H
      refine ex_if_ne_j (ct := am_c247_23) h6 rfl ?_
      refine ex_iload_n rfl ?_
      refine ex_iload_n rfl ?_
      obtain ⟨v7, S8, hp, H⟩ := am_b2_el H
      refine ex_callS rfl rfl (Nat.le_of_ble_eq_true rfl) (Nat.le_of_ble_eq_true rfl) (r246 (by omega) hp) rfl ?_
      refine ex_istore (L2 := [.ref 95, .int x1, .int x2, .int x3, .int x4, .int x5, .int v7, .long 0]) (Nat.le_of_ble_eq_true rfl) rfl ?_
      refine ex_iload rfl ?_
      by_cases h9 : v7 ≤ 0
      · rw [if_pos h9] at H
        refine ex_if_le_j (ct := am_c247_40) h9 rfl ?_
        refine ex_aload_n rfl ?_
        refine ex_iload_n rfl ?_
        refine ex_iload_n rfl ?_
        refine ex_iload_n rfl ?_
        obtain ⟨v10, S11, hp, H⟩ := am_b2_el H
        refine ex_callV rfl rfl (Nat.le_of_ble_eq_true rfl) (Nat.le_of_ble_eq_true rfl) rfl (r240 (by omega) hp) rfl ?_
        exact e247_47 hd H
      · rw [if_neg h9] at H
        refine ex_if_le_f h9 ?_
        refine ex_iload rfl ?_
        refine ex_goto (ct := am_c247_47) rfl ?_
        exact e247_47 hd H
def g248_35 (F : Nat) (s0 : Int32) (S : AmT) : Option (Int32 × AmT) := if s0 ≤ 0 then (some ((2 * (S.1 127 0)), S)) else (am_b2 (f203 F s0 S) fun v10 S11 => some (v10, S11))
-- X10_faces
def f248 (F : Nat) (x1 : Int32) (x2 : Int32) (x3 : Int32) (S : AmT) : Option (Int32 × AmT) := am_b2 (f224 F x1 S) fun v1 S2 => if v1 = 0 then (some ((-2), S2)) else (am_b2 (f246 F x2 x3 S2) fun v4 S5 => if v4 ≤ 0 then (am_b2 (f240 F x1 x2 x3 S5) fun v7 S8 => g248_35 F v7 S8) else (g248_35 F v4 S5))
set_option maxHeartbeats 1000000 in
set_option maxRecDepth 20000 in
theorem e248_35 {Lg : Nat} {xs : Nat → Int32} {d F : Nat} {s0 : Int32} {w1 : Value} {w2 : Value} {w3 : Value} {w4 : Value} {S : AmT} {q : Int32 × AmT} (hd : 5 ≤ d) (H : g248_35 F s0 S = some q) : Ex (am_X Lg xs) d 248 am_c248_35 [.ref 95, w1, w2, w3, w4] [.int s0] (hS S) (some q.1, hS q.2) := by
  obtain ⟨d, rfl⟩ : ∃ d2, d = d2 + 1 := ⟨d - 1, by omega⟩
  unfold g248_35 at H
  refine ex_istore (L2 := [.ref 95, w1, w2, w3, .int s0]) (Nat.le_of_ble_eq_true rfl) rfl ?_
  refine ex_iload rfl ?_
  by_cases h9 : s0 ≤ 0
  · rw [if_pos h9] at H
    refine ex_if_le_j (ct := am_c248_51) h9 rfl ?_
    refine ex_iconst (v := 2) (by decide) ?_
    refine ex_aload_n rfl ?_
    refine ex_getR (w := 127) rfl rfl rfl ?_
    refine ex_iconst (v := 0) (by decide) ?_
    refine ex_iald (v := S.1 127 0) rfl (by decide) rfl ?_
    refine ex_imul ?_
    have H := Option.some.inj H
    subst H
    exact ex_iret (M := 248) (Or.inl rfl)
  · rw [if_neg h9] at H
    refine ex_if_le_f h9 ?_
    refine ex_aload_n rfl ?_
    refine ex_iload rfl ?_
    obtain ⟨v10, S11, hp, H⟩ := am_b2_el H
    refine ex_callV rfl rfl (Nat.le_of_ble_eq_true rfl) (Nat.le_of_ble_eq_true rfl) rfl (r203 (by omega) hp) rfl ?_
    refine ex_goto (ct := am_c248_59) rfl ?_
    have H := Option.some.inj H
    subst H
    exact ex_iret (M := 248) (Or.inl rfl)
set_option maxHeartbeats 1000000 in
set_option maxRecDepth 20000 in
theorem r248 {Lg : Nat} {xs : Nat → Int32} {d F : Nat} {x1 : Int32} {x2 : Int32} {x3 : Int32} {S : AmT} {q : Int32 × AmT} (hd : 5 ≤ d) (H : f248 F x1 x2 x3 S = some q) : Ex (am_X Lg xs) d 248 (am_P 248) (am_ini (am_Mi 248).1 [.ref 95, .int x1, .int x2, .int x3]) [] (hS S) (some q.1, hS q.2) := by
  obtain ⟨d, rfl⟩ : ∃ d2, d = d2 + 1 := ⟨d - 1, by omega⟩
  unfold f248 at H
  show Ex (am_X Lg xs) _ 248 am_c248_0 [.ref 95, .int x1, .int x2, .int x3, .long 0] [] (hS S) (some q.1, hS q.2)
  refine ex_aload_n rfl ?_
  refine ex_iload_n rfl ?_
  obtain ⟨v1, S2, hp, H⟩ := am_b2_el H
  refine ex_callV rfl rfl (Nat.le_of_ble_eq_true rfl) (Nat.le_of_ble_eq_true rfl) rfl (r224 (by omega) hp) rfl ?_
  by_cases h3 : v1 = 0
  · rw [if_pos h3] at H
    refine ex_if_ne_f h3 ?_
    refine ex_bipush (v := (-2)) (by decide) ?_
    have H := Option.some.inj H
    subst H
    exact ex_iret (M := 248) (Or.inl rfl)
  · rw [if_neg h3] at H
    refine ex_if_ne_j (ct := am_c248_11) h3 rfl ?_
    refine ex_iload_n rfl ?_
    refine ex_iload_n rfl ?_
    obtain ⟨v4, S5, hp, H⟩ := am_b2_el H
    refine ex_callS rfl rfl (Nat.le_of_ble_eq_true rfl) (Nat.le_of_ble_eq_true rfl) (r246 (by omega) hp) rfl ?_
    refine ex_istore (L2 := [.ref 95, .int x1, .int x2, .int x3, .int v4]) (Nat.le_of_ble_eq_true rfl) rfl ?_
    refine ex_iload rfl ?_
    by_cases h6 : v4 ≤ 0
    · rw [if_pos h6] at H
      refine ex_if_le_j (ct := am_c248_28) h6 rfl ?_
      refine ex_aload_n rfl ?_
      refine ex_iload_n rfl ?_
      refine ex_iload_n rfl ?_
      refine ex_iload_n rfl ?_
      obtain ⟨v7, S8, hp, H⟩ := am_b2_el H
      refine ex_callV rfl rfl (Nat.le_of_ble_eq_true rfl) (Nat.le_of_ble_eq_true rfl) rfl (r240 (by omega) hp) rfl ?_
      exact e248_35 hd H
    · rw [if_neg h6] at H
      refine ex_if_le_f h6 ?_
      refine ex_iload rfl ?_
      refine ex_goto (ct := am_c248_35) rfl ?_
      exact e248_35 hd H
def g260_21 (F : Nat) : Nat → Int32 → Int32 → Int32 → AmT → Option (Int32 × AmT)
  | 0, _, _, _, _ => none
  | n + 1, x1, x3, x4, S => if x3 = 0 then (if (2 * (S.1 127 0)) ≤ x4 then (some (x3, S)) else (am_b2 (f241 F x4 S) fun v5 S6 => (f259 F x1 x4 v5 S6).bind fun S7 => g260_21 F n x1 x3 (x4 + 1) S7)) else (some (x3, S))
-- X10_listSheetFaces
def f260 (F : Nat) (x1 : Int32) (x2 : Int32) (S : AmT) : Option (Int32 × AmT) := am_ck x1 16 (am_ck x1 16 (am_b2 (f240 F x2 (S.1 109 x1.toNatClampNeg) (S.1 110 x1.toNatClampNeg) S) fun v1 S2 => g260_21 F F x1 v1 0 S2))
set_option maxHeartbeats 1000000 in
set_option maxRecDepth 20000 in
theorem e260_21 {Lg : Nat} {xs : Nat → Int32} {d F : Nat} (hd : 5 ≤ d) : ∀ (n : Nat) (x1 : Int32) (x3 : Int32) (x4 : Int32) (w2 : Value) (S : AmT) (q : Int32 × AmT), g260_21 F n x1 x3 x4 S = some q → Ex (am_X Lg xs) d 260 am_c260_21 [.ref 95, .int x1, w2, .int x3, .int x4] [] (hS S) (some q.1, hS q.2) := by
  obtain ⟨d, rfl⟩ : ∃ d2, d = d2 + 1 := ⟨d - 1, by omega⟩
  intro n
  induction n with
  | zero =>
    intro x1 x3 x4 w2 S q H
    cases H
  | succ n ih =>
    intro x1 x3 x4 w2 S q H
    have H : (if x3 = 0 then (if (2 * (S.1 127 0)) ≤ x4 then (some (x3, S)) else (am_b2 (f241 F x4 S) fun v5 S6 => (f259 F x1 x4 v5 S6).bind fun S7 => g260_21 F n x1 x3 (x4 + 1) S7)) else (some (x3, S))) = some q := H
    refine ex_iload_n rfl ?_
    by_cases h3 : x3 = 0
    · rw [if_pos h3] at H
      refine ex_if_ne_f h3 ?_
      refine ex_iload rfl ?_
      refine ex_iconst (v := 2) (by decide) ?_
      refine ex_aload_n rfl ?_
      refine ex_getR (w := 127) rfl rfl rfl ?_
      refine ex_iconst (v := 0) (by decide) ?_
      refine ex_iald (v := S.1 127 0) rfl (by decide) rfl ?_
      refine ex_imul ?_
      by_cases h4 : (2 * (S.1 127 0)) ≤ x4
      · rw [if_pos h4] at H
        refine ex_icmp_ge_j (ct := am_c260_57) h4 rfl ?_
        refine ex_iload_n rfl ?_
        have H := Option.some.inj H
        subst H
        exact ex_iret (M := 260) (Or.inl rfl)
      · rw [if_neg h4] at H
        refine ex_icmp_ge_f h4 ?_
        refine ex_aload_n rfl ?_
        refine ex_iload_n rfl ?_
        refine ex_iload rfl ?_
        refine ex_aload_n rfl ?_
        refine ex_iload rfl ?_
        obtain ⟨v5, S6, hp, H⟩ := am_b2_el H
        refine ex_callV rfl rfl (Nat.le_of_ble_eq_true rfl) (Nat.le_of_ble_eq_true rfl) rfl (r241 (by omega) hp) rfl ?_
        obtain ⟨S7, hp, H⟩ := Option.bind_eq_some_iff.mp H
        refine ex_callV rfl rfl (Nat.le_of_ble_eq_true rfl) (Nat.le_of_ble_eq_true rfl) rfl (r259 (by omega) hp) rfl ?_
        refine ex_iinc (L2 := [.ref 95, .int x1, w2, .int x3, .int (x4 + 1)]) (v := (x4 + 1)) rfl (Nat.le_of_ble_eq_true rfl) (congrArg (fun z => x4 + z) (by decide)) rfl ?_
        refine ex_goto (ct := am_c260_21) rfl ?_
        exact ih _ _ _ _ _ _ H
    · rw [if_neg h3] at H
      refine ex_if_ne_j (ct := am_c260_57) h3 rfl ?_
      refine ex_iload_n rfl ?_
      have H := Option.some.inj H
      subst H
      exact ex_iret (M := 260) (Or.inl rfl)
set_option maxHeartbeats 1000000 in
set_option maxRecDepth 20000 in
theorem r260 {Lg : Nat} {xs : Nat → Int32} {d F : Nat} {x1 : Int32} {x2 : Int32} {S : AmT} {q : Int32 × AmT} (hd : 5 ≤ d) (H : f260 F x1 x2 S = some q) : Ex (am_X Lg xs) d 260 (am_P 260) (am_ini (am_Mi 260).1 [.ref 95, .int x1, .int x2]) [] (hS S) (some q.1, hS q.2) := by
  obtain ⟨d, rfl⟩ : ∃ d2, d = d2 + 1 := ⟨d - 1, by omega⟩
  unfold f260 at H
  show Ex (am_X Lg xs) _ 260 am_c260_0 [.ref 95, .int x1, .int x2, .long 0, .long 0] [] (hS S) (some q.1, hS q.2)
  refine ex_aload_n rfl ?_
  refine ex_iload_n rfl ?_
  refine ex_aload_n rfl ?_
  refine ex_getR (w := 109) rfl rfl rfl ?_
  refine ex_iload_n rfl ?_
  obtain ⟨hj, H⟩ := am_ck_el H
  refine ex_iald (k := 16) (v := S.1 109 x1.toNatClampNeg) rfl hj rfl ?_
  refine ex_aload_n rfl ?_
  refine ex_getR (w := 110) rfl rfl rfl ?_
  refine ex_iload_n rfl ?_
  obtain ⟨hj, H⟩ := am_ck_el H
  refine ex_iald (k := 16) (v := S.1 110 x1.toNatClampNeg) rfl hj rfl ?_
  obtain ⟨v1, S2, hp, H⟩ := am_b2_el H
  refine ex_callV rfl rfl (Nat.le_of_ble_eq_true rfl) (Nat.le_of_ble_eq_true rfl) rfl (r240 (by omega) hp) rfl ?_
  refine ex_istore_n (L2 := [.ref 95, .int x1, .int x2, .int v1, .long 0]) (Nat.le_of_ble_eq_true rfl) rfl ?_
  refine ex_iconst (v := 0) (by decide) ?_
  refine ex_istore (L2 := [.ref 95, .int x1, .int x2, .int v1, .int 0]) (Nat.le_of_ble_eq_true rfl) rfl ?_
  exact e260_21 hd _ _ _ _ _ _ _ H
def g261_236 (F : Nat) (k212 : Int32 → Int32 → AmT → Option (Int32 × AmT)) : Nat → Int32 → Int32 → Int32 → AmT → Option (Int32 × AmT)
  | 0, _, _, _, _ => none
  | n + 1, x1, x3, x4, S => am_ck x3 4 (if (S.1 133 x3.toNatClampNeg) ≤ x4 then (k212 x1 (x3 + (-1)) S) else (am_ck ((4 * x1) + x3) 32 (am_ck ((128 * x3) + x4) 512 ((f259 F (S.1 121 ((4 * x1) + x3).toNatClampNeg) x4 (S.1 132 ((128 * x3) + x4).toNatClampNeg) S).bind fun S6 => g261_236 F k212 n x1 x3 (x4 + 1) S6))))
def g261_212 (F : Nat) : Nat → Int32 → Int32 → AmT → Option (Int32 × AmT)
  | 0, _, _, _ => none
  | n + 1, x1, x3, S => if x3 < 0 then (some (0, S)) else (am_ck x1 8 (if (S.1 119 x1.toNatClampNeg) = 1 then (am_ck x3 4 (g261_236 F (fun x1 x3 S => g261_212 F n x1 x3 S) F x1 x3 ((S.1 133 x3.toNatClampNeg) / 2) S)) else (some (0, S))))
def g261_155 (F : Nat) (k114 : Int32 → Int32 → AmT → Option (Int32 × AmT)) : Nat → Int32 → Int32 → Int32 → Int32 → AmT → Option (Int32 × AmT)
  | 0, _, _, _, _, _ => none
  | n + 1, x1, x3, x4, x5, S => if x4 ≤ x5 then (k114 x1 (x3 + 1) S) else (am_ck ((4 * x1) + x3) 32 (am_ck ((128 * x3) + x5) 512 ((f259 F (S.1 121 ((4 * x1) + x3).toNatClampNeg) x5 (S.1 132 ((128 * x3) + x5).toNatClampNeg) S).bind fun S9 => g261_155 F k114 n x1 x3 x4 (x5 + 1) S9)))
def g261_150 (F : Nat) (k114 : Int32 → Int32 → AmT → Option (Int32 × AmT)) (x1 : Int32) (x3 : Int32) (s0 : Int32) (S : AmT) : Option (Int32 × AmT) := g261_155 F k114 F x1 x3 s0 0 S
def g261_114 (F : Nat) : Nat → Int32 → Int32 → AmT → Option (Int32 × AmT)
  | 0, _, _, _ => none
  | n + 1, x1, x3, S => am_ck x1 8 (if (S.1 120 x1.toNatClampNeg) ≤ x3 then (am_ck x1 8 (g261_212 F F x1 ((S.1 120 x1.toNatClampNeg) - 1) S)) else (am_ck x1 8 (if (S.1 119 x1.toNatClampNeg) = 0 then (am_ck x3 4 (g261_150 F (fun x1 x3 S => g261_114 F n x1 x3 S) x1 x3 (S.1 133 x3.toNatClampNeg) S)) else (am_ck x3 4 (g261_150 F (fun x1 x3 S => g261_114 F n x1 x3 S) x1 x3 ((S.1 133 x3.toNatClampNeg) / 2) S)))))
def g261_70 (F : Nat) (k2 : Int32 → Int32 → Int32 → AmT → Option (Int32 × AmT)) : Nat → Int32 → Int32 → Int32 → Int32 → AmT → Option (Int32 × AmT)
  | 0, _, _, _, _, _ => none
  | n + 1, x1, x2, x3, x6, S => am_ck x3 4 (if (S.1 133 x3.toNatClampNeg) ≤ x6 then (k2 x1 x2 (x3 + 1) S) else (am_b2 (f241 F x6 S) fun v15 S16 => am_ck ((128 * x3) + x6) 512 (am_lt ((am_upI S16.1 132 ((128 * x3) + x6).toNatClampNeg v15, S16.2) : AmT) fun S17 => g261_70 F k2 n x1 x2 x3 (x6 + 1) S17)))
def g261_2 (F : Nat) : Nat → Int32 → Int32 → Int32 → AmT → Option (Int32 × AmT)
  | 0, _, _, _, _ => none
  | n + 1, x1, x2, x3, S => am_ck x1 8 (if (S.1 120 x1.toNatClampNeg) ≤ x3 then (g261_114 F F x1 0 S) else (am_ck ((4 * x1) + x3) 32 (am_ck (S.1 121 ((4 * x1) + x3).toNatClampNeg) 16 (am_ck (S.1 121 ((4 * x1) + x3).toNatClampNeg) 16 (am_b2 (f240 F x2 (S.1 109 (S.1 121 ((4 * x1) + x3).toNatClampNeg).toNatClampNeg) (S.1 110 (S.1 121 ((4 * x1) + x3).toNatClampNeg).toNatClampNeg) S) fun v10 S11 => if v10 ≤ 0 then (am_ck x3 4 (am_lt ((am_upI S11.1 133 x3.toNatClampNeg (2 * (S11.1 127 0)), S11.2) : AmT) fun S13 => g261_70 F (fun x1 x2 x3 S => g261_2 F n x1 x2 x3 S) F x1 x2 x3 0 S13)) else (some (v10, S11)))))))
-- X10_listSignature
def f261 (F : Nat) (x1 : Int32) (x2 : Int32) (S : AmT) : Option (Int32 × AmT) := g261_2 F F x1 x2 0 S
set_option maxHeartbeats 1000000 in
set_option maxRecDepth 20000 in
theorem e261_236 {Lg : Nat} {xs : Nat → Int32} {d F : Nat} {k212 : Int32 → Int32 → AmT → Option (Int32 × AmT)} (hd : 5 ≤ d) (hk212 : ∀ (x1 : Int32) (x3 : Int32) (w2 : Value) (w4 : Value) (w5 : Value) (w6 : Value) (S : AmT) (q : Int32 × AmT), k212 x1 x3 S = some q → Ex (am_X Lg xs) d 261 am_c261_212 [.ref 95, .int x1, w2, .int x3, w4, w5, w6] [] (hS S) (some q.1, hS q.2)) : ∀ (n : Nat) (x1 : Int32) (x3 : Int32) (x4 : Int32) (w2 : Value) (w5 : Value) (w6 : Value) (S : AmT) (q : Int32 × AmT), g261_236 F k212 n x1 x3 x4 S = some q → Ex (am_X Lg xs) d 261 am_c261_236 [.ref 95, .int x1, w2, .int x3, .int x4, w5, w6] [] (hS S) (some q.1, hS q.2) := by
  obtain ⟨d, rfl⟩ : ∃ d2, d = d2 + 1 := ⟨d - 1, by omega⟩
  intro n
  induction n with
  | zero =>
    intro x1 x3 x4 w2 w5 w6 S q H
    cases H
  | succ n ih =>
    intro x1 x3 x4 w2 w5 w6 S q H
    have H : (am_ck x3 4 (if (S.1 133 x3.toNatClampNeg) ≤ x4 then (k212 x1 (x3 + (-1)) S) else (am_ck ((4 * x1) + x3) 32 (am_ck ((128 * x3) + x4) 512 ((f259 F (S.1 121 ((4 * x1) + x3).toNatClampNeg) x4 (S.1 132 ((128 * x3) + x4).toNatClampNeg) S).bind fun S6 => g261_236 F k212 n x1 x3 (x4 + 1) S6))))) = some q := H
    refine ex_iload rfl ?_
    refine ex_aload_n rfl ?_
    refine ex_getR (w := 133) rfl rfl rfl ?_
    refine ex_iload_n rfl ?_
    obtain ⟨hj, H⟩ := am_ck_el H
    refine ex_iald (k := 4) (v := S.1 133 x3.toNatClampNeg) rfl hj rfl ?_
    by_cases h5 : (S.1 133 x3.toNatClampNeg) ≤ x4
    · rw [if_pos h5] at H
      refine ex_icmp_ge_j (ct := am_c261_282) h5 rfl ?_
      refine ex_iinc (L2 := [.ref 95, .int x1, w2, .int (x3 + (-1)), .int x4, w5, w6]) (v := (x3 + (-1))) rfl (Nat.le_of_ble_eq_true rfl) (congrArg (fun z => x3 + z) (by decide)) rfl ?_
      refine ex_goto (ct := am_c261_212) rfl ?_
      exact hk212 _ _ _ _ _ _ _ _ H
    · rw [if_neg h5] at H
      refine ex_icmp_ge_f h5 ?_
      refine ex_aload_n rfl ?_
      refine ex_aload_n rfl ?_
      refine ex_getR (w := 121) rfl rfl rfl ?_
      refine ex_iconst (v := 4) (by decide) ?_
      refine ex_iload_n rfl ?_
      refine ex_imul ?_
      refine ex_iload_n rfl ?_
      refine ex_iadd ?_
      obtain ⟨hj, H⟩ := am_ck_el H
      refine ex_iald (k := 32) (v := S.1 121 ((4 * x1) + x3).toNatClampNeg) rfl hj rfl ?_
      refine ex_iload rfl ?_
      refine ex_aload_n rfl ?_
      refine ex_getR (w := 132) rfl rfl rfl ?_
      refine ex_sipush (v := 128) (by decide) ?_
      refine ex_iload_n rfl ?_
      refine ex_imul ?_
      refine ex_iload rfl ?_
      refine ex_iadd ?_
      obtain ⟨hj, H⟩ := am_ck_el H
      refine ex_iald (k := 512) (v := S.1 132 ((128 * x3) + x4).toNatClampNeg) rfl hj rfl ?_
      obtain ⟨S6, hp, H⟩ := Option.bind_eq_some_iff.mp H
      refine ex_callV rfl rfl (Nat.le_of_ble_eq_true rfl) (Nat.le_of_ble_eq_true rfl) rfl (r259 (by omega) hp) rfl ?_
      refine ex_iinc (L2 := [.ref 95, .int x1, w2, .int x3, .int (x4 + 1), w5, w6]) (v := (x4 + 1)) rfl (Nat.le_of_ble_eq_true rfl) (congrArg (fun z => x4 + z) (by decide)) rfl ?_
      refine ex_goto (ct := am_c261_236) rfl ?_
      exact ih _ _ _ _ _ _ _ _ H
set_option maxHeartbeats 1000000 in
set_option maxRecDepth 20000 in
theorem e261_212 {Lg : Nat} {xs : Nat → Int32} {d F : Nat} (hd : 5 ≤ d) : ∀ (n : Nat) (x1 : Int32) (x3 : Int32) (w2 : Value) (w4 : Value) (w5 : Value) (w6 : Value) (S : AmT) (q : Int32 × AmT), g261_212 F n x1 x3 S = some q → Ex (am_X Lg xs) d 261 am_c261_212 [.ref 95, .int x1, w2, .int x3, w4, w5, w6] [] (hS S) (some q.1, hS q.2) := by
  obtain ⟨d, rfl⟩ : ∃ d2, d = d2 + 1 := ⟨d - 1, by omega⟩
  intro n
  induction n with
  | zero =>
    intro x1 x3 w2 w4 w5 w6 S q H
    cases H
  | succ n ih =>
    intro x1 x3 w2 w4 w5 w6 S q H
    have H : (if x3 < 0 then (some (0, S)) else (am_ck x1 8 (if (S.1 119 x1.toNatClampNeg) = 1 then (am_ck x3 4 (g261_236 F (fun x1 x3 S => g261_212 F n x1 x3 S) F x1 x3 ((S.1 133 x3.toNatClampNeg) / 2) S)) else (some (0, S))))) = some q := H
    refine ex_iload_n rfl ?_
    by_cases h3 : x3 < 0
    · rw [if_pos h3] at H
      refine ex_if_lt_j (ct := am_c261_288) h3 rfl ?_
      refine ex_iconst (v := 0) (by decide) ?_
      have H := Option.some.inj H
      subst H
      exact ex_iret (M := 261) (Or.inl rfl)
    · rw [if_neg h3] at H
      refine ex_if_lt_f h3 ?_
      refine ex_aload_n rfl ?_
      refine ex_getR (w := 119) rfl rfl rfl ?_
      refine ex_iload_n rfl ?_
      obtain ⟨hj, H⟩ := am_ck_el H
      refine ex_iald (k := 8) (v := S.1 119 x1.toNatClampNeg) rfl hj rfl ?_
      refine ex_iconst (v := 1) (by decide) ?_
      by_cases h4 : (S.1 119 x1.toNatClampNeg) = 1
      · rw [if_pos h4] at H
        refine ex_icmp_ne_f h4 ?_
        refine ex_aload_n rfl ?_
        refine ex_getR (w := 133) rfl rfl rfl ?_
        refine ex_iload_n rfl ?_
        obtain ⟨hj, H⟩ := am_ck_el H
        refine ex_iald (k := 4) (v := S.1 133 x3.toNatClampNeg) rfl hj rfl ?_
        refine ex_iconst (v := 2) (by decide) ?_
        refine ex_idiv (by decide) ?_
        refine ex_istore (L2 := [.ref 95, .int x1, w2, .int x3, .int ((S.1 133 x3.toNatClampNeg) / 2), w5, w6]) (Nat.le_of_ble_eq_true rfl) rfl ?_
        exact e261_236 hd (fun x1 x3 w2 w4 w5 w6 S q H => ih x1 x3 w2 w4 w5 w6 S q H) _ _ _ _ _ _ _ _ _ H
      · rw [if_neg h4] at H
        refine ex_icmp_ne_j (ct := am_c261_288) h4 rfl ?_
        refine ex_iconst (v := 0) (by decide) ?_
        have H := Option.some.inj H
        subst H
        exact ex_iret (M := 261) (Or.inl rfl)
set_option maxHeartbeats 1000000 in
set_option maxRecDepth 20000 in
theorem e261_155 {Lg : Nat} {xs : Nat → Int32} {d F : Nat} {k114 : Int32 → Int32 → AmT → Option (Int32 × AmT)} (hd : 5 ≤ d) (hk114 : ∀ (x1 : Int32) (x3 : Int32) (w2 : Value) (w4 : Value) (w5 : Value) (w6 : Value) (S : AmT) (q : Int32 × AmT), k114 x1 x3 S = some q → Ex (am_X Lg xs) d 261 am_c261_114 [.ref 95, .int x1, w2, .int x3, w4, w5, w6] [] (hS S) (some q.1, hS q.2)) : ∀ (n : Nat) (x1 : Int32) (x3 : Int32) (x4 : Int32) (x5 : Int32) (w2 : Value) (w6 : Value) (S : AmT) (q : Int32 × AmT), g261_155 F k114 n x1 x3 x4 x5 S = some q → Ex (am_X Lg xs) d 261 am_c261_155 [.ref 95, .int x1, w2, .int x3, .int x4, .int x5, w6] [] (hS S) (some q.1, hS q.2) := by
  obtain ⟨d, rfl⟩ : ∃ d2, d = d2 + 1 := ⟨d - 1, by omega⟩
  intro n
  induction n with
  | zero =>
    intro x1 x3 x4 x5 w2 w6 S q H
    cases H
  | succ n ih =>
    intro x1 x3 x4 x5 w2 w6 S q H
    have H : (if x4 ≤ x5 then (k114 x1 (x3 + 1) S) else (am_ck ((4 * x1) + x3) 32 (am_ck ((128 * x3) + x5) 512 ((f259 F (S.1 121 ((4 * x1) + x3).toNatClampNeg) x5 (S.1 132 ((128 * x3) + x5).toNatClampNeg) S).bind fun S9 => g261_155 F k114 n x1 x3 x4 (x5 + 1) S9)))) = some q := H
    refine ex_iload rfl ?_
    refine ex_iload rfl ?_
    by_cases h8 : x4 ≤ x5
    · rw [if_pos h8] at H
      refine ex_icmp_ge_j (ct := am_c261_197) h8 rfl ?_
      refine ex_iinc (L2 := [.ref 95, .int x1, w2, .int (x3 + 1), .int x4, .int x5, w6]) (v := (x3 + 1)) rfl (Nat.le_of_ble_eq_true rfl) (congrArg (fun z => x3 + z) (by decide)) rfl ?_
      refine ex_goto (ct := am_c261_114) rfl ?_
      exact hk114 _ _ _ _ _ _ _ _ H
    · rw [if_neg h8] at H
      refine ex_icmp_ge_f h8 ?_
      refine ex_aload_n rfl ?_
      refine ex_aload_n rfl ?_
      refine ex_getR (w := 121) rfl rfl rfl ?_
      refine ex_iconst (v := 4) (by decide) ?_
      refine ex_iload_n rfl ?_
      refine ex_imul ?_
      refine ex_iload_n rfl ?_
      refine ex_iadd ?_
      obtain ⟨hj, H⟩ := am_ck_el H
      refine ex_iald (k := 32) (v := S.1 121 ((4 * x1) + x3).toNatClampNeg) rfl hj rfl ?_
      refine ex_iload rfl ?_
      refine ex_aload_n rfl ?_
      refine ex_getR (w := 132) rfl rfl rfl ?_
      refine ex_sipush (v := 128) (by decide) ?_
      refine ex_iload_n rfl ?_
      refine ex_imul ?_
      refine ex_iload rfl ?_
      refine ex_iadd ?_
      obtain ⟨hj, H⟩ := am_ck_el H
      refine ex_iald (k := 512) (v := S.1 132 ((128 * x3) + x5).toNatClampNeg) rfl hj rfl ?_
      obtain ⟨S9, hp, H⟩ := Option.bind_eq_some_iff.mp H
      refine ex_callV rfl rfl (Nat.le_of_ble_eq_true rfl) (Nat.le_of_ble_eq_true rfl) rfl (r259 (by omega) hp) rfl ?_
      refine ex_iinc (L2 := [.ref 95, .int x1, w2, .int x3, .int x4, .int (x5 + 1), w6]) (v := (x5 + 1)) rfl (Nat.le_of_ble_eq_true rfl) (congrArg (fun z => x5 + z) (by decide)) rfl ?_
      refine ex_goto (ct := am_c261_155) rfl ?_
      exact ih _ _ _ _ _ _ _ _ H
set_option maxHeartbeats 1000000 in
set_option maxRecDepth 20000 in
theorem e261_150 {Lg : Nat} {xs : Nat → Int32} {d F : Nat} {k114 : Int32 → Int32 → AmT → Option (Int32 × AmT)} {x1 : Int32} {x3 : Int32} {s0 : Int32} {w2 : Value} {w4 : Value} {w5 : Value} {w6 : Value} {S : AmT} {q : Int32 × AmT} (hd : 5 ≤ d) (hk114 : ∀ (x1 : Int32) (x3 : Int32) (w2 : Value) (w4 : Value) (w5 : Value) (w6 : Value) (S : AmT) (q : Int32 × AmT), k114 x1 x3 S = some q → Ex (am_X Lg xs) d 261 am_c261_114 [.ref 95, .int x1, w2, .int x3, w4, w5, w6] [] (hS S) (some q.1, hS q.2)) (H : g261_150 F k114 x1 x3 s0 S = some q) : Ex (am_X Lg xs) d 261 am_c261_150 [.ref 95, .int x1, w2, .int x3, w4, w5, w6] [.int s0] (hS S) (some q.1, hS q.2) := by
  obtain ⟨d, rfl⟩ : ∃ d2, d = d2 + 1 := ⟨d - 1, by omega⟩
  unfold g261_150 at H
  refine ex_istore (L2 := [.ref 95, .int x1, w2, .int x3, .int s0, w5, w6]) (Nat.le_of_ble_eq_true rfl) rfl ?_
  refine ex_iconst (v := 0) (by decide) ?_
  refine ex_istore (L2 := [.ref 95, .int x1, w2, .int x3, .int s0, .int 0, w6]) (Nat.le_of_ble_eq_true rfl) rfl ?_
  exact e261_155 hd hk114 _ _ _ _ _ _ _ _ _ H
set_option maxHeartbeats 1000000 in
set_option maxRecDepth 20000 in
theorem e261_114 {Lg : Nat} {xs : Nat → Int32} {d F : Nat} (hd : 5 ≤ d) : ∀ (n : Nat) (x1 : Int32) (x3 : Int32) (w2 : Value) (w4 : Value) (w5 : Value) (w6 : Value) (S : AmT) (q : Int32 × AmT), g261_114 F n x1 x3 S = some q → Ex (am_X Lg xs) d 261 am_c261_114 [.ref 95, .int x1, w2, .int x3, w4, w5, w6] [] (hS S) (some q.1, hS q.2) := by
  obtain ⟨d, rfl⟩ : ∃ d2, d = d2 + 1 := ⟨d - 1, by omega⟩
  intro n
  induction n with
  | zero =>
    intro x1 x3 w2 w4 w5 w6 S q H
    cases H
  | succ n ih =>
    intro x1 x3 w2 w4 w5 w6 S q H
    have H : (am_ck x1 8 (if (S.1 120 x1.toNatClampNeg) ≤ x3 then (am_ck x1 8 (g261_212 F F x1 ((S.1 120 x1.toNatClampNeg) - 1) S)) else (am_ck x1 8 (if (S.1 119 x1.toNatClampNeg) = 0 then (am_ck x3 4 (g261_150 F (fun x1 x3 S => g261_114 F n x1 x3 S) x1 x3 (S.1 133 x3.toNatClampNeg) S)) else (am_ck x3 4 (g261_150 F (fun x1 x3 S => g261_114 F n x1 x3 S) x1 x3 ((S.1 133 x3.toNatClampNeg) / 2) S)))))) = some q := H
    refine ex_iload_n rfl ?_
    refine ex_aload_n rfl ?_
    refine ex_getR (w := 120) rfl rfl rfl ?_
    refine ex_iload_n rfl ?_
    obtain ⟨hj, H⟩ := am_ck_el H
    refine ex_iald (k := 8) (v := S.1 120 x1.toNatClampNeg) rfl hj rfl ?_
    by_cases h2 : (S.1 120 x1.toNatClampNeg) ≤ x3
    · rw [if_pos h2] at H
      refine ex_icmp_ge_j (ct := am_c261_203) h2 rfl ?_
      refine ex_aload_n rfl ?_
      refine ex_getR (w := 120) rfl rfl rfl ?_
      refine ex_iload_n rfl ?_
      obtain ⟨hj, H⟩ := am_ck_el H
      refine ex_iald (k := 8) (v := S.1 120 x1.toNatClampNeg) rfl hj rfl ?_
      refine ex_iconst (v := 1) (by decide) ?_
      refine ex_isub ?_
      refine ex_istore_n (L2 := [.ref 95, .int x1, w2, .int ((S.1 120 x1.toNatClampNeg) - 1), w4, w5, w6]) (Nat.le_of_ble_eq_true rfl) rfl ?_
      exact e261_212 hd _ _ _ _ _ _ _ _ _ H
    · rw [if_neg h2] at H
      refine ex_icmp_ge_f h2 ?_
      refine ex_aload_n rfl ?_
      refine ex_getR (w := 119) rfl rfl rfl ?_
      refine ex_iload_n rfl ?_
      obtain ⟨hj, H⟩ := am_ck_el H
      refine ex_iald (k := 8) (v := S.1 119 x1.toNatClampNeg) rfl hj rfl ?_
      by_cases h7 : (S.1 119 x1.toNatClampNeg) = 0
      · rw [if_pos h7] at H
        refine ex_if_ne_f h7 ?_
        refine ex_aload_n rfl ?_
        refine ex_getR (w := 133) rfl rfl rfl ?_
        refine ex_iload_n rfl ?_
        obtain ⟨hj, H⟩ := am_ck_el H
        refine ex_iald (k := 4) (v := S.1 133 x3.toNatClampNeg) rfl hj rfl ?_
        refine ex_goto (ct := am_c261_150) rfl ?_
        exact e261_150 hd (fun x1 x3 w2 w4 w5 w6 S q H => ih x1 x3 w2 w4 w5 w6 S q H) H
      · rw [if_neg h7] at H
        refine ex_if_ne_j (ct := am_c261_142) h7 rfl ?_
        refine ex_aload_n rfl ?_
        refine ex_getR (w := 133) rfl rfl rfl ?_
        refine ex_iload_n rfl ?_
        obtain ⟨hj, H⟩ := am_ck_el H
        refine ex_iald (k := 4) (v := S.1 133 x3.toNatClampNeg) rfl hj rfl ?_
        refine ex_iconst (v := 2) (by decide) ?_
        refine ex_idiv (by decide) ?_
        exact e261_150 hd (fun x1 x3 w2 w4 w5 w6 S q H => ih x1 x3 w2 w4 w5 w6 S q H) H
set_option maxHeartbeats 1000000 in
set_option maxRecDepth 20000 in
theorem e261_70 {Lg : Nat} {xs : Nat → Int32} {d F : Nat} {k2 : Int32 → Int32 → Int32 → AmT → Option (Int32 × AmT)} (hd : 5 ≤ d) (hk2 : ∀ (x1 : Int32) (x2 : Int32) (x3 : Int32) (w4 : Value) (w5 : Value) (w6 : Value) (S : AmT) (q : Int32 × AmT), k2 x1 x2 x3 S = some q → Ex (am_X Lg xs) d 261 am_c261_2 [.ref 95, .int x1, .int x2, .int x3, w4, w5, w6] [] (hS S) (some q.1, hS q.2)) : ∀ (n : Nat) (x1 : Int32) (x2 : Int32) (x3 : Int32) (x6 : Int32) (w4 : Value) (w5 : Value) (S : AmT) (q : Int32 × AmT), g261_70 F k2 n x1 x2 x3 x6 S = some q → Ex (am_X Lg xs) d 261 am_c261_70 [.ref 95, .int x1, .int x2, .int x3, w4, w5, .int x6] [] (hS S) (some q.1, hS q.2) := by
  obtain ⟨d, rfl⟩ : ∃ d2, d = d2 + 1 := ⟨d - 1, by omega⟩
  intro n
  induction n with
  | zero =>
    intro x1 x2 x3 x6 w4 w5 S q H
    cases H
  | succ n ih =>
    intro x1 x2 x3 x6 w4 w5 S q H
    have H : (am_ck x3 4 (if (S.1 133 x3.toNatClampNeg) ≤ x6 then (k2 x1 x2 (x3 + 1) S) else (am_b2 (f241 F x6 S) fun v15 S16 => am_ck ((128 * x3) + x6) 512 (am_lt ((am_upI S16.1 132 ((128 * x3) + x6).toNatClampNeg v15, S16.2) : AmT) fun S17 => g261_70 F k2 n x1 x2 x3 (x6 + 1) S17)))) = some q := H
    refine ex_iload rfl ?_
    refine ex_aload_n rfl ?_
    refine ex_getR (w := 133) rfl rfl rfl ?_
    refine ex_iload_n rfl ?_
    obtain ⟨hj, H⟩ := am_ck_el H
    refine ex_iald (k := 4) (v := S.1 133 x3.toNatClampNeg) rfl hj rfl ?_
    by_cases h14 : (S.1 133 x3.toNatClampNeg) ≤ x6
    · rw [if_pos h14] at H
      refine ex_icmp_ge_j (ct := am_c261_106) h14 rfl ?_
      refine ex_iinc (L2 := [.ref 95, .int x1, .int x2, .int (x3 + 1), w4, w5, .int x6]) (v := (x3 + 1)) rfl (Nat.le_of_ble_eq_true rfl) (congrArg (fun z => x3 + z) (by decide)) rfl ?_
      refine ex_goto (ct := am_c261_2) rfl ?_
      exact hk2 _ _ _ _ _ _ _ _ H
    · rw [if_neg h14] at H
      refine ex_icmp_ge_f h14 ?_
      refine ex_aload_n rfl ?_
      refine ex_getR (w := 132) rfl rfl rfl ?_
      refine ex_sipush (v := 128) (by decide) ?_
      refine ex_iload_n rfl ?_
      refine ex_imul ?_
      refine ex_iload rfl ?_
      refine ex_iadd ?_
      refine ex_aload_n rfl ?_
      refine ex_iload rfl ?_
      obtain ⟨v15, S16, hp, H⟩ := am_b2_el H
      refine ex_callV rfl rfl (Nat.le_of_ble_eq_true rfl) (Nat.le_of_ble_eq_true rfl) rfl (r241 (by omega) hp) rfl ?_
      obtain ⟨hj, H⟩ := am_ck_el H
      refine ex_iast (k := 512) rfl rfl hj ?_
      generalize ((am_upI S16.1 132 ((128 * x3) + x6).toNatClampNeg v15, S16.2) : AmT) = S17 at H ⊢
      have H := am_lt_el H
      refine ex_iinc (L2 := [.ref 95, .int x1, .int x2, .int x3, w4, w5, .int (x6 + 1)]) (v := (x6 + 1)) rfl (Nat.le_of_ble_eq_true rfl) (congrArg (fun z => x6 + z) (by decide)) rfl ?_
      refine ex_goto (ct := am_c261_70) rfl ?_
      exact ih _ _ _ _ _ _ _ _ H
set_option maxHeartbeats 1000000 in
set_option maxRecDepth 20000 in
theorem e261_2 {Lg : Nat} {xs : Nat → Int32} {d F : Nat} (hd : 5 ≤ d) : ∀ (n : Nat) (x1 : Int32) (x2 : Int32) (x3 : Int32) (w4 : Value) (w5 : Value) (w6 : Value) (S : AmT) (q : Int32 × AmT), g261_2 F n x1 x2 x3 S = some q → Ex (am_X Lg xs) d 261 am_c261_2 [.ref 95, .int x1, .int x2, .int x3, w4, w5, w6] [] (hS S) (some q.1, hS q.2) := by
  obtain ⟨d, rfl⟩ : ∃ d2, d = d2 + 1 := ⟨d - 1, by omega⟩
  intro n
  induction n with
  | zero =>
    intro x1 x2 x3 w4 w5 w6 S q H
    cases H
  | succ n ih =>
    intro x1 x2 x3 w4 w5 w6 S q H
    have H : (am_ck x1 8 (if (S.1 120 x1.toNatClampNeg) ≤ x3 then (g261_114 F F x1 0 S) else (am_ck ((4 * x1) + x3) 32 (am_ck (S.1 121 ((4 * x1) + x3).toNatClampNeg) 16 (am_ck (S.1 121 ((4 * x1) + x3).toNatClampNeg) 16 (am_b2 (f240 F x2 (S.1 109 (S.1 121 ((4 * x1) + x3).toNatClampNeg).toNatClampNeg) (S.1 110 (S.1 121 ((4 * x1) + x3).toNatClampNeg).toNatClampNeg) S) fun v10 S11 => if v10 ≤ 0 then (am_ck x3 4 (am_lt ((am_upI S11.1 133 x3.toNatClampNeg (2 * (S11.1 127 0)), S11.2) : AmT) fun S13 => g261_70 F (fun x1 x2 x3 S => g261_2 F n x1 x2 x3 S) F x1 x2 x3 0 S13)) else (some (v10, S11)))))))) = some q := H
    refine ex_iload_n rfl ?_
    refine ex_aload_n rfl ?_
    refine ex_getR (w := 120) rfl rfl rfl ?_
    refine ex_iload_n rfl ?_
    obtain ⟨hj, H⟩ := am_ck_el H
    refine ex_iald (k := 8) (v := S.1 120 x1.toNatClampNeg) rfl hj rfl ?_
    by_cases h1 : (S.1 120 x1.toNatClampNeg) ≤ x3
    · rw [if_pos h1] at H
      refine ex_icmp_ge_j (ct := am_c261_112) h1 rfl ?_
      refine ex_iconst (v := 0) (by decide) ?_
      refine ex_istore_n (L2 := [.ref 95, .int x1, .int x2, .int 0, w4, w5, w6]) (Nat.le_of_ble_eq_true rfl) rfl ?_
      exact e261_114 hd _ _ _ _ _ _ _ _ _ H
    · rw [if_neg h1] at H
      refine ex_icmp_ge_f h1 ?_
      refine ex_aload_n rfl ?_
      refine ex_getR (w := 121) rfl rfl rfl ?_
      refine ex_iconst (v := 4) (by decide) ?_
      refine ex_iload_n rfl ?_
      refine ex_imul ?_
      refine ex_iload_n rfl ?_
      refine ex_iadd ?_
      obtain ⟨hj, H⟩ := am_ck_el H
      refine ex_iald (k := 32) (v := S.1 121 ((4 * x1) + x3).toNatClampNeg) rfl hj rfl ?_
      refine ex_istore (L2 := [.ref 95, .int x1, .int x2, .int x3, .int (S.1 121 ((4 * x1) + x3).toNatClampNeg), w5, w6]) (Nat.le_of_ble_eq_true rfl) rfl ?_
      refine ex_aload_n rfl ?_
      refine ex_iload_n rfl ?_
      refine ex_aload_n rfl ?_
      refine ex_getR (w := 109) rfl rfl rfl ?_
      refine ex_iload rfl ?_
      obtain ⟨hj, H⟩ := am_ck_el H
      refine ex_iald (k := 16) (v := S.1 109 (S.1 121 ((4 * x1) + x3).toNatClampNeg).toNatClampNeg) rfl hj rfl ?_
      refine ex_aload_n rfl ?_
      refine ex_getR (w := 110) rfl rfl rfl ?_
      refine ex_iload rfl ?_
      obtain ⟨hj, H⟩ := am_ck_el H
      refine ex_iald (k := 16) (v := S.1 110 (S.1 121 ((4 * x1) + x3).toNatClampNeg).toNatClampNeg) rfl hj rfl ?_
      obtain ⟨v10, S11, hp, H⟩ := am_b2_el H
      refine ex_callV rfl rfl (Nat.le_of_ble_eq_true rfl) (Nat.le_of_ble_eq_true rfl) rfl (r240 (by omega) hp) rfl ?_
      refine ex_istore (L2 := [.ref 95, .int x1, .int x2, .int x3, .int (S.1 121 ((4 * x1) + x3).toNatClampNeg), .int v10, w6]) (Nat.le_of_ble_eq_true rfl) rfl ?_
      refine ex_iload rfl ?_
      by_cases h12 : v10 ≤ 0
      · rw [if_pos h12] at H
        refine ex_if_le_j (ct := am_c261_53) h12 rfl ?_
        refine ex_aload_n rfl ?_
        refine ex_getR (w := 133) rfl rfl rfl ?_
        refine ex_iload_n rfl ?_
        refine ex_iconst (v := 2) (by decide) ?_
        refine ex_aload_n rfl ?_
        refine ex_getR (w := 127) rfl rfl rfl ?_
        refine ex_iconst (v := 0) (by decide) ?_
        refine ex_iald (v := S11.1 127 0) rfl (by decide) rfl ?_
        refine ex_imul ?_
        obtain ⟨hj, H⟩ := am_ck_el H
        refine ex_iast (k := 4) rfl rfl hj ?_
        generalize ((am_upI S11.1 133 x3.toNatClampNeg (2 * (S11.1 127 0)), S11.2) : AmT) = S13 at H ⊢
        have H := am_lt_el H
        refine ex_iconst (v := 0) (by decide) ?_
        refine ex_istore (L2 := [.ref 95, .int x1, .int x2, .int x3, .int (S.1 121 ((4 * x1) + x3).toNatClampNeg), .int v10, .int 0]) (Nat.le_of_ble_eq_true rfl) rfl ?_
        exact e261_70 hd (fun x1 x2 x3 w4 w5 w6 S q H => ih x1 x2 x3 w4 w5 w6 S q H) _ _ _ _ _ _ _ _ _ H
      · rw [if_neg h12] at H
        refine ex_if_le_f h12 ?_
        refine ex_iload rfl ?_
        have H := Option.some.inj H
        subst H
        exact ex_iret (M := 261) (Or.inl rfl)
set_option maxHeartbeats 1000000 in
set_option maxRecDepth 20000 in
theorem r261 {Lg : Nat} {xs : Nat → Int32} {d F : Nat} {x1 : Int32} {x2 : Int32} {S : AmT} {q : Int32 × AmT} (hd : 5 ≤ d) (H : f261 F x1 x2 S = some q) : Ex (am_X Lg xs) d 261 (am_P 261) (am_ini (am_Mi 261).1 [.ref 95, .int x1, .int x2]) [] (hS S) (some q.1, hS q.2) := by
  obtain ⟨d, rfl⟩ : ∃ d2, d = d2 + 1 := ⟨d - 1, by omega⟩
  unfold f261 at H
  show Ex (am_X Lg xs) _ 261 am_c261_0 [.ref 95, .int x1, .int x2, .long 0, .long 0, .long 0, .long 0] [] (hS S) (some q.1, hS q.2)
  refine ex_iconst (v := 0) (by decide) ?_
  refine ex_istore_n (L2 := [.ref 95, .int x1, .int x2, .int 0, .long 0, .long 0, .long 0]) (Nat.le_of_ble_eq_true rfl) rfl ?_
  exact e261_2 hd _ _ _ _ _ _ _ _ _ H
def g285_48 (F : Nat) (s0 : Int32) (S : AmT) : Option (Int32 × AmT) := am_lt ((am_upI S.1 96 (7 : Int32).toNatClampNeg 0, S.2) : AmT) fun S3 => if s0 = 0 then (some (0, S3)) else (some (9, S3))
def g285_68 (F : Nat) (x1 : Int32) (x2 : Int32) (S : AmT) : Option (Int32 × AmT) := am_b2 (f284 F x1 (x2 - 1) S) fun v6 S7 => some (v6, S7)
-- X10_work
def f285 (F : Nat) (x1 : Int32) (x2 : Int32) (S : AmT) : Option (Int32 × AmT) := if x2 = 0 then (if (S.1 96 7) = 1 then (g285_48 F 1 S) else (g285_48 F 0 S)) else if x2 = 1 then (g285_68 F x1 x2 S) else if x2 = 2 then (g285_68 F x1 x2 S) else if x2 = 3 then (am_ck x1 16 (if 0 ≤ (S.1 111 x1.toNatClampNeg) then (am_ck x1 16 (am_ck x1 16 (am_ck x1 16 (am_b2 (f240 F (S.1 111 x1.toNatClampNeg) (S.1 109 x1.toNatClampNeg) (S.1 110 x1.toNatClampNeg) S) fun v11 S12 => some (v11, S12))))) else (some (1, S)))) else (am_ck x1 16 (if 0 ≤ (S.1 111 x1.toNatClampNeg) then (am_ck x1 16 (am_b2 (f231 F (S.1 111 x1.toNatClampNeg) 1 S) fun v14 S15 => if v14 ≤ (S.1 96 6) then (some (0, S15)) else (some (3, S15)))) else (some (1, S))))
set_option maxHeartbeats 1000000 in
set_option maxRecDepth 20000 in
theorem e285_48 {Lg : Nat} {xs : Nat → Int32} {d F : Nat} {s0 : Int32} {w1 : Value} {w2 : Value} {w3 : Value} {S : AmT} {q : Int32 × AmT} (hd : 5 ≤ d) (H : g285_48 F s0 S = some q) : Ex (am_X Lg xs) d 285 am_c285_48 [.ref 95, w1, w2, w3] [.int s0] (hS S) (some q.1, hS q.2) := by
  obtain ⟨d, rfl⟩ : ∃ d2, d = d2 + 1 := ⟨d - 1, by omega⟩
  unfold g285_48 at H
  refine ex_istore_n (L2 := [.ref 95, w1, w2, .int s0]) (Nat.le_of_ble_eq_true rfl) rfl ?_
  refine ex_aload_n rfl ?_
  refine ex_getR (w := 96) rfl rfl rfl ?_
  refine ex_bipush (v := 7) (by decide) ?_
  refine ex_iconst (v := 0) (by decide) ?_
  refine ex_iast (k := 32) rfl rfl (by decide) ?_
  generalize ((am_upI S.1 96 (7 : Int32).toNatClampNeg 0, S.2) : AmT) = S3 at H ⊢
  have H := am_lt_el H
  refine ex_iload_n rfl ?_
  by_cases h4 : s0 = 0
  · rw [if_pos h4] at H
    refine ex_if_eq_j (ct := am_c285_66) h4 rfl ?_
    refine ex_iconst (v := 0) (by decide) ?_
    have H := Option.some.inj H
    subst H
    exact ex_iret (M := 285) (Or.inl rfl)
  · rw [if_neg h4] at H
    refine ex_if_eq_f h4 ?_
    refine ex_bipush (v := 9) (by decide) ?_
    refine ex_goto (ct := am_c285_67) rfl ?_
    have H := Option.some.inj H
    subst H
    exact ex_iret (M := 285) (Or.inl rfl)
set_option maxHeartbeats 1000000 in
set_option maxRecDepth 20000 in
theorem e285_68 {Lg : Nat} {xs : Nat → Int32} {d F : Nat} {x1 : Int32} {x2 : Int32} {w3 : Value} {S : AmT} {q : Int32 × AmT} (hd : 5 ≤ d) (H : g285_68 F x1 x2 S = some q) : Ex (am_X Lg xs) d 285 am_c285_68 [.ref 95, .int x1, .int x2, w3] [] (hS S) (some q.1, hS q.2) := by
  obtain ⟨d, rfl⟩ : ∃ d2, d = d2 + 1 := ⟨d - 1, by omega⟩
  unfold g285_68 at H
  refine ex_aload_n rfl ?_
  refine ex_iload_n rfl ?_
  refine ex_iload_n rfl ?_
  refine ex_iconst (v := 1) (by decide) ?_
  refine ex_isub ?_
  obtain ⟨v6, S7, hp, H⟩ := am_b2_el H
  refine ex_callV rfl rfl (Nat.le_of_ble_eq_true rfl) (Nat.le_of_ble_eq_true rfl) rfl (r284 (by omega) hp) rfl ?_
  have H := Option.some.inj H
  subst H
  exact ex_iret (M := 285) (Or.inl rfl)
set_option maxHeartbeats 1000000 in
set_option maxRecDepth 20000 in
theorem r285 {Lg : Nat} {xs : Nat → Int32} {d F : Nat} {x1 : Int32} {x2 : Int32} {S : AmT} {q : Int32 × AmT} (hd : 5 ≤ d) (H : f285 F x1 x2 S = some q) : Ex (am_X Lg xs) d 285 (am_P 285) (am_ini (am_Mi 285).1 [.ref 95, .int x1, .int x2]) [] (hS S) (some q.1, hS q.2) := by
  obtain ⟨d, rfl⟩ : ∃ d2, d = d2 + 1 := ⟨d - 1, by omega⟩
  unfold f285 at H
  show Ex (am_X Lg xs) _ 285 am_c285_0 [.ref 95, .int x1, .int x2, .long 0] [] (hS S) (some q.1, hS q.2)
  refine ex_iload_n rfl ?_
  by_cases h1 : x2 = 0
  · rw [if_pos h1] at H
    refine ex_table (off := 31) (ct := am_c285_32) (by rw [h1]; decide) rfl ?_
    refine ex_aload_n rfl ?_
    refine ex_getR (w := 96) rfl rfl rfl ?_
    refine ex_bipush (v := 7) (by decide) ?_
    refine ex_iald (v := S.1 96 7) rfl (by decide) rfl ?_
    refine ex_iconst (v := 1) (by decide) ?_
    by_cases h2 : (S.1 96 7) = 1
    · rw [if_pos h2] at H
      refine ex_icmp_ne_f h2 ?_
      refine ex_iconst (v := 1) (by decide) ?_
      refine ex_goto (ct := am_c285_48) rfl ?_
      exact e285_48 hd H
    · rw [if_neg h2] at H
      refine ex_icmp_ne_j (ct := am_c285_47) h2 rfl ?_
      refine ex_iconst (v := 0) (by decide) ?_
      exact e285_48 hd H
  rw [if_neg h1] at H
  by_cases h5 : x2 = 1
  · rw [if_pos h5] at H
    refine ex_table (off := 67) (ct := am_c285_68) (by rw [h5]; decide) rfl ?_
    exact e285_68 hd H
  rw [if_neg h5] at H
  by_cases h8 : x2 = 2
  · rw [if_pos h8] at H
    refine ex_table (off := 67) (ct := am_c285_68) (by rw [h8]; decide) rfl ?_
    exact e285_68 hd H
  rw [if_neg h8] at H
  by_cases h9 : x2 = 3
  · rw [if_pos h9] at H
    refine ex_table (off := 76) (ct := am_c285_77) (by rw [h9]; decide) rfl ?_
    refine ex_aload_n rfl ?_
    refine ex_getR (w := 111) rfl rfl rfl ?_
    refine ex_iload_n rfl ?_
    obtain ⟨hj, H⟩ := am_ck_el H
    refine ex_iald (k := 16) (v := S.1 111 x1.toNatClampNeg) rfl hj rfl ?_
    by_cases h10 : 0 ≤ (S.1 111 x1.toNatClampNeg)
    · rw [if_pos h10] at H
      refine ex_if_ge_j (ct := am_c285_90) h10 rfl ?_
      refine ex_aload_n rfl ?_
      refine ex_aload_n rfl ?_
      refine ex_getR (w := 111) rfl rfl rfl ?_
      refine ex_iload_n rfl ?_
      obtain ⟨hj, H⟩ := am_ck_el H
      refine ex_iald (k := 16) (v := S.1 111 x1.toNatClampNeg) rfl hj rfl ?_
      refine ex_aload_n rfl ?_
      refine ex_getR (w := 109) rfl rfl rfl ?_
      refine ex_iload_n rfl ?_
      obtain ⟨hj, H⟩ := am_ck_el H
      refine ex_iald (k := 16) (v := S.1 109 x1.toNatClampNeg) rfl hj rfl ?_
      refine ex_aload_n rfl ?_
      refine ex_getR (w := 110) rfl rfl rfl ?_
      refine ex_iload_n rfl ?_
      obtain ⟨hj, H⟩ := am_ck_el H
      refine ex_iald (k := 16) (v := S.1 110 x1.toNatClampNeg) rfl hj rfl ?_
      obtain ⟨v11, S12, hp, H⟩ := am_b2_el H
      refine ex_callV rfl rfl (Nat.le_of_ble_eq_true rfl) (Nat.le_of_ble_eq_true rfl) rfl (r240 (by omega) hp) rfl ?_
      have H := Option.some.inj H
      subst H
      exact ex_iret (M := 285) (Or.inl rfl)
    · rw [if_neg h10] at H
      refine ex_if_ge_f h10 ?_
      refine ex_iconst (v := 1) (by decide) ?_
      refine ex_goto (ct := am_c285_112) rfl ?_
      have H := Option.some.inj H
      subst H
      exact ex_iret (M := 285) (Or.inl rfl)
  rw [if_neg h9] at H
  refine ex_table (off := 112) (ct := am_c285_113) (am_sw_out 4 (by decide) (by decide) (by decide) (fun k hk => match k, hk with | 0, _ => h1 | 1, _ => h5 | 2, _ => h8 | 3, _ => h9 | k + 4, hk => absurd hk (by omega))) rfl ?_
  refine ex_aload_n rfl ?_
  refine ex_getR (w := 111) rfl rfl rfl ?_
  refine ex_iload_n rfl ?_
  obtain ⟨hj, H⟩ := am_ck_el H
  refine ex_iald (k := 16) (v := S.1 111 x1.toNatClampNeg) rfl hj rfl ?_
  by_cases h13 : 0 ≤ (S.1 111 x1.toNatClampNeg)
  · rw [if_pos h13] at H
    refine ex_if_ge_j (ct := am_c285_126) h13 rfl ?_
    refine ex_aload_n rfl ?_
    refine ex_getR (w := 96) rfl rfl rfl ?_
    refine ex_bipush (v := 6) (by decide) ?_
    refine ex_iald (v := S.1 96 6) rfl (by decide) rfl ?_
    refine ex_aload_n rfl ?_
    refine ex_aload_n rfl ?_
    refine ex_getR (w := 111) rfl rfl rfl ?_
    refine ex_iload_n rfl ?_
    obtain ⟨hj, H⟩ := am_ck_el H
    refine ex_iald (k := 16) (v := S.1 111 x1.toNatClampNeg) rfl hj rfl ?_
    refine ex_iconst (v := 1) (by decide) ?_
    obtain ⟨v14, S15, hp, H⟩ := am_b2_el H
    refine ex_callV rfl rfl (Nat.le_of_ble_eq_true rfl) (Nat.le_of_ble_eq_true rfl) rfl (r231 (by omega) hp) rfl ?_
    by_cases h16 : v14 ≤ (S.1 96 6)
    · rw [if_pos h16] at H
      refine ex_icmp_ge_j (ct := am_c285_151) h16 rfl ?_
      refine ex_iconst (v := 0) (by decide) ?_
      have H := Option.some.inj H
      subst H
      exact ex_iret (M := 285) (Or.inl rfl)
    · rw [if_neg h16] at H
      refine ex_icmp_ge_f h16 ?_
      refine ex_iconst (v := 3) (by decide) ?_
      refine ex_goto (ct := am_c285_152) rfl ?_
      have H := Option.some.inj H
      subst H
      exact ex_iret (M := 285) (Or.inl rfl)
  · rw [if_neg h13] at H
    refine ex_if_ge_f h13 ?_
    refine ex_iconst (v := 1) (by decide) ?_
    refine ex_goto (ct := am_c285_152) rfl ?_
    have H := Option.some.inj H
    subst H
    exact ex_iret (M := 285) (Or.inl rfl)
