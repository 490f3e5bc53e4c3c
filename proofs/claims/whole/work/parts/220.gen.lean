/-! printed by wip/gen/gen20.py -/
def g276_18 (F : Nat) : Nat → Int32 → Int32 → Int32 → AmT → Option (Int32 × AmT)
  | 0, _, _, _, _ => none
  | n + 1, x1, x2, x3, S => if (S.1 96 4) ≤ x3 then (am_b2 (f263 F x2 S) fun v6 S7 => some (v6, S7)) else (am_ck x3 8 (am_b2 (f261 F (S.1 123 x3.toNatClampNeg) x1 S) fun v8 S9 => if v8 ≤ 0 then (g276_18 F n x1 x2 (x3 + 1) S9) else (am_b2 (f203 F v8 S9) fun v11 S12 => some (v11, S12))))
-- X10_pageAt
def f276 (F : Nat) (x1 : Int32) (x2 : Int32) (S : AmT) : Option (Int32 × AmT) := am_b2 (f224 F x1 S) fun v1 S2 => if v1 = 0 then (some ((-2), S2)) else (am_lt ((am_upI S2.1 95 47 0, S2.2) : AmT) fun S4 => g276_18 F F x1 x2 0 S4)
set_option maxHeartbeats 1000000 in
set_option maxRecDepth 20000 in
theorem e276_18 {Lg : Nat} {xs : Nat → Int32} {d F : Nat} (hd : 6 ≤ d) : ∀ (n : Nat) (x1 : Int32) (x2 : Int32) (x3 : Int32) (w4 : Value) (S : AmT) (q : Int32 × AmT), g276_18 F n x1 x2 x3 S = some q → Ex (am_X Lg xs) d 276 am_c276_18 [.ref 95, .int x1, .int x2, .int x3, w4] [] (hS S) (some q.1, hS q.2) := by
  obtain ⟨d, rfl⟩ : ∃ d2, d = d2 + 1 := ⟨d - 1, by omega⟩
  intro n
  induction n with
  | zero =>
    intro x1 x2 x3 w4 S q H
    cases H
  | succ n ih =>
    intro x1 x2 x3 w4 S q H
    have H : (if (S.1 96 4) ≤ x3 then (am_b2 (f263 F x2 S) fun v6 S7 => some (v6, S7)) else (am_ck x3 8 (am_b2 (f261 F (S.1 123 x3.toNatClampNeg) x1 S) fun v8 S9 => if v8 ≤ 0 then (g276_18 F n x1 x2 (x3 + 1) S9) else (am_b2 (f203 F v8 S9) fun v11 S12 => some (v11, S12))))) = some q := H
    refine ex_iload_n rfl ?_
    refine ex_aload_n rfl ?_
    refine ex_getR (w := 96) rfl rfl rfl ?_
    refine ex_iconst (v := 4) (by decide) ?_
    refine ex_iald (v := S.1 96 4) rfl (by decide) rfl ?_
    by_cases h5 : (S.1 96 4) ≤ x3
    · rw [if_pos h5] at H
      refine ex_icmp_ge_j (ct := am_c276_59) h5 rfl ?_
      refine ex_aload_n rfl ?_
      refine ex_iload_n rfl ?_
      obtain ⟨v6, S7, hp, H⟩ := am_b2_el H
      refine ex_callV rfl rfl (Nat.le_of_ble_eq_true rfl) (Nat.le_of_ble_eq_true rfl) rfl (r263 (by omega) hp) rfl ?_
      have H := Option.some.inj H
      subst H
      exact ex_iret (M := 276) (Or.inl rfl)
    · rw [if_neg h5] at H
      refine ex_icmp_ge_f h5 ?_
      refine ex_aload_n rfl ?_
      refine ex_aload_n rfl ?_
      refine ex_getR (w := 123) rfl rfl rfl ?_
      refine ex_iload_n rfl ?_
      obtain ⟨hj, H⟩ := am_ck_el H
      refine ex_iald (k := 8) (v := S.1 123 x3.toNatClampNeg) rfl hj rfl ?_
      refine ex_iload_n rfl ?_
      obtain ⟨v8, S9, hp, H⟩ := am_b2_el H
      refine ex_callV rfl rfl (Nat.le_of_ble_eq_true rfl) (Nat.le_of_ble_eq_true rfl) rfl (r261 (by omega) hp) rfl ?_
      refine ex_istore (L2 := [.ref 95, .int x1, .int x2, .int x3, .int v8]) (Nat.le_of_ble_eq_true rfl) rfl ?_
      refine ex_iload rfl ?_
      by_cases h10 : v8 ≤ 0
      · rw [if_pos h10] at H
        refine ex_if_le_j (ct := am_c276_53) h10 rfl ?_
        refine ex_iinc (L2 := [.ref 95, .int x1, .int x2, .int (x3 + 1), .int v8]) (v := (x3 + 1)) rfl (Nat.le_of_ble_eq_true rfl) (congrArg (fun z => x3 + z) (by decide)) rfl ?_
        refine ex_goto (ct := am_c276_18) rfl ?_
        exact ih _ _ _ _ _ _ H
      · rw [if_neg h10] at H
        refine ex_if_le_f h10 ?_
        refine ex_aload_n rfl ?_
        refine ex_iload rfl ?_
        obtain ⟨v11, S12, hp, H⟩ := am_b2_el H
        refine ex_callV rfl rfl (Nat.le_of_ble_eq_true rfl) (Nat.le_of_ble_eq_true rfl) rfl (r203 (by omega) hp) rfl ?_
        have H := Option.some.inj H
        subst H
        exact ex_iret (M := 276) (Or.inl rfl)
set_option maxHeartbeats 1000000 in
set_option maxRecDepth 20000 in
theorem r276 {Lg : Nat} {xs : Nat → Int32} {d F : Nat} {x1 : Int32} {x2 : Int32} {S : AmT} {q : Int32 × AmT} (hd : 6 ≤ d) (H : f276 F x1 x2 S = some q) : Ex (am_X Lg xs) d 276 (am_P 276) (am_ini (am_Mi 276).1 [.ref 95, .int x1, .int x2]) [] (hS S) (some q.1, hS q.2) := by
  obtain ⟨d, rfl⟩ : ∃ d2, d = d2 + 1 := ⟨d - 1, by omega⟩
  unfold f276 at H
  show Ex (am_X Lg xs) _ 276 am_c276_0 [.ref 95, .int x1, .int x2, .long 0, .long 0] [] (hS S) (some q.1, hS q.2)
  refine ex_aload_n rfl ?_
  refine ex_iload_n rfl ?_
  obtain ⟨v1, S2, hp, H⟩ := am_b2_el H
  refine ex_callV rfl rfl (Nat.le_of_ble_eq_true rfl) (Nat.le_of_ble_eq_true rfl) rfl (r224 (by omega) hp) rfl ?_
  by_cases h3 : v1 = 0
  · rw [if_pos h3] at H
    refine ex_if_ne_f h3 ?_
    refine ex_bipush (v := (-2)) (by decide) ?_
    have H := Option.some.inj H
    subst H
    exact ex_iret (M := 276) (Or.inl rfl)
  · rw [if_neg h3] at H
    refine ex_if_ne_j (ct := am_c276_11) h3 rfl ?_
    refine ex_aload_n rfl ?_
    refine ex_iconst (v := 0) (by decide) ?_
    refine ex_putI rfl (by decide) (fun z => absurd z.1 (by decide)) ?_
    generalize ((am_upI S2.1 95 47 0, S2.2) : AmT) = S4 at H ⊢
    have H := am_lt_el H
    refine ex_iconst (v := 0) (by decide) ?_
    refine ex_istore_n (L2 := [.ref 95, .int x1, .int x2, .int 0, .long 0]) (Nat.le_of_ble_eq_true rfl) rfl ?_
    exact e276_18 hd _ _ _ _ _ _ _ H
-- X10_wrap
def f277 (F : Nat) (x1 : Int32) (x2 : Int32) (S : AmT) : Option (Int32 × AmT) := am_b2 (f224 F x1 S) fun v1 S2 => if v1 = 0 then (some ((-2), S2)) else (if 0 ≤ (S2.1 96 5) then (am_lt ((am_upI S2.1 95 47 0, S2.2) : AmT) fun S5 => am_b2 (f260 F (S5.1 96 5) x1 S5) fun v6 S7 => if v6 ≤ 0 then (am_b2 (f263 F x2 S7) fun v9 S10 => some (v9, S10)) else (am_b2 (f203 F v6 S7) fun v11 S12 => some (v11, S12))) else (am_b2 (f203 F 1 S2) fun v13 S14 => some (v13, S14)))
set_option maxHeartbeats 1000000 in
set_option maxRecDepth 20000 in
theorem r277 {Lg : Nat} {xs : Nat → Int32} {d F : Nat} {x1 : Int32} {x2 : Int32} {S : AmT} {q : Int32 × AmT} (hd : 6 ≤ d) (H : f277 F x1 x2 S = some q) : Ex (am_X Lg xs) d 277 (am_P 277) (am_ini (am_Mi 277).1 [.ref 95, .int x1, .int x2]) [] (hS S) (some q.1, hS q.2) := by
  obtain ⟨d, rfl⟩ : ∃ d2, d = d2 + 1 := ⟨d - 1, by omega⟩
  unfold f277 at H
  show Ex (am_X Lg xs) _ 277 am_c277_0 [.ref 95, .int x1, .int x2, .long 0] [] (hS S) (some q.1, hS q.2)
  refine ex_aload_n rfl ?_
  refine ex_iload_n rfl ?_
  obtain ⟨v1, S2, hp, H⟩ := am_b2_el H
  refine ex_callV rfl rfl (Nat.le_of_ble_eq_true rfl) (Nat.le_of_ble_eq_true rfl) rfl (r224 (by omega) hp) rfl ?_
  by_cases h3 : v1 = 0
  · rw [if_pos h3] at H
    refine ex_if_ne_f h3 ?_
    refine ex_bipush (v := (-2)) (by decide) ?_
    have H := Option.some.inj H
    subst H
    exact ex_iret (M := 277) (Or.inl rfl)
  · rw [if_neg h3] at H
    refine ex_if_ne_j (ct := am_c277_11) h3 rfl ?_
    refine ex_aload_n rfl ?_
    refine ex_getR (w := 96) rfl rfl rfl ?_
    refine ex_iconst (v := 5) (by decide) ?_
    refine ex_iald (v := S2.1 96 5) rfl (by decide) rfl ?_
    by_cases h4 : 0 ≤ (S2.1 96 5)
    · rw [if_pos h4] at H
      refine ex_if_ge_j (ct := am_c277_26) h4 rfl ?_
      refine ex_aload_n rfl ?_
      refine ex_iconst (v := 0) (by decide) ?_
      refine ex_putI rfl (by decide) (fun z => absurd z.1 (by decide)) ?_
      generalize ((am_upI S2.1 95 47 0, S2.2) : AmT) = S5 at H ⊢
      have H := am_lt_el H
      refine ex_aload_n rfl ?_
      refine ex_aload_n rfl ?_
      refine ex_getR (w := 96) rfl rfl rfl ?_
      refine ex_iconst (v := 5) (by decide) ?_
      refine ex_iald (v := S5.1 96 5) rfl (by decide) rfl ?_
      refine ex_iload_n rfl ?_
      obtain ⟨v6, S7, hp, H⟩ := am_b2_el H
      refine ex_callV rfl rfl (Nat.le_of_ble_eq_true rfl) (Nat.le_of_ble_eq_true rfl) rfl (r260 (by omega) hp) rfl ?_
      refine ex_istore_n (L2 := [.ref 95, .int x1, .int x2, .int v6]) (Nat.le_of_ble_eq_true rfl) rfl ?_
      refine ex_iload_n rfl ?_
      by_cases h8 : v6 ≤ 0
      · rw [if_pos h8] at H
        refine ex_if_le_j (ct := am_c277_55) h8 rfl ?_
        refine ex_aload_n rfl ?_
        refine ex_iload_n rfl ?_
        obtain ⟨v9, S10, hp, H⟩ := am_b2_el H
        refine ex_callV rfl rfl (Nat.le_of_ble_eq_true rfl) (Nat.le_of_ble_eq_true rfl) rfl (r263 (by omega) hp) rfl ?_
        have H := Option.some.inj H
        subst H
        exact ex_iret (M := 277) (Or.inl rfl)
      · rw [if_neg h8] at H
        refine ex_if_le_f h8 ?_
        refine ex_aload_n rfl ?_
        refine ex_iload_n rfl ?_
        obtain ⟨v11, S12, hp, H⟩ := am_b2_el H
        refine ex_callV rfl rfl (Nat.le_of_ble_eq_true rfl) (Nat.le_of_ble_eq_true rfl) rfl (r203 (by omega) hp) rfl ?_
        refine ex_goto (ct := am_c277_60) rfl ?_
        have H := Option.some.inj H
        subst H
        exact ex_iret (M := 277) (Or.inl rfl)
    · rw [if_neg h4] at H
      refine ex_if_ge_f h4 ?_
      refine ex_aload_n rfl ?_
      refine ex_iconst (v := 1) (by decide) ?_
      obtain ⟨v13, S14, hp, H⟩ := am_b2_el H
      refine ex_callV rfl rfl (Nat.le_of_ble_eq_true rfl) (Nat.le_of_ble_eq_true rfl) rfl (r203 (by omega) hp) rfl ?_
      have H := Option.some.inj H
      subst H
      exact ex_iret (M := 277) (Or.inl rfl)
def g287_113 (F : Nat) (k18 : Int32 → Int32 → AmT → Option (Int32 × AmT)) (x1 : Int32) (x2 : Int32) (S : AmT) : Option (Int32 × AmT) := k18 x1 (x2 + (-1)) S
def g287_18 (F : Nat) : Nat → Int32 → Int32 → AmT → Option (Int32 × AmT)
  | 0, _, _, _ => none
  | n + 1, x1, x2, S => if x2 < 0 then (some (x1, S)) else (am_b2 (f280 F x2 S) fun v6 S7 => if 0 ≤ v6 then (am_lt ((am_upI S7.1 95 32 ((S7.1 95 32) + 1), S7.2) : AmT) fun S9 => am_ck x2 10 (if (S9.1 124 x2.toNatClampNeg) = 0 then (am_b2 (f285 F v6 x2 S9) fun v11 S12 => if v11 ≤ 0 then (am_ck v6 16 (am_lt ((am_upI S12.1 112 v6.toNatClampNeg (x2 + 1), S12.2) : AmT) fun S14 => g287_113 F (fun x1 x2 S => g287_18 F n x1 x2 S) (x1 + 1) x2 S14)) else ((f286 F v6 v11 S12).bind fun S15 => g287_113 F (fun x1 x2 S => g287_18 F n x1 x2 S) x1 x2 S15)) else (am_ck x2 10 (am_lt ((am_upI S9.1 124 x2.toNatClampNeg 0, S9.2) : AmT) fun S16 => (f286 F v6 10 S16).bind fun S17 => am_lt ((am_upI S17.1 96 (8 : Int32).toNatClampNeg 1, S17.2) : AmT) fun S18 => some (x1, S18))))) else (g287_113 F (fun x1 x2 S => g287_18 F n x1 x2 S) x1 x2 S7))
-- X10_step
def f287 (F : Nat) (S : AmT) : Option (Int32 × AmT) := am_b2 (f202 F S) fun v1 S2 => if v1 = 0 then ((f201 F S2).bind fun S4 => g287_18 F F 0 4 S4) else (some ((-4), S2))
set_option maxHeartbeats 1000000 in
set_option maxRecDepth 20000 in
theorem e287_113 {Lg : Nat} {xs : Nat → Int32} {d F : Nat} {k18 : Int32 → Int32 → AmT → Option (Int32 × AmT)} {x1 : Int32} {x2 : Int32} {w3 : Value} {w4 : Value} {S : AmT} {q : Int32 × AmT} (hd : 6 ≤ d) (hk18 : ∀ (x1 : Int32) (x2 : Int32) (w3 : Value) (w4 : Value) (S : AmT) (q : Int32 × AmT), k18 x1 x2 S = some q → Ex (am_X Lg xs) d 287 am_c287_18 [.ref 95, .int x1, .int x2, w3, w4] [] (hS S) (some q.1, hS q.2)) (H : g287_113 F k18 x1 x2 S = some q) : Ex (am_X Lg xs) d 287 am_c287_113 [.ref 95, .int x1, .int x2, w3, w4] [] (hS S) (some q.1, hS q.2) := by
  obtain ⟨d, rfl⟩ : ∃ d2, d = d2 + 1 := ⟨d - 1, by omega⟩
  unfold g287_113 at H
  refine ex_iinc (L2 := [.ref 95, .int x1, .int (x2 + (-1)), w3, w4]) (v := (x2 + (-1))) rfl (Nat.le_of_ble_eq_true rfl) (congrArg (fun z => x2 + z) (by decide)) rfl ?_
  refine ex_goto (ct := am_c287_18) rfl ?_
  exact hk18 _ _ _ _ _ _ H
set_option maxHeartbeats 1000000 in
set_option maxRecDepth 20000 in
theorem e287_18 {Lg : Nat} {xs : Nat → Int32} {d F : Nat} (hd : 6 ≤ d) : ∀ (n : Nat) (x1 : Int32) (x2 : Int32) (w3 : Value) (w4 : Value) (S : AmT) (q : Int32 × AmT), g287_18 F n x1 x2 S = some q → Ex (am_X Lg xs) d 287 am_c287_18 [.ref 95, .int x1, .int x2, w3, w4] [] (hS S) (some q.1, hS q.2) := by
  obtain ⟨d, rfl⟩ : ∃ d2, d = d2 + 1 := ⟨d - 1, by omega⟩
  intro n
  induction n with
  | zero =>
    intro x1 x2 w3 w4 S q H
    cases H
  | succ n ih =>
    intro x1 x2 w3 w4 S q H
    have H : (if x2 < 0 then (some (x1, S)) else (am_b2 (f280 F x2 S) fun v6 S7 => if 0 ≤ v6 then (am_lt ((am_upI S7.1 95 32 ((S7.1 95 32) + 1), S7.2) : AmT) fun S9 => am_ck x2 10 (if (S9.1 124 x2.toNatClampNeg) = 0 then (am_b2 (f285 F v6 x2 S9) fun v11 S12 => if v11 ≤ 0 then (am_ck v6 16 (am_lt ((am_upI S12.1 112 v6.toNatClampNeg (x2 + 1), S12.2) : AmT) fun S14 => g287_113 F (fun x1 x2 S => g287_18 F n x1 x2 S) (x1 + 1) x2 S14)) else ((f286 F v6 v11 S12).bind fun S15 => g287_113 F (fun x1 x2 S => g287_18 F n x1 x2 S) x1 x2 S15)) else (am_ck x2 10 (am_lt ((am_upI S9.1 124 x2.toNatClampNeg 0, S9.2) : AmT) fun S16 => (f286 F v6 10 S16).bind fun S17 => am_lt ((am_upI S17.1 96 (8 : Int32).toNatClampNeg 1, S17.2) : AmT) fun S18 => some (x1, S18))))) else (g287_113 F (fun x1 x2 S => g287_18 F n x1 x2 S) x1 x2 S7))) = some q := H
    refine ex_iload_n rfl ?_
    by_cases h5 : x2 < 0
    · rw [if_pos h5] at H
      refine ex_if_lt_j (ct := am_c287_119) h5 rfl ?_
      refine ex_iload_n rfl ?_
      have H := Option.some.inj H
      subst H
      exact ex_iret (M := 287) (Or.inl rfl)
    · rw [if_neg h5] at H
      refine ex_if_lt_f h5 ?_
      refine ex_aload_n rfl ?_
      refine ex_iload_n rfl ?_
      obtain ⟨v6, S7, hp, H⟩ := am_b2_el H
      refine ex_callV rfl rfl (Nat.le_of_ble_eq_true rfl) (Nat.le_of_ble_eq_true rfl) rfl (r280 (by omega) hp) rfl ?_
      refine ex_istore_n (L2 := [.ref 95, .int x1, .int x2, .int v6, w4]) (Nat.le_of_ble_eq_true rfl) rfl ?_
      refine ex_iload_n rfl ?_
      by_cases h8 : 0 ≤ v6
      · rw [if_pos h8] at H
        refine ex_if_ge_j (ct := am_c287_35) h8 rfl ?_
        refine ex_aload_n rfl ?_
        refine ex_dupr ?_
        refine ex_gI rfl (by decide) ?_
        refine ex_iconst (v := 1) (by decide) ?_
        refine ex_iadd ?_
        refine ex_putI rfl (by decide) (fun z => absurd z.1 (by decide)) ?_
        generalize ((am_upI S7.1 95 32 ((S7.1 95 32) + 1), S7.2) : AmT) = S9 at H ⊢
        have H := am_lt_el H
        refine ex_aload_n rfl ?_
        refine ex_getR (w := 124) rfl rfl rfl ?_
        refine ex_iload_n rfl ?_
        obtain ⟨hj, H⟩ := am_ck_el H
        refine ex_bald (k := 10) (v := S9.1 124 x2.toNatClampNeg) rfl hj rfl ?_
        by_cases h10 : (S9.1 124 x2.toNatClampNeg) = 0
        · rw [if_pos h10] at H
          refine ex_if_eq_j (ct := am_c287_78) h10 rfl ?_
          refine ex_aload_n rfl ?_
          refine ex_iload_n rfl ?_
          refine ex_iload_n rfl ?_
          obtain ⟨v11, S12, hp, H⟩ := am_b2_el H
          refine ex_callV rfl rfl (Nat.le_of_ble_eq_true rfl) (Nat.le_of_ble_eq_true rfl) rfl (r285 (by omega) hp) rfl ?_
          refine ex_istore (L2 := [.ref 95, .int x1, .int x2, .int v6, .int v11]) (Nat.le_of_ble_eq_true rfl) rfl ?_
          refine ex_iload rfl ?_
          by_cases h13 : v11 ≤ 0
          · rw [if_pos h13] at H
            refine ex_if_le_j (ct := am_c287_101) h13 rfl ?_
            refine ex_aload_n rfl ?_
            refine ex_getR (w := 112) rfl rfl rfl ?_
            refine ex_iload_n rfl ?_
            refine ex_iload_n rfl ?_
            refine ex_iconst (v := 1) (by decide) ?_
            refine ex_iadd ?_
            obtain ⟨hj, H⟩ := am_ck_el H
            refine ex_iast (k := 16) rfl rfl hj ?_
            generalize ((am_upI S12.1 112 v6.toNatClampNeg (x2 + 1), S12.2) : AmT) = S14 at H ⊢
            have H := am_lt_el H
            refine ex_iinc (L2 := [.ref 95, .int (x1 + 1), .int x2, .int v6, .int v11]) (v := (x1 + 1)) rfl (Nat.le_of_ble_eq_true rfl) (congrArg (fun z => x1 + z) (by decide)) rfl ?_
            exact e287_113 hd (fun x1 x2 w3 w4 S q H => ih x1 x2 w3 w4 S q H) H
          · rw [if_neg h13] at H
            refine ex_if_le_f h13 ?_
            refine ex_aload_n rfl ?_
            refine ex_iload_n rfl ?_
            refine ex_iload rfl ?_
            obtain ⟨S15, hp, H⟩ := Option.bind_eq_some_iff.mp H
            refine ex_callV rfl rfl (Nat.le_of_ble_eq_true rfl) (Nat.le_of_ble_eq_true rfl) rfl (r286 (by omega) hp) rfl ?_
            refine ex_goto (ct := am_c287_113) rfl ?_
            exact e287_113 hd (fun x1 x2 w3 w4 S q H => ih x1 x2 w3 w4 S q H) H
        · rw [if_neg h10] at H
          refine ex_if_eq_f h10 ?_
          refine ex_aload_n rfl ?_
          refine ex_getR (w := 124) rfl rfl rfl ?_
          refine ex_iload_n rfl ?_
          refine ex_iconst (v := 0) (by decide) ?_
          obtain ⟨hj, H⟩ := am_ck_el H
          refine ex_bast (k := 10) rfl rfl hj (by decide) ?_
          generalize ((am_upI S9.1 124 x2.toNatClampNeg 0, S9.2) : AmT) = S16 at H ⊢
          have H := am_lt_el H
          refine ex_aload_n rfl ?_
          refine ex_iload_n rfl ?_
          refine ex_bipush (v := 10) (by decide) ?_
          obtain ⟨S17, hp, H⟩ := Option.bind_eq_some_iff.mp H
          refine ex_callV rfl rfl (Nat.le_of_ble_eq_true rfl) (Nat.le_of_ble_eq_true rfl) rfl (r286 (by omega) hp) rfl ?_
          refine ex_aload_n rfl ?_
          refine ex_getR (w := 96) rfl rfl rfl ?_
          refine ex_bipush (v := 8) (by decide) ?_
          refine ex_iconst (v := 1) (by decide) ?_
          refine ex_iast (k := 32) rfl rfl (by decide) ?_
          generalize ((am_upI S17.1 96 (8 : Int32).toNatClampNeg 1, S17.2) : AmT) = S18 at H ⊢
          have H := am_lt_el H
          refine ex_iload_n rfl ?_
          have H := Option.some.inj H
          subst H
          exact ex_iret (M := 287) (Or.inl rfl)
      · rw [if_neg h8] at H
        refine ex_if_ge_f h8 ?_
        refine ex_goto (ct := am_c287_113) rfl ?_
        exact e287_113 hd (fun x1 x2 w3 w4 S q H => ih x1 x2 w3 w4 S q H) H
set_option maxHeartbeats 1000000 in
set_option maxRecDepth 20000 in
theorem r287 {Lg : Nat} {xs : Nat → Int32} {d F : Nat} {S : AmT} {q : Int32 × AmT} (hd : 6 ≤ d) (H : f287 F S = some q) : Ex (am_X Lg xs) d 287 (am_P 287) (am_ini (am_Mi 287).1 [.ref 95]) [] (hS S) (some q.1, hS q.2) := by
  obtain ⟨d, rfl⟩ : ∃ d2, d = d2 + 1 := ⟨d - 1, by omega⟩
  unfold f287 at H
  show Ex (am_X Lg xs) _ 287 am_c287_0 [.ref 95, .long 0, .long 0, .long 0, .long 0] [] (hS S) (some q.1, hS q.2)
  refine ex_aload_n rfl ?_
  obtain ⟨v1, S2, hp, H⟩ := am_b2_el H
  refine ex_callV rfl rfl (Nat.le_of_ble_eq_true rfl) (Nat.le_of_ble_eq_true rfl) rfl (r202 (by omega) hp) rfl ?_
  by_cases h3 : v1 = 0
  · rw [if_pos h3] at H
    refine ex_if_eq_j (ct := am_c287_10) h3 rfl ?_
    refine ex_aload_n rfl ?_
    obtain ⟨S4, hp, H⟩ := Option.bind_eq_some_iff.mp H
    refine ex_callV rfl rfl (Nat.le_of_ble_eq_true rfl) (Nat.le_of_ble_eq_true rfl) rfl (r201 (by omega) hp) rfl ?_
    refine ex_iconst (v := 0) (by decide) ?_
    refine ex_istore_n (L2 := [.ref 95, .int 0, .long 0, .long 0, .long 0]) (Nat.le_of_ble_eq_true rfl) rfl ?_
    refine ex_iconst (v := 4) (by decide) ?_
    refine ex_istore_n (L2 := [.ref 95, .int 0, .int 4, .long 0, .long 0]) (Nat.le_of_ble_eq_true rfl) rfl ?_
    exact e287_18 hd _ _ _ _ _ _ _ H
  · rw [if_neg h3] at H
    refine ex_if_eq_f h3 ?_
    refine ex_bipush (v := (-4)) (by decide) ?_
    have H := Option.some.inj H
    subst H
    exact ex_iret (M := 287) (Or.inl rfl)
-- X9_bind
def f173 (F : Nat) (x1 : Int32) (x2 : Int32) (x3 : Int32) (S : AmT) : Option (Int32 × AmT) := am_b2 (f81 F S) fun v1 S2 => if v1 = 0 then (am_b2 (f2 F x1 S2) fun v4 S5 => if v4 = 0 then (some ((-2), S5)) else (am_b2 (f21 F x2 S5) fun v7 S8 => if v7 = 0 then (some ((-2), S8)) else (am_b2 (f194 F x3 1 24 S8) fun v10 S11 => if v10 = 0 then (some ((-1), S11)) else ((f58 F S11).bind fun S13 => am_b2 (f10 F x1 x2 x3 S13) fun v14 S15 => am_b2 (f129 F v14 S15) fun v16 S17 => some (v16, S17))))) else (some ((-4), S2))
set_option maxHeartbeats 1000000 in
set_option maxRecDepth 20000 in
theorem r173 {Lg : Nat} {xs : Nat → Int32} {d F : Nat} {x1 : Int32} {x2 : Int32} {x3 : Int32} {S : AmT} {q : Int32 × AmT} (hd : 7 ≤ d) (H : f173 F x1 x2 x3 S = some q) : Ex (am_X Lg xs) d 173 (am_P 173) (am_ini (am_Mi 173).1 [.ref 0, .int x1, .int x2, .int x3]) [] (hS S) (some q.1, hS q.2) := by
  obtain ⟨d, rfl⟩ : ∃ d2, d = d2 + 1 := ⟨d - 1, by omega⟩
  unfold f173 at H
  show Ex (am_X Lg xs) _ 173 am_c173_0 [.ref 0, .int x1, .int x2, .int x3] [] (hS S) (some q.1, hS q.2)
  refine ex_aload_n rfl ?_
  refine ex_getR (w := 86) rfl rfl rfl ?_
  obtain ⟨v1, S2, hp, H⟩ := am_b2_el H
  refine ex_callV rfl rfl (Nat.le_of_ble_eq_true rfl) (Nat.le_of_ble_eq_true rfl) rfl (r81 (by omega) hp) rfl ?_
  by_cases h3 : v1 = 0
  · rw [if_pos h3] at H
    refine ex_if_eq_j (ct := am_c173_13) h3 rfl ?_
    refine ex_aload_n rfl ?_
    refine ex_getR (w := 69) rfl rfl rfl ?_
    refine ex_iload_n rfl ?_
    obtain ⟨v4, S5, hp, H⟩ := am_b2_el H
    refine ex_callV rfl rfl (Nat.le_of_ble_eq_true rfl) (Nat.le_of_ble_eq_true rfl) rfl (r2 (by omega) hp) rfl ?_
    by_cases h6 : v4 = 0
    · rw [if_pos h6] at H
      refine ex_if_eq_j (ct := am_c173_35) h6 rfl ?_
      refine ex_bipush (v := (-2)) (by decide) ?_
      have H := Option.some.inj H
      subst H
      exact ex_iret (M := 173) (Or.inl rfl)
    · rw [if_neg h6] at H
      refine ex_if_eq_f h6 ?_
      refine ex_aload_n rfl ?_
      refine ex_getR (w := 22) rfl rfl rfl ?_
      refine ex_iload_n rfl ?_
      obtain ⟨v7, S8, hp, H⟩ := am_b2_el H
      refine ex_callV rfl rfl (Nat.le_of_ble_eq_true rfl) (Nat.le_of_ble_eq_true rfl) rfl (r21 (by omega) hp) rfl ?_
      by_cases h9 : v7 = 0
      · rw [if_pos h9] at H
        refine ex_if_ne_f h9 ?_
        refine ex_bipush (v := (-2)) (by decide) ?_
        have H := Option.some.inj H
        subst H
        exact ex_iret (M := 173) (Or.inl rfl)
      · rw [if_neg h9] at H
        refine ex_if_ne_j (ct := am_c173_38) h9 rfl ?_
        refine ex_iload_n rfl ?_
        refine ex_iconst (v := 1) (by decide) ?_
        refine ex_bipush (v := 24) (by decide) ?_
        obtain ⟨v10, S11, hp, H⟩ := am_b2_el H
        refine ex_callS rfl rfl (Nat.le_of_ble_eq_true rfl) (Nat.le_of_ble_eq_true rfl) (r194 (by omega) hp) rfl ?_
        by_cases h12 : v10 = 0
        · rw [if_pos h12] at H
          refine ex_if_ne_f h12 ?_
          refine ex_iconst (v := (-1)) (by decide) ?_
          have H := Option.some.inj H
          subst H
          exact ex_iret (M := 173) (Or.inl rfl)
        · rw [if_neg h12] at H
          refine ex_if_ne_j (ct := am_c173_50) h12 rfl ?_
          refine ex_aload_n rfl ?_
          refine ex_getR (w := 1) rfl rfl rfl ?_
          obtain ⟨S13, hp, H⟩ := Option.bind_eq_some_iff.mp H
          refine ex_callV rfl rfl (Nat.le_of_ble_eq_true rfl) (Nat.le_of_ble_eq_true rfl) rfl (r58 (by omega) hp) rfl ?_
          refine ex_aload_n rfl ?_
          refine ex_getR (w := 5) rfl rfl rfl ?_
          refine ex_aload_n rfl ?_
          refine ex_getR (w := 69) rfl rfl rfl ?_
          refine ex_iload_n rfl ?_
          refine ex_iload_n rfl ?_
          refine ex_iload_n rfl ?_
          obtain ⟨v14, S15, hp, H⟩ := am_b2_el H
          refine ex_callV rfl rfl (Nat.le_of_ble_eq_true rfl) (Nat.le_of_ble_eq_true rfl) rfl (r10 (by omega) hp) rfl ?_
          obtain ⟨v16, S17, hp, H⟩ := am_b2_el H
          refine ex_callV rfl rfl (Nat.le_of_ble_eq_true rfl) (Nat.le_of_ble_eq_true rfl) rfl (r129 (by omega) hp) rfl ?_
          have H := Option.some.inj H
          subst H
          exact ex_iret (M := 173) (Or.inl rfl)
  · rw [if_neg h3] at H
    refine ex_if_eq_f h3 ?_
    refine ex_bipush (v := (-4)) (by decide) ?_
    have H := Option.some.inj H
    subst H
    exact ex_iret (M := 173) (Or.inl rfl)
-- X9_pageAt
def f178 (F : Nat) (x1 : Int32) (x2 : Int32) (S : AmT) : Option (Int32 × AmT) := am_b2 (f21 F x1 S) fun v1 S2 => if v1 = 0 then (some ((-2), S2)) else (am_b2 (f14 F x1 x2 S2) fun v4 S5 => am_b2 (f129 F v4 S5) fun v6 S7 => some (v6, S7))
set_option maxHeartbeats 1000000 in
set_option maxRecDepth 20000 in
theorem r178 {Lg : Nat} {xs : Nat → Int32} {d F : Nat} {x1 : Int32} {x2 : Int32} {S : AmT} {q : Int32 × AmT} (hd : 7 ≤ d) (H : f178 F x1 x2 S = some q) : Ex (am_X Lg xs) d 178 (am_P 178) (am_ini (am_Mi 178).1 [.ref 0, .int x1, .int x2]) [] (hS S) (some q.1, hS q.2) := by
  obtain ⟨d, rfl⟩ : ∃ d2, d = d2 + 1 := ⟨d - 1, by omega⟩
  unfold f178 at H
  show Ex (am_X Lg xs) _ 178 am_c178_0 [.ref 0, .int x1, .int x2] [] (hS S) (some q.1, hS q.2)
  refine ex_aload_n rfl ?_
  refine ex_getR (w := 22) rfl rfl rfl ?_
  refine ex_iload_n rfl ?_
  obtain ⟨v1, S2, hp, H⟩ := am_b2_el H
  refine ex_callV rfl rfl (Nat.le_of_ble_eq_true rfl) (Nat.le_of_ble_eq_true rfl) rfl (r21 (by omega) hp) rfl ?_
  by_cases h3 : v1 = 0
  · rw [if_pos h3] at H
    refine ex_if_ne_f h3 ?_
    refine ex_bipush (v := (-2)) (by decide) ?_
    have H := Option.some.inj H
    subst H
    exact ex_iret (M := 178) (Or.inl rfl)
  · rw [if_neg h3] at H
    refine ex_if_ne_j (ct := am_c178_14) h3 rfl ?_
    refine ex_aload_n rfl ?_
    refine ex_getR (w := 5) rfl rfl rfl ?_
    refine ex_aload_n rfl ?_
    refine ex_getR (w := 69) rfl rfl rfl ?_
    refine ex_iload_n rfl ?_
    refine ex_iload_n rfl ?_
    obtain ⟨v4, S5, hp, H⟩ := am_b2_el H
    refine ex_callV rfl rfl (Nat.le_of_ble_eq_true rfl) (Nat.le_of_ble_eq_true rfl) rfl (r14 (by omega) hp) rfl ?_
    obtain ⟨v6, S7, hp, H⟩ := am_b2_el H
    refine ex_callV rfl rfl (Nat.le_of_ble_eq_true rfl) (Nat.le_of_ble_eq_true rfl) rfl (r129 (by omega) hp) rfl ?_
    have H := Option.some.inj H
    subst H
    exact ex_iret (M := 178) (Or.inl rfl)
def g185_24 (F : Nat) : Nat → Int32 → Int32 → AmT → Option (Int32 × AmT)
  | 0, _, _, _ => none
  | n + 1, x1, x2, S => if x2 < 0 then (some (x1, S)) else (am_b2 (f81 F S) fun v6 S7 => if v6 = 0 then (am_b2 (f87 F x2 S7) fun v9 S10 => g185_24 F n (x1 + v9) (x2 + (-1)) S10) else (some (x1, S7)))
-- X9_step
def f185 (F : Nat) (S : AmT) : Option (Int32 × AmT) := am_b2 (f81 F S) fun v1 S2 => if v1 = 0 then ((f58 F S2).bind fun S4 => g185_24 F F 0 4 S4) else (some ((-4), S2))
set_option maxHeartbeats 1000000 in
set_option maxRecDepth 20000 in
theorem e185_24 {Lg : Nat} {xs : Nat → Int32} {d F : Nat} (hd : 7 ≤ d) : ∀ (n : Nat) (x1 : Int32) (x2 : Int32) (S : AmT) (q : Int32 × AmT), g185_24 F n x1 x2 S = some q → Ex (am_X Lg xs) d 185 am_c185_24 [.ref 0, .int x1, .int x2] [] (hS S) (some q.1, hS q.2) := by
  obtain ⟨d, rfl⟩ : ∃ d2, d = d2 + 1 := ⟨d - 1, by omega⟩
  intro n
  induction n with
  | zero =>
    intro x1 x2 S q H
    cases H
  | succ n ih =>
    intro x1 x2 S q H
    have H : (if x2 < 0 then (some (x1, S)) else (am_b2 (f81 F S) fun v6 S7 => if v6 = 0 then (am_b2 (f87 F x2 S7) fun v9 S10 => g185_24 F n (x1 + v9) (x2 + (-1)) S10) else (some (x1, S7)))) = some q := H
    refine ex_iload_n rfl ?_
    by_cases h5 : x2 < 0
    · rw [if_pos h5] at H
      refine ex_if_lt_j (ct := am_c185_55) h5 rfl ?_
      refine ex_iload_n rfl ?_
      have H := Option.some.inj H
      subst H
      exact ex_iret (M := 185) (Or.inl rfl)
    · rw [if_neg h5] at H
      refine ex_if_lt_f h5 ?_
      refine ex_aload_n rfl ?_
      refine ex_getR (w := 86) rfl rfl rfl ?_
      obtain ⟨v6, S7, hp, H⟩ := am_b2_el H
      refine ex_callV rfl rfl (Nat.le_of_ble_eq_true rfl) (Nat.le_of_ble_eq_true rfl) rfl (r81 (by omega) hp) rfl ?_
      by_cases h8 : v6 = 0
      · rw [if_pos h8] at H
        refine ex_if_ne_f h8 ?_
        refine ex_iload_n rfl ?_
        refine ex_aload_n rfl ?_
        refine ex_getR (w := 86) rfl rfl rfl ?_
        refine ex_iload_n rfl ?_
        obtain ⟨v9, S10, hp, H⟩ := am_b2_el H
        refine ex_callV rfl rfl (Nat.le_of_ble_eq_true rfl) (Nat.le_of_ble_eq_true rfl) rfl (r87 (by omega) hp) rfl ?_
        refine ex_iadd ?_
        refine ex_istore_n (L2 := [.ref 0, .int (x1 + v9), .int x2]) (Nat.le_of_ble_eq_true rfl) rfl ?_
        refine ex_iinc (L2 := [.ref 0, .int (x1 + v9), .int (x2 + (-1))]) (v := (x2 + (-1))) rfl (Nat.le_of_ble_eq_true rfl) (congrArg (fun z => x2 + z) (by decide)) rfl ?_
        refine ex_goto (ct := am_c185_24) rfl ?_
        exact ih _ _ _ _ H
      · rw [if_neg h8] at H
        refine ex_if_ne_j (ct := am_c185_55) h8 rfl ?_
        refine ex_iload_n rfl ?_
        have H := Option.some.inj H
        subst H
        exact ex_iret (M := 185) (Or.inl rfl)
set_option maxHeartbeats 1000000 in
set_option maxRecDepth 20000 in
theorem r185 {Lg : Nat} {xs : Nat → Int32} {d F : Nat} {S : AmT} {q : Int32 × AmT} (hd : 7 ≤ d) (H : f185 F S = some q) : Ex (am_X Lg xs) d 185 (am_P 185) (am_ini (am_Mi 185).1 [.ref 0]) [] (hS S) (some q.1, hS q.2) := by
  obtain ⟨d, rfl⟩ : ∃ d2, d = d2 + 1 := ⟨d - 1, by omega⟩
  unfold f185 at H
  show Ex (am_X Lg xs) _ 185 am_c185_0 [.ref 0, .long 0, .long 0] [] (hS S) (some q.1, hS q.2)
  refine ex_aload_n rfl ?_
  refine ex_getR (w := 86) rfl rfl rfl ?_
  obtain ⟨v1, S2, hp, H⟩ := am_b2_el H
  refine ex_callV rfl rfl (Nat.le_of_ble_eq_true rfl) (Nat.le_of_ble_eq_true rfl) rfl (r81 (by omega) hp) rfl ?_
  by_cases h3 : v1 = 0
  · rw [if_pos h3] at H
    refine ex_if_eq_j (ct := am_c185_13) h3 rfl ?_
    refine ex_aload_n rfl ?_
    refine ex_getR (w := 1) rfl rfl rfl ?_
    obtain ⟨S4, hp, H⟩ := Option.bind_eq_some_iff.mp H
    refine ex_callV rfl rfl (Nat.le_of_ble_eq_true rfl) (Nat.le_of_ble_eq_true rfl) rfl (r58 (by omega) hp) rfl ?_
    refine ex_iconst (v := 0) (by decide) ?_
    refine ex_istore_n (L2 := [.ref 0, .int 0, .long 0]) (Nat.le_of_ble_eq_true rfl) rfl ?_
    refine ex_iconst (v := 4) (by decide) ?_
    refine ex_istore_n (L2 := [.ref 0, .int 0, .int 4]) (Nat.le_of_ble_eq_true rfl) rfl ?_
    exact e185_24 hd _ _ _ _ _ H
  · rw [if_neg h3] at H
    refine ex_if_eq_f h3 ?_
    refine ex_bipush (v := (-4)) (by decide) ?_
    have H := Option.some.inj H
    subst H
    exact ex_iret (M := 185) (Or.inl rfl)
