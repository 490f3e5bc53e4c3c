/-! printed by wip/gen/gen20.py -/
def g275_26 (F : Nat) (x1 : Int32) (S : AmT) : Option (Int32 × AmT) := (f201 F S).bind fun S5 => am_lt ((am_upI S5.1 96 (5 : Int32).toNatClampNeg x1, S5.2) : AmT) fun S6 => some (1, S6)
-- X10_cover
def f275 (F : Nat) (x1 : Int32) (S : AmT) : Option (Int32 × AmT) := am_b2 (f202 F S) fun v1 S2 => if v1 = 0 then (if x1 = (-1) then (g275_26 F x1 S2) else (am_b2 (f249 F x1 S2) fun v7 S8 => if v7 = 0 then (some ((-2), S8)) else (g275_26 F x1 S8))) else (some ((-4), S2))
set_option maxHeartbeats 1000000 in
set_option maxRecDepth 20000 in
theorem e275_26 {Lg : Nat} {xs : Nat → Int32} {d F : Nat} {x1 : Int32} {S : AmT} {q : Int32 × AmT} (hd : 3 ≤ d) (H : g275_26 F x1 S = some q) : Ex (am_X Lg xs) d 275 am_c275_26 [.ref 95, .int x1] [] (hS S) (some q.1, hS q.2) := by
  obtain ⟨d, rfl⟩ : ∃ d2, d = d2 + 1 := ⟨d - 1, by omega⟩
  unfold g275_26 at H
  refine ex_aload_n rfl ?_
  obtain ⟨S5, hp, H⟩ := Option.bind_eq_some_iff.mp H
  refine ex_callV rfl rfl (Nat.le_of_ble_eq_true rfl) (Nat.le_of_ble_eq_true rfl) rfl (r201 (by omega) hp) rfl ?_
  refine ex_aload_n rfl ?_
  refine ex_getR (w := 96) rfl rfl rfl ?_
  refine ex_iconst (v := 5) (by decide) ?_
  refine ex_iload_n rfl ?_
  refine ex_iast (k := 32) rfl rfl (by decide) ?_
  generalize ((am_upI S5.1 96 (5 : Int32).toNatClampNeg x1, S5.2) : AmT) = S6 at H ⊢
  have H := am_lt_el H
  refine ex_iconst (v := 1) (by decide) ?_
  have H := Option.some.inj H
  subst H
  exact ex_iret (M := 275) (Or.inl rfl)
set_option maxHeartbeats 1000000 in
set_option maxRecDepth 20000 in
theorem r275 {Lg : Nat} {xs : Nat → Int32} {d F : Nat} {x1 : Int32} {S : AmT} {q : Int32 × AmT} (hd : 3 ≤ d) (H : f275 F x1 S = some q) : Ex (am_X Lg xs) d 275 (am_P 275) (am_ini (am_Mi 275).1 [.ref 95, .int x1]) [] (hS S) (some q.1, hS q.2) := by
  obtain ⟨d, rfl⟩ : ∃ d2, d = d2 + 1 := ⟨d - 1, by omega⟩
  unfold f275 at H
  show Ex (am_X Lg xs) _ 275 am_c275_0 [.ref 95, .int x1] [] (hS S) (some q.1, hS q.2)
  refine ex_aload_n rfl ?_
  obtain ⟨v1, S2, hp, H⟩ := am_b2_el H
  refine ex_callV rfl rfl (Nat.le_of_ble_eq_true rfl) (Nat.le_of_ble_eq_true rfl) rfl (r202 (by omega) hp) rfl ?_
  by_cases h3 : v1 = 0
  · rw [if_pos h3] at H
    refine ex_if_eq_j (ct := am_c275_10) h3 rfl ?_
    refine ex_iload_n rfl ?_
    refine ex_iconst (v := (-1)) (by decide) ?_
    by_cases h4 : x1 = (-1)
    · rw [if_pos h4] at H
      refine ex_icmp_eq_j (ct := am_c275_26) h4 rfl ?_
      exact e275_26 hd H
    · rw [if_neg h4] at H
      refine ex_icmp_eq_f h4 ?_
      refine ex_aload_n rfl ?_
      refine ex_iload_n rfl ?_
      obtain ⟨v7, S8, hp, H⟩ := am_b2_el H
      refine ex_callV rfl rfl (Nat.le_of_ble_eq_true rfl) (Nat.le_of_ble_eq_true rfl) rfl (r249 (by omega) hp) rfl ?_
      by_cases h9 : v7 = 0
      · rw [if_pos h9] at H
        refine ex_if_ne_f h9 ?_
        refine ex_bipush (v := (-2)) (by decide) ?_
        have H := Option.some.inj H
        subst H
        exact ex_iret (M := 275) (Or.inl rfl)
      · rw [if_neg h9] at H
        refine ex_if_ne_j (ct := am_c275_26) h9 rfl ?_
        exact e275_26 hd H
  · rw [if_neg h3] at H
    refine ex_if_eq_f h3 ?_
    refine ex_bipush (v := (-4)) (by decide) ?_
    have H := Option.some.inj H
    subst H
    exact ex_iret (M := 275) (Or.inl rfl)
-- X10_foldBy
def f278 (F : Nat) (x1 : Int32) (x2 : Int32) (S : AmT) : Option (Int32 × AmT) := am_b2 (f202 F S) fun v1 S2 => if v1 = 0 then (am_b2 (f249 F x1 S2) fun v4 S5 => if v4 = 0 then (some ((-2), S5)) else (am_b2 (f224 F x2 S5) fun v7 S8 => if v7 = 0 then (some ((-2), S8)) else ((f201 F S8).bind fun S10 => am_ck x1 16 (am_lt ((am_upI S10.1 111 x1.toNatClampNeg x2, S10.2) : AmT) fun S11 => some (1, S11))))) else (some ((-4), S2))
set_option maxHeartbeats 1000000 in
set_option maxRecDepth 20000 in
theorem r278 {Lg : Nat} {xs : Nat → Int32} {d F : Nat} {x1 : Int32} {x2 : Int32} {S : AmT} {q : Int32 × AmT} (hd : 3 ≤ d) (H : f278 F x1 x2 S = some q) : Ex (am_X Lg xs) d 278 (am_P 278) (am_ini (am_Mi 278).1 [.ref 95, .int x1, .int x2]) [] (hS S) (some q.1, hS q.2) := by
  obtain ⟨d, rfl⟩ : ∃ d2, d = d2 + 1 := ⟨d - 1, by omega⟩
  unfold f278 at H
  show Ex (am_X Lg xs) _ 278 am_c278_0 [.ref 95, .int x1, .int x2] [] (hS S) (some q.1, hS q.2)
  refine ex_aload_n rfl ?_
  obtain ⟨v1, S2, hp, H⟩ := am_b2_el H
  refine ex_callV rfl rfl (Nat.le_of_ble_eq_true rfl) (Nat.le_of_ble_eq_true rfl) rfl (r202 (by omega) hp) rfl ?_
  by_cases h3 : v1 = 0
  · rw [if_pos h3] at H
    refine ex_if_eq_j (ct := am_c278_10) h3 rfl ?_
    refine ex_aload_n rfl ?_
    refine ex_iload_n rfl ?_
    obtain ⟨v4, S5, hp, H⟩ := am_b2_el H
    refine ex_callV rfl rfl (Nat.le_of_ble_eq_true rfl) (Nat.le_of_ble_eq_true rfl) rfl (r249 (by omega) hp) rfl ?_
    by_cases h6 : v4 = 0
    · rw [if_pos h6] at H
      refine ex_if_eq_j (ct := am_c278_26) h6 rfl ?_
      refine ex_bipush (v := (-2)) (by decide) ?_
      have H := Option.some.inj H
      subst H
      exact ex_iret (M := 278) (Or.inl rfl)
    · rw [if_neg h6] at H
      refine ex_if_eq_f h6 ?_
      refine ex_aload_n rfl ?_
      refine ex_iload_n rfl ?_
      obtain ⟨v7, S8, hp, H⟩ := am_b2_el H
      refine ex_callV rfl rfl (Nat.le_of_ble_eq_true rfl) (Nat.le_of_ble_eq_true rfl) rfl (r224 (by omega) hp) rfl ?_
      by_cases h9 : v7 = 0
      · rw [if_pos h9] at H
        refine ex_if_ne_f h9 ?_
        refine ex_bipush (v := (-2)) (by decide) ?_
        have H := Option.some.inj H
        subst H
        exact ex_iret (M := 278) (Or.inl rfl)
      · rw [if_neg h9] at H
        refine ex_if_ne_j (ct := am_c278_29) h9 rfl ?_
        refine ex_aload_n rfl ?_
        obtain ⟨S10, hp, H⟩ := Option.bind_eq_some_iff.mp H
        refine ex_callV rfl rfl (Nat.le_of_ble_eq_true rfl) (Nat.le_of_ble_eq_true rfl) rfl (r201 (by omega) hp) rfl ?_
        refine ex_aload_n rfl ?_
        refine ex_getR (w := 111) rfl rfl rfl ?_
        refine ex_iload_n rfl ?_
        refine ex_iload_n rfl ?_
        obtain ⟨hj, H⟩ := am_ck_el H
        refine ex_iast (k := 16) rfl rfl hj ?_
        generalize ((am_upI S10.1 111 x1.toNatClampNeg x2, S10.2) : AmT) = S11 at H ⊢
        have H := am_lt_el H
        refine ex_iconst (v := 1) (by decide) ?_
        have H := Option.some.inj H
        subst H
        exact ex_iret (M := 278) (Or.inl rfl)
  · rw [if_neg h3] at H
    refine ex_if_eq_f h3 ?_
    refine ex_bipush (v := (-4)) (by decide) ?_
    have H := Option.some.inj H
    subst H
    exact ex_iret (M := 278) (Or.inl rfl)
-- X10_margin
def f279 (F : Nat) (x1 : Int32) (S : AmT) : Option (Int32 × AmT) := am_b2 (f202 F S) fun v1 S2 => if v1 = 0 then (am_b2 (f197 F x1 0 9 S2) fun v4 S5 => if v4 = 0 then (some ((-1), S5)) else ((f201 F S5).bind fun S7 => am_lt ((am_upI S7.1 96 (6 : Int32).toNatClampNeg x1, S7.2) : AmT) fun S8 => some ((S7.1 96 6), S8))) else (some ((-4), S2))
set_option maxHeartbeats 1000000 in
set_option maxRecDepth 20000 in
theorem r279 {Lg : Nat} {xs : Nat → Int32} {d F : Nat} {x1 : Int32} {S : AmT} {q : Int32 × AmT} (hd : 3 ≤ d) (H : f279 F x1 S = some q) : Ex (am_X Lg xs) d 279 (am_P 279) (am_ini (am_Mi 279).1 [.ref 95, .int x1]) [] (hS S) (some q.1, hS q.2) := by
  obtain ⟨d, rfl⟩ : ∃ d2, d = d2 + 1 := ⟨d - 1, by omega⟩
  unfold f279 at H
  show Ex (am_X Lg xs) _ 279 am_c279_0 [.ref 95, .int x1, .long 0] [] (hS S) (some q.1, hS q.2)
  refine ex_aload_n rfl ?_
  obtain ⟨v1, S2, hp, H⟩ := am_b2_el H
  refine ex_callV rfl rfl (Nat.le_of_ble_eq_true rfl) (Nat.le_of_ble_eq_true rfl) rfl (r202 (by omega) hp) rfl ?_
  by_cases h3 : v1 = 0
  · rw [if_pos h3] at H
    refine ex_if_eq_j (ct := am_c279_10) h3 rfl ?_
    refine ex_iload_n rfl ?_
    refine ex_iconst (v := 0) (by decide) ?_
    refine ex_bipush (v := 9) (by decide) ?_
    obtain ⟨v4, S5, hp, H⟩ := am_b2_el H
    refine ex_callS rfl rfl (Nat.le_of_ble_eq_true rfl) (Nat.le_of_ble_eq_true rfl) (r197 (by omega) hp) rfl ?_
    by_cases h6 : v4 = 0
    · rw [if_pos h6] at H
      refine ex_if_ne_f h6 ?_
      refine ex_iconst (v := (-1)) (by decide) ?_
      have H := Option.some.inj H
      subst H
      exact ex_iret (M := 279) (Or.inl rfl)
    · rw [if_neg h6] at H
      refine ex_if_ne_j (ct := am_c279_22) h6 rfl ?_
      refine ex_aload_n rfl ?_
      obtain ⟨S7, hp, H⟩ := Option.bind_eq_some_iff.mp H
      refine ex_callV rfl rfl (Nat.le_of_ble_eq_true rfl) (Nat.le_of_ble_eq_true rfl) rfl (r201 (by omega) hp) rfl ?_
      refine ex_aload_n rfl ?_
      refine ex_getR (w := 96) rfl rfl rfl ?_
      refine ex_bipush (v := 6) (by decide) ?_
      refine ex_iald (v := S7.1 96 6) rfl (by decide) rfl ?_
      refine ex_istore_n (L2 := [.ref 95, .int x1, .int (S7.1 96 6)]) (Nat.le_of_ble_eq_true rfl) rfl ?_
      refine ex_aload_n rfl ?_
      refine ex_getR (w := 96) rfl rfl rfl ?_
      refine ex_bipush (v := 6) (by decide) ?_
      refine ex_iload_n rfl ?_
      refine ex_iast (k := 32) rfl rfl (by decide) ?_
      generalize ((am_upI S7.1 96 (6 : Int32).toNatClampNeg x1, S7.2) : AmT) = S8 at H ⊢
      have H := am_lt_el H
      refine ex_iload_n rfl ?_
      have H := Option.some.inj H
      subst H
      exact ex_iret (M := 279) (Or.inl rfl)
  · rw [if_neg h3] at H
    refine ex_if_eq_f h3 ?_
    refine ex_bipush (v := (-4)) (by decide) ?_
    have H := Option.some.inj H
    subst H
    exact ex_iret (M := 279) (Or.inl rfl)
-- X10_feed
def f281 (F : Nat) (x1 : Int32) (S : AmT) : Option (Int32 × AmT) := am_b2 (f202 F S) fun v1 S2 => if v1 = 0 then (am_b2 (f249 F x1 S2) fun v4 S5 => if v4 = 0 then (some ((-2), S5)) else (am_ck x1 16 (if (S5.1 112 x1.toNatClampNeg) = (-1) then (am_b2 (f280 F 0 S5) fun v8 S9 => if v8 < 0 then ((f201 F S9).bind fun S11 => am_lt ((am_upI S11.1 95 34 ((S11.1 95 34) + 1), S11.2) : AmT) fun S12 => am_ck x1 16 (am_lt ((am_upI S12.1 112 x1.toNatClampNeg 0, S12.2) : AmT) fun S13 => am_ck x1 16 (am_lt ((am_upI S13.1 113 x1.toNatClampNeg ((S13.1 95 34) - 1), S13.2) : AmT) fun S14 => some (((S14.1 95 34) - 1), S14)))) else (some ((-5), S9))) else (some ((-5), S5))))) else (some ((-4), S2))
set_option maxHeartbeats 1000000 in
set_option maxRecDepth 20000 in
theorem r281 {Lg : Nat} {xs : Nat → Int32} {d F : Nat} {x1 : Int32} {S : AmT} {q : Int32 × AmT} (hd : 3 ≤ d) (H : f281 F x1 S = some q) : Ex (am_X Lg xs) d 281 (am_P 281) (am_ini (am_Mi 281).1 [.ref 95, .int x1]) [] (hS S) (some q.1, hS q.2) := by
  obtain ⟨d, rfl⟩ : ∃ d2, d = d2 + 1 := ⟨d - 1, by omega⟩
  unfold f281 at H
  show Ex (am_X Lg xs) _ 281 am_c281_0 [.ref 95, .int x1] [] (hS S) (some q.1, hS q.2)
  refine ex_aload_n rfl ?_
  obtain ⟨v1, S2, hp, H⟩ := am_b2_el H
  refine ex_callV rfl rfl (Nat.le_of_ble_eq_true rfl) (Nat.le_of_ble_eq_true rfl) rfl (r202 (by omega) hp) rfl ?_
  by_cases h3 : v1 = 0
  · rw [if_pos h3] at H
    refine ex_if_eq_j (ct := am_c281_10) h3 rfl ?_
    refine ex_aload_n rfl ?_
    refine ex_iload_n rfl ?_
    obtain ⟨v4, S5, hp, H⟩ := am_b2_el H
    refine ex_callV rfl rfl (Nat.le_of_ble_eq_true rfl) (Nat.le_of_ble_eq_true rfl) rfl (r249 (by omega) hp) rfl ?_
    by_cases h6 : v4 = 0
    · rw [if_pos h6] at H
      refine ex_if_ne_f h6 ?_
      refine ex_bipush (v := (-2)) (by decide) ?_
      have H := Option.some.inj H
      subst H
      exact ex_iret (M := 281) (Or.inl rfl)
    · rw [if_neg h6] at H
      refine ex_if_ne_j (ct := am_c281_21) h6 rfl ?_
      refine ex_aload_n rfl ?_
      refine ex_getR (w := 112) rfl rfl rfl ?_
      refine ex_iload_n rfl ?_
      obtain ⟨hj, H⟩ := am_ck_el H
      refine ex_iald (k := 16) (v := S5.1 112 x1.toNatClampNeg) rfl hj rfl ?_
      refine ex_iconst (v := (-1)) (by decide) ?_
      by_cases h7 : (S5.1 112 x1.toNatClampNeg) = (-1)
      · rw [if_pos h7] at H
        refine ex_icmp_ne_f h7 ?_
        refine ex_aload_n rfl ?_
        refine ex_iconst (v := 0) (by decide) ?_
        obtain ⟨v8, S9, hp, H⟩ := am_b2_el H
        refine ex_callV rfl rfl (Nat.le_of_ble_eq_true rfl) (Nat.le_of_ble_eq_true rfl) rfl (r280 (by omega) hp) rfl ?_
        by_cases h10 : v8 < 0
        · rw [if_pos h10] at H
          refine ex_if_lt_j (ct := am_c281_42) h10 rfl ?_
          refine ex_aload_n rfl ?_
          obtain ⟨S11, hp, H⟩ := Option.bind_eq_some_iff.mp H
          refine ex_callV rfl rfl (Nat.le_of_ble_eq_true rfl) (Nat.le_of_ble_eq_true rfl) rfl (r201 (by omega) hp) rfl ?_
          refine ex_aload_n rfl ?_
          refine ex_dupr ?_
          refine ex_gI rfl (by decide) ?_
          refine ex_iconst (v := 1) (by decide) ?_
          refine ex_iadd ?_
          refine ex_putI rfl (by decide) (fun z => absurd z.1 (by decide)) ?_
          generalize ((am_upI S11.1 95 34 ((S11.1 95 34) + 1), S11.2) : AmT) = S12 at H ⊢
          have H := am_lt_el H
          refine ex_aload_n rfl ?_
          refine ex_getR (w := 112) rfl rfl rfl ?_
          refine ex_iload_n rfl ?_
          refine ex_iconst (v := 0) (by decide) ?_
          obtain ⟨hj, H⟩ := am_ck_el H
          refine ex_iast (k := 16) rfl rfl hj ?_
          generalize ((am_upI S12.1 112 x1.toNatClampNeg 0, S12.2) : AmT) = S13 at H ⊢
          have H := am_lt_el H
          refine ex_aload_n rfl ?_
          refine ex_getR (w := 113) rfl rfl rfl ?_
          refine ex_iload_n rfl ?_
          refine ex_aload_n rfl ?_
          refine ex_gI rfl (by decide) ?_
          refine ex_iconst (v := 1) (by decide) ?_
          refine ex_isub ?_
          obtain ⟨hj, H⟩ := am_ck_el H
          refine ex_iast (k := 16) rfl rfl hj ?_
          generalize ((am_upI S13.1 113 x1.toNatClampNeg ((S13.1 95 34) - 1), S13.2) : AmT) = S14 at H ⊢
          have H := am_lt_el H
          refine ex_aload_n rfl ?_
          refine ex_gI rfl (by decide) ?_
          refine ex_iconst (v := 1) (by decide) ?_
          refine ex_isub ?_
          have H := Option.some.inj H
          subst H
          exact ex_iret (M := 281) (Or.inl rfl)
        · rw [if_neg h10] at H
          refine ex_if_lt_f h10 ?_
          refine ex_bipush (v := (-5)) (by decide) ?_
          have H := Option.some.inj H
          subst H
          exact ex_iret (M := 281) (Or.inl rfl)
      · rw [if_neg h7] at H
        refine ex_icmp_ne_j (ct := am_c281_39) h7 rfl ?_
        refine ex_bipush (v := (-5)) (by decide) ?_
        have H := Option.some.inj H
        subst H
        exact ex_iret (M := 281) (Or.inl rfl)
  · rw [if_neg h3] at H
    refine ex_if_eq_f h3 ?_
    refine ex_bipush (v := (-4)) (by decide) ?_
    have H := Option.some.inj H
    subst H
    exact ex_iret (M := 281) (Or.inl rfl)
-- X10_doubled
def f282 (F : Nat) (S : AmT) : Option (Int32 × AmT) := am_b2 (f202 F S) fun v1 S2 => if v1 = 0 then ((f201 F S2).bind fun S4 => am_lt ((am_upI S4.1 96 (7 : Int32).toNatClampNeg 1, S4.2) : AmT) fun S5 => some (1, S5)) else (some ((-4), S2))
set_option maxHeartbeats 1000000 in
set_option maxRecDepth 20000 in
theorem r282 {Lg : Nat} {xs : Nat → Int32} {d F : Nat} {S : AmT} {q : Int32 × AmT} (hd : 3 ≤ d) (H : f282 F S = some q) : Ex (am_X Lg xs) d 282 (am_P 282) (am_ini (am_Mi 282).1 [.ref 95]) [] (hS S) (some q.1, hS q.2) := by
  obtain ⟨d, rfl⟩ : ∃ d2, d = d2 + 1 := ⟨d - 1, by omega⟩
  unfold f282 at H
  show Ex (am_X Lg xs) _ 282 am_c282_0 [.ref 95] [] (hS S) (some q.1, hS q.2)
  refine ex_aload_n rfl ?_
  obtain ⟨v1, S2, hp, H⟩ := am_b2_el H
  refine ex_callV rfl rfl (Nat.le_of_ble_eq_true rfl) (Nat.le_of_ble_eq_true rfl) rfl (r202 (by omega) hp) rfl ?_
  by_cases h3 : v1 = 0
  · rw [if_pos h3] at H
    refine ex_if_eq_j (ct := am_c282_10) h3 rfl ?_
    refine ex_aload_n rfl ?_
    obtain ⟨S4, hp, H⟩ := Option.bind_eq_some_iff.mp H
    refine ex_callV rfl rfl (Nat.le_of_ble_eq_true rfl) (Nat.le_of_ble_eq_true rfl) rfl (r201 (by omega) hp) rfl ?_
    refine ex_aload_n rfl ?_
    refine ex_getR (w := 96) rfl rfl rfl ?_
    refine ex_bipush (v := 7) (by decide) ?_
    refine ex_iconst (v := 1) (by decide) ?_
    refine ex_iast (k := 32) rfl rfl (by decide) ?_
    generalize ((am_upI S4.1 96 (7 : Int32).toNatClampNeg 1, S4.2) : AmT) = S5 at H ⊢
    have H := am_lt_el H
    refine ex_iconst (v := 1) (by decide) ?_
    have H := Option.some.inj H
    subst H
    exact ex_iret (M := 282) (Or.inl rfl)
  · rw [if_neg h3] at H
    refine ex_if_eq_f h3 ?_
    refine ex_bipush (v := (-4)) (by decide) ?_
    have H := Option.some.inj H
    subst H
    exact ex_iret (M := 282) (Or.inl rfl)
-- X10_jam
def f283 (F : Nat) (x1 : Int32) (S : AmT) : Option (Int32 × AmT) := am_b2 (f202 F S) fun v1 S2 => if v1 = 0 then (am_b2 (f197 F x1 0 4 S2) fun v4 S5 => if v4 = 0 then (some ((-1), S5)) else ((f201 F S5).bind fun S7 => am_ck x1 10 (am_lt ((am_upI S7.1 124 x1.toNatClampNeg 1, S7.2) : AmT) fun S8 => some (1, S8)))) else (some ((-4), S2))
set_option maxHeartbeats 1000000 in
set_option maxRecDepth 20000 in
theorem r283 {Lg : Nat} {xs : Nat → Int32} {d F : Nat} {x1 : Int32} {S : AmT} {q : Int32 × AmT} (hd : 3 ≤ d) (H : f283 F x1 S = some q) : Ex (am_X Lg xs) d 283 (am_P 283) (am_ini (am_Mi 283).1 [.ref 95, .int x1]) [] (hS S) (some q.1, hS q.2) := by
  obtain ⟨d, rfl⟩ : ∃ d2, d = d2 + 1 := ⟨d - 1, by omega⟩
  unfold f283 at H
  show Ex (am_X Lg xs) _ 283 am_c283_0 [.ref 95, .int x1] [] (hS S) (some q.1, hS q.2)
  refine ex_aload_n rfl ?_
  obtain ⟨v1, S2, hp, H⟩ := am_b2_el H
  refine ex_callV rfl rfl (Nat.le_of_ble_eq_true rfl) (Nat.le_of_ble_eq_true rfl) rfl (r202 (by omega) hp) rfl ?_
  by_cases h3 : v1 = 0
  · rw [if_pos h3] at H
    refine ex_if_eq_j (ct := am_c283_10) h3 rfl ?_
    refine ex_iload_n rfl ?_
    refine ex_iconst (v := 0) (by decide) ?_
    refine ex_iconst (v := 4) (by decide) ?_
    obtain ⟨v4, S5, hp, H⟩ := am_b2_el H
    refine ex_callS rfl rfl (Nat.le_of_ble_eq_true rfl) (Nat.le_of_ble_eq_true rfl) (r197 (by omega) hp) rfl ?_
    by_cases h6 : v4 = 0
    · rw [if_pos h6] at H
      refine ex_if_ne_f h6 ?_
      refine ex_iconst (v := (-1)) (by decide) ?_
      have H := Option.some.inj H
      subst H
      exact ex_iret (M := 283) (Or.inl rfl)
    · rw [if_neg h6] at H
      refine ex_if_ne_j (ct := am_c283_21) h6 rfl ?_
      refine ex_aload_n rfl ?_
      obtain ⟨S7, hp, H⟩ := Option.bind_eq_some_iff.mp H
      refine ex_callV rfl rfl (Nat.le_of_ble_eq_true rfl) (Nat.le_of_ble_eq_true rfl) rfl (r201 (by omega) hp) rfl ?_
      refine ex_aload_n rfl ?_
      refine ex_getR (w := 124) rfl rfl rfl ?_
      refine ex_iload_n rfl ?_
      refine ex_iconst (v := 1) (by decide) ?_
      obtain ⟨hj, H⟩ := am_ck_el H
      refine ex_bast (k := 10) rfl rfl hj (by decide) ?_
      generalize ((am_upI S7.1 124 x1.toNatClampNeg 1, S7.2) : AmT) = S8 at H ⊢
      have H := am_lt_el H
      refine ex_iconst (v := 1) (by decide) ?_
      have H := Option.some.inj H
      subst H
      exact ex_iret (M := 283) (Or.inl rfl)
  · rw [if_neg h3] at H
    refine ex_if_eq_f h3 ?_
    refine ex_bipush (v := (-4)) (by decide) ?_
    have H := Option.some.inj H
    subst H
    exact ex_iret (M := 283) (Or.inl rfl)
-- X10_reprint
def f288 (F : Nat) (x1 : Int32) (S : AmT) : Option (Int32 × AmT) := am_b2 (f202 F S) fun v1 S2 => if v1 = 0 then (am_b2 (f249 F x1 S2) fun v4 S5 => if v4 = 0 then (some ((-2), S5)) else (am_ck x1 16 (if (S5.1 112 x1.toNatClampNeg) = 6 then ((f201 F S5).bind fun S8 => am_ck x1 16 (am_lt ((am_upI S8.1 112 x1.toNatClampNeg (-1), S8.2) : AmT) fun S9 => am_ck x1 16 (am_lt ((am_upI S9.1 114 x1.toNatClampNeg 0, S9.2) : AmT) fun S10 => some (1, S10)))) else (some ((-5), S5))))) else (some ((-4), S2))
set_option maxHeartbeats 1000000 in
set_option maxRecDepth 20000 in
theorem r288 {Lg : Nat} {xs : Nat → Int32} {d F : Nat} {x1 : Int32} {S : AmT} {q : Int32 × AmT} (hd : 3 ≤ d) (H : f288 F x1 S = some q) : Ex (am_X Lg xs) d 288 (am_P 288) (am_ini (am_Mi 288).1 [.ref 95, .int x1]) [] (hS S) (some q.1, hS q.2) := by
  obtain ⟨d, rfl⟩ : ∃ d2, d = d2 + 1 := ⟨d - 1, by omega⟩
  unfold f288 at H
  show Ex (am_X Lg xs) _ 288 am_c288_0 [.ref 95, .int x1] [] (hS S) (some q.1, hS q.2)
  refine ex_aload_n rfl ?_
  obtain ⟨v1, S2, hp, H⟩ := am_b2_el H
  refine ex_callV rfl rfl (Nat.le_of_ble_eq_true rfl) (Nat.le_of_ble_eq_true rfl) rfl (r202 (by omega) hp) rfl ?_
  by_cases h3 : v1 = 0
  · rw [if_pos h3] at H
    refine ex_if_eq_j (ct := am_c288_10) h3 rfl ?_
    refine ex_aload_n rfl ?_
    refine ex_iload_n rfl ?_
    obtain ⟨v4, S5, hp, H⟩ := am_b2_el H
    refine ex_callV rfl rfl (Nat.le_of_ble_eq_true rfl) (Nat.le_of_ble_eq_true rfl) rfl (r249 (by omega) hp) rfl ?_
    by_cases h6 : v4 = 0
    · rw [if_pos h6] at H
      refine ex_if_ne_f h6 ?_
      refine ex_bipush (v := (-2)) (by decide) ?_
      have H := Option.some.inj H
      subst H
      exact ex_iret (M := 288) (Or.inl rfl)
    · rw [if_neg h6] at H
      refine ex_if_ne_j (ct := am_c288_21) h6 rfl ?_
      refine ex_aload_n rfl ?_
      refine ex_getR (w := 112) rfl rfl rfl ?_
      refine ex_iload_n rfl ?_
      obtain ⟨hj, H⟩ := am_ck_el H
      refine ex_iald (k := 16) (v := S5.1 112 x1.toNatClampNeg) rfl hj rfl ?_
      refine ex_bipush (v := 6) (by decide) ?_
      by_cases h7 : (S5.1 112 x1.toNatClampNeg) = 6
      · rw [if_pos h7] at H
        refine ex_icmp_eq_j (ct := am_c288_35) h7 rfl ?_
        refine ex_aload_n rfl ?_
        obtain ⟨S8, hp, H⟩ := Option.bind_eq_some_iff.mp H
        refine ex_callV rfl rfl (Nat.le_of_ble_eq_true rfl) (Nat.le_of_ble_eq_true rfl) rfl (r201 (by omega) hp) rfl ?_
        refine ex_aload_n rfl ?_
        refine ex_getR (w := 112) rfl rfl rfl ?_
        refine ex_iload_n rfl ?_
        refine ex_iconst (v := (-1)) (by decide) ?_
        obtain ⟨hj, H⟩ := am_ck_el H
        refine ex_iast (k := 16) rfl rfl hj ?_
        generalize ((am_upI S8.1 112 x1.toNatClampNeg (-1), S8.2) : AmT) = S9 at H ⊢
        have H := am_lt_el H
        refine ex_aload_n rfl ?_
        refine ex_getR (w := 114) rfl rfl rfl ?_
        refine ex_iload_n rfl ?_
        refine ex_iconst (v := 0) (by decide) ?_
        obtain ⟨hj, H⟩ := am_ck_el H
        refine ex_iast (k := 16) rfl rfl hj ?_
        generalize ((am_upI S9.1 114 x1.toNatClampNeg 0, S9.2) : AmT) = S10 at H ⊢
        have H := am_lt_el H
        refine ex_iconst (v := 1) (by decide) ?_
        have H := Option.some.inj H
        subst H
        exact ex_iret (M := 288) (Or.inl rfl)
      · rw [if_neg h7] at H
        refine ex_icmp_eq_f h7 ?_
        refine ex_bipush (v := (-5)) (by decide) ?_
        have H := Option.some.inj H
        subst H
        exact ex_iret (M := 288) (Or.inl rfl)
  · rw [if_neg h3] at H
    refine ex_if_eq_f h3 ?_
    refine ex_bipush (v := (-4)) (by decide) ?_
    have H := Option.some.inj H
    subst H
    exact ex_iret (M := 288) (Or.inl rfl)
-- X10_clear
def f289 (F : Nat) (S : AmT) : Option (Int32 × AmT) := (f201 F S).bind fun S1 => am_lt ((am_upI S1.1 96 (8 : Int32).toNatClampNeg 0, S1.2) : AmT) fun S2 => some ((S1.1 96 8), S2)
set_option maxHeartbeats 1000000 in
set_option maxRecDepth 20000 in
theorem r289 {Lg : Nat} {xs : Nat → Int32} {d F : Nat} {S : AmT} {q : Int32 × AmT} (hd : 3 ≤ d) (H : f289 F S = some q) : Ex (am_X Lg xs) d 289 (am_P 289) (am_ini (am_Mi 289).1 [.ref 95]) [] (hS S) (some q.1, hS q.2) := by
  obtain ⟨d, rfl⟩ : ∃ d2, d = d2 + 1 := ⟨d - 1, by omega⟩
  unfold f289 at H
  show Ex (am_X Lg xs) _ 289 am_c289_0 [.ref 95, .long 0] [] (hS S) (some q.1, hS q.2)
  refine ex_aload_n rfl ?_
  obtain ⟨S1, hp, H⟩ := Option.bind_eq_some_iff.mp H
  refine ex_callV rfl rfl (Nat.le_of_ble_eq_true rfl) (Nat.le_of_ble_eq_true rfl) rfl (r201 (by omega) hp) rfl ?_
  refine ex_aload_n rfl ?_
  refine ex_getR (w := 96) rfl rfl rfl ?_
  refine ex_bipush (v := 8) (by decide) ?_
  refine ex_iald (v := S1.1 96 8) rfl (by decide) rfl ?_
  refine ex_istore_n (L2 := [.ref 95, .int (S1.1 96 8)]) (Nat.le_of_ble_eq_true rfl) rfl ?_
  refine ex_aload_n rfl ?_
  refine ex_getR (w := 96) rfl rfl rfl ?_
  refine ex_bipush (v := 8) (by decide) ?_
  refine ex_iconst (v := 0) (by decide) ?_
  refine ex_iast (k := 32) rfl rfl (by decide) ?_
  generalize ((am_upI S1.1 96 (8 : Int32).toNatClampNeg 0, S1.2) : AmT) = S2 at H ⊢
  have H := am_lt_el H
  refine ex_iload_n rfl ?_
  have H := Option.some.inj H
  subst H
  exact ex_iret (M := 289) (Or.inl rfl)
def g91_88 (F : Nat) (k2 : Int32 → Int32 → Int32 → AmT → Option (Int32 × AmT)) (k33 : Int32 → Int32 → Int32 → Int32 → AmT → Option (Int32 × AmT)) (x1 : Int32) (x2 : Int32) (x3 : Int32) (x4 : Int32) (s0 : Int32) (S : AmT) : Option (Int32 × AmT) := if 0 ≤ s0 then ((f135 F s0 S).bind fun S18 => k33 x1 x2 x3 (x4 + 1) S18) else (some (s0, S))
def g91_33 (F : Nat) (k2 : Int32 → Int32 → Int32 → AmT → Option (Int32 × AmT)) : Nat → Int32 → Int32 → Int32 → Int32 → AmT → Option (Int32 × AmT)
  | 0, _, _, _, _, _ => none
  | n + 1, x1, x2, x3, x4, S => am_b2 (f98 F x1 S) fun v7 S8 => if v7 ≤ x4 then (k2 x1 x2 (x3 + 1) S8) else (am_b2 (f104 F x1 x2 x3 x4 S8) fun v10 S11 => am_b2 (f106 F v10 S11) fun v12 S13 => if v12 = 0 then (g91_88 F k2 (fun x1 x2 x3 x4 S => g91_33 F k2 n x1 x2 x3 x4 S) x1 x2 x3 x4 0 S13) else (am_b2 (f115 F x1 v10 0 0 S13) fun v15 S16 => g91_88 F k2 (fun x1 x2 x3 x4 S => g91_33 F k2 n x1 x2 x3 x4 S) x1 x2 x3 x4 v15 S16))
def g91_2 (F : Nat) : Nat → Int32 → Int32 → Int32 → AmT → Option (Int32 × AmT)
  | 0, _, _, _, _ => none
  | n + 1, x1, x2, x3, S => am_b2 (f97 F x1 S) fun v1 S2 => if v1 ≤ x3 then (some (1, S2)) else (am_b2 (f102 F x1 x2 x3 S2) fun v4 S5 => if v4 = 0 then (g91_33 F (fun x1 x2 x3 S => g91_2 F n x1 x2 x3 S) F x1 x2 x3 0 S5) else (some ((-11), S5)))
-- X6_inkSide
def f91 (F : Nat) (x1 : Int32) (x2 : Int32) (S : AmT) : Option (Int32 × AmT) := g91_2 F F x1 x2 0 S
set_option maxHeartbeats 1000000 in
set_option maxRecDepth 20000 in
theorem e91_88 {Lg : Nat} {xs : Nat → Int32} {d F : Nat} {k2 : Int32 → Int32 → Int32 → AmT → Option (Int32 × AmT)} {k33 : Int32 → Int32 → Int32 → Int32 → AmT → Option (Int32 × AmT)} {x1 : Int32} {x2 : Int32} {x3 : Int32} {x4 : Int32} {s0 : Int32} {w5 : Value} {w6 : Value} {S : AmT} {q : Int32 × AmT} (hd : 4 ≤ d) (hk2 : ∀ (x1 : Int32) (x2 : Int32) (x3 : Int32) (w4 : Value) (w5 : Value) (w6 : Value) (S : AmT) (q : Int32 × AmT), k2 x1 x2 x3 S = some q → Ex (am_X Lg xs) d 91 am_c91_2 [.ref 86, .int x1, .int x2, .int x3, w4, w5, w6] [] (hS S) (some q.1, hS q.2)) (hk33 : ∀ (x1 : Int32) (x2 : Int32) (x3 : Int32) (x4 : Int32) (w5 : Value) (w6 : Value) (S : AmT) (q : Int32 × AmT), k33 x1 x2 x3 x4 S = some q → Ex (am_X Lg xs) d 91 am_c91_33 [.ref 86, .int x1, .int x2, .int x3, .int x4, w5, w6] [] (hS S) (some q.1, hS q.2)) (H : g91_88 F k2 k33 x1 x2 x3 x4 s0 S = some q) : Ex (am_X Lg xs) d 91 am_c91_88 [.ref 86, .int x1, .int x2, .int x3, .int x4, w5, w6] [.int s0] (hS S) (some q.1, hS q.2) := by
  obtain ⟨d, rfl⟩ : ∃ d2, d = d2 + 1 := ⟨d - 1, by omega⟩
  unfold g91_88 at H
  refine ex_istore (L2 := [.ref 86, .int x1, .int x2, .int x3, .int x4, w5, .int s0]) (Nat.le_of_ble_eq_true rfl) rfl ?_
  refine ex_iload rfl ?_
  by_cases h17 : 0 ≤ s0
  · rw [if_pos h17] at H
    refine ex_if_ge_j (ct := am_c91_98) h17 rfl ?_
    refine ex_aload_n rfl ?_
    refine ex_getR (w := 5) rfl rfl rfl ?_
    refine ex_iload rfl ?_
    obtain ⟨S18, hp, H⟩ := Option.bind_eq_some_iff.mp H
    refine ex_callV rfl rfl (Nat.le_of_ble_eq_true rfl) (Nat.le_of_ble_eq_true rfl) rfl (r135 (by omega) hp) rfl ?_
    refine ex_iinc (L2 := [.ref 86, .int x1, .int x2, .int x3, .int (x4 + 1), w5, .int s0]) (v := (x4 + 1)) rfl (Nat.le_of_ble_eq_true rfl) (congrArg (fun z => x4 + z) (by decide)) rfl ?_
    refine ex_goto (ct := am_c91_33) rfl ?_
    exact hk33 _ _ _ _ _ _ _ _ H
  · rw [if_neg h17] at H
    refine ex_if_ge_f h17 ?_
    refine ex_iload rfl ?_
    have H := Option.some.inj H
    subst H
    exact ex_iret (M := 91) (Or.inl rfl)
set_option maxHeartbeats 1000000 in
set_option maxRecDepth 20000 in
theorem e91_33 {Lg : Nat} {xs : Nat → Int32} {d F : Nat} {k2 : Int32 → Int32 → Int32 → AmT → Option (Int32 × AmT)} (hd : 4 ≤ d) (hk2 : ∀ (x1 : Int32) (x2 : Int32) (x3 : Int32) (w4 : Value) (w5 : Value) (w6 : Value) (S : AmT) (q : Int32 × AmT), k2 x1 x2 x3 S = some q → Ex (am_X Lg xs) d 91 am_c91_2 [.ref 86, .int x1, .int x2, .int x3, w4, w5, w6] [] (hS S) (some q.1, hS q.2)) : ∀ (n : Nat) (x1 : Int32) (x2 : Int32) (x3 : Int32) (x4 : Int32) (w5 : Value) (w6 : Value) (S : AmT) (q : Int32 × AmT), g91_33 F k2 n x1 x2 x3 x4 S = some q → Ex (am_X Lg xs) d 91 am_c91_33 [.ref 86, .int x1, .int x2, .int x3, .int x4, w5, w6] [] (hS S) (some q.1, hS q.2) := by
  obtain ⟨d, rfl⟩ : ∃ d2, d = d2 + 1 := ⟨d - 1, by omega⟩
  intro n
  induction n with
  | zero =>
    intro x1 x2 x3 x4 w5 w6 S q H
    cases H
  | succ n ih =>
    intro x1 x2 x3 x4 w5 w6 S q H
    have H : (am_b2 (f98 F x1 S) fun v7 S8 => if v7 ≤ x4 then (k2 x1 x2 (x3 + 1) S8) else (am_b2 (f104 F x1 x2 x3 x4 S8) fun v10 S11 => am_b2 (f106 F v10 S11) fun v12 S13 => if v12 = 0 then (g91_88 F k2 (fun x1 x2 x3 x4 S => g91_33 F k2 n x1 x2 x3 x4 S) x1 x2 x3 x4 0 S13) else (am_b2 (f115 F x1 v10 0 0 S13) fun v15 S16 => g91_88 F k2 (fun x1 x2 x3 x4 S => g91_33 F k2 n x1 x2 x3 x4 S) x1 x2 x3 x4 v15 S16))) = some q := H
    refine ex_iload rfl ?_
    refine ex_aload_n rfl ?_
    refine ex_getR (w := 46) rfl rfl rfl ?_
    refine ex_iload_n rfl ?_
    obtain ⟨v7, S8, hp, H⟩ := am_b2_el H
    refine ex_callV rfl rfl (Nat.le_of_ble_eq_true rfl) (Nat.le_of_ble_eq_true rfl) rfl (r98 (by omega) hp) rfl ?_
    by_cases h9 : v7 ≤ x4
    · rw [if_pos h9] at H
      refine ex_icmp_ge_j (ct := am_c91_113) h9 rfl ?_
      refine ex_iinc (L2 := [.ref 86, .int x1, .int x2, .int (x3 + 1), .int x4, w5, w6]) (v := (x3 + 1)) rfl (Nat.le_of_ble_eq_true rfl) (congrArg (fun z => x3 + z) (by decide)) rfl ?_
      refine ex_goto (ct := am_c91_2) rfl ?_
      exact hk2 _ _ _ _ _ _ _ _ H
    · rw [if_neg h9] at H
      refine ex_icmp_ge_f h9 ?_
      refine ex_aload_n rfl ?_
      refine ex_getR (w := 46) rfl rfl rfl ?_
      refine ex_iload_n rfl ?_
      refine ex_iload_n rfl ?_
      refine ex_iload_n rfl ?_
      refine ex_iload rfl ?_
      obtain ⟨v10, S11, hp, H⟩ := am_b2_el H
      refine ex_callV rfl rfl (Nat.le_of_ble_eq_true rfl) (Nat.le_of_ble_eq_true rfl) rfl (r104 (by omega) hp) rfl ?_
      refine ex_istore (L2 := [.ref 86, .int x1, .int x2, .int x3, .int x4, .int v10, w6]) (Nat.le_of_ble_eq_true rfl) rfl ?_
      refine ex_aload_n rfl ?_
      refine ex_getR (w := 46) rfl rfl rfl ?_
      refine ex_iload rfl ?_
      obtain ⟨v12, S13, hp, H⟩ := am_b2_el H
      refine ex_callV rfl rfl (Nat.le_of_ble_eq_true rfl) (Nat.le_of_ble_eq_true rfl) rfl (r106 (by omega) hp) rfl ?_
      by_cases h14 : v12 = 0
      · rw [if_pos h14] at H
        refine ex_if_ne_f h14 ?_
        refine ex_iconst (v := 0) (by decide) ?_
        refine ex_goto (ct := am_c91_88) rfl ?_
        exact e91_88 hd hk2 (fun x1 x2 x3 x4 w5 w6 S q H => ih x1 x2 x3 x4 w5 w6 S q H) H
      · rw [if_neg h14] at H
        refine ex_if_ne_j (ct := am_c91_76) h14 rfl ?_
        refine ex_aload_n rfl ?_
        refine ex_getR (w := 46) rfl rfl rfl ?_
        refine ex_iload_n rfl ?_
        refine ex_iload rfl ?_
        refine ex_iconst (v := 0) (by decide) ?_
        refine ex_iconst (v := 0) (by decide) ?_
        obtain ⟨v15, S16, hp, H⟩ := am_b2_el H
        refine ex_callV rfl rfl (Nat.le_of_ble_eq_true rfl) (Nat.le_of_ble_eq_true rfl) rfl (r115 (by omega) hp) rfl ?_
        exact e91_88 hd hk2 (fun x1 x2 x3 x4 w5 w6 S q H => ih x1 x2 x3 x4 w5 w6 S q H) H
set_option maxHeartbeats 1000000 in
set_option maxRecDepth 20000 in
theorem e91_2 {Lg : Nat} {xs : Nat → Int32} {d F : Nat} (hd : 4 ≤ d) : ∀ (n : Nat) (x1 : Int32) (x2 : Int32) (x3 : Int32) (w4 : Value) (w5 : Value) (w6 : Value) (S : AmT) (q : Int32 × AmT), g91_2 F n x1 x2 x3 S = some q → Ex (am_X Lg xs) d 91 am_c91_2 [.ref 86, .int x1, .int x2, .int x3, w4, w5, w6] [] (hS S) (some q.1, hS q.2) := by
  obtain ⟨d, rfl⟩ : ∃ d2, d = d2 + 1 := ⟨d - 1, by omega⟩
  intro n
  induction n with
  | zero =>
    intro x1 x2 x3 w4 w5 w6 S q H
    cases H
  | succ n ih =>
    intro x1 x2 x3 w4 w5 w6 S q H
    have H : (am_b2 (f97 F x1 S) fun v1 S2 => if v1 ≤ x3 then (some (1, S2)) else (am_b2 (f102 F x1 x2 x3 S2) fun v4 S5 => if v4 = 0 then (g91_33 F (fun x1 x2 x3 S => g91_2 F n x1 x2 x3 S) F x1 x2 x3 0 S5) else (some ((-11), S5)))) = some q := H
    refine ex_iload_n rfl ?_
    refine ex_aload_n rfl ?_
    refine ex_getR (w := 46) rfl rfl rfl ?_
    refine ex_iload_n rfl ?_
    obtain ⟨v1, S2, hp, H⟩ := am_b2_el H
    refine ex_callV rfl rfl (Nat.le_of_ble_eq_true rfl) (Nat.le_of_ble_eq_true rfl) rfl (r97 (by omega) hp) rfl ?_
    by_cases h3 : v1 ≤ x3
    · rw [if_pos h3] at H
      refine ex_icmp_ge_j (ct := am_c91_119) h3 rfl ?_
      refine ex_iconst (v := 1) (by decide) ?_
      have H := Option.some.inj H
      subst H
      exact ex_iret (M := 91) (Or.inl rfl)
    · rw [if_neg h3] at H
      refine ex_icmp_ge_f h3 ?_
      refine ex_aload_n rfl ?_
      refine ex_getR (w := 46) rfl rfl rfl ?_
      refine ex_iload_n rfl ?_
      refine ex_iload_n rfl ?_
      refine ex_iload_n rfl ?_
      obtain ⟨v4, S5, hp, H⟩ := am_b2_el H
      refine ex_callV rfl rfl (Nat.le_of_ble_eq_true rfl) (Nat.le_of_ble_eq_true rfl) rfl (r102 (by omega) hp) rfl ?_
      by_cases h6 : v4 = 0
      · rw [if_pos h6] at H
        refine ex_if_eq_j (ct := am_c91_30) h6 rfl ?_
        refine ex_iconst (v := 0) (by decide) ?_
        refine ex_istore (L2 := [.ref 86, .int x1, .int x2, .int x3, .int 0, w5, w6]) (Nat.le_of_ble_eq_true rfl) rfl ?_
        exact e91_33 hd (fun x1 x2 x3 w4 w5 w6 S q H => ih x1 x2 x3 w4 w5 w6 S q H) _ _ _ _ _ _ _ _ _ H
      · rw [if_neg h6] at H
        refine ex_if_eq_f h6 ?_
        refine ex_bipush (v := (-11)) (by decide) ?_
        have H := Option.some.inj H
        subst H
        exact ex_iret (M := 91) (Or.inl rfl)
set_option maxHeartbeats 1000000 in
set_option maxRecDepth 20000 in
theorem r91 {Lg : Nat} {xs : Nat → Int32} {d F : Nat} {x1 : Int32} {x2 : Int32} {S : AmT} {q : Int32 × AmT} (hd : 4 ≤ d) (H : f91 F x1 x2 S = some q) : Ex (am_X Lg xs) d 91 (am_P 91) (am_ini (am_Mi 91).1 [.ref 86, .int x1, .int x2]) [] (hS S) (some q.1, hS q.2) := by
  obtain ⟨d, rfl⟩ : ∃ d2, d = d2 + 1 := ⟨d - 1, by omega⟩
  unfold f91 at H
  show Ex (am_X Lg xs) _ 91 am_c91_0 [.ref 86, .int x1, .int x2, .long 0, .long 0, .long 0, .long 0] [] (hS S) (some q.1, hS q.2)
  refine ex_iconst (v := 0) (by decide) ?_
  refine ex_istore_n (L2 := [.ref 86, .int x1, .int x2, .int 0, .long 0, .long 0, .long 0]) (Nat.le_of_ble_eq_true rfl) rfl ?_
  exact e91_2 hd _ _ _ _ _ _ _ _ _ H
def g111_40 (F : Nat) (x1 : Int32) (x2 : Int32) (x4 : Int32) (s0 : Int32) (S : AmT) : Option (Int32 × AmT) := am_b2 (f31 F x1 x2 3 S) fun v7 S8 => am_b2 (f105 F x4 s0 v7 S8) fun v9 S10 => some (v9, S10)
-- X7_layFace
def f111 (F : Nat) (x1 : Int32) (x2 : Int32) (x3 : Int32) (S : AmT) : Option (Int32 × AmT) := am_b2 (f112 F x1 x2 S) fun v1 S2 => if 0 ≤ v1 then (am_b2 (f35 F (kg S2.1 50 8 x1) x3 S2) fun v4 S5 => if v4 = 0 then (g111_40 F x1 x2 v1 0 S5) else (g111_40 F x1 x2 v1 x3 S5)) else (some (v1, S2))
set_option maxHeartbeats 1000000 in
set_option maxRecDepth 20000 in
theorem e111_40 {Lg : Nat} {xs : Nat → Int32} {d F : Nat} {x1 : Int32} {x2 : Int32} {x4 : Int32} {s0 : Int32} {w3 : Value} {w5 : Value} {S : AmT} {q : Int32 × AmT} (hd : 4 ≤ d) (H : g111_40 F x1 x2 x4 s0 S = some q) : Ex (am_X Lg xs) d 111 am_c111_40 [.ref 46, .int x1, .int x2, w3, .int x4, w5] [.int s0] (hS S) (some q.1, hS q.2) := by
  obtain ⟨d, rfl⟩ : ∃ d2, d = d2 + 1 := ⟨d - 1, by omega⟩
  unfold g111_40 at H
  refine ex_istore (L2 := [.ref 46, .int x1, .int x2, w3, .int x4, .int s0]) (Nat.le_of_ble_eq_true rfl) rfl ?_
  refine ex_aload_n rfl ?_
  refine ex_iload rfl ?_
  refine ex_iload rfl ?_
  refine ex_aload_n rfl ?_
  refine ex_getR (w := 22) rfl rfl rfl ?_
  refine ex_iload_n rfl ?_
  refine ex_iload_n rfl ?_
  refine ex_iconst (v := 3) (by decide) ?_
  obtain ⟨v7, S8, hp, H⟩ := am_b2_el H
  refine ex_callV rfl rfl (Nat.le_of_ble_eq_true rfl) (Nat.le_of_ble_eq_true rfl) rfl (r31 (by omega) hp) rfl ?_
  obtain ⟨v9, S10, hp, H⟩ := am_b2_el H
  refine ex_callV rfl rfl (Nat.le_of_ble_eq_true rfl) (Nat.le_of_ble_eq_true rfl) rfl (r105 (by omega) hp) rfl ?_
  have H := Option.some.inj H
  subst H
  exact ex_iret (M := 111) (Or.inl rfl)
set_option maxHeartbeats 1000000 in
set_option maxRecDepth 20000 in
theorem r111 {Lg : Nat} {xs : Nat → Int32} {d F : Nat} {x1 : Int32} {x2 : Int32} {x3 : Int32} {S : AmT} {q : Int32 × AmT} (hd : 4 ≤ d) (H : f111 F x1 x2 x3 S = some q) : Ex (am_X Lg xs) d 111 (am_P 111) (am_ini (am_Mi 111).1 [.ref 46, .int x1, .int x2, .int x3]) [] (hS S) (some q.1, hS q.2) := by
  obtain ⟨d, rfl⟩ : ∃ d2, d = d2 + 1 := ⟨d - 1, by omega⟩
  unfold f111 at H
  show Ex (am_X Lg xs) _ 111 am_c111_0 [.ref 46, .int x1, .int x2, .int x3, .long 0, .long 0] [] (hS S) (some q.1, hS q.2)
  refine ex_aload_n rfl ?_
  refine ex_iload_n rfl ?_
  refine ex_iload_n rfl ?_
  obtain ⟨v1, S2, hp, H⟩ := am_b2_el H
  refine ex_callV rfl rfl (Nat.le_of_ble_eq_true rfl) (Nat.le_of_ble_eq_true rfl) rfl (r112 (by omega) hp) rfl ?_
  refine ex_istore (L2 := [.ref 46, .int x1, .int x2, .int x3, .int v1, .long 0]) (Nat.le_of_ble_eq_true rfl) rfl ?_
  refine ex_iload rfl ?_
  by_cases h3 : 0 ≤ v1
  · rw [if_pos h3] at H
    refine ex_if_ge_j (ct := am_c111_16) h3 rfl ?_
    refine ex_aload_n rfl ?_
    refine ex_getR (w := 7) rfl rfl rfl ?_
    refine ex_aload_n rfl ?_
    refine ex_getR (w := 49) rfl rfl rfl ?_
    refine ex_iload_n rfl ?_
    refine ex_kget (c := 49) (ar := 50) (n := 8) rfl (Nat.le_of_ble_eq_true rfl) ?_
    refine ex_iload_n rfl ?_
    obtain ⟨v4, S5, hp, H⟩ := am_b2_el H
    refine ex_callV rfl rfl (Nat.le_of_ble_eq_true rfl) (Nat.le_of_ble_eq_true rfl) rfl (r35 (by omega) hp) rfl ?_
    by_cases h6 : v4 = 0
    · rw [if_pos h6] at H
      refine ex_if_eq_j (ct := am_c111_39) h6 rfl ?_
      refine ex_iconst (v := 0) (by decide) ?_
      exact e111_40 hd H
    · rw [if_neg h6] at H
      refine ex_if_eq_f h6 ?_
      refine ex_iload_n rfl ?_
      refine ex_goto (ct := am_c111_40) rfl ?_
      exact e111_40 hd H
  · rw [if_neg h3] at H
    refine ex_if_ge_f h3 ?_
    refine ex_iload rfl ?_
    have H := Option.some.inj H
    subst H
    exact ex_iret (M := 111) (Or.inl rfl)
-- X7_pageOnFace
def f114 (F : Nat) (x1 : Int32) (x2 : Int32) (S : AmT) : Option (Int32 × AmT) := am_b2 (f112 F x1 x2 S) fun v1 S2 => if 0 ≤ v1 then (am_b2 (f106 F v1 S2) fun v4 S5 => some (v4, S5)) else (some (v1, S2))
set_option maxHeartbeats 1000000 in
set_option maxRecDepth 20000 in
theorem r114 {Lg : Nat} {xs : Nat → Int32} {d F : Nat} {x1 : Int32} {x2 : Int32} {S : AmT} {q : Int32 × AmT} (hd : 4 ≤ d) (H : f114 F x1 x2 S = some q) : Ex (am_X Lg xs) d 114 (am_P 114) (am_ini (am_Mi 114).1 [.ref 46, .int x1, .int x2]) [] (hS S) (some q.1, hS q.2) := by
  obtain ⟨d, rfl⟩ : ∃ d2, d = d2 + 1 := ⟨d - 1, by omega⟩
  unfold f114 at H
  show Ex (am_X Lg xs) _ 114 am_c114_0 [.ref 46, .int x1, .int x2, .long 0] [] (hS S) (some q.1, hS q.2)
  refine ex_aload_n rfl ?_
  refine ex_iload_n rfl ?_
  refine ex_iload_n rfl ?_
  obtain ⟨v1, S2, hp, H⟩ := am_b2_el H
  refine ex_callV rfl rfl (Nat.le_of_ble_eq_true rfl) (Nat.le_of_ble_eq_true rfl) rfl (r112 (by omega) hp) rfl ?_
  refine ex_istore_n (L2 := [.ref 46, .int x1, .int x2, .int v1]) (Nat.le_of_ble_eq_true rfl) rfl ?_
  refine ex_iload_n rfl ?_
  by_cases h3 : 0 ≤ v1
  · rw [if_pos h3] at H
    refine ex_if_ge_j (ct := am_c114_15) h3 rfl ?_
    refine ex_aload_n rfl ?_
    refine ex_iload_n rfl ?_
    obtain ⟨v4, S5, hp, H⟩ := am_b2_el H
    refine ex_callV rfl rfl (Nat.le_of_ble_eq_true rfl) (Nat.le_of_ble_eq_true rfl) rfl (r106 (by omega) hp) rfl ?_
    have H := Option.some.inj H
    subst H
    exact ex_iret (M := 114) (Or.inl rfl)
  · rw [if_neg h3] at H
    refine ex_if_ge_f h3 ?_
    refine ex_iload_n rfl ?_
    refine ex_goto (ct := am_c114_20) rfl ?_
    have H := Option.some.inj H
    subst H
    exact ex_iret (M := 114) (Or.inl rfl)
-- X9_cut
def f152 (F : Nat) (x1 : Int32) (x2 : Int32) (x3 : Int32) (S : AmT) : Option (Int32 × AmT) := am_b2 (f81 F S) fun v1 S2 => if v1 = 0 then (am_b2 (f34 F x1 S2) fun v4 S5 => if v4 = 0 then (some ((-2), S5)) else ((f58 F S5).bind fun S7 => am_b2 (f53 F x1 x2 x3 S7) fun v8 S9 => am_b2 (f129 F v8 S9) fun v10 S11 => some (v10, S11))) else (some ((-4), S2))
set_option maxHeartbeats 1000000 in
set_option maxRecDepth 20000 in
theorem r152 {Lg : Nat} {xs : Nat → Int32} {d F : Nat} {x1 : Int32} {x2 : Int32} {x3 : Int32} {S : AmT} {q : Int32 × AmT} (hd : 4 ≤ d) (H : f152 F x1 x2 x3 S = some q) : Ex (am_X Lg xs) d 152 (am_P 152) (am_ini (am_Mi 152).1 [.ref 0, .int x1, .int x2, .int x3]) [] (hS S) (some q.1, hS q.2) := by
  obtain ⟨d, rfl⟩ : ∃ d2, d = d2 + 1 := ⟨d - 1, by omega⟩
  unfold f152 at H
  show Ex (am_X Lg xs) _ 152 am_c152_0 [.ref 0, .int x1, .int x2, .int x3] [] (hS S) (some q.1, hS q.2)
  refine ex_aload_n rfl ?_
  refine ex_getR (w := 86) rfl rfl rfl ?_
  obtain ⟨v1, S2, hp, H⟩ := am_b2_el H
  refine ex_callV rfl rfl (Nat.le_of_ble_eq_true rfl) (Nat.le_of_ble_eq_true rfl) rfl (r81 (by omega) hp) rfl ?_
  by_cases h3 : v1 = 0
  · rw [if_pos h3] at H
    refine ex_if_eq_j (ct := am_c152_13) h3 rfl ?_
    refine ex_aload_n rfl ?_
    refine ex_getR (w := 7) rfl rfl rfl ?_
    refine ex_iload_n rfl ?_
    obtain ⟨v4, S5, hp, H⟩ := am_b2_el H
    refine ex_callV rfl rfl (Nat.le_of_ble_eq_true rfl) (Nat.le_of_ble_eq_true rfl) rfl (r34 (by omega) hp) rfl ?_
    by_cases h6 : v4 = 0
    · rw [if_pos h6] at H
      refine ex_if_ne_f h6 ?_
      refine ex_bipush (v := (-2)) (by decide) ?_
      have H := Option.some.inj H
      subst H
      exact ex_iret (M := 152) (Or.inl rfl)
    · rw [if_neg h6] at H
      refine ex_if_ne_j (ct := am_c152_27) h6 rfl ?_
      refine ex_aload_n rfl ?_
      refine ex_getR (w := 1) rfl rfl rfl ?_
      obtain ⟨S7, hp, H⟩ := Option.bind_eq_some_iff.mp H
      refine ex_callV rfl rfl (Nat.le_of_ble_eq_true rfl) (Nat.le_of_ble_eq_true rfl) rfl (r58 (by omega) hp) rfl ?_
      refine ex_aload_n rfl ?_
      refine ex_getR (w := 5) rfl rfl rfl ?_
      refine ex_aload_n rfl ?_
      refine ex_getR (w := 7) rfl rfl rfl ?_
      refine ex_iload_n rfl ?_
      refine ex_iload_n rfl ?_
      refine ex_iload_n rfl ?_
      obtain ⟨v8, S9, hp, H⟩ := am_b2_el H
      refine ex_callV rfl rfl (Nat.le_of_ble_eq_true rfl) (Nat.le_of_ble_eq_true rfl) rfl (r53 (by omega) hp) rfl ?_
      obtain ⟨v10, S11, hp, H⟩ := am_b2_el H
      refine ex_callV rfl rfl (Nat.le_of_ble_eq_true rfl) (Nat.le_of_ble_eq_true rfl) rfl (r129 (by omega) hp) rfl ?_
      have H := Option.some.inj H
      subst H
      exact ex_iret (M := 152) (Or.inl rfl)
  · rw [if_neg h3] at H
    refine ex_if_eq_f h3 ?_
    refine ex_bipush (v := (-4)) (by decide) ?_
    have H := Option.some.inj H
    subst H
    exact ex_iret (M := 152) (Or.inl rfl)
def g170_65 (F : Nat) (s1 : Int32) (S : AmT) : Option (Int32 × AmT) := am_b2 (f129 F s1 S) fun v12 S13 => some (v12, S13)
-- X9_seen
def f170 (F : Nat) (x1 : Int32) (x2 : Int32) (x3 : Int32) (x4 : Int32) (x5 : Int32) (x6 : Int32) (S : AmT) : Option (Int32 × AmT) := am_b2 (f95 F x1 S) fun v1 S2 => if v1 = 0 then (some ((-2), S2)) else (am_b2 (f195 F x2 S2) fun v4 S5 => if v4 = 0 then (some ((-1), S5)) else (am_b2 (f104 F x1 x2 x3 x4 S5) fun v7 S8 => if 0 ≤ v7 then (am_b2 (f115 F x1 v7 x5 x6 S8) fun v10 S11 => g170_65 F v10 S11) else (g170_65 F v7 S8)))
set_option maxHeartbeats 1000000 in
set_option maxRecDepth 20000 in
theorem e170_65 {Lg : Nat} {xs : Nat → Int32} {d F : Nat} {s1 : Int32} {w0 : Value} {w1 : Value} {w2 : Value} {w3 : Value} {w4 : Value} {w5 : Value} {w6 : Value} {w7 : Value} {S : AmT} {q : Int32 × AmT} (hd : 4 ≤ d) (H : g170_65 F s1 S = some q) : Ex (am_X Lg xs) d 170 am_c170_65 [w0, w1, w2, w3, w4, w5, w6, w7] [.int s1, .ref 5] (hS S) (some q.1, hS q.2) := by
  obtain ⟨d, rfl⟩ : ∃ d2, d = d2 + 1 := ⟨d - 1, by omega⟩
  unfold g170_65 at H
  obtain ⟨v12, S13, hp, H⟩ := am_b2_el H
  refine ex_callV rfl rfl (Nat.le_of_ble_eq_true rfl) (Nat.le_of_ble_eq_true rfl) rfl (r129 (by omega) hp) rfl ?_
  have H := Option.some.inj H
  subst H
  exact ex_iret (M := 170) (Or.inl rfl)
set_option maxHeartbeats 1000000 in
set_option maxRecDepth 20000 in
theorem r170 {Lg : Nat} {xs : Nat → Int32} {d F : Nat} {x1 : Int32} {x2 : Int32} {x3 : Int32} {x4 : Int32} {x5 : Int32} {x6 : Int32} {S : AmT} {q : Int32 × AmT} (hd : 4 ≤ d) (H : f170 F x1 x2 x3 x4 x5 x6 S = some q) : Ex (am_X Lg xs) d 170 (am_P 170) (am_ini (am_Mi 170).1 [.ref 0, .int x1, .int x2, .int x3, .int x4, .int x5, .int x6]) [] (hS S) (some q.1, hS q.2) := by
  obtain ⟨d, rfl⟩ : ∃ d2, d = d2 + 1 := ⟨d - 1, by omega⟩
  unfold f170 at H
  show Ex (am_X Lg xs) _ 170 am_c170_0 [.ref 0, .int x1, .int x2, .int x3, .int x4, .int x5, .int x6, .long 0] [] (hS S) (some q.1, hS q.2)
  refine ex_aload_n rfl ?_
  refine ex_getR (w := 46) rfl rfl rfl ?_
  refine ex_iload_n rfl ?_
  obtain ⟨v1, S2, hp, H⟩ := am_b2_el H
  refine ex_callV rfl rfl (Nat.le_of_ble_eq_true rfl) (Nat.le_of_ble_eq_true rfl) rfl (r95 (by omega) hp) rfl ?_
  by_cases h3 : v1 = 0
  · rw [if_pos h3] at H
    refine ex_if_ne_f h3 ?_
    refine ex_bipush (v := (-2)) (by decide) ?_
    have H := Option.some.inj H
    subst H
    exact ex_iret (M := 170) (Or.inl rfl)
  · rw [if_neg h3] at H
    refine ex_if_ne_j (ct := am_c170_14) h3 rfl ?_
    refine ex_iload_n rfl ?_
    obtain ⟨v4, S5, hp, H⟩ := am_b2_el H
    refine ex_callS rfl rfl (Nat.le_of_ble_eq_true rfl) (Nat.le_of_ble_eq_true rfl) (r195 (by omega) hp) rfl ?_
    by_cases h6 : v4 = 0
    · rw [if_pos h6] at H
      refine ex_if_ne_f h6 ?_
      refine ex_iconst (v := (-1)) (by decide) ?_
      have H := Option.some.inj H
      subst H
      exact ex_iret (M := 170) (Or.inl rfl)
    · rw [if_neg h6] at H
      refine ex_if_ne_j (ct := am_c170_23) h6 rfl ?_
      refine ex_aload_n rfl ?_
      refine ex_getR (w := 46) rfl rfl rfl ?_
      refine ex_iload_n rfl ?_
      refine ex_iload_n rfl ?_
      refine ex_iload_n rfl ?_
      refine ex_iload rfl ?_
      obtain ⟨v7, S8, hp, H⟩ := am_b2_el H
      refine ex_callV rfl rfl (Nat.le_of_ble_eq_true rfl) (Nat.le_of_ble_eq_true rfl) rfl (r104 (by omega) hp) rfl ?_
      refine ex_istore (L2 := [.ref 0, .int x1, .int x2, .int x3, .int x4, .int x5, .int x6, .int v7]) (Nat.le_of_ble_eq_true rfl) rfl ?_
      refine ex_aload_n rfl ?_
      refine ex_getR (w := 5) rfl rfl rfl ?_
      refine ex_iload rfl ?_
      by_cases h9 : 0 ≤ v7
      · rw [if_pos h9] at H
        refine ex_if_ge_j (ct := am_c170_51) h9 rfl ?_
        refine ex_aload_n rfl ?_
        refine ex_getR (w := 46) rfl rfl rfl ?_
        refine ex_iload_n rfl ?_
        refine ex_iload rfl ?_
        refine ex_iload rfl ?_
        refine ex_iload rfl ?_
        obtain ⟨v10, S11, hp, H⟩ := am_b2_el H
        refine ex_callV rfl rfl (Nat.le_of_ble_eq_true rfl) (Nat.le_of_ble_eq_true rfl) rfl (r115 (by omega) hp) rfl ?_
        exact e170_65 hd H
      · rw [if_neg h9] at H
        refine ex_if_ge_f h9 ?_
        refine ex_iload rfl ?_
        refine ex_goto (ct := am_c170_65) rfl ?_
        exact e170_65 hd H
-- X9_gather
def f172 (F : Nat) (x1 : Int32) (x2 : Int32) (S : AmT) : Option (Int32 × AmT) := am_b2 (f81 F S) fun v1 S2 => if v1 = 0 then (am_b2 (f2 F x1 S2) fun v4 S5 => if v4 = 0 then (some ((-2), S5)) else (am_b2 (f95 F x2 S5) fun v7 S8 => if v7 = 0 then (some ((-2), S8)) else (am_b2 (f116 F x2 S8) fun v10 S11 => if v10 = 0 then (am_b2 (f4 F x1 S11) fun v13 S14 => if v13 < 4 then ((f58 F S14).bind fun S16 => am_b2 (f6 F x1 x2 S16) fun v17 S18 => some (v17, S18)) else (some ((-3), S14))) else (some ((-5), S11))))) else (some ((-4), S2))
set_option maxHeartbeats 1000000 in
set_option maxRecDepth 20000 in
theorem r172 {Lg : Nat} {xs : Nat → Int32} {d F : Nat} {x1 : Int32} {x2 : Int32} {S : AmT} {q : Int32 × AmT} (hd : 4 ≤ d) (H : f172 F x1 x2 S = some q) : Ex (am_X Lg xs) d 172 (am_P 172) (am_ini (am_Mi 172).1 [.ref 0, .int x1, .int x2]) [] (hS S) (some q.1, hS q.2) := by
  obtain ⟨d, rfl⟩ : ∃ d2, d = d2 + 1 := ⟨d - 1, by omega⟩
  unfold f172 at H
  show Ex (am_X Lg xs) _ 172 am_c172_0 [.ref 0, .int x1, .int x2] [] (hS S) (some q.1, hS q.2)
  refine ex_aload_n rfl ?_
  refine ex_getR (w := 86) rfl rfl rfl ?_
  obtain ⟨v1, S2, hp, H⟩ := am_b2_el H
  refine ex_callV rfl rfl (Nat.le_of_ble_eq_true rfl) (Nat.le_of_ble_eq_true rfl) rfl (r81 (by omega) hp) rfl ?_
  by_cases h3 : v1 = 0
  · rw [if_pos h3] at H
    refine ex_if_eq_j (ct := am_c172_13) h3 rfl ?_
    refine ex_aload_n rfl ?_
    refine ex_getR (w := 69) rfl rfl rfl ?_
    refine ex_iload_n rfl ?_
    obtain ⟨v4, S5, hp, H⟩ := am_b2_el H
    refine ex_callV rfl rfl (Nat.le_of_ble_eq_true rfl) (Nat.le_of_ble_eq_true rfl) rfl (r2 (by omega) hp) rfl ?_
    by_cases h6 : v4 = 0
    · rw [if_pos h6] at H
      refine ex_if_eq_j (ct := am_c172_35) h6 rfl ?_
      refine ex_bipush (v := (-2)) (by decide) ?_
      have H := Option.some.inj H
      subst H
      exact ex_iret (M := 172) (Or.inl rfl)
    · rw [if_neg h6] at H
      refine ex_if_eq_f h6 ?_
      refine ex_aload_n rfl ?_
      refine ex_getR (w := 46) rfl rfl rfl ?_
      refine ex_iload_n rfl ?_
      obtain ⟨v7, S8, hp, H⟩ := am_b2_el H
      refine ex_callV rfl rfl (Nat.le_of_ble_eq_true rfl) (Nat.le_of_ble_eq_true rfl) rfl (r95 (by omega) hp) rfl ?_
      by_cases h9 : v7 = 0
      · rw [if_pos h9] at H
        refine ex_if_ne_f h9 ?_
        refine ex_bipush (v := (-2)) (by decide) ?_
        have H := Option.some.inj H
        subst H
        exact ex_iret (M := 172) (Or.inl rfl)
      · rw [if_neg h9] at H
        refine ex_if_ne_j (ct := am_c172_38) h9 rfl ?_
        refine ex_aload_n rfl ?_
        refine ex_getR (w := 46) rfl rfl rfl ?_
        refine ex_iload_n rfl ?_
        obtain ⟨v10, S11, hp, H⟩ := am_b2_el H
        refine ex_callV rfl rfl (Nat.le_of_ble_eq_true rfl) (Nat.le_of_ble_eq_true rfl) rfl (r116 (by omega) hp) rfl ?_
        by_cases h12 : v10 = 0
        · rw [if_pos h12] at H
          refine ex_if_eq_j (ct := am_c172_52) h12 rfl ?_
          refine ex_aload_n rfl ?_
          refine ex_getR (w := 69) rfl rfl rfl ?_
          refine ex_iload_n rfl ?_
          obtain ⟨v13, S14, hp, H⟩ := am_b2_el H
          refine ex_callV rfl rfl (Nat.le_of_ble_eq_true rfl) (Nat.le_of_ble_eq_true rfl) rfl (r4 (by omega) hp) rfl ?_
          refine ex_iconst (v := 4) (by decide) ?_
          by_cases h15 : v13 < 4
          · rw [if_pos h15] at H
            refine ex_icmp_lt_j (ct := am_c172_67) h15 rfl ?_
            refine ex_aload_n rfl ?_
            refine ex_getR (w := 1) rfl rfl rfl ?_
            obtain ⟨S16, hp, H⟩ := Option.bind_eq_some_iff.mp H
            refine ex_callV rfl rfl (Nat.le_of_ble_eq_true rfl) (Nat.le_of_ble_eq_true rfl) rfl (r58 (by omega) hp) rfl ?_
            refine ex_aload_n rfl ?_
            refine ex_getR (w := 69) rfl rfl rfl ?_
            refine ex_iload_n rfl ?_
            refine ex_iload_n rfl ?_
            obtain ⟨v17, S18, hp, H⟩ := am_b2_el H
            refine ex_callV rfl rfl (Nat.le_of_ble_eq_true rfl) (Nat.le_of_ble_eq_true rfl) rfl (r6 (by omega) hp) rfl ?_
            have H := Option.some.inj H
            subst H
            exact ex_iret (M := 172) (Or.inl rfl)
          · rw [if_neg h15] at H
            refine ex_icmp_lt_f h15 ?_
            refine ex_bipush (v := (-3)) (by decide) ?_
            have H := Option.some.inj H
            subst H
            exact ex_iret (M := 172) (Or.inl rfl)
        · rw [if_neg h12] at H
          refine ex_if_eq_f h12 ?_
          refine ex_bipush (v := (-5)) (by decide) ?_
          have H := Option.some.inj H
          subst H
          exact ex_iret (M := 172) (Or.inl rfl)
  · rw [if_neg h3] at H
    refine ex_if_eq_f h3 ?_
    refine ex_bipush (v := (-4)) (by decide) ?_
    have H := Option.some.inj H
    subst H
    exact ex_iret (M := 172) (Or.inl rfl)
def g240_98 (F : Nat) (k16 : AmT → Option (Int32 × AmT)) (S : AmT) : Option (Int32 × AmT) := k16 S
def g240_16 (F : Nat) : Nat → AmT → Option (Int32 × AmT)
  | 0, _ => none
  | n + 1, S => if (S.1 95 39) ≤ 0 then (if (S.1 95 40) = 1 then (if (S.1 95 41) = 1 then (some (0, S)) else (some (8, S))) else (some (8, S))) else (am_lt ((am_upI S.1 95 39 ((S.1 95 39) - 1), S.2) : AmT) fun S7 => am_ck (S7.1 95 39) 64 (am_ck (S7.1 126 (S7.1 95 39).toNatClampNeg) 32 (if (S7.1 103 (S7.1 126 (S7.1 95 39).toNatClampNeg).toNatClampNeg) = 5 then ((f233 F 6 S7).bind fun S12 => am_ck (S7.1 126 (S7.1 95 39).toNatClampNeg) 32 ((f230 F (S12.1 106 (S7.1 126 (S7.1 95 39).toNatClampNeg).toNatClampNeg) S12).bind fun S13 => am_ck (S7.1 126 (S7.1 95 39).toNatClampNeg) 32 ((f230 F (S13.1 105 (S7.1 126 (S7.1 95 39).toNatClampNeg).toNatClampNeg) S13).bind fun S14 => g240_98 F (fun S => g240_16 F n S) S14))) else (am_b2 (f239 F (S7.1 126 (S7.1 95 39).toNatClampNeg) S7) fun v9 S10 => if v9 = 0 then (some (7, S10)) else (g240_98 F (fun S => g240_16 F n S) S10)))))
-- X10_foldGrid
def f240 (F : Nat) (x1 : Int32) (x2 : Int32) (x3 : Int32) (S : AmT) : Option (Int32 × AmT) := (f234 F x2 x3 S).bind fun S1 => am_lt ((am_upI S1.1 95 39 0, S1.2) : AmT) fun S2 => (f230 F x1 S2).bind fun S3 => g240_16 F F S3
set_option maxHeartbeats 1000000 in
set_option maxRecDepth 20000 in
theorem e240_98 {Lg : Nat} {xs : Nat → Int32} {d F : Nat} {k16 : AmT → Option (Int32 × AmT)} {w1 : Value} {w2 : Value} {w3 : Value} {w4 : Value} {S : AmT} {q : Int32 × AmT} (hd : 4 ≤ d) (hk16 : ∀ (w1 : Value) (w2 : Value) (w3 : Value) (w4 : Value) (S : AmT) (q : Int32 × AmT), k16 S = some q → Ex (am_X Lg xs) d 240 am_c240_16 [.ref 95, w1, w2, w3, w4] [] (hS S) (some q.1, hS q.2)) (H : g240_98 F k16 S = some q) : Ex (am_X Lg xs) d 240 am_c240_98 [.ref 95, w1, w2, w3, w4] [] (hS S) (some q.1, hS q.2) := by
  obtain ⟨d, rfl⟩ : ∃ d2, d = d2 + 1 := ⟨d - 1, by omega⟩
  unfold g240_98 at H
  refine ex_goto (ct := am_c240_16) rfl ?_
  exact hk16 _ _ _ _ _ _ H
set_option maxHeartbeats 1000000 in
set_option maxRecDepth 20000 in
theorem e240_16 {Lg : Nat} {xs : Nat → Int32} {d F : Nat} (hd : 4 ≤ d) : ∀ (n : Nat) (w1 : Value) (w2 : Value) (w3 : Value) (w4 : Value) (S : AmT) (q : Int32 × AmT), g240_16 F n S = some q → Ex (am_X Lg xs) d 240 am_c240_16 [.ref 95, w1, w2, w3, w4] [] (hS S) (some q.1, hS q.2) := by
  obtain ⟨d, rfl⟩ : ∃ d2, d = d2 + 1 := ⟨d - 1, by omega⟩
  intro n
  induction n with
  | zero =>
    intro w1 w2 w3 w4 S q H
    cases H
  | succ n ih =>
    intro w1 w2 w3 w4 S q H
    have H : (if (S.1 95 39) ≤ 0 then (if (S.1 95 40) = 1 then (if (S.1 95 41) = 1 then (some (0, S)) else (some (8, S))) else (some (8, S))) else (am_lt ((am_upI S.1 95 39 ((S.1 95 39) - 1), S.2) : AmT) fun S7 => am_ck (S7.1 95 39) 64 (am_ck (S7.1 126 (S7.1 95 39).toNatClampNeg) 32 (if (S7.1 103 (S7.1 126 (S7.1 95 39).toNatClampNeg).toNatClampNeg) = 5 then ((f233 F 6 S7).bind fun S12 => am_ck (S7.1 126 (S7.1 95 39).toNatClampNeg) 32 ((f230 F (S12.1 106 (S7.1 126 (S7.1 95 39).toNatClampNeg).toNatClampNeg) S12).bind fun S13 => am_ck (S7.1 126 (S7.1 95 39).toNatClampNeg) 32 ((f230 F (S13.1 105 (S7.1 126 (S7.1 95 39).toNatClampNeg).toNatClampNeg) S13).bind fun S14 => g240_98 F (fun S => g240_16 F n S) S14))) else (am_b2 (f239 F (S7.1 126 (S7.1 95 39).toNatClampNeg) S7) fun v9 S10 => if v9 = 0 then (some (7, S10)) else (g240_98 F (fun S => g240_16 F n S) S10)))))) = some q := H
    refine ex_aload_n rfl ?_
    refine ex_gI rfl (by decide) ?_
    by_cases h4 : (S.1 95 39) ≤ 0
    · rw [if_pos h4] at H
      refine ex_if_le_j (ct := am_c240_101) h4 rfl ?_
      refine ex_aload_n rfl ?_
      refine ex_gI rfl (by decide) ?_
      refine ex_iconst (v := 1) (by decide) ?_
      by_cases h5 : (S.1 95 40) = 1
      · rw [if_pos h5] at H
        refine ex_icmp_ne_f h5 ?_
        refine ex_aload_n rfl ?_
        refine ex_gI rfl (by decide) ?_
        refine ex_iconst (v := 1) (by decide) ?_
        by_cases h6 : (S.1 95 41) = 1
        · rw [if_pos h6] at H
          refine ex_icmp_ne_f h6 ?_
          refine ex_iconst (v := 0) (by decide) ?_
          refine ex_goto (ct := am_c240_123) rfl ?_
          have H := Option.some.inj H
          subst H
          exact ex_iret (M := 240) (Or.inl rfl)
        · rw [if_neg h6] at H
          refine ex_icmp_ne_j (ct := am_c240_121) h6 rfl ?_
          refine ex_bipush (v := 8) (by decide) ?_
          have H := Option.some.inj H
          subst H
          exact ex_iret (M := 240) (Or.inl rfl)
      · rw [if_neg h5] at H
        refine ex_icmp_ne_j (ct := am_c240_121) h5 rfl ?_
        refine ex_bipush (v := 8) (by decide) ?_
        have H := Option.some.inj H
        subst H
        exact ex_iret (M := 240) (Or.inl rfl)
    · rw [if_neg h4] at H
      refine ex_if_le_f h4 ?_
      refine ex_aload_n rfl ?_
      refine ex_dupr ?_
      refine ex_gI rfl (by decide) ?_
      refine ex_iconst (v := 1) (by decide) ?_
      refine ex_isub ?_
      refine ex_putI rfl (by decide) (fun z => absurd z.1 (by decide)) ?_
      generalize ((am_upI S.1 95 39 ((S.1 95 39) - 1), S.2) : AmT) = S7 at H ⊢
      have H := am_lt_el H
      refine ex_aload_n rfl ?_
      refine ex_getR (w := 126) rfl rfl rfl ?_
      refine ex_aload_n rfl ?_
      refine ex_gI rfl (by decide) ?_
      obtain ⟨hj, H⟩ := am_ck_el H
      refine ex_iald (k := 64) (v := S7.1 126 (S7.1 95 39).toNatClampNeg) rfl hj rfl ?_
      refine ex_istore (L2 := [.ref 95, w1, w2, w3, .int (S7.1 126 (S7.1 95 39).toNatClampNeg)]) (Nat.le_of_ble_eq_true rfl) rfl ?_
      refine ex_aload_n rfl ?_
      refine ex_getR (w := 103) rfl rfl rfl ?_
      refine ex_iload rfl ?_
      obtain ⟨hj, H⟩ := am_ck_el H
      refine ex_iald (k := 32) (v := S7.1 103 (S7.1 126 (S7.1 95 39).toNatClampNeg).toNatClampNeg) rfl hj rfl ?_
      refine ex_iconst (v := 5) (by decide) ?_
      by_cases h8 : (S7.1 103 (S7.1 126 (S7.1 95 39).toNatClampNeg).toNatClampNeg) = 5
      · rw [if_pos h8] at H
        refine ex_icmp_ne_f h8 ?_
        refine ex_aload_n rfl ?_
        refine ex_bipush (v := 6) (by decide) ?_
        obtain ⟨S12, hp, H⟩ := Option.bind_eq_some_iff.mp H
        refine ex_callV rfl rfl (Nat.le_of_ble_eq_true rfl) (Nat.le_of_ble_eq_true rfl) rfl (r233 (by omega) hp) rfl ?_
        refine ex_aload_n rfl ?_
        refine ex_aload_n rfl ?_
        refine ex_getR (w := 106) rfl rfl rfl ?_
        refine ex_iload rfl ?_
        obtain ⟨hj, H⟩ := am_ck_el H
        refine ex_iald (k := 32) (v := S12.1 106 (S7.1 126 (S7.1 95 39).toNatClampNeg).toNatClampNeg) rfl hj rfl ?_
        obtain ⟨S13, hp, H⟩ := Option.bind_eq_some_iff.mp H
        refine ex_callV rfl rfl (Nat.le_of_ble_eq_true rfl) (Nat.le_of_ble_eq_true rfl) rfl (r230 (by omega) hp) rfl ?_
        refine ex_aload_n rfl ?_
        refine ex_aload_n rfl ?_
        refine ex_getR (w := 105) rfl rfl rfl ?_
        refine ex_iload rfl ?_
        obtain ⟨hj, H⟩ := am_ck_el H
        refine ex_iald (k := 32) (v := S13.1 105 (S7.1 126 (S7.1 95 39).toNatClampNeg).toNatClampNeg) rfl hj rfl ?_
        obtain ⟨S14, hp, H⟩ := Option.bind_eq_some_iff.mp H
        refine ex_callV rfl rfl (Nat.le_of_ble_eq_true rfl) (Nat.le_of_ble_eq_true rfl) rfl (r230 (by omega) hp) rfl ?_
        refine ex_goto (ct := am_c240_98) rfl ?_
        exact e240_98 hd (fun w1 w2 w3 w4 S q H => ih w1 w2 w3 w4 S q H) H
      · rw [if_neg h8] at H
        refine ex_icmp_ne_j (ct := am_c240_86) h8 rfl ?_
        refine ex_aload_n rfl ?_
        refine ex_iload rfl ?_
        obtain ⟨v9, S10, hp, H⟩ := am_b2_el H
        refine ex_callV rfl rfl (Nat.le_of_ble_eq_true rfl) (Nat.le_of_ble_eq_true rfl) rfl (r239 (by omega) hp) rfl ?_
        by_cases h11 : v9 = 0
        · rw [if_pos h11] at H
          refine ex_if_ne_f h11 ?_
          refine ex_bipush (v := 7) (by decide) ?_
          have H := Option.some.inj H
          subst H
          exact ex_iret (M := 240) (Or.inl rfl)
        · rw [if_neg h11] at H
          refine ex_if_ne_j (ct := am_c240_98) h11 rfl ?_
          exact e240_98 hd (fun w1 w2 w3 w4 S q H => ih w1 w2 w3 w4 S q H) H
set_option maxHeartbeats 1000000 in
set_option maxRecDepth 20000 in
theorem r240 {Lg : Nat} {xs : Nat → Int32} {d F : Nat} {x1 : Int32} {x2 : Int32} {x3 : Int32} {S : AmT} {q : Int32 × AmT} (hd : 4 ≤ d) (H : f240 F x1 x2 x3 S = some q) : Ex (am_X Lg xs) d 240 (am_P 240) (am_ini (am_Mi 240).1 [.ref 95, .int x1, .int x2, .int x3]) [] (hS S) (some q.1, hS q.2) := by
  obtain ⟨d, rfl⟩ : ∃ d2, d = d2 + 1 := ⟨d - 1, by omega⟩
  unfold f240 at H
  show Ex (am_X Lg xs) _ 240 am_c240_0 [.ref 95, .int x1, .int x2, .int x3, .long 0] [] (hS S) (some q.1, hS q.2)
  refine ex_aload_n rfl ?_
  refine ex_iload_n rfl ?_
  refine ex_iload_n rfl ?_
  obtain ⟨S1, hp, H⟩ := Option.bind_eq_some_iff.mp H
  refine ex_callV rfl rfl (Nat.le_of_ble_eq_true rfl) (Nat.le_of_ble_eq_true rfl) rfl (r234 (by omega) hp) rfl ?_
  refine ex_aload_n rfl ?_
  refine ex_iconst (v := 0) (by decide) ?_
  refine ex_putI rfl (by decide) (fun z => absurd z.1 (by decide)) ?_
  generalize ((am_upI S1.1 95 39 0, S1.2) : AmT) = S2 at H ⊢
  have H := am_lt_el H
  refine ex_aload_n rfl ?_
  refine ex_iload_n rfl ?_
  obtain ⟨S3, hp, H⟩ := Option.bind_eq_some_iff.mp H
  refine ex_callV rfl rfl (Nat.le_of_ble_eq_true rfl) (Nat.le_of_ble_eq_true rfl) rfl (r230 (by omega) hp) rfl ?_
  exact e240_16 hd _ _ _ _ _ _ _ H
