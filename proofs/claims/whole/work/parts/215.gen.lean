/-! printed by wip/gen/gen20.py -/
-- X10_tear
def f253 (F : Nat) (x1 : Int32) (x2 : Int32) (x3 : Int32) (S : AmT) : Option (Int32 × AmT) := am_b2 (f202 F S) fun v1 S2 => if v1 = 0 then (am_b2 (f249 F x1 S2) fun v4 S5 => if v4 = 0 then (some ((-2), S5)) else (am_b2 (f197 F x2 0 1 S5) fun v7 S8 => if v7 = 0 then (some ((-1), S8)) else ((f201 F S8).bind fun S10 => am_ck x1 16 (am_b2 (f197 F x3 0 ((S10.1 109 x1.toNatClampNeg) - 1) S10) fun v11 S12 => if v11 = 0 then (am_b2 (f203 F 2 S12) fun v17 S18 => some (v17, S18)) else (am_b2 (f250 F x1 x2 x3 S12) fun v14 S15 => am_ck v14 256 (am_lt ((am_upI S15.1 116 v14.toNatClampNeg 1, S15.2) : AmT) fun S16 => some (1, S16))))))) else (some ((-4), S2))
set_option maxHeartbeats 1000000 in
set_option maxRecDepth 20000 in
theorem r253 {Lg : Nat} {xs : Nat → Int32} {d F : Nat} {x1 : Int32} {x2 : Int32} {x3 : Int32} {S : AmT} {q : Int32 × AmT} (hd : 3 ≤ d) (H : f253 F x1 x2 x3 S = some q) : Ex (am_X Lg xs) d 253 (am_P 253) (am_ini (am_Mi 253).1 [.ref 95, .int x1, .int x2, .int x3]) [] (hS S) (some q.1, hS q.2) := by
  obtain ⟨d, rfl⟩ : ∃ d2, d = d2 + 1 := ⟨d - 1, by omega⟩
  unfold f253 at H
  show Ex (am_X Lg xs) _ 253 am_c253_0 [.ref 95, .int x1, .int x2, .int x3] [] (hS S) (some q.1, hS q.2)
  refine ex_aload_n rfl ?_
  obtain ⟨v1, S2, hp, H⟩ := am_b2_el H
  refine ex_callV rfl rfl (Nat.le_of_ble_eq_true rfl) (Nat.le_of_ble_eq_true rfl) rfl (r202 (by omega) hp) rfl ?_
  by_cases h3 : v1 = 0
  · rw [if_pos h3] at H
    refine ex_if_eq_j (ct := am_c253_10) h3 rfl ?_
    refine ex_aload_n rfl ?_
    refine ex_iload_n rfl ?_
    obtain ⟨v4, S5, hp, H⟩ := am_b2_el H
    refine ex_callV rfl rfl (Nat.le_of_ble_eq_true rfl) (Nat.le_of_ble_eq_true rfl) rfl (r249 (by omega) hp) rfl ?_
    by_cases h6 : v4 = 0
    · rw [if_pos h6] at H
      refine ex_if_ne_f h6 ?_
      refine ex_bipush (v := (-2)) (by decide) ?_
      have H := Option.some.inj H
      subst H
      exact ex_iret (M := 253) (Or.inl rfl)
    · rw [if_neg h6] at H
      refine ex_if_ne_j (ct := am_c253_21) h6 rfl ?_
      refine ex_iload_n rfl ?_
      refine ex_iconst (v := 0) (by decide) ?_
      refine ex_iconst (v := 1) (by decide) ?_
      obtain ⟨v7, S8, hp, H⟩ := am_b2_el H
      refine ex_callS rfl rfl (Nat.le_of_ble_eq_true rfl) (Nat.le_of_ble_eq_true rfl) (r197 (by omega) hp) rfl ?_
      by_cases h9 : v7 = 0
      · rw [if_pos h9] at H
        refine ex_if_ne_f h9 ?_
        refine ex_iconst (v := (-1)) (by decide) ?_
        have H := Option.some.inj H
        subst H
        exact ex_iret (M := 253) (Or.inl rfl)
      · rw [if_neg h9] at H
        refine ex_if_ne_j (ct := am_c253_32) h9 rfl ?_
        refine ex_aload_n rfl ?_
        obtain ⟨S10, hp, H⟩ := Option.bind_eq_some_iff.mp H
        refine ex_callV rfl rfl (Nat.le_of_ble_eq_true rfl) (Nat.le_of_ble_eq_true rfl) rfl (r201 (by omega) hp) rfl ?_
        refine ex_iload_n rfl ?_
        refine ex_iconst (v := 0) (by decide) ?_
        refine ex_aload_n rfl ?_
        refine ex_getR (w := 109) rfl rfl rfl ?_
        refine ex_iload_n rfl ?_
        obtain ⟨hj, H⟩ := am_ck_el H
        refine ex_iald (k := 16) (v := S10.1 109 x1.toNatClampNeg) rfl hj rfl ?_
        refine ex_iconst (v := 1) (by decide) ?_
        refine ex_isub ?_
        obtain ⟨v11, S12, hp, H⟩ := am_b2_el H
        refine ex_callS rfl rfl (Nat.le_of_ble_eq_true rfl) (Nat.le_of_ble_eq_true rfl) (r197 (by omega) hp) rfl ?_
        by_cases h13 : v11 = 0
        · rw [if_pos h13] at H
          refine ex_if_ne_f h13 ?_
          refine ex_aload_n rfl ?_
          refine ex_iconst (v := 2) (by decide) ?_
          obtain ⟨v17, S18, hp, H⟩ := am_b2_el H
          refine ex_callV rfl rfl (Nat.le_of_ble_eq_true rfl) (Nat.le_of_ble_eq_true rfl) rfl (r203 (by omega) hp) rfl ?_
          have H := Option.some.inj H
          subst H
          exact ex_iret (M := 253) (Or.inl rfl)
        · rw [if_neg h13] at H
          refine ex_if_ne_j (ct := am_c253_58) h13 rfl ?_
          refine ex_aload_n rfl ?_
          refine ex_getR (w := 116) rfl rfl rfl ?_
          refine ex_iload_n rfl ?_
          refine ex_iload_n rfl ?_
          refine ex_iload_n rfl ?_
          obtain ⟨v14, S15, hp, H⟩ := am_b2_el H
          refine ex_callS rfl rfl (Nat.le_of_ble_eq_true rfl) (Nat.le_of_ble_eq_true rfl) (r250 (by omega) hp) rfl ?_
          refine ex_iconst (v := 1) (by decide) ?_
          obtain ⟨hj, H⟩ := am_ck_el H
          refine ex_bast (k := 256) rfl rfl hj (by decide) ?_
          generalize ((am_upI S15.1 116 v14.toNatClampNeg 1, S15.2) : AmT) = S16 at H ⊢
          have H := am_lt_el H
          refine ex_iconst (v := 1) (by decide) ?_
          have H := Option.some.inj H
          subst H
          exact ex_iret (M := 253) (Or.inl rfl)
  · rw [if_neg h3] at H
    refine ex_if_eq_f h3 ?_
    refine ex_bipush (v := (-4)) (by decide) ?_
    have H := Option.some.inj H
    subst H
    exact ex_iret (M := 253) (Or.inl rfl)
-- X10_put
def f255 (F : Nat) (x1 : Int32) (x2 : Int32) (x3 : Int32) (x4 : Int32) (x5 : Int32) (x6 : Int32) (S : AmT) : Option (Int32 × AmT) := am_b2 (f202 F S) fun v1 S2 => if v1 = 0 then (am_b2 (f249 F x1 S2) fun v4 S5 => if v4 = 0 then (some ((-2), S5)) else (am_b2 (f197 F x2 0 1 S5) fun v7 S8 => if v7 = 0 then (some ((-1), S8)) else (am_b2 (f197 F x5 0 24 S8) fun v10 S11 => if v10 = 0 then (some ((-1), S11)) else (am_b2 (f197 F x6 0 1 S11) fun v13 S14 => if v13 = 0 then (some ((-1), S14)) else ((f201 F S14).bind fun S16 => am_b2 (f254 F x1 x2 x3 x4 S16) fun v17 S18 => if v17 ≤ 0 then (am_b2 (f251 F x1 x2 x3 x4 S18) fun v20 S21 => am_ck v20 2048 (am_lt ((am_upI S21.1 117 v20.toNatClampNeg x5, S21.2) : AmT) fun S22 => am_b2 (f251 F x1 x2 x3 x4 S22) fun v23 S24 => am_ck v23 2048 (am_lt ((am_upI S24.1 118 v23.toNatClampNeg x6, S24.2) : AmT) fun S25 => some (1, S25)))) else (am_b2 (f203 F v17 S18) fun v26 S27 => some (v26, S27))))))) else (some ((-4), S2))
set_option maxHeartbeats 1000000 in
set_option maxRecDepth 20000 in
theorem r255 {Lg : Nat} {xs : Nat → Int32} {d F : Nat} {x1 : Int32} {x2 : Int32} {x3 : Int32} {x4 : Int32} {x5 : Int32} {x6 : Int32} {S : AmT} {q : Int32 × AmT} (hd : 3 ≤ d) (H : f255 F x1 x2 x3 x4 x5 x6 S = some q) : Ex (am_X Lg xs) d 255 (am_P 255) (am_ini (am_Mi 255).1 [.ref 95, .int x1, .int x2, .int x3, .int x4, .int x5, .int x6]) [] (hS S) (some q.1, hS q.2) := by
  obtain ⟨d, rfl⟩ : ∃ d2, d = d2 + 1 := ⟨d - 1, by omega⟩
  unfold f255 at H
  show Ex (am_X Lg xs) _ 255 am_c255_0 [.ref 95, .int x1, .int x2, .int x3, .int x4, .int x5, .int x6, .long 0] [] (hS S) (some q.1, hS q.2)
  refine ex_aload_n rfl ?_
  obtain ⟨v1, S2, hp, H⟩ := am_b2_el H
  refine ex_callV rfl rfl (Nat.le_of_ble_eq_true rfl) (Nat.le_of_ble_eq_true rfl) rfl (r202 (by omega) hp) rfl ?_
  by_cases h3 : v1 = 0
  · rw [if_pos h3] at H
    refine ex_if_eq_j (ct := am_c255_10) h3 rfl ?_
    refine ex_aload_n rfl ?_
    refine ex_iload_n rfl ?_
    obtain ⟨v4, S5, hp, H⟩ := am_b2_el H
    refine ex_callV rfl rfl (Nat.le_of_ble_eq_true rfl) (Nat.le_of_ble_eq_true rfl) rfl (r249 (by omega) hp) rfl ?_
    by_cases h6 : v4 = 0
    · rw [if_pos h6] at H
      refine ex_if_ne_f h6 ?_
      refine ex_bipush (v := (-2)) (by decide) ?_
      have H := Option.some.inj H
      subst H
      exact ex_iret (M := 255) (Or.inl rfl)
    · rw [if_neg h6] at H
      refine ex_if_ne_j (ct := am_c255_21) h6 rfl ?_
      refine ex_iload_n rfl ?_
      refine ex_iconst (v := 0) (by decide) ?_
      refine ex_iconst (v := 1) (by decide) ?_
      obtain ⟨v7, S8, hp, H⟩ := am_b2_el H
      refine ex_callS rfl rfl (Nat.le_of_ble_eq_true rfl) (Nat.le_of_ble_eq_true rfl) (r197 (by omega) hp) rfl ?_
      by_cases h9 : v7 = 0
      · rw [if_pos h9] at H
        refine ex_if_eq_j (ct := am_c255_51) h9 rfl ?_
        refine ex_iconst (v := (-1)) (by decide) ?_
        have H := Option.some.inj H
        subst H
        exact ex_iret (M := 255) (Or.inl rfl)
      · rw [if_neg h9] at H
        refine ex_if_eq_f h9 ?_
        refine ex_iload rfl ?_
        refine ex_iconst (v := 0) (by decide) ?_
        refine ex_bipush (v := 24) (by decide) ?_
        obtain ⟨v10, S11, hp, H⟩ := am_b2_el H
        refine ex_callS rfl rfl (Nat.le_of_ble_eq_true rfl) (Nat.le_of_ble_eq_true rfl) (r197 (by omega) hp) rfl ?_
        by_cases h12 : v10 = 0
        · rw [if_pos h12] at H
          refine ex_if_eq_j (ct := am_c255_51) h12 rfl ?_
          refine ex_iconst (v := (-1)) (by decide) ?_
          have H := Option.some.inj H
          subst H
          exact ex_iret (M := 255) (Or.inl rfl)
        · rw [if_neg h12] at H
          refine ex_if_eq_f h12 ?_
          refine ex_iload rfl ?_
          refine ex_iconst (v := 0) (by decide) ?_
          refine ex_iconst (v := 1) (by decide) ?_
          obtain ⟨v13, S14, hp, H⟩ := am_b2_el H
          refine ex_callS rfl rfl (Nat.le_of_ble_eq_true rfl) (Nat.le_of_ble_eq_true rfl) (r197 (by omega) hp) rfl ?_
          by_cases h15 : v13 = 0
          · rw [if_pos h15] at H
            refine ex_if_ne_f h15 ?_
            refine ex_iconst (v := (-1)) (by decide) ?_
            have H := Option.some.inj H
            subst H
            exact ex_iret (M := 255) (Or.inl rfl)
          · rw [if_neg h15] at H
            refine ex_if_ne_j (ct := am_c255_53) h15 rfl ?_
            refine ex_aload_n rfl ?_
            obtain ⟨S16, hp, H⟩ := Option.bind_eq_some_iff.mp H
            refine ex_callV rfl rfl (Nat.le_of_ble_eq_true rfl) (Nat.le_of_ble_eq_true rfl) rfl (r201 (by omega) hp) rfl ?_
            refine ex_aload_n rfl ?_
            refine ex_iload_n rfl ?_
            refine ex_iload_n rfl ?_
            refine ex_iload_n rfl ?_
            refine ex_iload rfl ?_
            obtain ⟨v17, S18, hp, H⟩ := am_b2_el H
            refine ex_callV rfl rfl (Nat.le_of_ble_eq_true rfl) (Nat.le_of_ble_eq_true rfl) rfl (r254 (by omega) hp) rfl ?_
            refine ex_istore (L2 := [.ref 95, .int x1, .int x2, .int x3, .int x4, .int x5, .int x6, .int v17]) (Nat.le_of_ble_eq_true rfl) rfl ?_
            refine ex_iload rfl ?_
            by_cases h19 : v17 ≤ 0
            · rw [if_pos h19] at H
              refine ex_if_le_j (ct := am_c255_80) h19 rfl ?_
              refine ex_aload_n rfl ?_
              refine ex_getR (w := 117) rfl rfl rfl ?_
              refine ex_iload_n rfl ?_
              refine ex_iload_n rfl ?_
              refine ex_iload_n rfl ?_
              refine ex_iload rfl ?_
              obtain ⟨v20, S21, hp, H⟩ := am_b2_el H
              refine ex_callS rfl rfl (Nat.le_of_ble_eq_true rfl) (Nat.le_of_ble_eq_true rfl) (r251 (by omega) hp) rfl ?_
              refine ex_iload rfl ?_
              obtain ⟨hj, H⟩ := am_ck_el H
              refine ex_iast (k := 2048) rfl rfl hj ?_
              generalize ((am_upI S21.1 117 v20.toNatClampNeg x5, S21.2) : AmT) = S22 at H ⊢
              have H := am_lt_el H
              refine ex_aload_n rfl ?_
              refine ex_getR (w := 118) rfl rfl rfl ?_
              refine ex_iload_n rfl ?_
              refine ex_iload_n rfl ?_
              refine ex_iload_n rfl ?_
              refine ex_iload rfl ?_
              obtain ⟨v23, S24, hp, H⟩ := am_b2_el H
              refine ex_callS rfl rfl (Nat.le_of_ble_eq_true rfl) (Nat.le_of_ble_eq_true rfl) (r251 (by omega) hp) rfl ?_
              refine ex_iload rfl ?_
              obtain ⟨hj, H⟩ := am_ck_el H
              refine ex_iast (k := 2048) rfl rfl hj ?_
              generalize ((am_upI S24.1 118 v23.toNatClampNeg x6, S24.2) : AmT) = S25 at H ⊢
              have H := am_lt_el H
              refine ex_iconst (v := 1) (by decide) ?_
              have H := Option.some.inj H
              subst H
              exact ex_iret (M := 255) (Or.inl rfl)
            · rw [if_neg h19] at H
              refine ex_if_le_f h19 ?_
              refine ex_aload_n rfl ?_
              refine ex_iload rfl ?_
              obtain ⟨v26, S27, hp, H⟩ := am_b2_el H
              refine ex_callV rfl rfl (Nat.le_of_ble_eq_true rfl) (Nat.le_of_ble_eq_true rfl) rfl (r203 (by omega) hp) rfl ?_
              have H := Option.some.inj H
              subst H
              exact ex_iret (M := 255) (Or.inl rfl)
  · rw [if_neg h3] at H
    refine ex_if_eq_f h3 ?_
    refine ex_bipush (v := (-4)) (by decide) ?_
    have H := Option.some.inj H
    subst H
    exact ex_iret (M := 255) (Or.inl rfl)
def g258_137 (F : Nat) (S : AmT) : Option (Int32 × AmT) := am_b2 (f203 F 5 S) fun v27 S28 => some (v27, S28)
def g258_146 (F : Nat) (k74 : Int32 → Int32 → Int32 → Int32 → Int32 → Int32 → Int32 → Int32 → Int32 → AmT → Option (Int32 × AmT)) : Nat → Int32 → Int32 → Int32 → Int32 → Int32 → Int32 → Int32 → Int32 → Int32 → Int32 → AmT → Option (Int32 × AmT)
  | 0, _, _, _, _, _, _, _, _, _, _, _ => none
  | n + 1, x1, x2, x3, x4, x5, x6, x7, x8, x9, x12, S => if x8 ≤ x12 then (am_lt ((am_upI S.1 95 35 ((S.1 95 35) + 1), S.2) : AmT) fun S34 => k74 x1 x2 x3 x4 x5 x6 x7 x8 (x9 + 1) S34) else (am_b2 (f251 F x1 x2 (x3 + x9) x12 S) fun v35 S36 => am_b2 (f251 F x4 x5 (x6 + x9) x12 S36) fun v37 S38 => am_ck v35 2048 (am_ck v37 2048 (am_lt ((am_upI S38.1 117 v37.toNatClampNeg (S38.1 117 v35.toNatClampNeg), S38.2) : AmT) fun S39 => am_ck v35 2048 (am_ck v37 2048 (am_lt ((am_upI S39.1 118 v37.toNatClampNeg (S39.1 118 v35.toNatClampNeg), S39.2) : AmT) fun S40 => g258_146 F k74 n x1 x2 x3 x4 x5 x6 x7 x8 x9 (x12 + 1) S40)))))
def g258_74 (F : Nat) : Nat → Int32 → Int32 → Int32 → Int32 → Int32 → Int32 → Int32 → Int32 → Int32 → AmT → Option (Int32 × AmT)
  | 0, _, _, _, _, _, _, _, _, _, _ => none
  | n + 1, x1, x2, x3, x4, x5, x6, x7, x8, x9, S => if x7 ≤ x9 then (some (1, S)) else (am_b2 (f257 F x1 x2 (x3 + x9) S) fun v22 S23 => am_b2 (f257 F x4 x5 (x6 + x9) S23) fun v24 S25 => if x8 < 0 then (g258_137 F S25) else (if v22 < 0 then (g258_137 F S25) else (if v24 < 0 then (g258_137 F S25) else (if v22 < x8 then (g258_137 F S25) else (if x8 ≤ v24 then (g258_146 F (fun x1 x2 x3 x4 x5 x6 x7 x8 x9 S => g258_74 F n x1 x2 x3 x4 x5 x6 x7 x8 x9 S) F x1 x2 x3 x4 x5 x6 x7 x8 x9 0 S25) else (g258_137 F S25))))))
-- X10_shift
def f258 (F : Nat) (x1 : Int32) (x2 : Int32) (x3 : Int32) (x4 : Int32) (x5 : Int32) (x6 : Int32) (x7 : Int32) (x8 : Int32) (S : AmT) : Option (Int32 × AmT) := am_b2 (f202 F S) fun v1 S2 => if v1 = 0 then (am_b2 (f249 F x1 S2) fun v4 S5 => if v4 = 0 then (some ((-2), S5)) else (am_b2 (f249 F x4 S5) fun v7 S8 => if v7 = 0 then (some ((-2), S8)) else (am_b2 (f197 F x2 0 1 S8) fun v10 S11 => if v10 = 0 then (some ((-1), S11)) else (am_b2 (f197 F x5 0 1 S11) fun v13 S14 => if v13 = 0 then (some ((-1), S14)) else (am_b2 (f197 F x7 0 8 S14) fun v16 S17 => if v16 = 0 then (some ((-1), S17)) else ((f201 F S17).bind fun S19 => am_lt ((am_upI S19.1 95 35 0, S19.2) : AmT) fun S20 => g258_74 F F x1 x2 x3 x4 x5 x6 x7 x8 0 S20)))))) else (some ((-4), S2))
set_option maxHeartbeats 1000000 in
set_option maxRecDepth 20000 in
theorem e258_137 {Lg : Nat} {xs : Nat → Int32} {d F : Nat} {w1 : Value} {w2 : Value} {w3 : Value} {w4 : Value} {w5 : Value} {w6 : Value} {w7 : Value} {w8 : Value} {w9 : Value} {w10 : Value} {w11 : Value} {w12 : Value} {w13 : Value} {w14 : Value} {S : AmT} {q : Int32 × AmT} (hd : 3 ≤ d) (H : g258_137 F S = some q) : Ex (am_X Lg xs) d 258 am_c258_137 [.ref 95, w1, w2, w3, w4, w5, w6, w7, w8, w9, w10, w11, w12, w13, w14] [] (hS S) (some q.1, hS q.2) := by
  obtain ⟨d, rfl⟩ : ∃ d2, d = d2 + 1 := ⟨d - 1, by omega⟩
  unfold g258_137 at H
  refine ex_aload_n rfl ?_
  refine ex_iconst (v := 5) (by decide) ?_
  obtain ⟨v27, S28, hp, H⟩ := am_b2_el H
  refine ex_callV rfl rfl (Nat.le_of_ble_eq_true rfl) (Nat.le_of_ble_eq_true rfl) rfl (r203 (by omega) hp) rfl ?_
  have H := Option.some.inj H
  subst H
  exact ex_iret (M := 258) (Or.inl rfl)
set_option maxHeartbeats 1000000 in
set_option maxRecDepth 20000 in
theorem e258_146 {Lg : Nat} {xs : Nat → Int32} {d F : Nat} {k74 : Int32 → Int32 → Int32 → Int32 → Int32 → Int32 → Int32 → Int32 → Int32 → AmT → Option (Int32 × AmT)} (hd : 3 ≤ d) (hk74 : ∀ (x1 : Int32) (x2 : Int32) (x3 : Int32) (x4 : Int32) (x5 : Int32) (x6 : Int32) (x7 : Int32) (x8 : Int32) (x9 : Int32) (w10 : Value) (w11 : Value) (w12 : Value) (w13 : Value) (w14 : Value) (S : AmT) (q : Int32 × AmT), k74 x1 x2 x3 x4 x5 x6 x7 x8 x9 S = some q → Ex (am_X Lg xs) d 258 am_c258_74 [.ref 95, .int x1, .int x2, .int x3, .int x4, .int x5, .int x6, .int x7, .int x8, .int x9, w10, w11, w12, w13, w14] [] (hS S) (some q.1, hS q.2)) : ∀ (n : Nat) (x1 : Int32) (x2 : Int32) (x3 : Int32) (x4 : Int32) (x5 : Int32) (x6 : Int32) (x7 : Int32) (x8 : Int32) (x9 : Int32) (x12 : Int32) (w10 : Value) (w11 : Value) (w13 : Value) (w14 : Value) (S : AmT) (q : Int32 × AmT), g258_146 F k74 n x1 x2 x3 x4 x5 x6 x7 x8 x9 x12 S = some q → Ex (am_X Lg xs) d 258 am_c258_146 [.ref 95, .int x1, .int x2, .int x3, .int x4, .int x5, .int x6, .int x7, .int x8, .int x9, w10, w11, .int x12, w13, w14] [] (hS S) (some q.1, hS q.2) := by
  obtain ⟨d, rfl⟩ : ∃ d2, d = d2 + 1 := ⟨d - 1, by omega⟩
  intro n
  induction n with
  | zero =>
    intro x1 x2 x3 x4 x5 x6 x7 x8 x9 x12 w10 w11 w13 w14 S q H
    cases H
  | succ n ih =>
    intro x1 x2 x3 x4 x5 x6 x7 x8 x9 x12 w10 w11 w13 w14 S q H
    have H : (if x8 ≤ x12 then (am_lt ((am_upI S.1 95 35 ((S.1 95 35) + 1), S.2) : AmT) fun S34 => k74 x1 x2 x3 x4 x5 x6 x7 x8 (x9 + 1) S34) else (am_b2 (f251 F x1 x2 (x3 + x9) x12 S) fun v35 S36 => am_b2 (f251 F x4 x5 (x6 + x9) x12 S36) fun v37 S38 => am_ck v35 2048 (am_ck v37 2048 (am_lt ((am_upI S38.1 117 v37.toNatClampNeg (S38.1 117 v35.toNatClampNeg), S38.2) : AmT) fun S39 => am_ck v35 2048 (am_ck v37 2048 (am_lt ((am_upI S39.1 118 v37.toNatClampNeg (S39.1 118 v35.toNatClampNeg), S39.2) : AmT) fun S40 => g258_146 F k74 n x1 x2 x3 x4 x5 x6 x7 x8 x9 (x12 + 1) S40)))))) = some q := H
    refine ex_iload rfl ?_
    refine ex_iload rfl ?_
    by_cases h33 : x8 ≤ x12
    · rw [if_pos h33] at H
      refine ex_icmp_ge_j (ct := am_c258_216) h33 rfl ?_
      refine ex_aload_n rfl ?_
      refine ex_dupr ?_
      refine ex_gI rfl (by decide) ?_
      refine ex_iconst (v := 1) (by decide) ?_
      refine ex_iadd ?_
      refine ex_putI rfl (by decide) (fun z => absurd z.1 (by decide)) ?_
      generalize ((am_upI S.1 95 35 ((S.1 95 35) + 1), S.2) : AmT) = S34 at H ⊢
      have H := am_lt_el H
      refine ex_iinc (L2 := [.ref 95, .int x1, .int x2, .int x3, .int x4, .int x5, .int x6, .int x7, .int x8, .int (x9 + 1), w10, w11, .int x12, w13, w14]) (v := (x9 + 1)) rfl (Nat.le_of_ble_eq_true rfl) (congrArg (fun z => x9 + z) (by decide)) rfl ?_
      refine ex_goto (ct := am_c258_74) rfl ?_
      exact hk74 _ _ _ _ _ _ _ _ _ _ _ _ _ _ _ _ H
    · rw [if_neg h33] at H
      refine ex_icmp_ge_f h33 ?_
      refine ex_iload_n rfl ?_
      refine ex_iload_n rfl ?_
      refine ex_iload_n rfl ?_
      refine ex_iload rfl ?_
      refine ex_iadd ?_
      refine ex_iload rfl ?_
      obtain ⟨v35, S36, hp, H⟩ := am_b2_el H
      refine ex_callS rfl rfl (Nat.le_of_ble_eq_true rfl) (Nat.le_of_ble_eq_true rfl) (r251 (by omega) hp) rfl ?_
      refine ex_istore (L2 := [.ref 95, .int x1, .int x2, .int x3, .int x4, .int x5, .int x6, .int x7, .int x8, .int x9, w10, w11, .int x12, .int v35, w14]) (Nat.le_of_ble_eq_true rfl) rfl ?_
      refine ex_iload rfl ?_
      refine ex_iload rfl ?_
      refine ex_iload rfl ?_
      refine ex_iload rfl ?_
      refine ex_iadd ?_
      refine ex_iload rfl ?_
      obtain ⟨v37, S38, hp, H⟩ := am_b2_el H
      refine ex_callS rfl rfl (Nat.le_of_ble_eq_true rfl) (Nat.le_of_ble_eq_true rfl) (r251 (by omega) hp) rfl ?_
      refine ex_istore (L2 := [.ref 95, .int x1, .int x2, .int x3, .int x4, .int x5, .int x6, .int x7, .int x8, .int x9, w10, w11, .int x12, .int v35, .int v37]) (Nat.le_of_ble_eq_true rfl) rfl ?_
      refine ex_aload_n rfl ?_
      refine ex_getR (w := 117) rfl rfl rfl ?_
      refine ex_iload rfl ?_
      refine ex_aload_n rfl ?_
      refine ex_getR (w := 117) rfl rfl rfl ?_
      refine ex_iload rfl ?_
      obtain ⟨hj, H⟩ := am_ck_el H
      refine ex_iald (k := 2048) (v := S38.1 117 v35.toNatClampNeg) rfl hj rfl ?_
      obtain ⟨hj, H⟩ := am_ck_el H
      refine ex_iast (k := 2048) rfl rfl hj ?_
      generalize ((am_upI S38.1 117 v37.toNatClampNeg (S38.1 117 v35.toNatClampNeg), S38.2) : AmT) = S39 at H ⊢
      have H := am_lt_el H
      refine ex_aload_n rfl ?_
      refine ex_getR (w := 118) rfl rfl rfl ?_
      refine ex_iload rfl ?_
      refine ex_aload_n rfl ?_
      refine ex_getR (w := 118) rfl rfl rfl ?_
      refine ex_iload rfl ?_
      obtain ⟨hj, H⟩ := am_ck_el H
      refine ex_iald (k := 2048) (v := S39.1 118 v35.toNatClampNeg) rfl hj rfl ?_
      obtain ⟨hj, H⟩ := am_ck_el H
      refine ex_iast (k := 2048) rfl rfl hj ?_
      generalize ((am_upI S39.1 118 v37.toNatClampNeg (S39.1 118 v35.toNatClampNeg), S39.2) : AmT) = S40 at H ⊢
      have H := am_lt_el H
      refine ex_iinc (L2 := [.ref 95, .int x1, .int x2, .int x3, .int x4, .int x5, .int x6, .int x7, .int x8, .int x9, w10, w11, .int (x12 + 1), .int v35, .int v37]) (v := (x12 + 1)) rfl (Nat.le_of_ble_eq_true rfl) (congrArg (fun z => x12 + z) (by decide)) rfl ?_
      refine ex_goto (ct := am_c258_146) rfl ?_
      exact ih _ _ _ _ _ _ _ _ _ _ _ _ _ _ _ _ H
set_option maxHeartbeats 1000000 in
set_option maxRecDepth 20000 in
theorem e258_74 {Lg : Nat} {xs : Nat → Int32} {d F : Nat} (hd : 3 ≤ d) : ∀ (n : Nat) (x1 : Int32) (x2 : Int32) (x3 : Int32) (x4 : Int32) (x5 : Int32) (x6 : Int32) (x7 : Int32) (x8 : Int32) (x9 : Int32) (w10 : Value) (w11 : Value) (w12 : Value) (w13 : Value) (w14 : Value) (S : AmT) (q : Int32 × AmT), g258_74 F n x1 x2 x3 x4 x5 x6 x7 x8 x9 S = some q → Ex (am_X Lg xs) d 258 am_c258_74 [.ref 95, .int x1, .int x2, .int x3, .int x4, .int x5, .int x6, .int x7, .int x8, .int x9, w10, w11, w12, w13, w14] [] (hS S) (some q.1, hS q.2) := by
  obtain ⟨d, rfl⟩ : ∃ d2, d = d2 + 1 := ⟨d - 1, by omega⟩
  intro n
  induction n with
  | zero =>
    intro x1 x2 x3 x4 x5 x6 x7 x8 x9 w10 w11 w12 w13 w14 S q H
    cases H
  | succ n ih =>
    intro x1 x2 x3 x4 x5 x6 x7 x8 x9 w10 w11 w12 w13 w14 S q H
    have H : (if x7 ≤ x9 then (some (1, S)) else (am_b2 (f257 F x1 x2 (x3 + x9) S) fun v22 S23 => am_b2 (f257 F x4 x5 (x6 + x9) S23) fun v24 S25 => if x8 < 0 then (g258_137 F S25) else (if v22 < 0 then (g258_137 F S25) else (if v24 < 0 then (g258_137 F S25) else (if v22 < x8 then (g258_137 F S25) else (if x8 ≤ v24 then (g258_146 F (fun x1 x2 x3 x4 x5 x6 x7 x8 x9 S => g258_74 F n x1 x2 x3 x4 x5 x6 x7 x8 x9 S) F x1 x2 x3 x4 x5 x6 x7 x8 x9 0 S25) else (g258_137 F S25))))))) = some q := H
    refine ex_iload rfl ?_
    refine ex_iload rfl ?_
    by_cases h21 : x7 ≤ x9
    · rw [if_pos h21] at H
      refine ex_icmp_ge_j (ct := am_c258_232) h21 rfl ?_
      refine ex_iconst (v := 1) (by decide) ?_
      have H := Option.some.inj H
      subst H
      exact ex_iret (M := 258) (Or.inl rfl)
    · rw [if_neg h21] at H
      refine ex_icmp_ge_f h21 ?_
      refine ex_aload_n rfl ?_
      refine ex_iload_n rfl ?_
      refine ex_iload_n rfl ?_
      refine ex_iload_n rfl ?_
      refine ex_iload rfl ?_
      refine ex_iadd ?_
      obtain ⟨v22, S23, hp, H⟩ := am_b2_el H
      refine ex_callV rfl rfl (Nat.le_of_ble_eq_true rfl) (Nat.le_of_ble_eq_true rfl) rfl (r257 (by omega) hp) rfl ?_
      refine ex_istore (L2 := [.ref 95, .int x1, .int x2, .int x3, .int x4, .int x5, .int x6, .int x7, .int x8, .int x9, .int v22, w11, w12, w13, w14]) (Nat.le_of_ble_eq_true rfl) rfl ?_
      refine ex_aload_n rfl ?_
      refine ex_iload rfl ?_
      refine ex_iload rfl ?_
      refine ex_iload rfl ?_
      refine ex_iload rfl ?_
      refine ex_iadd ?_
      obtain ⟨v24, S25, hp, H⟩ := am_b2_el H
      refine ex_callV rfl rfl (Nat.le_of_ble_eq_true rfl) (Nat.le_of_ble_eq_true rfl) rfl (r257 (by omega) hp) rfl ?_
      refine ex_istore (L2 := [.ref 95, .int x1, .int x2, .int x3, .int x4, .int x5, .int x6, .int x7, .int x8, .int x9, .int v22, .int v24, w12, w13, w14]) (Nat.le_of_ble_eq_true rfl) rfl ?_
      refine ex_iload rfl ?_
      by_cases h26 : x8 < 0
      · rw [if_pos h26] at H
        refine ex_if_lt_j (ct := am_c258_137) h26 rfl ?_
        exact e258_137 hd H
      · rw [if_neg h26] at H
        refine ex_if_lt_f h26 ?_
        refine ex_iload rfl ?_
        by_cases h29 : v22 < 0
        · rw [if_pos h29] at H
          refine ex_if_lt_j (ct := am_c258_137) h29 rfl ?_
          exact e258_137 hd H
        · rw [if_neg h29] at H
          refine ex_if_lt_f h29 ?_
          refine ex_iload rfl ?_
          by_cases h30 : v24 < 0
          · rw [if_pos h30] at H
            refine ex_if_lt_j (ct := am_c258_137) h30 rfl ?_
            exact e258_137 hd H
          · rw [if_neg h30] at H
            refine ex_if_lt_f h30 ?_
            refine ex_iload rfl ?_
            refine ex_iload rfl ?_
            by_cases h31 : v22 < x8
            · rw [if_pos h31] at H
              refine ex_icmp_lt_j (ct := am_c258_137) h31 rfl ?_
              exact e258_137 hd H
            · rw [if_neg h31] at H
              refine ex_icmp_lt_f h31 ?_
              refine ex_iload rfl ?_
              refine ex_iload rfl ?_
              by_cases h32 : x8 ≤ v24
              · rw [if_pos h32] at H
                refine ex_icmp_ge_j (ct := am_c258_143) h32 rfl ?_
                refine ex_iconst (v := 0) (by decide) ?_
                refine ex_istore (L2 := [.ref 95, .int x1, .int x2, .int x3, .int x4, .int x5, .int x6, .int x7, .int x8, .int x9, .int v22, .int v24, .int 0, w13, w14]) (Nat.le_of_ble_eq_true rfl) rfl ?_
                exact e258_146 hd (fun x1 x2 x3 x4 x5 x6 x7 x8 x9 w10 w11 w12 w13 w14 S q H => ih x1 x2 x3 x4 x5 x6 x7 x8 x9 w10 w11 w12 w13 w14 S q H) _ _ _ _ _ _ _ _ _ _ _ _ _ _ _ _ _ H
              · rw [if_neg h32] at H
                refine ex_icmp_ge_f h32 ?_
                exact e258_137 hd H
set_option maxHeartbeats 1000000 in
set_option maxRecDepth 20000 in
theorem r258 {Lg : Nat} {xs : Nat → Int32} {d F : Nat} {x1 : Int32} {x2 : Int32} {x3 : Int32} {x4 : Int32} {x5 : Int32} {x6 : Int32} {x7 : Int32} {x8 : Int32} {S : AmT} {q : Int32 × AmT} (hd : 3 ≤ d) (H : f258 F x1 x2 x3 x4 x5 x6 x7 x8 S = some q) : Ex (am_X Lg xs) d 258 (am_P 258) (am_ini (am_Mi 258).1 [.ref 95, .int x1, .int x2, .int x3, .int x4, .int x5, .int x6, .int x7, .int x8]) [] (hS S) (some q.1, hS q.2) := by
  obtain ⟨d, rfl⟩ : ∃ d2, d = d2 + 1 := ⟨d - 1, by omega⟩
  unfold f258 at H
  show Ex (am_X Lg xs) _ 258 am_c258_0 [.ref 95, .int x1, .int x2, .int x3, .int x4, .int x5, .int x6, .int x7, .int x8, .long 0, .long 0, .long 0, .long 0, .long 0, .long 0] [] (hS S) (some q.1, hS q.2)
  refine ex_aload_n rfl ?_
  obtain ⟨v1, S2, hp, H⟩ := am_b2_el H
  refine ex_callV rfl rfl (Nat.le_of_ble_eq_true rfl) (Nat.le_of_ble_eq_true rfl) rfl (r202 (by omega) hp) rfl ?_
  by_cases h3 : v1 = 0
  · rw [if_pos h3] at H
    refine ex_if_eq_j (ct := am_c258_10) h3 rfl ?_
    refine ex_aload_n rfl ?_
    refine ex_iload_n rfl ?_
    obtain ⟨v4, S5, hp, H⟩ := am_b2_el H
    refine ex_callV rfl rfl (Nat.le_of_ble_eq_true rfl) (Nat.le_of_ble_eq_true rfl) rfl (r249 (by omega) hp) rfl ?_
    by_cases h6 : v4 = 0
    · rw [if_pos h6] at H
      refine ex_if_eq_j (ct := am_c258_27) h6 rfl ?_
      refine ex_bipush (v := (-2)) (by decide) ?_
      have H := Option.some.inj H
      subst H
      exact ex_iret (M := 258) (Or.inl rfl)
    · rw [if_neg h6] at H
      refine ex_if_eq_f h6 ?_
      refine ex_aload_n rfl ?_
      refine ex_iload rfl ?_
      obtain ⟨v7, S8, hp, H⟩ := am_b2_el H
      refine ex_callV rfl rfl (Nat.le_of_ble_eq_true rfl) (Nat.le_of_ble_eq_true rfl) rfl (r249 (by omega) hp) rfl ?_
      by_cases h9 : v7 = 0
      · rw [if_pos h9] at H
        refine ex_if_ne_f h9 ?_
        refine ex_bipush (v := (-2)) (by decide) ?_
        have H := Option.some.inj H
        subst H
        exact ex_iret (M := 258) (Or.inl rfl)
      · rw [if_neg h9] at H
        refine ex_if_ne_j (ct := am_c258_30) h9 rfl ?_
        refine ex_iload_n rfl ?_
        refine ex_iconst (v := 0) (by decide) ?_
        refine ex_iconst (v := 1) (by decide) ?_
        obtain ⟨v10, S11, hp, H⟩ := am_b2_el H
        refine ex_callS rfl rfl (Nat.le_of_ble_eq_true rfl) (Nat.le_of_ble_eq_true rfl) (r197 (by omega) hp) rfl ?_
        by_cases h12 : v10 = 0
        · rw [if_pos h12] at H
          refine ex_if_eq_j (ct := am_c258_60) h12 rfl ?_
          refine ex_iconst (v := (-1)) (by decide) ?_
          have H := Option.some.inj H
          subst H
          exact ex_iret (M := 258) (Or.inl rfl)
        · rw [if_neg h12] at H
          refine ex_if_eq_f h12 ?_
          refine ex_iload rfl ?_
          refine ex_iconst (v := 0) (by decide) ?_
          refine ex_iconst (v := 1) (by decide) ?_
          obtain ⟨v13, S14, hp, H⟩ := am_b2_el H
          refine ex_callS rfl rfl (Nat.le_of_ble_eq_true rfl) (Nat.le_of_ble_eq_true rfl) (r197 (by omega) hp) rfl ?_
          by_cases h15 : v13 = 0
          · rw [if_pos h15] at H
            refine ex_if_eq_j (ct := am_c258_60) h15 rfl ?_
            refine ex_iconst (v := (-1)) (by decide) ?_
            have H := Option.some.inj H
            subst H
            exact ex_iret (M := 258) (Or.inl rfl)
          · rw [if_neg h15] at H
            refine ex_if_eq_f h15 ?_
            refine ex_iload rfl ?_
            refine ex_iconst (v := 0) (by decide) ?_
            refine ex_bipush (v := 8) (by decide) ?_
            obtain ⟨v16, S17, hp, H⟩ := am_b2_el H
            refine ex_callS rfl rfl (Nat.le_of_ble_eq_true rfl) (Nat.le_of_ble_eq_true rfl) (r197 (by omega) hp) rfl ?_
            by_cases h18 : v16 = 0
            · rw [if_pos h18] at H
              refine ex_if_ne_f h18 ?_
              refine ex_iconst (v := (-1)) (by decide) ?_
              have H := Option.some.inj H
              subst H
              exact ex_iret (M := 258) (Or.inl rfl)
            · rw [if_neg h18] at H
              refine ex_if_ne_j (ct := am_c258_62) h18 rfl ?_
              refine ex_aload_n rfl ?_
              obtain ⟨S19, hp, H⟩ := Option.bind_eq_some_iff.mp H
              refine ex_callV rfl rfl (Nat.le_of_ble_eq_true rfl) (Nat.le_of_ble_eq_true rfl) rfl (r201 (by omega) hp) rfl ?_
              refine ex_aload_n rfl ?_
              refine ex_iconst (v := 0) (by decide) ?_
              refine ex_putI rfl (by decide) (fun z => absurd z.1 (by decide)) ?_
              generalize ((am_upI S19.1 95 35 0, S19.2) : AmT) = S20 at H ⊢
              have H := am_lt_el H
              refine ex_iconst (v := 0) (by decide) ?_
              refine ex_istore (L2 := [.ref 95, .int x1, .int x2, .int x3, .int x4, .int x5, .int x6, .int x7, .int x8, .int 0, .long 0, .long 0, .long 0, .long 0, .long 0]) (Nat.le_of_ble_eq_true rfl) rfl ?_
              exact e258_74 hd _ _ _ _ _ _ _ _ _ _ _ _ _ _ _ _ _ H
  · rw [if_neg h3] at H
    refine ex_if_eq_f h3 ?_
    refine ex_bipush (v := (-4)) (by decide) ?_
    have H := Option.some.inj H
    subst H
    exact ex_iret (M := 258) (Or.inl rfl)
def g266_140 (F : Nat) (x10 : Int32) (s1 : Int32) (S : AmT) : Option (Int32 × AmT) := am_lt ((am_upI S.1 95 50 s1, S.2) : AmT) fun S11 => some (x10, S11)
def g266_97 (F : Nat) (x7 : Int32) (x8 : Int32) (s0 : Int32) (S : AmT) : Option (Int32 × AmT) := am_b2 (f213 F x7 x8 s0 S) fun v8 S9 => if v8 ≤ 0 then (am_ck ((10 * ((8 * x7) + x8)) + s0) 11520 (g266_140 F v8 (S9.1 102 ((10 * ((8 * x7) + x8)) + s0).toNatClampNeg) S9)) else (g266_140 F v8 0 S9)
def g266_68 (F : Nat) (x2 : Int32) (x4 : Int32) (x5 : Int32) (x7 : Int32) (s0 : Int32) (S : AmT) : Option (Int32 × AmT) := am_ck x2 2048 (if (S.1 118 x2.toNatClampNeg) = 1 then (am_ck x5 6 (g266_97 F x7 s0 (((S.1 99 x5.toNatClampNeg) - 1) - x4) S)) else (g266_97 F x7 s0 x4 S))
-- X10_look
def f266 (F : Nat) (x1 : Int32) (x2 : Int32) (x3 : Int32) (x4 : Int32) (S : AmT) : Option (Int32 × AmT) := am_ck x1 16 (am_ck x2 2048 (am_ck (S.1 108 x1.toNatClampNeg) 6 (am_b2 (f197 F (S.1 117 x2.toNatClampNeg) 1 (S.1 97 (S.1 108 x1.toNatClampNeg).toNatClampNeg) S) fun v1 S2 => if v1 = 0 then (some (1, S2)) else (am_b2 (f207 F (S.1 108 x1.toNatClampNeg) (S.1 117 x2.toNatClampNeg) S2) fun v4 S5 => am_ck x2 2048 (if (S5.1 118 x2.toNatClampNeg) = 1 then (am_ck (S.1 108 x1.toNatClampNeg) 6 (g266_68 F x2 x4 (S.1 108 x1.toNatClampNeg) v4 (((S5.1 98 (S.1 108 x1.toNatClampNeg).toNatClampNeg) - 1) - x3) S5)) else (g266_68 F x2 x4 (S.1 108 x1.toNatClampNeg) v4 x3 S5))))))
set_option maxHeartbeats 1000000 in
set_option maxRecDepth 20000 in
theorem e266_140 {Lg : Nat} {xs : Nat → Int32} {d F : Nat} {x10 : Int32} {s1 : Int32} {w0 : Value} {w1 : Value} {w2 : Value} {w3 : Value} {w4 : Value} {w5 : Value} {w6 : Value} {w7 : Value} {w8 : Value} {w9 : Value} {S : AmT} {q : Int32 × AmT} (hd : 3 ≤ d) (H : g266_140 F x10 s1 S = some q) : Ex (am_X Lg xs) d 266 am_c266_140 [w0, w1, w2, w3, w4, w5, w6, w7, w8, w9, .int x10] [.int s1, .ref 95] (hS S) (some q.1, hS q.2) := by
  obtain ⟨d, rfl⟩ : ∃ d2, d = d2 + 1 := ⟨d - 1, by omega⟩
  unfold g266_140 at H
  refine ex_putI rfl (by decide) (fun z => absurd z.1 (by decide)) ?_
  generalize ((am_upI S.1 95 50 s1, S.2) : AmT) = S11 at H ⊢
  have H := am_lt_el H
  refine ex_iload rfl ?_
  have H := Option.some.inj H
  subst H
  exact ex_iret (M := 266) (Or.inl rfl)
set_option maxHeartbeats 1000000 in
set_option maxRecDepth 20000 in
theorem e266_97 {Lg : Nat} {xs : Nat → Int32} {d F : Nat} {x7 : Int32} {x8 : Int32} {s0 : Int32} {w1 : Value} {w2 : Value} {w3 : Value} {w4 : Value} {w5 : Value} {w6 : Value} {w9 : Value} {w10 : Value} {S : AmT} {q : Int32 × AmT} (hd : 3 ≤ d) (H : g266_97 F x7 x8 s0 S = some q) : Ex (am_X Lg xs) d 266 am_c266_97 [.ref 95, w1, w2, w3, w4, w5, w6, .int x7, .int x8, w9, w10] [.int s0] (hS S) (some q.1, hS q.2) := by
  obtain ⟨d, rfl⟩ : ∃ d2, d = d2 + 1 := ⟨d - 1, by omega⟩
  unfold g266_97 at H
  refine ex_istore (L2 := [.ref 95, w1, w2, w3, w4, w5, w6, .int x7, .int x8, .int s0, w10]) (Nat.le_of_ble_eq_true rfl) rfl ?_
  refine ex_aload_n rfl ?_
  refine ex_iload rfl ?_
  refine ex_iload rfl ?_
  refine ex_iload rfl ?_
  obtain ⟨v8, S9, hp, H⟩ := am_b2_el H
  refine ex_callV rfl rfl (Nat.le_of_ble_eq_true rfl) (Nat.le_of_ble_eq_true rfl) rfl (r213 (by omega) hp) rfl ?_
  refine ex_istore (L2 := [.ref 95, w1, w2, w3, w4, w5, w6, .int x7, .int x8, .int s0, .int v8]) (Nat.le_of_ble_eq_true rfl) rfl ?_
  refine ex_aload_n rfl ?_
  refine ex_iload rfl ?_
  by_cases h10 : v8 ≤ 0
  · rw [if_pos h10] at H
    refine ex_if_le_j (ct := am_c266_121) h10 rfl ?_
    refine ex_aload_n rfl ?_
    refine ex_getR (w := 102) rfl rfl rfl ?_
    refine ex_bipush (v := 10) (by decide) ?_
    refine ex_bipush (v := 8) (by decide) ?_
    refine ex_iload rfl ?_
    refine ex_imul ?_
    refine ex_iload rfl ?_
    refine ex_iadd ?_
    refine ex_imul ?_
    refine ex_iload rfl ?_
    refine ex_iadd ?_
    obtain ⟨hj, H⟩ := am_ck_el H
    refine ex_iald (k := 11520) (v := S9.1 102 ((10 * ((8 * x7) + x8)) + s0).toNatClampNeg) rfl hj rfl ?_
    exact e266_140 hd H
  · rw [if_neg h10] at H
    refine ex_if_le_f h10 ?_
    refine ex_iconst (v := 0) (by decide) ?_
    refine ex_goto (ct := am_c266_140) rfl ?_
    exact e266_140 hd H
set_option maxHeartbeats 1000000 in
set_option maxRecDepth 20000 in
theorem e266_68 {Lg : Nat} {xs : Nat → Int32} {d F : Nat} {x2 : Int32} {x4 : Int32} {x5 : Int32} {x7 : Int32} {s0 : Int32} {w1 : Value} {w3 : Value} {w6 : Value} {w8 : Value} {w9 : Value} {w10 : Value} {S : AmT} {q : Int32 × AmT} (hd : 3 ≤ d) (H : g266_68 F x2 x4 x5 x7 s0 S = some q) : Ex (am_X Lg xs) d 266 am_c266_68 [.ref 95, w1, .int x2, w3, .int x4, .int x5, w6, .int x7, w8, w9, w10] [.int s0] (hS S) (some q.1, hS q.2) := by
  obtain ⟨d, rfl⟩ : ∃ d2, d = d2 + 1 := ⟨d - 1, by omega⟩
  unfold g266_68 at H
  refine ex_istore (L2 := [.ref 95, w1, .int x2, w3, .int x4, .int x5, w6, .int x7, .int s0, w9, w10]) (Nat.le_of_ble_eq_true rfl) rfl ?_
  refine ex_aload_n rfl ?_
  refine ex_getR (w := 118) rfl rfl rfl ?_
  refine ex_iload_n rfl ?_
  obtain ⟨hj, H⟩ := am_ck_el H
  refine ex_iald (k := 2048) (v := S.1 118 x2.toNatClampNeg) rfl hj rfl ?_
  refine ex_iconst (v := 1) (by decide) ?_
  by_cases h7 : (S.1 118 x2.toNatClampNeg) = 1
  · rw [if_pos h7] at H
    refine ex_icmp_ne_f h7 ?_
    refine ex_aload_n rfl ?_
    refine ex_getR (w := 99) rfl rfl rfl ?_
    refine ex_iload rfl ?_
    obtain ⟨hj, H⟩ := am_ck_el H
    refine ex_iald (k := 6) (v := S.1 99 x5.toNatClampNeg) rfl hj rfl ?_
    refine ex_iconst (v := 1) (by decide) ?_
    refine ex_isub ?_
    refine ex_iload rfl ?_
    refine ex_isub ?_
    refine ex_goto (ct := am_c266_97) rfl ?_
    exact e266_97 hd H
  · rw [if_neg h7] at H
    refine ex_icmp_ne_j (ct := am_c266_95) h7 rfl ?_
    refine ex_iload rfl ?_
    exact e266_97 hd H
set_option maxHeartbeats 1000000 in
set_option maxRecDepth 20000 in
theorem r266 {Lg : Nat} {xs : Nat → Int32} {d F : Nat} {x1 : Int32} {x2 : Int32} {x3 : Int32} {x4 : Int32} {S : AmT} {q : Int32 × AmT} (hd : 3 ≤ d) (H : f266 F x1 x2 x3 x4 S = some q) : Ex (am_X Lg xs) d 266 (am_P 266) (am_ini (am_Mi 266).1 [.ref 95, .int x1, .int x2, .int x3, .int x4]) [] (hS S) (some q.1, hS q.2) := by
  obtain ⟨d, rfl⟩ : ∃ d2, d = d2 + 1 := ⟨d - 1, by omega⟩
  unfold f266 at H
  show Ex (am_X Lg xs) _ 266 am_c266_0 [.ref 95, .int x1, .int x2, .int x3, .int x4, .long 0, .long 0, .long 0, .long 0, .long 0, .long 0] [] (hS S) (some q.1, hS q.2)
  refine ex_aload_n rfl ?_
  refine ex_getR (w := 108) rfl rfl rfl ?_
  refine ex_iload_n rfl ?_
  obtain ⟨hj, H⟩ := am_ck_el H
  refine ex_iald (k := 16) (v := S.1 108 x1.toNatClampNeg) rfl hj rfl ?_
  refine ex_istore (L2 := [.ref 95, .int x1, .int x2, .int x3, .int x4, .int (S.1 108 x1.toNatClampNeg), .long 0, .long 0, .long 0, .long 0, .long 0]) (Nat.le_of_ble_eq_true rfl) rfl ?_
  refine ex_aload_n rfl ?_
  refine ex_getR (w := 117) rfl rfl rfl ?_
  refine ex_iload_n rfl ?_
  obtain ⟨hj, H⟩ := am_ck_el H
  refine ex_iald (k := 2048) (v := S.1 117 x2.toNatClampNeg) rfl hj rfl ?_
  refine ex_istore (L2 := [.ref 95, .int x1, .int x2, .int x3, .int x4, .int (S.1 108 x1.toNatClampNeg), .int (S.1 117 x2.toNatClampNeg), .long 0, .long 0, .long 0, .long 0]) (Nat.le_of_ble_eq_true rfl) rfl ?_
  refine ex_iload rfl ?_
  refine ex_iconst (v := 1) (by decide) ?_
  refine ex_aload_n rfl ?_
  refine ex_getR (w := 97) rfl rfl rfl ?_
  refine ex_iload rfl ?_
  obtain ⟨hj, H⟩ := am_ck_el H
  refine ex_iald (k := 6) (v := S.1 97 (S.1 108 x1.toNatClampNeg).toNatClampNeg) rfl hj rfl ?_
  obtain ⟨v1, S2, hp, H⟩ := am_b2_el H
  refine ex_callS rfl rfl (Nat.le_of_ble_eq_true rfl) (Nat.le_of_ble_eq_true rfl) (r197 (by omega) hp) rfl ?_
  by_cases h3 : v1 = 0
  · rw [if_pos h3] at H
    refine ex_if_ne_f h3 ?_
    refine ex_iconst (v := 1) (by decide) ?_
    have H := Option.some.inj H
    subst H
    exact ex_iret (M := 266) (Or.inl rfl)
  · rw [if_neg h3] at H
    refine ex_if_ne_j (ct := am_c266_34) h3 rfl ?_
    refine ex_iload rfl ?_
    refine ex_iload rfl ?_
    obtain ⟨v4, S5, hp, H⟩ := am_b2_el H
    refine ex_callS rfl rfl (Nat.le_of_ble_eq_true rfl) (Nat.le_of_ble_eq_true rfl) (r207 (by omega) hp) rfl ?_
    refine ex_istore (L2 := [.ref 95, .int x1, .int x2, .int x3, .int x4, .int (S.1 108 x1.toNatClampNeg), .int (S.1 117 x2.toNatClampNeg), .int v4, .long 0, .long 0, .long 0]) (Nat.le_of_ble_eq_true rfl) rfl ?_
    refine ex_aload_n rfl ?_
    refine ex_getR (w := 118) rfl rfl rfl ?_
    refine ex_iload_n rfl ?_
    obtain ⟨hj, H⟩ := am_ck_el H
    refine ex_iald (k := 2048) (v := S5.1 118 x2.toNatClampNeg) rfl hj rfl ?_
    refine ex_iconst (v := 1) (by decide) ?_
    by_cases h6 : (S5.1 118 x2.toNatClampNeg) = 1
    · rw [if_pos h6] at H
      refine ex_icmp_ne_f h6 ?_
      refine ex_aload_n rfl ?_
      refine ex_getR (w := 98) rfl rfl rfl ?_
      refine ex_iload rfl ?_
      obtain ⟨hj, H⟩ := am_ck_el H
      refine ex_iald (k := 6) (v := S5.1 98 (S.1 108 x1.toNatClampNeg).toNatClampNeg) rfl hj rfl ?_
      refine ex_iconst (v := 1) (by decide) ?_
      refine ex_isub ?_
      refine ex_iload_n rfl ?_
      refine ex_isub ?_
      refine ex_goto (ct := am_c266_68) rfl ?_
      exact e266_68 hd H
    · rw [if_neg h6] at H
      refine ex_icmp_ne_j (ct := am_c266_67) h6 rfl ?_
      refine ex_iload_n rfl ?_
      exact e266_68 hd H
-- X10_signature
def f269 (F : Nat) (x1 : Int32) (S : AmT) : Option (Int32 × AmT) := am_b2 (f202 F S) fun v1 S2 => if v1 = 0 then (am_b2 (f197 F x1 0 1 S2) fun v4 S5 => if v4 = 0 then (some ((-1), S5)) else (if (S5.1 96 3) = 4 then (some ((-3), S5)) else ((f201 F S5).bind fun S8 => am_lt ((am_upI S8.1 96 (3 : Int32).toNatClampNeg ((S8.1 96 3) + 1), S8.2) : AmT) fun S9 => am_ck (S8.1 96 3) 8 (am_lt ((am_upI S9.1 119 (S8.1 96 3).toNatClampNeg x1, S9.2) : AmT) fun S10 => am_ck (S8.1 96 3) 8 (am_lt ((am_upI S10.1 120 (S8.1 96 3).toNatClampNeg 0, S10.2) : AmT) fun S11 => am_ck (S8.1 96 3) 8 (am_lt ((am_upI S11.1 122 (S8.1 96 3).toNatClampNeg 0, S11.2) : AmT) fun S12 => some ((S8.1 96 3), S12))))))) else (some ((-4), S2))
set_option maxHeartbeats 1000000 in
set_option maxRecDepth 20000 in
theorem r269 {Lg : Nat} {xs : Nat → Int32} {d F : Nat} {x1 : Int32} {S : AmT} {q : Int32 × AmT} (hd : 3 ≤ d) (H : f269 F x1 S = some q) : Ex (am_X Lg xs) d 269 (am_P 269) (am_ini (am_Mi 269).1 [.ref 95, .int x1]) [] (hS S) (some q.1, hS q.2) := by
  obtain ⟨d, rfl⟩ : ∃ d2, d = d2 + 1 := ⟨d - 1, by omega⟩
  unfold f269 at H
  show Ex (am_X Lg xs) _ 269 am_c269_0 [.ref 95, .int x1, .long 0] [] (hS S) (some q.1, hS q.2)
  refine ex_aload_n rfl ?_
  obtain ⟨v1, S2, hp, H⟩ := am_b2_el H
  refine ex_callV rfl rfl (Nat.le_of_ble_eq_true rfl) (Nat.le_of_ble_eq_true rfl) rfl (r202 (by omega) hp) rfl ?_
  by_cases h3 : v1 = 0
  · rw [if_pos h3] at H
    refine ex_if_eq_j (ct := am_c269_10) h3 rfl ?_
    refine ex_iload_n rfl ?_
    refine ex_iconst (v := 0) (by decide) ?_
    refine ex_iconst (v := 1) (by decide) ?_
    obtain ⟨v4, S5, hp, H⟩ := am_b2_el H
    refine ex_callS rfl rfl (Nat.le_of_ble_eq_true rfl) (Nat.le_of_ble_eq_true rfl) (r197 (by omega) hp) rfl ?_
    by_cases h6 : v4 = 0
    · rw [if_pos h6] at H
      refine ex_if_ne_f h6 ?_
      refine ex_iconst (v := (-1)) (by decide) ?_
      have H := Option.some.inj H
      subst H
      exact ex_iret (M := 269) (Or.inl rfl)
    · rw [if_neg h6] at H
      refine ex_if_ne_j (ct := am_c269_21) h6 rfl ?_
      refine ex_aload_n rfl ?_
      refine ex_getR (w := 96) rfl rfl rfl ?_
      refine ex_iconst (v := 3) (by decide) ?_
      refine ex_iald (v := S5.1 96 3) rfl (by decide) rfl ?_
      refine ex_iconst (v := 4) (by decide) ?_
      by_cases h7 : (S5.1 96 3) = 4
      · rw [if_pos h7] at H
        refine ex_icmp_ne_f h7 ?_
        refine ex_bipush (v := (-3)) (by decide) ?_
        have H := Option.some.inj H
        subst H
        exact ex_iret (M := 269) (Or.inl rfl)
      · rw [if_neg h7] at H
        refine ex_icmp_ne_j (ct := am_c269_34) h7 rfl ?_
        refine ex_aload_n rfl ?_
        obtain ⟨S8, hp, H⟩ := Option.bind_eq_some_iff.mp H
        refine ex_callV rfl rfl (Nat.le_of_ble_eq_true rfl) (Nat.le_of_ble_eq_true rfl) rfl (r201 (by omega) hp) rfl ?_
        refine ex_aload_n rfl ?_
        refine ex_getR (w := 96) rfl rfl rfl ?_
        refine ex_iconst (v := 3) (by decide) ?_
        refine ex_iald (v := S8.1 96 3) rfl (by decide) rfl ?_
        refine ex_istore_n (L2 := [.ref 95, .int x1, .int (S8.1 96 3)]) (Nat.le_of_ble_eq_true rfl) rfl ?_
        refine ex_aload_n rfl ?_
        refine ex_getR (w := 96) rfl rfl rfl ?_
        refine ex_iconst (v := 3) (by decide) ?_
        refine ex_dup2 ?_
        refine ex_iald (v := S8.1 96 3) rfl (by decide) rfl ?_
        refine ex_iconst (v := 1) (by decide) ?_
        refine ex_iadd ?_
        refine ex_iast (k := 32) rfl rfl (by decide) ?_
        generalize ((am_upI S8.1 96 (3 : Int32).toNatClampNeg ((S8.1 96 3) + 1), S8.2) : AmT) = S9 at H ⊢
        have H := am_lt_el H
        refine ex_aload_n rfl ?_
        refine ex_getR (w := 119) rfl rfl rfl ?_
        refine ex_iload_n rfl ?_
        refine ex_iload_n rfl ?_
        obtain ⟨hj, H⟩ := am_ck_el H
        refine ex_iast (k := 8) rfl rfl hj ?_
        generalize ((am_upI S9.1 119 (S8.1 96 3).toNatClampNeg x1, S9.2) : AmT) = S10 at H ⊢
        have H := am_lt_el H
        refine ex_aload_n rfl ?_
        refine ex_getR (w := 120) rfl rfl rfl ?_
        refine ex_iload_n rfl ?_
        refine ex_iconst (v := 0) (by decide) ?_
        obtain ⟨hj, H⟩ := am_ck_el H
        refine ex_iast (k := 8) rfl rfl hj ?_
        generalize ((am_upI S10.1 120 (S8.1 96 3).toNatClampNeg 0, S10.2) : AmT) = S11 at H ⊢
        have H := am_lt_el H
        refine ex_aload_n rfl ?_
        refine ex_getR (w := 122) rfl rfl rfl ?_
        refine ex_iload_n rfl ?_
        refine ex_iconst (v := 0) (by decide) ?_
        obtain ⟨hj, H⟩ := am_ck_el H
        refine ex_bast (k := 8) rfl rfl hj (by decide) ?_
        generalize ((am_upI S11.1 122 (S8.1 96 3).toNatClampNeg 0, S11.2) : AmT) = S12 at H ⊢
        have H := am_lt_el H
        refine ex_iload_n rfl ?_
        have H := Option.some.inj H
        subst H
        exact ex_iret (M := 269) (Or.inl rfl)
  · rw [if_neg h3] at H
    refine ex_if_eq_f h3 ?_
    refine ex_bipush (v := (-4)) (by decide) ?_
    have H := Option.some.inj H
    subst H
    exact ex_iret (M := 269) (Or.inl rfl)
-- X10_gather
def f270 (F : Nat) (x1 : Int32) (x2 : Int32) (S : AmT) : Option (Int32 × AmT) := am_b2 (f202 F S) fun v1 S2 => if v1 = 0 then (am_b2 (f268 F x1 S2) fun v4 S5 => if v4 = 0 then (some ((-2), S5)) else (am_b2 (f249 F x2 S5) fun v7 S8 => if v7 = 0 then (some ((-2), S8)) else (am_ck x2 16 (if (S8.1 115 x2.toNatClampNeg) < 0 then (am_ck x1 8 (if (S8.1 120 x1.toNatClampNeg) = 4 then (some ((-3), S8)) else ((f201 F S8).bind fun S12 => am_ck x2 16 (am_lt ((am_upI S12.1 115 x2.toNatClampNeg x1, S12.2) : AmT) fun S13 => am_ck x1 8 (am_ck ((4 * x1) + (S13.1 120 x1.toNatClampNeg)) 32 (am_lt ((am_upI S13.1 121 ((4 * x1) + (S13.1 120 x1.toNatClampNeg)).toNatClampNeg x2, S13.2) : AmT) fun S14 => am_ck x1 8 (am_ck x1 8 (am_lt ((am_upI S14.1 120 x1.toNatClampNeg ((S14.1 120 x1.toNatClampNeg) + 1), S14.2) : AmT) fun S15 => am_ck x1 8 (some ((S15.1 120 x1.toNatClampNeg), S15)))))))))) else (some ((-5), S8)))))) else (some ((-4), S2))
set_option maxHeartbeats 1000000 in
set_option maxRecDepth 20000 in
theorem r270 {Lg : Nat} {xs : Nat → Int32} {d F : Nat} {x1 : Int32} {x2 : Int32} {S : AmT} {q : Int32 × AmT} (hd : 3 ≤ d) (H : f270 F x1 x2 S = some q) : Ex (am_X Lg xs) d 270 (am_P 270) (am_ini (am_Mi 270).1 [.ref 95, .int x1, .int x2]) [] (hS S) (some q.1, hS q.2) := by
  obtain ⟨d, rfl⟩ : ∃ d2, d = d2 + 1 := ⟨d - 1, by omega⟩
  unfold f270 at H
  show Ex (am_X Lg xs) _ 270 am_c270_0 [.ref 95, .int x1, .int x2] [] (hS S) (some q.1, hS q.2)
  refine ex_aload_n rfl ?_
  obtain ⟨v1, S2, hp, H⟩ := am_b2_el H
  refine ex_callV rfl rfl (Nat.le_of_ble_eq_true rfl) (Nat.le_of_ble_eq_true rfl) rfl (r202 (by omega) hp) rfl ?_
  by_cases h3 : v1 = 0
  · rw [if_pos h3] at H
    refine ex_if_eq_j (ct := am_c270_10) h3 rfl ?_
    refine ex_aload_n rfl ?_
    refine ex_iload_n rfl ?_
    obtain ⟨v4, S5, hp, H⟩ := am_b2_el H
    refine ex_callV rfl rfl (Nat.le_of_ble_eq_true rfl) (Nat.le_of_ble_eq_true rfl) rfl (r268 (by omega) hp) rfl ?_
    by_cases h6 : v4 = 0
    · rw [if_pos h6] at H
      refine ex_if_eq_j (ct := am_c270_26) h6 rfl ?_
      refine ex_bipush (v := (-2)) (by decide) ?_
      have H := Option.some.inj H
      subst H
      exact ex_iret (M := 270) (Or.inl rfl)
    · rw [if_neg h6] at H
      refine ex_if_eq_f h6 ?_
      refine ex_aload_n rfl ?_
      refine ex_iload_n rfl ?_
      obtain ⟨v7, S8, hp, H⟩ := am_b2_el H
      refine ex_callV rfl rfl (Nat.le_of_ble_eq_true rfl) (Nat.le_of_ble_eq_true rfl) rfl (r249 (by omega) hp) rfl ?_
      by_cases h9 : v7 = 0
      · rw [if_pos h9] at H
        refine ex_if_ne_f h9 ?_
        refine ex_bipush (v := (-2)) (by decide) ?_
        have H := Option.some.inj H
        subst H
        exact ex_iret (M := 270) (Or.inl rfl)
      · rw [if_neg h9] at H
        refine ex_if_ne_j (ct := am_c270_29) h9 rfl ?_
        refine ex_aload_n rfl ?_
        refine ex_getR (w := 115) rfl rfl rfl ?_
        refine ex_iload_n rfl ?_
        obtain ⟨hj, H⟩ := am_ck_el H
        refine ex_iald (k := 16) (v := S8.1 115 x2.toNatClampNeg) rfl hj rfl ?_
        by_cases h10 : (S8.1 115 x2.toNatClampNeg) < 0
        · rw [if_pos h10] at H
          refine ex_if_lt_j (ct := am_c270_41) h10 rfl ?_
          refine ex_aload_n rfl ?_
          refine ex_getR (w := 120) rfl rfl rfl ?_
          refine ex_iload_n rfl ?_
          obtain ⟨hj, H⟩ := am_ck_el H
          refine ex_iald (k := 8) (v := S8.1 120 x1.toNatClampNeg) rfl hj rfl ?_
          refine ex_iconst (v := 4) (by decide) ?_
          by_cases h11 : (S8.1 120 x1.toNatClampNeg) = 4
          · rw [if_pos h11] at H
            refine ex_icmp_ne_f h11 ?_
            refine ex_bipush (v := (-3)) (by decide) ?_
            have H := Option.some.inj H
            subst H
            exact ex_iret (M := 270) (Or.inl rfl)
          · rw [if_neg h11] at H
            refine ex_icmp_ne_j (ct := am_c270_54) h11 rfl ?_
            refine ex_aload_n rfl ?_
            obtain ⟨S12, hp, H⟩ := Option.bind_eq_some_iff.mp H
            refine ex_callV rfl rfl (Nat.le_of_ble_eq_true rfl) (Nat.le_of_ble_eq_true rfl) rfl (r201 (by omega) hp) rfl ?_
            refine ex_aload_n rfl ?_
            refine ex_getR (w := 115) rfl rfl rfl ?_
            refine ex_iload_n rfl ?_
            refine ex_iload_n rfl ?_
            obtain ⟨hj, H⟩ := am_ck_el H
            refine ex_iast (k := 16) rfl rfl hj ?_
            generalize ((am_upI S12.1 115 x2.toNatClampNeg x1, S12.2) : AmT) = S13 at H ⊢
            have H := am_lt_el H
            refine ex_aload_n rfl ?_
            refine ex_getR (w := 121) rfl rfl rfl ?_
            refine ex_iconst (v := 4) (by decide) ?_
            refine ex_iload_n rfl ?_
            refine ex_imul ?_
            refine ex_aload_n rfl ?_
            refine ex_getR (w := 120) rfl rfl rfl ?_
            refine ex_iload_n rfl ?_
            obtain ⟨hj, H⟩ := am_ck_el H
            refine ex_iald (k := 8) (v := S13.1 120 x1.toNatClampNeg) rfl hj rfl ?_
            refine ex_iadd ?_
            refine ex_iload_n rfl ?_
            obtain ⟨hj, H⟩ := am_ck_el H
            refine ex_iast (k := 32) rfl rfl hj ?_
            generalize ((am_upI S13.1 121 ((4 * x1) + (S13.1 120 x1.toNatClampNeg)).toNatClampNeg x2, S13.2) : AmT) = S14 at H ⊢
            have H := am_lt_el H
            refine ex_aload_n rfl ?_
            refine ex_getR (w := 120) rfl rfl rfl ?_
            refine ex_iload_n rfl ?_
            refine ex_dup2 ?_
            obtain ⟨hj, H⟩ := am_ck_el H
            refine ex_iald (k := 8) (v := S14.1 120 x1.toNatClampNeg) rfl hj rfl ?_
            refine ex_iconst (v := 1) (by decide) ?_
            refine ex_iadd ?_
            obtain ⟨hj, H⟩ := am_ck_el H
            refine ex_iast (k := 8) rfl rfl hj ?_
            generalize ((am_upI S14.1 120 x1.toNatClampNeg ((S14.1 120 x1.toNatClampNeg) + 1), S14.2) : AmT) = S15 at H ⊢
            have H := am_lt_el H
            refine ex_aload_n rfl ?_
            refine ex_getR (w := 120) rfl rfl rfl ?_
            refine ex_iload_n rfl ?_
            obtain ⟨hj, H⟩ := am_ck_el H
            refine ex_iald (k := 8) (v := S15.1 120 x1.toNatClampNeg) rfl hj rfl ?_
            have H := Option.some.inj H
            subst H
            exact ex_iret (M := 270) (Or.inl rfl)
        · rw [if_neg h10] at H
          refine ex_if_lt_f h10 ?_
          refine ex_bipush (v := (-5)) (by decide) ?_
          have H := Option.some.inj H
          subst H
          exact ex_iret (M := 270) (Or.inl rfl)
  · rw [if_neg h3] at H
    refine ex_if_eq_f h3 ?_
    refine ex_bipush (v := (-4)) (by decide) ?_
    have H := Option.some.inj H
    subst H
    exact ex_iret (M := 270) (Or.inl rfl)
-- X10_add
def f274 (F : Nat) (x1 : Int32) (S : AmT) : Option (Int32 × AmT) := am_b2 (f202 F S) fun v1 S2 => if v1 = 0 then (am_b2 (f268 F x1 S2) fun v4 S5 => if v4 = 0 then (some ((-2), S5)) else (am_ck x1 8 (if (S5.1 122 x1.toNatClampNeg) = 0 then ((f201 F S5).bind fun S8 => am_ck x1 8 (am_lt ((am_upI S8.1 122 x1.toNatClampNeg 1, S8.2) : AmT) fun S9 => am_ck (S9.1 96 4) 8 (am_lt ((am_upI S9.1 123 (S9.1 96 4).toNatClampNeg x1, S9.2) : AmT) fun S10 => am_lt ((am_upI S10.1 96 (4 : Int32).toNatClampNeg ((S10.1 96 4) + 1), S10.2) : AmT) fun S11 => some ((S11.1 96 4), S11)))) else (some ((-5), S5))))) else (some ((-4), S2))
set_option maxHeartbeats 1000000 in
set_option maxRecDepth 20000 in
theorem r274 {Lg : Nat} {xs : Nat → Int32} {d F : Nat} {x1 : Int32} {S : AmT} {q : Int32 × AmT} (hd : 3 ≤ d) (H : f274 F x1 S = some q) : Ex (am_X Lg xs) d 274 (am_P 274) (am_ini (am_Mi 274).1 [.ref 95, .int x1]) [] (hS S) (some q.1, hS q.2) := by
  obtain ⟨d, rfl⟩ : ∃ d2, d = d2 + 1 := ⟨d - 1, by omega⟩
  unfold f274 at H
  show Ex (am_X Lg xs) _ 274 am_c274_0 [.ref 95, .int x1] [] (hS S) (some q.1, hS q.2)
  refine ex_aload_n rfl ?_
  obtain ⟨v1, S2, hp, H⟩ := am_b2_el H
  refine ex_callV rfl rfl (Nat.le_of_ble_eq_true rfl) (Nat.le_of_ble_eq_true rfl) rfl (r202 (by omega) hp) rfl ?_
  by_cases h3 : v1 = 0
  · rw [if_pos h3] at H
    refine ex_if_eq_j (ct := am_c274_10) h3 rfl ?_
    refine ex_aload_n rfl ?_
    refine ex_iload_n rfl ?_
    obtain ⟨v4, S5, hp, H⟩ := am_b2_el H
    refine ex_callV rfl rfl (Nat.le_of_ble_eq_true rfl) (Nat.le_of_ble_eq_true rfl) rfl (r268 (by omega) hp) rfl ?_
    by_cases h6 : v4 = 0
    · rw [if_pos h6] at H
      refine ex_if_ne_f h6 ?_
      refine ex_bipush (v := (-2)) (by decide) ?_
      have H := Option.some.inj H
      subst H
      exact ex_iret (M := 274) (Or.inl rfl)
    · rw [if_neg h6] at H
      refine ex_if_ne_j (ct := am_c274_21) h6 rfl ?_
      refine ex_aload_n rfl ?_
      refine ex_getR (w := 122) rfl rfl rfl ?_
      refine ex_iload_n rfl ?_
      obtain ⟨hj, H⟩ := am_ck_el H
      refine ex_bald (k := 8) (v := S5.1 122 x1.toNatClampNeg) rfl hj rfl ?_
      by_cases h7 : (S5.1 122 x1.toNatClampNeg) = 0
      · rw [if_pos h7] at H
        refine ex_if_eq_j (ct := am_c274_33) h7 rfl ?_
        refine ex_aload_n rfl ?_
        obtain ⟨S8, hp, H⟩ := Option.bind_eq_some_iff.mp H
        refine ex_callV rfl rfl (Nat.le_of_ble_eq_true rfl) (Nat.le_of_ble_eq_true rfl) rfl (r201 (by omega) hp) rfl ?_
        refine ex_aload_n rfl ?_
        refine ex_getR (w := 122) rfl rfl rfl ?_
        refine ex_iload_n rfl ?_
        refine ex_iconst (v := 1) (by decide) ?_
        obtain ⟨hj, H⟩ := am_ck_el H
        refine ex_bast (k := 8) rfl rfl hj (by decide) ?_
        generalize ((am_upI S8.1 122 x1.toNatClampNeg 1, S8.2) : AmT) = S9 at H ⊢
        have H := am_lt_el H
        refine ex_aload_n rfl ?_
        refine ex_getR (w := 123) rfl rfl rfl ?_
        refine ex_aload_n rfl ?_
        refine ex_getR (w := 96) rfl rfl rfl ?_
        refine ex_iconst (v := 4) (by decide) ?_
        refine ex_iald (v := S9.1 96 4) rfl (by decide) rfl ?_
        refine ex_iload_n rfl ?_
        obtain ⟨hj, H⟩ := am_ck_el H
        refine ex_iast (k := 8) rfl rfl hj ?_
        generalize ((am_upI S9.1 123 (S9.1 96 4).toNatClampNeg x1, S9.2) : AmT) = S10 at H ⊢
        have H := am_lt_el H
        refine ex_aload_n rfl ?_
        refine ex_getR (w := 96) rfl rfl rfl ?_
        refine ex_iconst (v := 4) (by decide) ?_
        refine ex_dup2 ?_
        refine ex_iald (v := S10.1 96 4) rfl (by decide) rfl ?_
        refine ex_iconst (v := 1) (by decide) ?_
        refine ex_iadd ?_
        refine ex_iast (k := 32) rfl rfl (by decide) ?_
        generalize ((am_upI S10.1 96 (4 : Int32).toNatClampNeg ((S10.1 96 4) + 1), S10.2) : AmT) = S11 at H ⊢
        have H := am_lt_el H
        refine ex_aload_n rfl ?_
        refine ex_getR (w := 96) rfl rfl rfl ?_
        refine ex_iconst (v := 4) (by decide) ?_
        refine ex_iald (v := S11.1 96 4) rfl (by decide) rfl ?_
        have H := Option.some.inj H
        subst H
        exact ex_iret (M := 274) (Or.inl rfl)
      · rw [if_neg h7] at H
        refine ex_if_eq_f h7 ?_
        refine ex_bipush (v := (-5)) (by decide) ?_
        have H := Option.some.inj H
        subst H
        exact ex_iret (M := 274) (Or.inl rfl)
  · rw [if_neg h3] at H
    refine ex_if_eq_f h3 ?_
    refine ex_bipush (v := (-4)) (by decide) ?_
    have H := Option.some.inj H
    subst H
    exact ex_iret (M := 274) (Or.inl rfl)
