/-! printed by wip/gen/gen20.py -/
-- X9_tear
def f164 (F : Nat) (x1 : Int32) (x2 : Int32) (x3 : Int32) (S : AmT) : Option (Int32 × AmT) := am_b2 (f81 F S) fun v1 S2 => if v1 = 0 then (am_b2 (f95 F x1 S2) fun v4 S5 => if v4 = 0 then (some ((-2), S5)) else (am_b2 (f195 F x2 S5) fun v7 S8 => if v7 = 0 then (some ((-1), S8)) else ((f58 F S8).bind fun S10 => am_b2 (f103 F x1 x2 x3 S10) fun v11 S12 => am_b2 (f129 F v11 S12) fun v13 S14 => some (v13, S14)))) else (some ((-4), S2))
set_option maxHeartbeats 1000000 in
set_option maxRecDepth 20000 in
theorem r164 {Lg : Nat} {xs : Nat → Int32} {d F : Nat} {x1 : Int32} {x2 : Int32} {x3 : Int32} {S : AmT} {q : Int32 × AmT} (hd : 3 ≤ d) (H : f164 F x1 x2 x3 S = some q) : Ex (am_X Lg xs) d 164 (am_P 164) (am_ini (am_Mi 164).1 [.ref 0, .int x1, .int x2, .int x3]) [] (hS S) (some q.1, hS q.2) := by
  obtain ⟨d, rfl⟩ : ∃ d2, d = d2 + 1 := ⟨d - 1, by omega⟩
  unfold f164 at H
  show Ex (am_X Lg xs) _ 164 am_c164_0 [.ref 0, .int x1, .int x2, .int x3] [] (hS S) (some q.1, hS q.2)
  refine ex_aload_n rfl ?_
  refine ex_getR (w := 86) rfl rfl rfl ?_
  obtain ⟨v1, S2, hp, H⟩ := am_b2_el H
  refine ex_callV rfl rfl (Nat.le_of_ble_eq_true rfl) (Nat.le_of_ble_eq_true rfl) rfl (r81 (by omega) hp) rfl ?_
  by_cases h3 : v1 = 0
  · rw [if_pos h3] at H
    refine ex_if_eq_j (ct := am_c164_13) h3 rfl ?_
    refine ex_aload_n rfl ?_
    refine ex_getR (w := 46) rfl rfl rfl ?_
    refine ex_iload_n rfl ?_
    obtain ⟨v4, S5, hp, H⟩ := am_b2_el H
    refine ex_callV rfl rfl (Nat.le_of_ble_eq_true rfl) (Nat.le_of_ble_eq_true rfl) rfl (r95 (by omega) hp) rfl ?_
    by_cases h6 : v4 = 0
    · rw [if_pos h6] at H
      refine ex_if_ne_f h6 ?_
      refine ex_bipush (v := (-2)) (by decide) ?_
      have H := Option.some.inj H
      subst H
      exact ex_iret (M := 164) (Or.inl rfl)
    · rw [if_neg h6] at H
      refine ex_if_ne_j (ct := am_c164_27) h6 rfl ?_
      refine ex_iload_n rfl ?_
      obtain ⟨v7, S8, hp, H⟩ := am_b2_el H
      refine ex_callS rfl rfl (Nat.le_of_ble_eq_true rfl) (Nat.le_of_ble_eq_true rfl) (r195 (by omega) hp) rfl ?_
      by_cases h9 : v7 = 0
      · rw [if_pos h9] at H
        refine ex_if_ne_f h9 ?_
        refine ex_iconst (v := (-1)) (by decide) ?_
        have H := Option.some.inj H
        subst H
        exact ex_iret (M := 164) (Or.inl rfl)
      · rw [if_neg h9] at H
        refine ex_if_ne_j (ct := am_c164_36) h9 rfl ?_
        refine ex_aload_n rfl ?_
        refine ex_getR (w := 1) rfl rfl rfl ?_
        obtain ⟨S10, hp, H⟩ := Option.bind_eq_some_iff.mp H
        refine ex_callV rfl rfl (Nat.le_of_ble_eq_true rfl) (Nat.le_of_ble_eq_true rfl) rfl (r58 (by omega) hp) rfl ?_
        refine ex_aload_n rfl ?_
        refine ex_getR (w := 5) rfl rfl rfl ?_
        refine ex_aload_n rfl ?_
        refine ex_getR (w := 46) rfl rfl rfl ?_
        refine ex_iload_n rfl ?_
        refine ex_iload_n rfl ?_
        refine ex_iload_n rfl ?_
        obtain ⟨v11, S12, hp, H⟩ := am_b2_el H
        refine ex_callV rfl rfl (Nat.le_of_ble_eq_true rfl) (Nat.le_of_ble_eq_true rfl) rfl (r103 (by omega) hp) rfl ?_
        obtain ⟨v13, S14, hp, H⟩ := am_b2_el H
        refine ex_callV rfl rfl (Nat.le_of_ble_eq_true rfl) (Nat.le_of_ble_eq_true rfl) rfl (r129 (by omega) hp) rfl ?_
        have H := Option.some.inj H
        subst H
        exact ex_iret (M := 164) (Or.inl rfl)
  · rw [if_neg h3] at H
    refine ex_if_eq_f h3 ?_
    refine ex_bipush (v := (-4)) (by decide) ?_
    have H := Option.some.inj H
    subst H
    exact ex_iret (M := 164) (Or.inl rfl)
-- X9_put
def f165 (F : Nat) (x1 : Int32) (x2 : Int32) (x3 : Int32) (x4 : Int32) (x5 : Int32) (x6 : Int32) (S : AmT) : Option (Int32 × AmT) := am_b2 (f81 F S) fun v1 S2 => if v1 = 0 then (am_b2 (f95 F x1 S2) fun v4 S5 => if v4 = 0 then (some ((-2), S5)) else (am_b2 (f195 F x2 S5) fun v7 S8 => if v7 = 0 then (some ((-1), S8)) else (am_b2 (f194 F x5 0 24 S8) fun v10 S11 => if v10 = 0 then (some ((-1), S11)) else (am_b2 (f194 F x6 0 1 S11) fun v13 S14 => if v13 = 0 then (some ((-1), S14)) else ((f58 F S14).bind fun S16 => am_b2 (f104 F x1 x2 x3 x4 S16) fun v17 S18 => if 0 ≤ v17 then (am_b2 (f105 F v17 x5 x6 S18) fun v20 S21 => some (v20, S21)) else (am_b2 (f129 F v17 S18) fun v22 S23 => some (v22, S23))))))) else (some ((-4), S2))
set_option maxHeartbeats 1000000 in
set_option maxRecDepth 20000 in
theorem r165 {Lg : Nat} {xs : Nat → Int32} {d F : Nat} {x1 : Int32} {x2 : Int32} {x3 : Int32} {x4 : Int32} {x5 : Int32} {x6 : Int32} {S : AmT} {q : Int32 × AmT} (hd : 3 ≤ d) (H : f165 F x1 x2 x3 x4 x5 x6 S = some q) : Ex (am_X Lg xs) d 165 (am_P 165) (am_ini (am_Mi 165).1 [.ref 0, .int x1, .int x2, .int x3, .int x4, .int x5, .int x6]) [] (hS S) (some q.1, hS q.2) := by
  obtain ⟨d, rfl⟩ : ∃ d2, d = d2 + 1 := ⟨d - 1, by omega⟩
  unfold f165 at H
  show Ex (am_X Lg xs) _ 165 am_c165_0 [.ref 0, .int x1, .int x2, .int x3, .int x4, .int x5, .int x6, .long 0] [] (hS S) (some q.1, hS q.2)
  refine ex_aload_n rfl ?_
  refine ex_getR (w := 86) rfl rfl rfl ?_
  obtain ⟨v1, S2, hp, H⟩ := am_b2_el H
  refine ex_callV rfl rfl (Nat.le_of_ble_eq_true rfl) (Nat.le_of_ble_eq_true rfl) rfl (r81 (by omega) hp) rfl ?_
  by_cases h3 : v1 = 0
  · rw [if_pos h3] at H
    refine ex_if_eq_j (ct := am_c165_13) h3 rfl ?_
    refine ex_aload_n rfl ?_
    refine ex_getR (w := 46) rfl rfl rfl ?_
    refine ex_iload_n rfl ?_
    obtain ⟨v4, S5, hp, H⟩ := am_b2_el H
    refine ex_callV rfl rfl (Nat.le_of_ble_eq_true rfl) (Nat.le_of_ble_eq_true rfl) rfl (r95 (by omega) hp) rfl ?_
    by_cases h6 : v4 = 0
    · rw [if_pos h6] at H
      refine ex_if_ne_f h6 ?_
      refine ex_bipush (v := (-2)) (by decide) ?_
      have H := Option.some.inj H
      subst H
      exact ex_iret (M := 165) (Or.inl rfl)
    · rw [if_neg h6] at H
      refine ex_if_ne_j (ct := am_c165_27) h6 rfl ?_
      refine ex_iload_n rfl ?_
      obtain ⟨v7, S8, hp, H⟩ := am_b2_el H
      refine ex_callS rfl rfl (Nat.le_of_ble_eq_true rfl) (Nat.le_of_ble_eq_true rfl) (r195 (by omega) hp) rfl ?_
      by_cases h9 : v7 = 0
      · rw [if_pos h9] at H
        refine ex_if_eq_j (ct := am_c165_55) h9 rfl ?_
        refine ex_iconst (v := (-1)) (by decide) ?_
        have H := Option.some.inj H
        subst H
        exact ex_iret (M := 165) (Or.inl rfl)
      · rw [if_neg h9] at H
        refine ex_if_eq_f h9 ?_
        refine ex_iload rfl ?_
        refine ex_iconst (v := 0) (by decide) ?_
        refine ex_bipush (v := 24) (by decide) ?_
        obtain ⟨v10, S11, hp, H⟩ := am_b2_el H
        refine ex_callS rfl rfl (Nat.le_of_ble_eq_true rfl) (Nat.le_of_ble_eq_true rfl) (r194 (by omega) hp) rfl ?_
        by_cases h12 : v10 = 0
        · rw [if_pos h12] at H
          refine ex_if_eq_j (ct := am_c165_55) h12 rfl ?_
          refine ex_iconst (v := (-1)) (by decide) ?_
          have H := Option.some.inj H
          subst H
          exact ex_iret (M := 165) (Or.inl rfl)
        · rw [if_neg h12] at H
          refine ex_if_eq_f h12 ?_
          refine ex_iload rfl ?_
          refine ex_iconst (v := 0) (by decide) ?_
          refine ex_iconst (v := 1) (by decide) ?_
          obtain ⟨v13, S14, hp, H⟩ := am_b2_el H
          refine ex_callS rfl rfl (Nat.le_of_ble_eq_true rfl) (Nat.le_of_ble_eq_true rfl) (r194 (by omega) hp) rfl ?_
          by_cases h15 : v13 = 0
          · rw [if_pos h15] at H
            refine ex_if_ne_f h15 ?_
            refine ex_iconst (v := (-1)) (by decide) ?_
            have H := Option.some.inj H
            subst H
            exact ex_iret (M := 165) (Or.inl rfl)
          · rw [if_neg h15] at H
            refine ex_if_ne_j (ct := am_c165_57) h15 rfl ?_
            refine ex_aload_n rfl ?_
            refine ex_getR (w := 1) rfl rfl rfl ?_
            obtain ⟨S16, hp, H⟩ := Option.bind_eq_some_iff.mp H
            refine ex_callV rfl rfl (Nat.le_of_ble_eq_true rfl) (Nat.le_of_ble_eq_true rfl) rfl (r58 (by omega) hp) rfl ?_
            refine ex_aload_n rfl ?_
            refine ex_getR (w := 46) rfl rfl rfl ?_
            refine ex_iload_n rfl ?_
            refine ex_iload_n rfl ?_
            refine ex_iload_n rfl ?_
            refine ex_iload rfl ?_
            obtain ⟨v17, S18, hp, H⟩ := am_b2_el H
            refine ex_callV rfl rfl (Nat.le_of_ble_eq_true rfl) (Nat.le_of_ble_eq_true rfl) rfl (r104 (by omega) hp) rfl ?_
            refine ex_istore (L2 := [.ref 0, .int x1, .int x2, .int x3, .int x4, .int x5, .int x6, .int v17]) (Nat.le_of_ble_eq_true rfl) rfl ?_
            refine ex_iload rfl ?_
            by_cases h19 : 0 ≤ v17
            · rw [if_pos h19] at H
              refine ex_if_ge_j (ct := am_c165_95) h19 rfl ?_
              refine ex_aload_n rfl ?_
              refine ex_getR (w := 46) rfl rfl rfl ?_
              refine ex_iload rfl ?_
              refine ex_iload rfl ?_
              refine ex_iload rfl ?_
              obtain ⟨v20, S21, hp, H⟩ := am_b2_el H
              refine ex_callV rfl rfl (Nat.le_of_ble_eq_true rfl) (Nat.le_of_ble_eq_true rfl) rfl (r105 (by omega) hp) rfl ?_
              have H := Option.some.inj H
              subst H
              exact ex_iret (M := 165) (Or.inl rfl)
            · rw [if_neg h19] at H
              refine ex_if_ge_f h19 ?_
              refine ex_aload_n rfl ?_
              refine ex_getR (w := 5) rfl rfl rfl ?_
              refine ex_iload rfl ?_
              obtain ⟨v22, S23, hp, H⟩ := am_b2_el H
              refine ex_callV rfl rfl (Nat.le_of_ble_eq_true rfl) (Nat.le_of_ble_eq_true rfl) rfl (r129 (by omega) hp) rfl ?_
              refine ex_goto (ct := am_c165_108) rfl ?_
              have H := Option.some.inj H
              subst H
              exact ex_iret (M := 165) (Or.inl rfl)
  · rw [if_neg h3] at H
    refine ex_if_eq_f h3 ?_
    refine ex_bipush (v := (-4)) (by decide) ?_
    have H := Option.some.inj H
    subst H
    exact ex_iret (M := 165) (Or.inl rfl)
-- X9_cell
def f166 (F : Nat) (x1 : Int32) (x2 : Int32) (x3 : Int32) (x4 : Int32) (x5 : Int32) (S : AmT) : Option (Int32 × AmT) := am_b2 (f95 F x1 S) fun v1 S2 => if v1 = 0 then (some ((-2), S2)) else (am_b2 (f195 F x2 S2) fun v4 S5 => if v4 = 0 then (some ((-1), S5)) else (am_b2 (f194 F x5 0 1 S5) fun v7 S8 => if v7 = 0 then (some ((-1), S8)) else (am_b2 (f104 F x1 x2 x3 x4 S8) fun v10 S11 => if 0 ≤ v10 then (if x5 = 0 then (am_b2 (f106 F v10 S11) fun v16 S17 => some (v16, S17)) else (am_b2 (f107 F v10 S11) fun v14 S15 => some (v14, S15))) else (am_b2 (f129 F v10 S11) fun v18 S19 => some (v18, S19)))))
set_option maxHeartbeats 1000000 in
set_option maxRecDepth 20000 in
theorem r166 {Lg : Nat} {xs : Nat → Int32} {d F : Nat} {x1 : Int32} {x2 : Int32} {x3 : Int32} {x4 : Int32} {x5 : Int32} {S : AmT} {q : Int32 × AmT} (hd : 3 ≤ d) (H : f166 F x1 x2 x3 x4 x5 S = some q) : Ex (am_X Lg xs) d 166 (am_P 166) (am_ini (am_Mi 166).1 [.ref 0, .int x1, .int x2, .int x3, .int x4, .int x5]) [] (hS S) (some q.1, hS q.2) := by
  obtain ⟨d, rfl⟩ : ∃ d2, d = d2 + 1 := ⟨d - 1, by omega⟩
  unfold f166 at H
  show Ex (am_X Lg xs) _ 166 am_c166_0 [.ref 0, .int x1, .int x2, .int x3, .int x4, .int x5, .long 0] [] (hS S) (some q.1, hS q.2)
  refine ex_aload_n rfl ?_
  refine ex_getR (w := 46) rfl rfl rfl ?_
  refine ex_iload_n rfl ?_
  obtain ⟨v1, S2, hp, H⟩ := am_b2_el H
  refine ex_callV rfl rfl (Nat.le_of_ble_eq_true rfl) (Nat.le_of_ble_eq_true rfl) rfl (r95 (by omega) hp) rfl ?_
  by_cases h3 : v1 = 0
  · rw [if_pos h3] at H
    refine ex_if_ne_f h3 ?_
    refine ex_bipush (v := (-2)) (by decide) ?_
    have H := Option.some.inj H
    subst H
    exact ex_iret (M := 166) (Or.inl rfl)
  · rw [if_neg h3] at H
    refine ex_if_ne_j (ct := am_c166_14) h3 rfl ?_
    refine ex_iload_n rfl ?_
    obtain ⟨v4, S5, hp, H⟩ := am_b2_el H
    refine ex_callS rfl rfl (Nat.le_of_ble_eq_true rfl) (Nat.le_of_ble_eq_true rfl) (r195 (by omega) hp) rfl ?_
    by_cases h6 : v4 = 0
    · rw [if_pos h6] at H
      refine ex_if_eq_j (ct := am_c166_31) h6 rfl ?_
      refine ex_iconst (v := (-1)) (by decide) ?_
      have H := Option.some.inj H
      subst H
      exact ex_iret (M := 166) (Or.inl rfl)
    · rw [if_neg h6] at H
      refine ex_if_eq_f h6 ?_
      refine ex_iload rfl ?_
      refine ex_iconst (v := 0) (by decide) ?_
      refine ex_iconst (v := 1) (by decide) ?_
      obtain ⟨v7, S8, hp, H⟩ := am_b2_el H
      refine ex_callS rfl rfl (Nat.le_of_ble_eq_true rfl) (Nat.le_of_ble_eq_true rfl) (r194 (by omega) hp) rfl ?_
      by_cases h9 : v7 = 0
      · rw [if_pos h9] at H
        refine ex_if_ne_f h9 ?_
        refine ex_iconst (v := (-1)) (by decide) ?_
        have H := Option.some.inj H
        subst H
        exact ex_iret (M := 166) (Or.inl rfl)
      · rw [if_neg h9] at H
        refine ex_if_ne_j (ct := am_c166_33) h9 rfl ?_
        refine ex_aload_n rfl ?_
        refine ex_getR (w := 46) rfl rfl rfl ?_
        refine ex_iload_n rfl ?_
        refine ex_iload_n rfl ?_
        refine ex_iload_n rfl ?_
        refine ex_iload rfl ?_
        obtain ⟨v10, S11, hp, H⟩ := am_b2_el H
        refine ex_callV rfl rfl (Nat.le_of_ble_eq_true rfl) (Nat.le_of_ble_eq_true rfl) rfl (r104 (by omega) hp) rfl ?_
        refine ex_istore (L2 := [.ref 0, .int x1, .int x2, .int x3, .int x4, .int x5, .int v10]) (Nat.le_of_ble_eq_true rfl) rfl ?_
        refine ex_iload rfl ?_
        by_cases h12 : 0 ≤ v10
        · rw [if_pos h12] at H
          refine ex_if_ge_j (ct := am_c166_62) h12 rfl ?_
          refine ex_iload rfl ?_
          by_cases h13 : x5 = 0
          · rw [if_pos h13] at H
            refine ex_if_ne_f h13 ?_
            refine ex_aload_n rfl ?_
            refine ex_getR (w := 46) rfl rfl rfl ?_
            refine ex_iload rfl ?_
            obtain ⟨v16, S17, hp, H⟩ := am_b2_el H
            refine ex_callV rfl rfl (Nat.le_of_ble_eq_true rfl) (Nat.le_of_ble_eq_true rfl) rfl (r106 (by omega) hp) rfl ?_
            refine ex_goto (ct := am_c166_88) rfl ?_
            have H := Option.some.inj H
            subst H
            exact ex_iret (M := 166) (Or.inl rfl)
          · rw [if_neg h13] at H
            refine ex_if_ne_j (ct := am_c166_79) h13 rfl ?_
            refine ex_aload_n rfl ?_
            refine ex_getR (w := 46) rfl rfl rfl ?_
            refine ex_iload rfl ?_
            obtain ⟨v14, S15, hp, H⟩ := am_b2_el H
            refine ex_callV rfl rfl (Nat.le_of_ble_eq_true rfl) (Nat.le_of_ble_eq_true rfl) rfl (r107 (by omega) hp) rfl ?_
            have H := Option.some.inj H
            subst H
            exact ex_iret (M := 166) (Or.inl rfl)
        · rw [if_neg h12] at H
          refine ex_if_ge_f h12 ?_
          refine ex_aload_n rfl ?_
          refine ex_getR (w := 5) rfl rfl rfl ?_
          refine ex_iload rfl ?_
          obtain ⟨v18, S19, hp, H⟩ := am_b2_el H
          refine ex_callV rfl rfl (Nat.le_of_ble_eq_true rfl) (Nat.le_of_ble_eq_true rfl) rfl (r129 (by omega) hp) rfl ?_
          have H := Option.some.inj H
          subst H
          exact ex_iret (M := 166) (Or.inl rfl)
def g167_138 (F : Nat) (S : AmT) : Option (Int32 × AmT) := am_b2 (f129 F (-15) S) fun v27 S28 => some (v27, S28)
def g167_84 (F : Nat) : Nat → Int32 → Int32 → Int32 → Int32 → Int32 → Int32 → Int32 → Int32 → Int32 → AmT → Option (Int32 × AmT)
  | 0, _, _, _, _, _, _, _, _, _, _ => none
  | n + 1, x1, x2, x3, x4, x5, x6, x7, x8, x9, S => if x7 ≤ x9 then (some (1, S)) else (am_b2 (f108 F x1 x2 (x3 + x9) x8 S) fun v22 S23 => am_b2 (f108 F x4 x5 (x6 + x9) x8 S23) fun v24 S25 => if v22 < 0 then (g167_138 F S25) else (if 0 ≤ v24 then ((f109 F v22 v24 x8 S25).bind fun S30 => (f138 F S30).bind fun S31 => g167_84 F n x1 x2 x3 x4 x5 x6 x7 x8 (x9 + 1) S31) else (g167_138 F S25)))
-- X9_shift
def f167 (F : Nat) (x1 : Int32) (x2 : Int32) (x3 : Int32) (x4 : Int32) (x5 : Int32) (x6 : Int32) (x7 : Int32) (x8 : Int32) (S : AmT) : Option (Int32 × AmT) := am_b2 (f81 F S) fun v1 S2 => if v1 = 0 then (am_b2 (f95 F x1 S2) fun v4 S5 => if v4 = 0 then (some ((-2), S5)) else (am_b2 (f95 F x4 S5) fun v7 S8 => if v7 = 0 then (some ((-2), S8)) else (am_b2 (f195 F x2 S8) fun v10 S11 => if v10 = 0 then (some ((-1), S11)) else (am_b2 (f195 F x5 S11) fun v13 S14 => if v13 = 0 then (some ((-1), S14)) else (am_b2 (f194 F x7 0 8 S14) fun v16 S17 => if v16 = 0 then (some ((-1), S17)) else ((f58 F S17).bind fun S19 => (f137 F S19).bind fun S20 => g167_84 F F x1 x2 x3 x4 x5 x6 x7 x8 0 S20)))))) else (some ((-4), S2))
set_option maxHeartbeats 1000000 in
set_option maxRecDepth 20000 in
theorem e167_138 {Lg : Nat} {xs : Nat → Int32} {d F : Nat} {w1 : Value} {w2 : Value} {w3 : Value} {w4 : Value} {w5 : Value} {w6 : Value} {w7 : Value} {w8 : Value} {w9 : Value} {w10 : Value} {w11 : Value} {S : AmT} {q : Int32 × AmT} (hd : 3 ≤ d) (H : g167_138 F S = some q) : Ex (am_X Lg xs) d 167 am_c167_138 [.ref 0, w1, w2, w3, w4, w5, w6, w7, w8, w9, w10, w11] [] (hS S) (some q.1, hS q.2) := by
  obtain ⟨d, rfl⟩ : ∃ d2, d = d2 + 1 := ⟨d - 1, by omega⟩
  unfold g167_138 at H
  refine ex_aload_n rfl ?_
  refine ex_getR (w := 5) rfl rfl rfl ?_
  refine ex_bipush (v := (-15)) (by decide) ?_
  obtain ⟨v27, S28, hp, H⟩ := am_b2_el H
  refine ex_callV rfl rfl (Nat.le_of_ble_eq_true rfl) (Nat.le_of_ble_eq_true rfl) rfl (r129 (by omega) hp) rfl ?_
  have H := Option.some.inj H
  subst H
  exact ex_iret (M := 167) (Or.inl rfl)
set_option maxHeartbeats 1000000 in
set_option maxRecDepth 20000 in
theorem e167_84 {Lg : Nat} {xs : Nat → Int32} {d F : Nat} (hd : 3 ≤ d) : ∀ (n : Nat) (x1 : Int32) (x2 : Int32) (x3 : Int32) (x4 : Int32) (x5 : Int32) (x6 : Int32) (x7 : Int32) (x8 : Int32) (x9 : Int32) (w10 : Value) (w11 : Value) (S : AmT) (q : Int32 × AmT), g167_84 F n x1 x2 x3 x4 x5 x6 x7 x8 x9 S = some q → Ex (am_X Lg xs) d 167 am_c167_84 [.ref 0, .int x1, .int x2, .int x3, .int x4, .int x5, .int x6, .int x7, .int x8, .int x9, w10, w11] [] (hS S) (some q.1, hS q.2) := by
  obtain ⟨d, rfl⟩ : ∃ d2, d = d2 + 1 := ⟨d - 1, by omega⟩
  intro n
  induction n with
  | zero =>
    intro x1 x2 x3 x4 x5 x6 x7 x8 x9 w10 w11 S q H
    cases H
  | succ n ih =>
    intro x1 x2 x3 x4 x5 x6 x7 x8 x9 w10 w11 S q H
    have H : (if x7 ≤ x9 then (some (1, S)) else (am_b2 (f108 F x1 x2 (x3 + x9) x8 S) fun v22 S23 => am_b2 (f108 F x4 x5 (x6 + x9) x8 S23) fun v24 S25 => if v22 < 0 then (g167_138 F S25) else (if 0 ≤ v24 then ((f109 F v22 v24 x8 S25).bind fun S30 => (f138 F S30).bind fun S31 => g167_84 F n x1 x2 x3 x4 x5 x6 x7 x8 (x9 + 1) S31) else (g167_138 F S25)))) = some q := H
    refine ex_iload rfl ?_
    refine ex_iload rfl ?_
    by_cases h21 : x7 ≤ x9
    · rw [if_pos h21] at H
      refine ex_icmp_ge_j (ct := am_c167_174) h21 rfl ?_
      refine ex_iconst (v := 1) (by decide) ?_
      have H := Option.some.inj H
      subst H
      exact ex_iret (M := 167) (Or.inl rfl)
    · rw [if_neg h21] at H
      refine ex_icmp_ge_f h21 ?_
      refine ex_aload_n rfl ?_
      refine ex_getR (w := 46) rfl rfl rfl ?_
      refine ex_iload_n rfl ?_
      refine ex_iload_n rfl ?_
      refine ex_iload_n rfl ?_
      refine ex_iload rfl ?_
      refine ex_iadd ?_
      refine ex_iload rfl ?_
      obtain ⟨v22, S23, hp, H⟩ := am_b2_el H
      refine ex_callV rfl rfl (Nat.le_of_ble_eq_true rfl) (Nat.le_of_ble_eq_true rfl) rfl (r108 (by omega) hp) rfl ?_
      refine ex_istore (L2 := [.ref 0, .int x1, .int x2, .int x3, .int x4, .int x5, .int x6, .int x7, .int x8, .int x9, .int v22, w11]) (Nat.le_of_ble_eq_true rfl) rfl ?_
      refine ex_aload_n rfl ?_
      refine ex_getR (w := 46) rfl rfl rfl ?_
      refine ex_iload rfl ?_
      refine ex_iload rfl ?_
      refine ex_iload rfl ?_
      refine ex_iload rfl ?_
      refine ex_iadd ?_
      refine ex_iload rfl ?_
      obtain ⟨v24, S25, hp, H⟩ := am_b2_el H
      refine ex_callV rfl rfl (Nat.le_of_ble_eq_true rfl) (Nat.le_of_ble_eq_true rfl) rfl (r108 (by omega) hp) rfl ?_
      refine ex_istore (L2 := [.ref 0, .int x1, .int x2, .int x3, .int x4, .int x5, .int x6, .int x7, .int x8, .int x9, .int v22, .int v24]) (Nat.le_of_ble_eq_true rfl) rfl ?_
      refine ex_iload rfl ?_
      by_cases h26 : v22 < 0
      · rw [if_pos h26] at H
        refine ex_if_lt_j (ct := am_c167_138) h26 rfl ?_
        exact e167_138 hd H
      · rw [if_neg h26] at H
        refine ex_if_lt_f h26 ?_
        refine ex_iload rfl ?_
        by_cases h29 : 0 ≤ v24
        · rw [if_pos h29] at H
          refine ex_if_ge_j (ct := am_c167_148) h29 rfl ?_
          refine ex_aload_n rfl ?_
          refine ex_getR (w := 46) rfl rfl rfl ?_
          refine ex_iload rfl ?_
          refine ex_iload rfl ?_
          refine ex_iload rfl ?_
          obtain ⟨S30, hp, H⟩ := Option.bind_eq_some_iff.mp H
          refine ex_callV rfl rfl (Nat.le_of_ble_eq_true rfl) (Nat.le_of_ble_eq_true rfl) rfl (r109 (by omega) hp) rfl ?_
          refine ex_aload_n rfl ?_
          refine ex_getR (w := 5) rfl rfl rfl ?_
          obtain ⟨S31, hp, H⟩ := Option.bind_eq_some_iff.mp H
          refine ex_callV rfl rfl (Nat.le_of_ble_eq_true rfl) (Nat.le_of_ble_eq_true rfl) rfl (r138 (by omega) hp) rfl ?_
          refine ex_iinc (L2 := [.ref 0, .int x1, .int x2, .int x3, .int x4, .int x5, .int x6, .int x7, .int x8, .int (x9 + 1), .int v22, .int v24]) (v := (x9 + 1)) rfl (Nat.le_of_ble_eq_true rfl) (congrArg (fun z => x9 + z) (by decide)) rfl ?_
          refine ex_goto (ct := am_c167_84) rfl ?_
          exact ih _ _ _ _ _ _ _ _ _ _ _ _ _ H
        · rw [if_neg h29] at H
          refine ex_if_ge_f h29 ?_
          exact e167_138 hd H
set_option maxHeartbeats 1000000 in
set_option maxRecDepth 20000 in
theorem r167 {Lg : Nat} {xs : Nat → Int32} {d F : Nat} {x1 : Int32} {x2 : Int32} {x3 : Int32} {x4 : Int32} {x5 : Int32} {x6 : Int32} {x7 : Int32} {x8 : Int32} {S : AmT} {q : Int32 × AmT} (hd : 3 ≤ d) (H : f167 F x1 x2 x3 x4 x5 x6 x7 x8 S = some q) : Ex (am_X Lg xs) d 167 (am_P 167) (am_ini (am_Mi 167).1 [.ref 0, .int x1, .int x2, .int x3, .int x4, .int x5, .int x6, .int x7, .int x8]) [] (hS S) (some q.1, hS q.2) := by
  obtain ⟨d, rfl⟩ : ∃ d2, d = d2 + 1 := ⟨d - 1, by omega⟩
  unfold f167 at H
  show Ex (am_X Lg xs) _ 167 am_c167_0 [.ref 0, .int x1, .int x2, .int x3, .int x4, .int x5, .int x6, .int x7, .int x8, .long 0, .long 0, .long 0] [] (hS S) (some q.1, hS q.2)
  refine ex_aload_n rfl ?_
  refine ex_getR (w := 86) rfl rfl rfl ?_
  obtain ⟨v1, S2, hp, H⟩ := am_b2_el H
  refine ex_callV rfl rfl (Nat.le_of_ble_eq_true rfl) (Nat.le_of_ble_eq_true rfl) rfl (r81 (by omega) hp) rfl ?_
  by_cases h3 : v1 = 0
  · rw [if_pos h3] at H
    refine ex_if_eq_j (ct := am_c167_13) h3 rfl ?_
    refine ex_aload_n rfl ?_
    refine ex_getR (w := 46) rfl rfl rfl ?_
    refine ex_iload_n rfl ?_
    obtain ⟨v4, S5, hp, H⟩ := am_b2_el H
    refine ex_callV rfl rfl (Nat.le_of_ble_eq_true rfl) (Nat.le_of_ble_eq_true rfl) rfl (r95 (by omega) hp) rfl ?_
    by_cases h6 : v4 = 0
    · rw [if_pos h6] at H
      refine ex_if_eq_j (ct := am_c167_36) h6 rfl ?_
      refine ex_bipush (v := (-2)) (by decide) ?_
      have H := Option.some.inj H
      subst H
      exact ex_iret (M := 167) (Or.inl rfl)
    · rw [if_neg h6] at H
      refine ex_if_eq_f h6 ?_
      refine ex_aload_n rfl ?_
      refine ex_getR (w := 46) rfl rfl rfl ?_
      refine ex_iload rfl ?_
      obtain ⟨v7, S8, hp, H⟩ := am_b2_el H
      refine ex_callV rfl rfl (Nat.le_of_ble_eq_true rfl) (Nat.le_of_ble_eq_true rfl) rfl (r95 (by omega) hp) rfl ?_
      by_cases h9 : v7 = 0
      · rw [if_pos h9] at H
        refine ex_if_ne_f h9 ?_
        refine ex_bipush (v := (-2)) (by decide) ?_
        have H := Option.some.inj H
        subst H
        exact ex_iret (M := 167) (Or.inl rfl)
      · rw [if_neg h9] at H
        refine ex_if_ne_j (ct := am_c167_39) h9 rfl ?_
        refine ex_iload_n rfl ?_
        obtain ⟨v10, S11, hp, H⟩ := am_b2_el H
        refine ex_callS rfl rfl (Nat.le_of_ble_eq_true rfl) (Nat.le_of_ble_eq_true rfl) (r195 (by omega) hp) rfl ?_
        by_cases h12 : v10 = 0
        · rw [if_pos h12] at H
          refine ex_if_eq_j (ct := am_c167_65) h12 rfl ?_
          refine ex_iconst (v := (-1)) (by decide) ?_
          have H := Option.some.inj H
          subst H
          exact ex_iret (M := 167) (Or.inl rfl)
        · rw [if_neg h12] at H
          refine ex_if_eq_f h12 ?_
          refine ex_iload rfl ?_
          obtain ⟨v13, S14, hp, H⟩ := am_b2_el H
          refine ex_callS rfl rfl (Nat.le_of_ble_eq_true rfl) (Nat.le_of_ble_eq_true rfl) (r195 (by omega) hp) rfl ?_
          by_cases h15 : v13 = 0
          · rw [if_pos h15] at H
            refine ex_if_eq_j (ct := am_c167_65) h15 rfl ?_
            refine ex_iconst (v := (-1)) (by decide) ?_
            have H := Option.some.inj H
            subst H
            exact ex_iret (M := 167) (Or.inl rfl)
          · rw [if_neg h15] at H
            refine ex_if_eq_f h15 ?_
            refine ex_iload rfl ?_
            refine ex_iconst (v := 0) (by decide) ?_
            refine ex_bipush (v := 8) (by decide) ?_
            obtain ⟨v16, S17, hp, H⟩ := am_b2_el H
            refine ex_callS rfl rfl (Nat.le_of_ble_eq_true rfl) (Nat.le_of_ble_eq_true rfl) (r194 (by omega) hp) rfl ?_
            by_cases h18 : v16 = 0
            · rw [if_pos h18] at H
              refine ex_if_ne_f h18 ?_
              refine ex_iconst (v := (-1)) (by decide) ?_
              have H := Option.some.inj H
              subst H
              exact ex_iret (M := 167) (Or.inl rfl)
            · rw [if_neg h18] at H
              refine ex_if_ne_j (ct := am_c167_67) h18 rfl ?_
              refine ex_aload_n rfl ?_
              refine ex_getR (w := 1) rfl rfl rfl ?_
              obtain ⟨S19, hp, H⟩ := Option.bind_eq_some_iff.mp H
              refine ex_callV rfl rfl (Nat.le_of_ble_eq_true rfl) (Nat.le_of_ble_eq_true rfl) rfl (r58 (by omega) hp) rfl ?_
              refine ex_aload_n rfl ?_
              refine ex_getR (w := 5) rfl rfl rfl ?_
              obtain ⟨S20, hp, H⟩ := Option.bind_eq_some_iff.mp H
              refine ex_callV rfl rfl (Nat.le_of_ble_eq_true rfl) (Nat.le_of_ble_eq_true rfl) rfl (r137 (by omega) hp) rfl ?_
              refine ex_iconst (v := 0) (by decide) ?_
              refine ex_istore (L2 := [.ref 0, .int x1, .int x2, .int x3, .int x4, .int x5, .int x6, .int x7, .int x8, .int 0, .long 0, .long 0]) (Nat.le_of_ble_eq_true rfl) rfl ?_
              exact e167_84 hd _ _ _ _ _ _ _ _ _ _ _ _ _ _ H
  · rw [if_neg h3] at H
    refine ex_if_eq_f h3 ?_
    refine ex_bipush (v := (-4)) (by decide) ?_
    have H := Option.some.inj H
    subst H
    exact ex_iret (M := 167) (Or.inl rfl)
-- X9_signature
def f171 (F : Nat) (x1 : Int32) (S : AmT) : Option (Int32 × AmT) := am_b2 (f81 F S) fun v1 S2 => if v1 = 0 then (am_b2 (f194 F x1 0 1 S2) fun v4 S5 => if v4 = 0 then (some ((-1), S5)) else (am_b2 (f1 F S5) fun v7 S8 => if v7 < 4 then ((f58 F S8).bind fun S10 => am_b2 (f3 F x1 S10) fun v11 S12 => some (v11, S12)) else (some ((-3), S8)))) else (some ((-4), S2))
set_option maxHeartbeats 1000000 in
set_option maxRecDepth 20000 in
theorem r171 {Lg : Nat} {xs : Nat → Int32} {d F : Nat} {x1 : Int32} {S : AmT} {q : Int32 × AmT} (hd : 3 ≤ d) (H : f171 F x1 S = some q) : Ex (am_X Lg xs) d 171 (am_P 171) (am_ini (am_Mi 171).1 [.ref 0, .int x1]) [] (hS S) (some q.1, hS q.2) := by
  obtain ⟨d, rfl⟩ : ∃ d2, d = d2 + 1 := ⟨d - 1, by omega⟩
  unfold f171 at H
  show Ex (am_X Lg xs) _ 171 am_c171_0 [.ref 0, .int x1] [] (hS S) (some q.1, hS q.2)
  refine ex_aload_n rfl ?_
  refine ex_getR (w := 86) rfl rfl rfl ?_
  obtain ⟨v1, S2, hp, H⟩ := am_b2_el H
  refine ex_callV rfl rfl (Nat.le_of_ble_eq_true rfl) (Nat.le_of_ble_eq_true rfl) rfl (r81 (by omega) hp) rfl ?_
  by_cases h3 : v1 = 0
  · rw [if_pos h3] at H
    refine ex_if_eq_j (ct := am_c171_13) h3 rfl ?_
    refine ex_iload_n rfl ?_
    refine ex_iconst (v := 0) (by decide) ?_
    refine ex_iconst (v := 1) (by decide) ?_
    obtain ⟨v4, S5, hp, H⟩ := am_b2_el H
    refine ex_callS rfl rfl (Nat.le_of_ble_eq_true rfl) (Nat.le_of_ble_eq_true rfl) (r194 (by omega) hp) rfl ?_
    by_cases h6 : v4 = 0
    · rw [if_pos h6] at H
      refine ex_if_ne_f h6 ?_
      refine ex_iconst (v := (-1)) (by decide) ?_
      have H := Option.some.inj H
      subst H
      exact ex_iret (M := 171) (Or.inl rfl)
    · rw [if_neg h6] at H
      refine ex_if_ne_j (ct := am_c171_24) h6 rfl ?_
      refine ex_aload_n rfl ?_
      refine ex_getR (w := 69) rfl rfl rfl ?_
      obtain ⟨v7, S8, hp, H⟩ := am_b2_el H
      refine ex_callV rfl rfl (Nat.le_of_ble_eq_true rfl) (Nat.le_of_ble_eq_true rfl) rfl (r1 (by omega) hp) rfl ?_
      refine ex_iconst (v := 4) (by decide) ?_
      by_cases h9 : v7 < 4
      · rw [if_pos h9] at H
        refine ex_icmp_lt_j (ct := am_c171_38) h9 rfl ?_
        refine ex_aload_n rfl ?_
        refine ex_getR (w := 1) rfl rfl rfl ?_
        obtain ⟨S10, hp, H⟩ := Option.bind_eq_some_iff.mp H
        refine ex_callV rfl rfl (Nat.le_of_ble_eq_true rfl) (Nat.le_of_ble_eq_true rfl) rfl (r58 (by omega) hp) rfl ?_
        refine ex_aload_n rfl ?_
        refine ex_getR (w := 69) rfl rfl rfl ?_
        refine ex_iload_n rfl ?_
        obtain ⟨v11, S12, hp, H⟩ := am_b2_el H
        refine ex_callV rfl rfl (Nat.le_of_ble_eq_true rfl) (Nat.le_of_ble_eq_true rfl) rfl (r3 (by omega) hp) rfl ?_
        have H := Option.some.inj H
        subst H
        exact ex_iret (M := 171) (Or.inl rfl)
      · rw [if_neg h9] at H
        refine ex_icmp_lt_f h9 ?_
        refine ex_bipush (v := (-3)) (by decide) ?_
        have H := Option.some.inj H
        subst H
        exact ex_iret (M := 171) (Or.inl rfl)
  · rw [if_neg h3] at H
    refine ex_if_eq_f h3 ?_
    refine ex_bipush (v := (-4)) (by decide) ?_
    have H := Option.some.inj H
    subst H
    exact ex_iret (M := 171) (Or.inl rfl)
-- X9_add
def f176 (F : Nat) (x1 : Int32) (S : AmT) : Option (Int32 × AmT) := am_b2 (f81 F S) fun v1 S2 => if v1 = 0 then (am_b2 (f2 F x1 S2) fun v4 S5 => if v4 = 0 then (some ((-2), S5)) else (am_b2 (f11 F x1 S5) fun v7 S8 => if v7 = 0 then ((f58 F S8).bind fun S10 => am_b2 (f13 F x1 S10) fun v11 S12 => some (v11, S12)) else (some ((-5), S8)))) else (some ((-4), S2))
set_option maxHeartbeats 1000000 in
set_option maxRecDepth 20000 in
theorem r176 {Lg : Nat} {xs : Nat → Int32} {d F : Nat} {x1 : Int32} {S : AmT} {q : Int32 × AmT} (hd : 3 ≤ d) (H : f176 F x1 S = some q) : Ex (am_X Lg xs) d 176 (am_P 176) (am_ini (am_Mi 176).1 [.ref 0, .int x1]) [] (hS S) (some q.1, hS q.2) := by
  obtain ⟨d, rfl⟩ : ∃ d2, d = d2 + 1 := ⟨d - 1, by omega⟩
  unfold f176 at H
  show Ex (am_X Lg xs) _ 176 am_c176_0 [.ref 0, .int x1] [] (hS S) (some q.1, hS q.2)
  refine ex_aload_n rfl ?_
  refine ex_getR (w := 86) rfl rfl rfl ?_
  obtain ⟨v1, S2, hp, H⟩ := am_b2_el H
  refine ex_callV rfl rfl (Nat.le_of_ble_eq_true rfl) (Nat.le_of_ble_eq_true rfl) rfl (r81 (by omega) hp) rfl ?_
  by_cases h3 : v1 = 0
  · rw [if_pos h3] at H
    refine ex_if_eq_j (ct := am_c176_13) h3 rfl ?_
    refine ex_aload_n rfl ?_
    refine ex_getR (w := 69) rfl rfl rfl ?_
    refine ex_iload_n rfl ?_
    obtain ⟨v4, S5, hp, H⟩ := am_b2_el H
    refine ex_callV rfl rfl (Nat.le_of_ble_eq_true rfl) (Nat.le_of_ble_eq_true rfl) rfl (r2 (by omega) hp) rfl ?_
    by_cases h6 : v4 = 0
    · rw [if_pos h6] at H
      refine ex_if_ne_f h6 ?_
      refine ex_bipush (v := (-2)) (by decide) ?_
      have H := Option.some.inj H
      subst H
      exact ex_iret (M := 176) (Or.inl rfl)
    · rw [if_neg h6] at H
      refine ex_if_ne_j (ct := am_c176_27) h6 rfl ?_
      refine ex_aload_n rfl ?_
      refine ex_getR (w := 69) rfl rfl rfl ?_
      refine ex_iload_n rfl ?_
      obtain ⟨v7, S8, hp, H⟩ := am_b2_el H
      refine ex_callV rfl rfl (Nat.le_of_ble_eq_true rfl) (Nat.le_of_ble_eq_true rfl) rfl (r11 (by omega) hp) rfl ?_
      by_cases h9 : v7 = 0
      · rw [if_pos h9] at H
        refine ex_if_eq_j (ct := am_c176_41) h9 rfl ?_
        refine ex_aload_n rfl ?_
        refine ex_getR (w := 1) rfl rfl rfl ?_
        obtain ⟨S10, hp, H⟩ := Option.bind_eq_some_iff.mp H
        refine ex_callV rfl rfl (Nat.le_of_ble_eq_true rfl) (Nat.le_of_ble_eq_true rfl) rfl (r58 (by omega) hp) rfl ?_
        refine ex_aload_n rfl ?_
        refine ex_getR (w := 69) rfl rfl rfl ?_
        refine ex_iload_n rfl ?_
        obtain ⟨v11, S12, hp, H⟩ := am_b2_el H
        refine ex_callV rfl rfl (Nat.le_of_ble_eq_true rfl) (Nat.le_of_ble_eq_true rfl) rfl (r13 (by omega) hp) rfl ?_
        have H := Option.some.inj H
        subst H
        exact ex_iret (M := 176) (Or.inl rfl)
      · rw [if_neg h9] at H
        refine ex_if_eq_f h9 ?_
        refine ex_bipush (v := (-5)) (by decide) ?_
        have H := Option.some.inj H
        subst H
        exact ex_iret (M := 176) (Or.inl rfl)
  · rw [if_neg h3] at H
    refine ex_if_eq_f h3 ?_
    refine ex_bipush (v := (-4)) (by decide) ?_
    have H := Option.some.inj H
    subst H
    exact ex_iret (M := 176) (Or.inl rfl)
def g177_32 (F : Nat) (x1 : Int32) (S : AmT) : Option (Int32 × AmT) := (f58 F S).bind fun S5 => am_b2 (f16 F x1 S5) fun v6 S7 => some (v6, S7)
-- X9_cover
def f177 (F : Nat) (x1 : Int32) (S : AmT) : Option (Int32 × AmT) := am_b2 (f81 F S) fun v1 S2 => if v1 = 0 then (if x1 = (-1) then (g177_32 F x1 S2) else (am_b2 (f95 F x1 S2) fun v8 S9 => if v8 = 0 then (some ((-2), S9)) else (g177_32 F x1 S9))) else (some ((-4), S2))
set_option maxHeartbeats 1000000 in
set_option maxRecDepth 20000 in
theorem e177_32 {Lg : Nat} {xs : Nat → Int32} {d F : Nat} {x1 : Int32} {S : AmT} {q : Int32 × AmT} (hd : 3 ≤ d) (H : g177_32 F x1 S = some q) : Ex (am_X Lg xs) d 177 am_c177_32 [.ref 0, .int x1] [] (hS S) (some q.1, hS q.2) := by
  obtain ⟨d, rfl⟩ : ∃ d2, d = d2 + 1 := ⟨d - 1, by omega⟩
  unfold g177_32 at H
  refine ex_aload_n rfl ?_
  refine ex_getR (w := 1) rfl rfl rfl ?_
  obtain ⟨S5, hp, H⟩ := Option.bind_eq_some_iff.mp H
  refine ex_callV rfl rfl (Nat.le_of_ble_eq_true rfl) (Nat.le_of_ble_eq_true rfl) rfl (r58 (by omega) hp) rfl ?_
  refine ex_aload_n rfl ?_
  refine ex_getR (w := 69) rfl rfl rfl ?_
  refine ex_iload_n rfl ?_
  obtain ⟨v6, S7, hp, H⟩ := am_b2_el H
  refine ex_callV rfl rfl (Nat.le_of_ble_eq_true rfl) (Nat.le_of_ble_eq_true rfl) rfl (r16 (by omega) hp) rfl ?_
  have H := Option.some.inj H
  subst H
  exact ex_iret (M := 177) (Or.inl rfl)
set_option maxHeartbeats 1000000 in
set_option maxRecDepth 20000 in
theorem r177 {Lg : Nat} {xs : Nat → Int32} {d F : Nat} {x1 : Int32} {S : AmT} {q : Int32 × AmT} (hd : 3 ≤ d) (H : f177 F x1 S = some q) : Ex (am_X Lg xs) d 177 (am_P 177) (am_ini (am_Mi 177).1 [.ref 0, .int x1]) [] (hS S) (some q.1, hS q.2) := by
  obtain ⟨d, rfl⟩ : ∃ d2, d = d2 + 1 := ⟨d - 1, by omega⟩
  unfold f177 at H
  show Ex (am_X Lg xs) _ 177 am_c177_0 [.ref 0, .int x1] [] (hS S) (some q.1, hS q.2)
  refine ex_aload_n rfl ?_
  refine ex_getR (w := 86) rfl rfl rfl ?_
  obtain ⟨v1, S2, hp, H⟩ := am_b2_el H
  refine ex_callV rfl rfl (Nat.le_of_ble_eq_true rfl) (Nat.le_of_ble_eq_true rfl) rfl (r81 (by omega) hp) rfl ?_
  by_cases h3 : v1 = 0
  · rw [if_pos h3] at H
    refine ex_if_eq_j (ct := am_c177_13) h3 rfl ?_
    refine ex_iload_n rfl ?_
    refine ex_iconst (v := (-1)) (by decide) ?_
    by_cases h4 : x1 = (-1)
    · rw [if_pos h4] at H
      refine ex_icmp_eq_j (ct := am_c177_32) h4 rfl ?_
      exact e177_32 hd H
    · rw [if_neg h4] at H
      refine ex_icmp_eq_f h4 ?_
      refine ex_aload_n rfl ?_
      refine ex_getR (w := 46) rfl rfl rfl ?_
      refine ex_iload_n rfl ?_
      obtain ⟨v8, S9, hp, H⟩ := am_b2_el H
      refine ex_callV rfl rfl (Nat.le_of_ble_eq_true rfl) (Nat.le_of_ble_eq_true rfl) rfl (r95 (by omega) hp) rfl ?_
      by_cases h10 : v8 = 0
      · rw [if_pos h10] at H
        refine ex_if_ne_f h10 ?_
        refine ex_bipush (v := (-2)) (by decide) ?_
        have H := Option.some.inj H
        subst H
        exact ex_iret (M := 177) (Or.inl rfl)
      · rw [if_neg h10] at H
        refine ex_if_ne_j (ct := am_c177_32) h10 rfl ?_
        exact e177_32 hd H
  · rw [if_neg h3] at H
    refine ex_if_eq_f h3 ?_
    refine ex_bipush (v := (-4)) (by decide) ?_
    have H := Option.some.inj H
    subst H
    exact ex_iret (M := 177) (Or.inl rfl)
-- X9_foldBy
def f180 (F : Nat) (x1 : Int32) (x2 : Int32) (S : AmT) : Option (Int32 × AmT) := am_b2 (f81 F S) fun v1 S2 => if v1 = 0 then (am_b2 (f95 F x1 S2) fun v4 S5 => if v4 = 0 then (some ((-2), S5)) else (am_b2 (f21 F x2 S5) fun v7 S8 => if v7 = 0 then (some ((-2), S8)) else ((f58 F S8).bind fun S10 => am_b2 (f118 F x1 x2 S10) fun v11 S12 => some (v11, S12)))) else (some ((-4), S2))
set_option maxHeartbeats 1000000 in
set_option maxRecDepth 20000 in
theorem r180 {Lg : Nat} {xs : Nat → Int32} {d F : Nat} {x1 : Int32} {x2 : Int32} {S : AmT} {q : Int32 × AmT} (hd : 3 ≤ d) (H : f180 F x1 x2 S = some q) : Ex (am_X Lg xs) d 180 (am_P 180) (am_ini (am_Mi 180).1 [.ref 0, .int x1, .int x2]) [] (hS S) (some q.1, hS q.2) := by
  obtain ⟨d, rfl⟩ : ∃ d2, d = d2 + 1 := ⟨d - 1, by omega⟩
  unfold f180 at H
  show Ex (am_X Lg xs) _ 180 am_c180_0 [.ref 0, .int x1, .int x2] [] (hS S) (some q.1, hS q.2)
  refine ex_aload_n rfl ?_
  refine ex_getR (w := 86) rfl rfl rfl ?_
  obtain ⟨v1, S2, hp, H⟩ := am_b2_el H
  refine ex_callV rfl rfl (Nat.le_of_ble_eq_true rfl) (Nat.le_of_ble_eq_true rfl) rfl (r81 (by omega) hp) rfl ?_
  by_cases h3 : v1 = 0
  · rw [if_pos h3] at H
    refine ex_if_eq_j (ct := am_c180_13) h3 rfl ?_
    refine ex_aload_n rfl ?_
    refine ex_getR (w := 46) rfl rfl rfl ?_
    refine ex_iload_n rfl ?_
    obtain ⟨v4, S5, hp, H⟩ := am_b2_el H
    refine ex_callV rfl rfl (Nat.le_of_ble_eq_true rfl) (Nat.le_of_ble_eq_true rfl) rfl (r95 (by omega) hp) rfl ?_
    by_cases h6 : v4 = 0
    · rw [if_pos h6] at H
      refine ex_if_eq_j (ct := am_c180_35) h6 rfl ?_
      refine ex_bipush (v := (-2)) (by decide) ?_
      have H := Option.some.inj H
      subst H
      exact ex_iret (M := 180) (Or.inl rfl)
    · rw [if_neg h6] at H
      refine ex_if_eq_f h6 ?_
      refine ex_aload_n rfl ?_
      refine ex_getR (w := 22) rfl rfl rfl ?_
      refine ex_iload_n rfl ?_
      obtain ⟨v7, S8, hp, H⟩ := am_b2_el H
      refine ex_callV rfl rfl (Nat.le_of_ble_eq_true rfl) (Nat.le_of_ble_eq_true rfl) rfl (r21 (by omega) hp) rfl ?_
      by_cases h9 : v7 = 0
      · rw [if_pos h9] at H
        refine ex_if_ne_f h9 ?_
        refine ex_bipush (v := (-2)) (by decide) ?_
        have H := Option.some.inj H
        subst H
        exact ex_iret (M := 180) (Or.inl rfl)
      · rw [if_neg h9] at H
        refine ex_if_ne_j (ct := am_c180_38) h9 rfl ?_
        refine ex_aload_n rfl ?_
        refine ex_getR (w := 1) rfl rfl rfl ?_
        obtain ⟨S10, hp, H⟩ := Option.bind_eq_some_iff.mp H
        refine ex_callV rfl rfl (Nat.le_of_ble_eq_true rfl) (Nat.le_of_ble_eq_true rfl) rfl (r58 (by omega) hp) rfl ?_
        refine ex_aload_n rfl ?_
        refine ex_getR (w := 46) rfl rfl rfl ?_
        refine ex_iload_n rfl ?_
        refine ex_iload_n rfl ?_
        obtain ⟨v11, S12, hp, H⟩ := am_b2_el H
        refine ex_callV rfl rfl (Nat.le_of_ble_eq_true rfl) (Nat.le_of_ble_eq_true rfl) rfl (r118 (by omega) hp) rfl ?_
        have H := Option.some.inj H
        subst H
        exact ex_iret (M := 180) (Or.inl rfl)
  · rw [if_neg h3] at H
    refine ex_if_eq_f h3 ?_
    refine ex_bipush (v := (-4)) (by decide) ?_
    have H := Option.some.inj H
    subst H
    exact ex_iret (M := 180) (Or.inl rfl)
-- X9_margin
def f181 (F : Nat) (x1 : Int32) (S : AmT) : Option (Int32 × AmT) := am_b2 (f81 F S) fun v1 S2 => if v1 = 0 then (am_b2 (f194 F x1 0 9 S2) fun v4 S5 => if v4 = 0 then (some ((-1), S5)) else ((f58 F S5).bind fun S7 => am_b2 (f84 F x1 S7) fun v8 S9 => some (v8, S9))) else (some ((-4), S2))
set_option maxHeartbeats 1000000 in
set_option maxRecDepth 20000 in
theorem r181 {Lg : Nat} {xs : Nat → Int32} {d F : Nat} {x1 : Int32} {S : AmT} {q : Int32 × AmT} (hd : 3 ≤ d) (H : f181 F x1 S = some q) : Ex (am_X Lg xs) d 181 (am_P 181) (am_ini (am_Mi 181).1 [.ref 0, .int x1]) [] (hS S) (some q.1, hS q.2) := by
  obtain ⟨d, rfl⟩ : ∃ d2, d = d2 + 1 := ⟨d - 1, by omega⟩
  unfold f181 at H
  show Ex (am_X Lg xs) _ 181 am_c181_0 [.ref 0, .int x1] [] (hS S) (some q.1, hS q.2)
  refine ex_aload_n rfl ?_
  refine ex_getR (w := 86) rfl rfl rfl ?_
  obtain ⟨v1, S2, hp, H⟩ := am_b2_el H
  refine ex_callV rfl rfl (Nat.le_of_ble_eq_true rfl) (Nat.le_of_ble_eq_true rfl) rfl (r81 (by omega) hp) rfl ?_
  by_cases h3 : v1 = 0
  · rw [if_pos h3] at H
    refine ex_if_eq_j (ct := am_c181_13) h3 rfl ?_
    refine ex_iload_n rfl ?_
    refine ex_iconst (v := 0) (by decide) ?_
    refine ex_bipush (v := 9) (by decide) ?_
    obtain ⟨v4, S5, hp, H⟩ := am_b2_el H
    refine ex_callS rfl rfl (Nat.le_of_ble_eq_true rfl) (Nat.le_of_ble_eq_true rfl) (r194 (by omega) hp) rfl ?_
    by_cases h6 : v4 = 0
    · rw [if_pos h6] at H
      refine ex_if_ne_f h6 ?_
      refine ex_iconst (v := (-1)) (by decide) ?_
      have H := Option.some.inj H
      subst H
      exact ex_iret (M := 181) (Or.inl rfl)
    · rw [if_neg h6] at H
      refine ex_if_ne_j (ct := am_c181_25) h6 rfl ?_
      refine ex_aload_n rfl ?_
      refine ex_getR (w := 1) rfl rfl rfl ?_
      obtain ⟨S7, hp, H⟩ := Option.bind_eq_some_iff.mp H
      refine ex_callV rfl rfl (Nat.le_of_ble_eq_true rfl) (Nat.le_of_ble_eq_true rfl) rfl (r58 (by omega) hp) rfl ?_
      refine ex_aload_n rfl ?_
      refine ex_getR (w := 86) rfl rfl rfl ?_
      refine ex_iload_n rfl ?_
      obtain ⟨v8, S9, hp, H⟩ := am_b2_el H
      refine ex_callV rfl rfl (Nat.le_of_ble_eq_true rfl) (Nat.le_of_ble_eq_true rfl) rfl (r84 (by omega) hp) rfl ?_
      have H := Option.some.inj H
      subst H
      exact ex_iret (M := 181) (Or.inl rfl)
  · rw [if_neg h3] at H
    refine ex_if_eq_f h3 ?_
    refine ex_bipush (v := (-4)) (by decide) ?_
    have H := Option.some.inj H
    subst H
    exact ex_iret (M := 181) (Or.inl rfl)
-- X9_feed
def f182 (F : Nat) (x1 : Int32) (S : AmT) : Option (Int32 × AmT) := am_b2 (f81 F S) fun v1 S2 => if v1 = 0 then (am_b2 (f95 F x1 S2) fun v4 S5 => if v4 = 0 then (some ((-2), S5)) else (am_b2 (f120 F x1 S5) fun v7 S8 => if v7 = (-1) then (am_b2 (f123 F 0 S8) fun v10 S11 => if v10 < 0 then ((f58 F S11).bind fun S13 => am_b2 (f136 F S13) fun v14 S15 => am_b2 (f124 F x1 v14 S15) fun v16 S17 => some (v16, S17)) else (some ((-5), S11))) else (some ((-5), S8)))) else (some ((-4), S2))
set_option maxHeartbeats 1000000 in
set_option maxRecDepth 20000 in
theorem r182 {Lg : Nat} {xs : Nat → Int32} {d F : Nat} {x1 : Int32} {S : AmT} {q : Int32 × AmT} (hd : 3 ≤ d) (H : f182 F x1 S = some q) : Ex (am_X Lg xs) d 182 (am_P 182) (am_ini (am_Mi 182).1 [.ref 0, .int x1]) [] (hS S) (some q.1, hS q.2) := by
  obtain ⟨d, rfl⟩ : ∃ d2, d = d2 + 1 := ⟨d - 1, by omega⟩
  unfold f182 at H
  show Ex (am_X Lg xs) _ 182 am_c182_0 [.ref 0, .int x1] [] (hS S) (some q.1, hS q.2)
  refine ex_aload_n rfl ?_
  refine ex_getR (w := 86) rfl rfl rfl ?_
  obtain ⟨v1, S2, hp, H⟩ := am_b2_el H
  refine ex_callV rfl rfl (Nat.le_of_ble_eq_true rfl) (Nat.le_of_ble_eq_true rfl) rfl (r81 (by omega) hp) rfl ?_
  by_cases h3 : v1 = 0
  · rw [if_pos h3] at H
    refine ex_if_eq_j (ct := am_c182_13) h3 rfl ?_
    refine ex_aload_n rfl ?_
    refine ex_getR (w := 46) rfl rfl rfl ?_
    refine ex_iload_n rfl ?_
    obtain ⟨v4, S5, hp, H⟩ := am_b2_el H
    refine ex_callV rfl rfl (Nat.le_of_ble_eq_true rfl) (Nat.le_of_ble_eq_true rfl) rfl (r95 (by omega) hp) rfl ?_
    by_cases h6 : v4 = 0
    · rw [if_pos h6] at H
      refine ex_if_ne_f h6 ?_
      refine ex_bipush (v := (-2)) (by decide) ?_
      have H := Option.some.inj H
      subst H
      exact ex_iret (M := 182) (Or.inl rfl)
    · rw [if_neg h6] at H
      refine ex_if_ne_j (ct := am_c182_27) h6 rfl ?_
      refine ex_aload_n rfl ?_
      refine ex_getR (w := 46) rfl rfl rfl ?_
      refine ex_iload_n rfl ?_
      obtain ⟨v7, S8, hp, H⟩ := am_b2_el H
      refine ex_callV rfl rfl (Nat.le_of_ble_eq_true rfl) (Nat.le_of_ble_eq_true rfl) rfl (r120 (by omega) hp) rfl ?_
      refine ex_iconst (v := (-1)) (by decide) ?_
      by_cases h9 : v7 = (-1)
      · rw [if_pos h9] at H
        refine ex_icmp_ne_f h9 ?_
        refine ex_aload_n rfl ?_
        refine ex_getR (w := 46) rfl rfl rfl ?_
        refine ex_iconst (v := 0) (by decide) ?_
        obtain ⟨v10, S11, hp, H⟩ := am_b2_el H
        refine ex_callV rfl rfl (Nat.le_of_ble_eq_true rfl) (Nat.le_of_ble_eq_true rfl) rfl (r123 (by omega) hp) rfl ?_
        by_cases h12 : v10 < 0
        · rw [if_pos h12] at H
          refine ex_if_lt_j (ct := am_c182_53) h12 rfl ?_
          refine ex_aload_n rfl ?_
          refine ex_getR (w := 1) rfl rfl rfl ?_
          obtain ⟨S13, hp, H⟩ := Option.bind_eq_some_iff.mp H
          refine ex_callV rfl rfl (Nat.le_of_ble_eq_true rfl) (Nat.le_of_ble_eq_true rfl) rfl (r58 (by omega) hp) rfl ?_
          refine ex_aload_n rfl ?_
          refine ex_getR (w := 46) rfl rfl rfl ?_
          refine ex_iload_n rfl ?_
          refine ex_aload_n rfl ?_
          refine ex_getR (w := 5) rfl rfl rfl ?_
          obtain ⟨v14, S15, hp, H⟩ := am_b2_el H
          refine ex_callV rfl rfl (Nat.le_of_ble_eq_true rfl) (Nat.le_of_ble_eq_true rfl) rfl (r136 (by omega) hp) rfl ?_
          obtain ⟨v16, S17, hp, H⟩ := am_b2_el H
          refine ex_callV rfl rfl (Nat.le_of_ble_eq_true rfl) (Nat.le_of_ble_eq_true rfl) rfl (r124 (by omega) hp) rfl ?_
          have H := Option.some.inj H
          subst H
          exact ex_iret (M := 182) (Or.inl rfl)
        · rw [if_neg h12] at H
          refine ex_if_lt_f h12 ?_
          refine ex_bipush (v := (-5)) (by decide) ?_
          have H := Option.some.inj H
          subst H
          exact ex_iret (M := 182) (Or.inl rfl)
      · rw [if_neg h9] at H
        refine ex_icmp_ne_j (ct := am_c182_50) h9 rfl ?_
        refine ex_bipush (v := (-5)) (by decide) ?_
        have H := Option.some.inj H
        subst H
        exact ex_iret (M := 182) (Or.inl rfl)
  · rw [if_neg h3] at H
    refine ex_if_eq_f h3 ?_
    refine ex_bipush (v := (-4)) (by decide) ?_
    have H := Option.some.inj H
    subst H
    exact ex_iret (M := 182) (Or.inl rfl)
-- X9_doubled
def f183 (F : Nat) (S : AmT) : Option (Int32 × AmT) := am_b2 (f81 F S) fun v1 S2 => if v1 = 0 then ((f58 F S2).bind fun S4 => am_b2 (f85 F S4) fun v5 S6 => some (v5, S6)) else (some ((-4), S2))
set_option maxHeartbeats 1000000 in
set_option maxRecDepth 20000 in
theorem r183 {Lg : Nat} {xs : Nat → Int32} {d F : Nat} {S : AmT} {q : Int32 × AmT} (hd : 3 ≤ d) (H : f183 F S = some q) : Ex (am_X Lg xs) d 183 (am_P 183) (am_ini (am_Mi 183).1 [.ref 0]) [] (hS S) (some q.1, hS q.2) := by
  obtain ⟨d, rfl⟩ : ∃ d2, d = d2 + 1 := ⟨d - 1, by omega⟩
  unfold f183 at H
  show Ex (am_X Lg xs) _ 183 am_c183_0 [.ref 0] [] (hS S) (some q.1, hS q.2)
  refine ex_aload_n rfl ?_
  refine ex_getR (w := 86) rfl rfl rfl ?_
  obtain ⟨v1, S2, hp, H⟩ := am_b2_el H
  refine ex_callV rfl rfl (Nat.le_of_ble_eq_true rfl) (Nat.le_of_ble_eq_true rfl) rfl (r81 (by omega) hp) rfl ?_
  by_cases h3 : v1 = 0
  · rw [if_pos h3] at H
    refine ex_if_eq_j (ct := am_c183_13) h3 rfl ?_
    refine ex_aload_n rfl ?_
    refine ex_getR (w := 1) rfl rfl rfl ?_
    obtain ⟨S4, hp, H⟩ := Option.bind_eq_some_iff.mp H
    refine ex_callV rfl rfl (Nat.le_of_ble_eq_true rfl) (Nat.le_of_ble_eq_true rfl) rfl (r58 (by omega) hp) rfl ?_
    refine ex_aload_n rfl ?_
    refine ex_getR (w := 86) rfl rfl rfl ?_
    obtain ⟨v5, S6, hp, H⟩ := am_b2_el H
    refine ex_callV rfl rfl (Nat.le_of_ble_eq_true rfl) (Nat.le_of_ble_eq_true rfl) rfl (r85 (by omega) hp) rfl ?_
    have H := Option.some.inj H
    subst H
    exact ex_iret (M := 183) (Or.inl rfl)
  · rw [if_neg h3] at H
    refine ex_if_eq_f h3 ?_
    refine ex_bipush (v := (-4)) (by decide) ?_
    have H := Option.some.inj H
    subst H
    exact ex_iret (M := 183) (Or.inl rfl)
-- X9_jam
def f184 (F : Nat) (x1 : Int32) (S : AmT) : Option (Int32 × AmT) := am_b2 (f81 F S) fun v1 S2 => if v1 = 0 then (am_b2 (f194 F x1 0 4 S2) fun v4 S5 => if v4 = 0 then (some ((-1), S5)) else ((f58 F S5).bind fun S7 => am_b2 (f86 F x1 S7) fun v8 S9 => some (v8, S9))) else (some ((-4), S2))
set_option maxHeartbeats 1000000 in
set_option maxRecDepth 20000 in
theorem r184 {Lg : Nat} {xs : Nat → Int32} {d F : Nat} {x1 : Int32} {S : AmT} {q : Int32 × AmT} (hd : 3 ≤ d) (H : f184 F x1 S = some q) : Ex (am_X Lg xs) d 184 (am_P 184) (am_ini (am_Mi 184).1 [.ref 0, .int x1]) [] (hS S) (some q.1, hS q.2) := by
  obtain ⟨d, rfl⟩ : ∃ d2, d = d2 + 1 := ⟨d - 1, by omega⟩
  unfold f184 at H
  show Ex (am_X Lg xs) _ 184 am_c184_0 [.ref 0, .int x1] [] (hS S) (some q.1, hS q.2)
  refine ex_aload_n rfl ?_
  refine ex_getR (w := 86) rfl rfl rfl ?_
  obtain ⟨v1, S2, hp, H⟩ := am_b2_el H
  refine ex_callV rfl rfl (Nat.le_of_ble_eq_true rfl) (Nat.le_of_ble_eq_true rfl) rfl (r81 (by omega) hp) rfl ?_
  by_cases h3 : v1 = 0
  · rw [if_pos h3] at H
    refine ex_if_eq_j (ct := am_c184_13) h3 rfl ?_
    refine ex_iload_n rfl ?_
    refine ex_iconst (v := 0) (by decide) ?_
    refine ex_iconst (v := 4) (by decide) ?_
    obtain ⟨v4, S5, hp, H⟩ := am_b2_el H
    refine ex_callS rfl rfl (Nat.le_of_ble_eq_true rfl) (Nat.le_of_ble_eq_true rfl) (r194 (by omega) hp) rfl ?_
    by_cases h6 : v4 = 0
    · rw [if_pos h6] at H
      refine ex_if_ne_f h6 ?_
      refine ex_iconst (v := (-1)) (by decide) ?_
      have H := Option.some.inj H
      subst H
      exact ex_iret (M := 184) (Or.inl rfl)
    · rw [if_neg h6] at H
      refine ex_if_ne_j (ct := am_c184_24) h6 rfl ?_
      refine ex_aload_n rfl ?_
      refine ex_getR (w := 1) rfl rfl rfl ?_
      obtain ⟨S7, hp, H⟩ := Option.bind_eq_some_iff.mp H
      refine ex_callV rfl rfl (Nat.le_of_ble_eq_true rfl) (Nat.le_of_ble_eq_true rfl) rfl (r58 (by omega) hp) rfl ?_
      refine ex_aload_n rfl ?_
      refine ex_getR (w := 86) rfl rfl rfl ?_
      refine ex_iload_n rfl ?_
      obtain ⟨v8, S9, hp, H⟩ := am_b2_el H
      refine ex_callV rfl rfl (Nat.le_of_ble_eq_true rfl) (Nat.le_of_ble_eq_true rfl) rfl (r86 (by omega) hp) rfl ?_
      have H := Option.some.inj H
      subst H
      exact ex_iret (M := 184) (Or.inl rfl)
  · rw [if_neg h3] at H
    refine ex_if_eq_f h3 ?_
    refine ex_bipush (v := (-4)) (by decide) ?_
    have H := Option.some.inj H
    subst H
    exact ex_iret (M := 184) (Or.inl rfl)
-- X9_reprint
def f186 (F : Nat) (x1 : Int32) (S : AmT) : Option (Int32 × AmT) := am_b2 (f81 F S) fun v1 S2 => if v1 = 0 then (am_b2 (f95 F x1 S2) fun v4 S5 => if v4 = 0 then (some ((-2), S5)) else (am_b2 (f120 F x1 S5) fun v7 S8 => if v7 = 6 then ((f58 F S8).bind fun S10 => am_b2 (f127 F x1 S10) fun v11 S12 => some (v11, S12)) else (some ((-5), S8)))) else (some ((-4), S2))
set_option maxHeartbeats 1000000 in
set_option maxRecDepth 20000 in
theorem r186 {Lg : Nat} {xs : Nat → Int32} {d F : Nat} {x1 : Int32} {S : AmT} {q : Int32 × AmT} (hd : 3 ≤ d) (H : f186 F x1 S = some q) : Ex (am_X Lg xs) d 186 (am_P 186) (am_ini (am_Mi 186).1 [.ref 0, .int x1]) [] (hS S) (some q.1, hS q.2) := by
  obtain ⟨d, rfl⟩ : ∃ d2, d = d2 + 1 := ⟨d - 1, by omega⟩
  unfold f186 at H
  show Ex (am_X Lg xs) _ 186 am_c186_0 [.ref 0, .int x1] [] (hS S) (some q.1, hS q.2)
  refine ex_aload_n rfl ?_
  refine ex_getR (w := 86) rfl rfl rfl ?_
  obtain ⟨v1, S2, hp, H⟩ := am_b2_el H
  refine ex_callV rfl rfl (Nat.le_of_ble_eq_true rfl) (Nat.le_of_ble_eq_true rfl) rfl (r81 (by omega) hp) rfl ?_
  by_cases h3 : v1 = 0
  · rw [if_pos h3] at H
    refine ex_if_eq_j (ct := am_c186_13) h3 rfl ?_
    refine ex_aload_n rfl ?_
    refine ex_getR (w := 46) rfl rfl rfl ?_
    refine ex_iload_n rfl ?_
    obtain ⟨v4, S5, hp, H⟩ := am_b2_el H
    refine ex_callV rfl rfl (Nat.le_of_ble_eq_true rfl) (Nat.le_of_ble_eq_true rfl) rfl (r95 (by omega) hp) rfl ?_
    by_cases h6 : v4 = 0
    · rw [if_pos h6] at H
      refine ex_if_ne_f h6 ?_
      refine ex_bipush (v := (-2)) (by decide) ?_
      have H := Option.some.inj H
      subst H
      exact ex_iret (M := 186) (Or.inl rfl)
    · rw [if_neg h6] at H
      refine ex_if_ne_j (ct := am_c186_27) h6 rfl ?_
      refine ex_aload_n rfl ?_
      refine ex_getR (w := 46) rfl rfl rfl ?_
      refine ex_iload_n rfl ?_
      obtain ⟨v7, S8, hp, H⟩ := am_b2_el H
      refine ex_callV rfl rfl (Nat.le_of_ble_eq_true rfl) (Nat.le_of_ble_eq_true rfl) rfl (r120 (by omega) hp) rfl ?_
      refine ex_bipush (v := 6) (by decide) ?_
      by_cases h9 : v7 = 6
      · rw [if_pos h9] at H
        refine ex_icmp_eq_j (ct := am_c186_43) h9 rfl ?_
        refine ex_aload_n rfl ?_
        refine ex_getR (w := 1) rfl rfl rfl ?_
        obtain ⟨S10, hp, H⟩ := Option.bind_eq_some_iff.mp H
        refine ex_callV rfl rfl (Nat.le_of_ble_eq_true rfl) (Nat.le_of_ble_eq_true rfl) rfl (r58 (by omega) hp) rfl ?_
        refine ex_aload_n rfl ?_
        refine ex_getR (w := 46) rfl rfl rfl ?_
        refine ex_iload_n rfl ?_
        obtain ⟨v11, S12, hp, H⟩ := am_b2_el H
        refine ex_callV rfl rfl (Nat.le_of_ble_eq_true rfl) (Nat.le_of_ble_eq_true rfl) rfl (r127 (by omega) hp) rfl ?_
        have H := Option.some.inj H
        subst H
        exact ex_iret (M := 186) (Or.inl rfl)
      · rw [if_neg h9] at H
        refine ex_icmp_eq_f h9 ?_
        refine ex_bipush (v := (-5)) (by decide) ?_
        have H := Option.some.inj H
        subst H
        exact ex_iret (M := 186) (Or.inl rfl)
  · rw [if_neg h3] at H
    refine ex_if_eq_f h3 ?_
    refine ex_bipush (v := (-4)) (by decide) ?_
    have H := Option.some.inj H
    subst H
    exact ex_iret (M := 186) (Or.inl rfl)
