/-! printed by wip/gen/gen20.py -/
def g111_40 (F : Nat) (x1 : Int32) (x2 : Int32) (x4 : Int32) (s0 : Int32) (S : AmT) : Option (Int32 × AmT) := am_b2 (f31 F x1 x2 3 S) fun v7 S8 => am_b2 (f105 F x4 s0 v7 S8) fun v9 S10 => some (v9, S10)
-- X7_layFace
def f111 (F : Nat) (x1 : Int32) (x2 : Int32) (x3 : Int32) (S : AmT) : Option (Int32 × AmT) := am_b2 (f112 F x1 x2 S) fun v1 S2 => if 0 ≤ v1 then (am_b2 (f35 F (kg S2.1 50 8 x1) x3 S2) fun v4 S5 => if v4 = 0 then (g111_40 F x1 x2 v1 0 S5) else (g111_40 F x1 x2 v1 x3 S5)) else (some (v1, S2))
set_option maxHeartbeats 1000000 in
set_option maxRecDepth 20000 in
theorem e111_40 {Lg : Nat} {xs : Nat → Int32} {d F : Nat} {x1 : Int32} {x2 : Int32} {x4 : Int32} {s0 : Int32} {w3 : Value} {w5 : Value} {S : AmT} {q : Int32 × AmT} (hd : 4 ≤ d) (H : g111_40 F x1 x2 x4 s0 S = some q) : Ex (am_X Lg xs) d 111 am_c111_40 [.ref 46, .int x1, .int x2, w3, .int x4, w5] [.int s0] (hS S) (some q.1, hS q.2) := by
  obtain ⟨d, rfl⟩ : ∃ d2, d = d2 + 1 := ⟨d - 1, by omega⟩
  unfold g111_40 at H
  refine ex_istore (L2 := [.ref 46, .int x1, .int x2, w3, .int x4, .int s0]) (Nat.le_of_ble_eq_true rfl) rfl ?_
  refine ex_aload_n rfl ?_
  refine ex_iload rfl ?_
  refine ex_iload rfl ?_
  refine ex_aload_n rfl ?_
  refine ex_getR (w := 22) rfl rfl rfl ?_
  refine ex_iload_n rfl ?_
  refine ex_iload_n rfl ?_
  refine ex_iconst (v := 3) (by decide) ?_
  obtain ⟨v7, S8, hp, H⟩ := am_b2_el H
  refine ex_callV rfl rfl (Nat.le_of_ble_eq_true rfl) (Nat.le_of_ble_eq_true rfl) rfl (r31 (by omega) hp) rfl ?_
  obtain ⟨v9, S10, hp, H⟩ := am_b2_el H
  refine ex_callV rfl rfl (Nat.le_of_ble_eq_true rfl) (Nat.le_of_ble_eq_true rfl) rfl (r105 (by omega) hp) rfl ?_
  have H := Option.some.inj H
  subst H
  exact ex_iret (M := 111) (Or.inl rfl)
set_option maxHeartbeats 1000000 in
set_option maxRecDepth 20000 in
theorem r111 {Lg : Nat} {xs : Nat → Int32} {d F : Nat} {x1 : Int32} {x2 : Int32} {x3 : Int32} {S : AmT} {q : Int32 × AmT} (hd : 4 ≤ d) (H : f111 F x1 x2 x3 S = some q) : Ex (am_X Lg xs) d 111 (am_P 111) (am_ini (am_Mi 111).1 [.ref 46, .int x1, .int x2, .int x3]) [] (hS S) (some q.1, hS q.2) := by
  obtain ⟨d, rfl⟩ : ∃ d2, d = d2 + 1 := ⟨d - 1, by omega⟩
  unfold f111 at H
  show Ex (am_X Lg xs) _ 111 am_c111_0 [.ref 46, .int x1, .int x2, .int x3, .long 0, .long 0] [] (hS S) (some q.1, hS q.2)
  refine ex_aload_n rfl ?_
  refine ex_iload_n rfl ?_
  refine ex_iload_n rfl ?_
  obtain ⟨v1, S2, hp, H⟩ := am_b2_el H
  refine ex_callV rfl rfl (Nat.le_of_ble_eq_true rfl) (Nat.le_of_ble_eq_true rfl) rfl (r112 (by omega) hp) rfl ?_
  refine ex_istore (L2 := [.ref 46, .int x1, .int x2, .int x3, .int v1, .long 0]) (Nat.le_of_ble_eq_true rfl) rfl ?_
  refine ex_iload rfl ?_
  by_cases h3 : 0 ≤ v1
  · rw [if_pos h3] at H
    refine ex_if_ge_j (ct := am_c111_16) h3 rfl ?_
    refine ex_aload_n rfl ?_
    refine ex_getR (w := 7) rfl rfl rfl ?_
    refine ex_aload_n rfl ?_
    refine ex_getR (w := 49) rfl rfl rfl ?_
    refine ex_iload_n rfl ?_
    refine ex_kget (c := 49) (ar := 50) (n := 8) rfl (Nat.le_of_ble_eq_true rfl) ?_
    refine ex_iload_n rfl ?_
    obtain ⟨v4, S5, hp, H⟩ := am_b2_el H
    refine ex_callV rfl rfl (Nat.le_of_ble_eq_true rfl) (Nat.le_of_ble_eq_true rfl) rfl (r35 (by omega) hp) rfl ?_
    by_cases h6 : v4 = 0
    · rw [if_pos h6] at H
      refine ex_if_eq_j (ct := am_c111_39) h6 rfl ?_
      refine ex_iconst (v := 0) (by decide) ?_
      exact e111_40 hd H
    · rw [if_neg h6] at H
      refine ex_if_eq_f h6 ?_
      refine ex_iload_n rfl ?_
      refine ex_goto (ct := am_c111_40) rfl ?_
      exact e111_40 hd H
  · rw [if_neg h3] at H
    refine ex_if_ge_f h3 ?_
    refine ex_iload rfl ?_
    have H := Option.some.inj H
    subst H
    exact ex_iret (M := 111) (Or.inl rfl)
-- X7_pageOnFace
def f114 (F : Nat) (x1 : Int32) (x2 : Int32) (S : AmT) : Option (Int32 × AmT) := am_b2 (f112 F x1 x2 S) fun v1 S2 => if 0 ≤ v1 then (am_b2 (f106 F v1 S2) fun v4 S5 => some (v4, S5)) else (some (v1, S2))
set_option maxHeartbeats 1000000 in
set_option maxRecDepth 20000 in
theorem r114 {Lg : Nat} {xs : Nat → Int32} {d F : Nat} {x1 : Int32} {x2 : Int32} {S : AmT} {q : Int32 × AmT} (hd : 4 ≤ d) (H : f114 F x1 x2 S = some q) : Ex (am_X Lg xs) d 114 (am_P 114) (am_ini (am_Mi 114).1 [.ref 46, .int x1, .int x2]) [] (hS S) (some q.1, hS q.2) := by
  obtain ⟨d, rfl⟩ : ∃ d2, d = d2 + 1 := ⟨d - 1, by omega⟩
  unfold f114 at H
  show Ex (am_X Lg xs) _ 114 am_c114_0 [.ref 46, .int x1, .int x2, .long 0] [] (hS S) (some q.1, hS q.2)
  refine ex_aload_n rfl ?_
  refine ex_iload_n rfl ?_
  refine ex_iload_n rfl ?_
  obtain ⟨v1, S2, hp, H⟩ := am_b2_el H
  refine ex_callV rfl rfl (Nat.le_of_ble_eq_true rfl) (Nat.le_of_ble_eq_true rfl) rfl (r112 (by omega) hp) rfl ?_
  refine ex_istore_n (L2 := [.ref 46, .int x1, .int x2, .int v1]) (Nat.le_of_ble_eq_true rfl) rfl ?_
  refine ex_iload_n rfl ?_
  by_cases h3 : 0 ≤ v1
  · rw [if_pos h3] at H
    refine ex_if_ge_j (ct := am_c114_15) h3 rfl ?_
    refine ex_aload_n rfl ?_
    refine ex_iload_n rfl ?_
    obtain ⟨v4, S5, hp, H⟩ := am_b2_el H
    refine ex_callV rfl rfl (Nat.le_of_ble_eq_true rfl) (Nat.le_of_ble_eq_true rfl) rfl (r106 (by omega) hp) rfl ?_
    have H := Option.some.inj H
    subst H
    exact ex_iret (M := 114) (Or.inl rfl)
  · rw [if_neg h3] at H
    refine ex_if_ge_f h3 ?_
    refine ex_iload_n rfl ?_
    refine ex_goto (ct := am_c114_20) rfl ?_
    have H := Option.some.inj H
    subst H
    exact ex_iret (M := 114) (Or.inl rfl)
-- X9_cut
def f152 (F : Nat) (x1 : Int32) (x2 : Int32) (x3 : Int32) (S : AmT) : Option (Int32 × AmT) := am_b2 (f81 F S) fun v1 S2 => if v1 = 0 then (am_b2 (f34 F x1 S2) fun v4 S5 => if v4 = 0 then (some ((-2), S5)) else ((f58 F S5).bind fun S7 => am_b2 (f53 F x1 x2 x3 S7) fun v8 S9 => am_b2 (f129 F v8 S9) fun v10 S11 => some (v10, S11))) else (some ((-4), S2))
set_option maxHeartbeats 1000000 in
set_option maxRecDepth 20000 in
theorem r152 {Lg : Nat} {xs : Nat → Int32} {d F : Nat} {x1 : Int32} {x2 : Int32} {x3 : Int32} {S : AmT} {q : Int32 × AmT} (hd : 4 ≤ d) (H : f152 F x1 x2 x3 S = some q) : Ex (am_X Lg xs) d 152 (am_P 152) (am_ini (am_Mi 152).1 [.ref 0, .int x1, .int x2, .int x3]) [] (hS S) (some q.1, hS q.2) := by
  obtain ⟨d, rfl⟩ : ∃ d2, d = d2 + 1 := ⟨d - 1, by omega⟩
  unfold f152 at H
  show Ex (am_X Lg xs) _ 152 am_c152_0 [.ref 0, .int x1, .int x2, .int x3] [] (hS S) (some q.1, hS q.2)
  refine ex_aload_n rfl ?_
  refine ex_getR (w := 86) rfl rfl rfl ?_
  obtain ⟨v1, S2, hp, H⟩ := am_b2_el H
  refine ex_callV rfl rfl (Nat.le_of_ble_eq_true rfl) (Nat.le_of_ble_eq_true rfl) rfl (r81 (by omega) hp) rfl ?_
  by_cases h3 : v1 = 0
  · rw [if_pos h3] at H
    refine ex_if_eq_j (ct := am_c152_13) h3 rfl ?_
    refine ex_aload_n rfl ?_
    refine ex_getR (w := 7) rfl rfl rfl ?_
    refine ex_iload_n rfl ?_
    obtain ⟨v4, S5, hp, H⟩ := am_b2_el H
    refine ex_callV rfl rfl (Nat.le_of_ble_eq_true rfl) (Nat.le_of_ble_eq_true rfl) rfl (r34 (by omega) hp) rfl ?_
    by_cases h6 : v4 = 0
    · rw [if_pos h6] at H
      refine ex_if_ne_f h6 ?_
      refine ex_bipush (v := (-2)) (by decide) ?_
      have H := Option.some.inj H
      subst H
      exact ex_iret (M := 152) (Or.inl rfl)
    · rw [if_neg h6] at H
      refine ex_if_ne_j (ct := am_c152_27) h6 rfl ?_
      refine ex_aload_n rfl ?_
      refine ex_getR (w := 1) rfl rfl rfl ?_
      obtain ⟨S7, hp, H⟩ := Option.bind_eq_some_iff.mp H
      refine ex_callV rfl rfl (Nat.le_of_ble_eq_true rfl) (Nat.le_of_ble_eq_true rfl) rfl (r58 (by omega) hp) rfl ?_
      refine ex_aload_n rfl ?_
      refine ex_getR (w := 5) rfl rfl rfl ?_
      refine ex_aload_n rfl ?_
      refine ex_getR (w := 7) rfl rfl rfl ?_
      refine ex_iload_n rfl ?_
      refine ex_iload_n rfl ?_
      refine ex_iload_n rfl ?_
      obtain ⟨v8, S9, hp, H⟩ := am_b2_el H
      refine ex_callV rfl rfl (Nat.le_of_ble_eq_true rfl) (Nat.le_of_ble_eq_true rfl) rfl (r53 (by omega) hp) rfl ?_
      obtain ⟨v10, S11, hp, H⟩ := am_b2_el H
      refine ex_callV rfl rfl (Nat.le_of_ble_eq_true rfl) (Nat.le_of_ble_eq_true rfl) rfl (r129 (by omega) hp) rfl ?_
      have H := Option.some.inj H
      subst H
      exact ex_iret (M := 152) (Or.inl rfl)
  · rw [if_neg h3] at H
    refine ex_if_eq_f h3 ?_
    refine ex_bipush (v := (-4)) (by decide) ?_
    have H := Option.some.inj H
    subst H
    exact ex_iret (M := 152) (Or.inl rfl)
def g170_65 (F : Nat) (s1 : Int32) (S : AmT) : Option (Int32 × AmT) := am_b2 (f129 F s1 S) fun v12 S13 => some (v12, S13)
-- X9_seen
def f170 (F : Nat) (x1 : Int32) (x2 : Int32) (x3 : Int32) (x4 : Int32) (x5 : Int32) (x6 : Int32) (S : AmT) : Option (Int32 × AmT) := am_b2 (f95 F x1 S) fun v1 S2 => if v1 = 0 then (some ((-2), S2)) else (am_b2 (f195 F x2 S2) fun v4 S5 => if v4 = 0 then (some ((-1), S5)) else (am_b2 (f104 F x1 x2 x3 x4 S5) fun v7 S8 => if 0 ≤ v7 then (am_b2 (f115 F x1 v7 x5 x6 S8) fun v10 S11 => g170_65 F v10 S11) else (g170_65 F v7 S8)))
set_option maxHeartbeats 1000000 in
set_option maxRecDepth 20000 in
theorem e170_65 {Lg : Nat} {xs : Nat → Int32} {d F : Nat} {s1 : Int32} {w0 : Value} {w1 : Value} {w2 : Value} {w3 : Value} {w4 : Value} {w5 : Value} {w6 : Value} {w7 : Value} {S : AmT} {q : Int32 × AmT} (hd : 4 ≤ d) (H : g170_65 F s1 S = some q) : Ex (am_X Lg xs) d 170 am_c170_65 [w0, w1, w2, w3, w4, w5, w6, w7] [.int s1, .ref 5] (hS S) (some q.1, hS q.2) := by
  obtain ⟨d, rfl⟩ : ∃ d2, d = d2 + 1 := ⟨d - 1, by omega⟩
  unfold g170_65 at H
  obtain ⟨v12, S13, hp, H⟩ := am_b2_el H
  refine ex_callV rfl rfl (Nat.le_of_ble_eq_true rfl) (Nat.le_of_ble_eq_true rfl) rfl (r129 (by omega) hp) rfl ?_
  have H := Option.some.inj H
  subst H
  exact ex_iret (M := 170) (Or.inl rfl)
set_option maxHeartbeats 1000000 in
set_option maxRecDepth 20000 in
theorem r170 {Lg : Nat} {xs : Nat → Int32} {d F : Nat} {x1 : Int32} {x2 : Int32} {x3 : Int32} {x4 : Int32} {x5 : Int32} {x6 : Int32} {S : AmT} {q : Int32 × AmT} (hd : 4 ≤ d) (H : f170 F x1 x2 x3 x4 x5 x6 S = some q) : Ex (am_X Lg xs) d 170 (am_P 170) (am_ini (am_Mi 170).1 [.ref 0, .int x1, .int x2, .int x3, .int x4, .int x5, .int x6]) [] (hS S) (some q.1, hS q.2) := by
  obtain ⟨d, rfl⟩ : ∃ d2, d = d2 + 1 := ⟨d - 1, by omega⟩
  unfold f170 at H
  show Ex (am_X Lg xs) _ 170 am_c170_0 [.ref 0, .int x1, .int x2, .int x3, .int x4, .int x5, .int x6, .long 0] [] (hS S) (some q.1, hS q.2)
  refine ex_aload_n rfl ?_
  refine ex_getR (w := 46) rfl rfl rfl ?_
  refine ex_iload_n rfl ?_
  obtain ⟨v1, S2, hp, H⟩ := am_b2_el H
  refine ex_callV rfl rfl (Nat.le_of_ble_eq_true rfl) (Nat.le_of_ble_eq_true rfl) rfl (r95 (by omega) hp) rfl ?_
  by_cases h3 : v1 = 0
  · rw [if_pos h3] at H
    refine ex_if_ne_f h3 ?_
    refine ex_bipush (v := (-2)) (by decide) ?_
    have H := Option.some.inj H
    subst H
    exact ex_iret (M := 170) (Or.inl rfl)
  · rw [if_neg h3] at H
    refine ex_if_ne_j (ct := am_c170_14) h3 rfl ?_
    refine ex_iload_n rfl ?_
    obtain ⟨v4, S5, hp, H⟩ := am_b2_el H
    refine ex_callS rfl rfl (Nat.le_of_ble_eq_true rfl) (Nat.le_of_ble_eq_true rfl) (r195 (by omega) hp) rfl ?_
    by_cases h6 : v4 = 0
    · rw [if_pos h6] at H
      refine ex_if_ne_f h6 ?_
      refine ex_iconst (v := (-1)) (by decide) ?_
      have H := Option.some.inj H
      subst H
      exact ex_iret (M := 170) (Or.inl rfl)
    · rw [if_neg h6] at H
      refine ex_if_ne_j (ct := am_c170_23) h6 rfl ?_
      refine ex_aload_n rfl ?_
      refine ex_getR (w := 46) rfl rfl rfl ?_
      refine ex_iload_n rfl ?_
      refine ex_iload_n rfl ?_
      refine ex_iload_n rfl ?_
      refine ex_iload rfl ?_
      obtain ⟨v7, S8, hp, H⟩ := am_b2_el H
      refine ex_callV rfl rfl (Nat.le_of_ble_eq_true rfl) (Nat.le_of_ble_eq_true rfl) rfl (r104 (by omega) hp) rfl ?_
      refine ex_istore (L2 := [.ref 0, .int x1, .int x2, .int x3, .int x4, .int x5, .int x6, .int v7]) (Nat.le_of_ble_eq_true rfl) rfl ?_
      refine ex_aload_n rfl ?_
      refine ex_getR (w := 5) rfl rfl rfl ?_
      refine ex_iload rfl ?_
      by_cases h9 : 0 ≤ v7
      · rw [if_pos h9] at H
        refine ex_if_ge_j (ct := am_c170_51) h9 rfl ?_
        refine ex_aload_n rfl ?_
        refine ex_getR (w := 46) rfl rfl rfl ?_
        refine ex_iload_n rfl ?_
        refine ex_iload rfl ?_
        refine ex_iload rfl ?_
        refine ex_iload rfl ?_
        obtain ⟨v10, S11, hp, H⟩ := am_b2_el H
        refine ex_callV rfl rfl (Nat.le_of_ble_eq_true rfl) (Nat.le_of_ble_eq_true rfl) rfl (r115 (by omega) hp) rfl ?_
        exact e170_65 hd H
      · rw [if_neg h9] at H
        refine ex_if_ge_f h9 ?_
        refine ex_iload rfl ?_
        refine ex_goto (ct := am_c170_65) rfl ?_
        exact e170_65 hd H
-- X9_gather
def f172 (F : Nat) (x1 : Int32) (x2 : Int32) (S : AmT) : Option (Int32 × AmT) := am_b2 (f81 F S) fun v1 S2 => if v1 = 0 then (am_b2 (f2 F x1 S2) fun v4 S5 => if v4 = 0 then (some ((-2), S5)) else (am_b2 (f95 F x2 S5) fun v7 S8 => if v7 = 0 then (some ((-2), S8)) else (am_b2 (f116 F x2 S8) fun v10 S11 => if v10 = 0 then (am_b2 (f4 F x1 S11) fun v13 S14 => if v13 < 4 then ((f58 F S14).bind fun S16 => am_b2 (f6 F x1 x2 S16) fun v17 S18 => some (v17, S18)) else (some ((-3), S14))) else (some ((-5), S11))))) else (some ((-4), S2))
set_option maxHeartbeats 1000000 in
set_option maxRecDepth 20000 in
theorem r172 {Lg : Nat} {xs : Nat → Int32} {d F : Nat} {x1 : Int32} {x2 : Int32} {S : AmT} {q : Int32 × AmT} (hd : 4 ≤ d) (H : f172 F x1 x2 S = some q) : Ex (am_X Lg xs) d 172 (am_P 172) (am_ini (am_Mi 172).1 [.ref 0, .int x1, .int x2]) [] (hS S) (some q.1, hS q.2) := by
  obtain ⟨d, rfl⟩ : ∃ d2, d = d2 + 1 := ⟨d - 1, by omega⟩
  unfold f172 at H
  show Ex (am_X Lg xs) _ 172 am_c172_0 [.ref 0, .int x1, .int x2] [] (hS S) (some q.1, hS q.2)
  refine ex_aload_n rfl ?_
  refine ex_getR (w := 86) rfl rfl rfl ?_
  obtain ⟨v1, S2, hp, H⟩ := am_b2_el H
  refine ex_callV rfl rfl (Nat.le_of_ble_eq_true rfl) (Nat.le_of_ble_eq_true rfl) rfl (r81 (by omega) hp) rfl ?_
  by_cases h3 : v1 = 0
  · rw [if_pos h3] at H
    refine ex_if_eq_j (ct := am_c172_13) h3 rfl ?_
    refine ex_aload_n rfl ?_
    refine ex_getR (w := 69) rfl rfl rfl ?_
    refine ex_iload_n rfl ?_
    obtain ⟨v4, S5, hp, H⟩ := am_b2_el H
    refine ex_callV rfl rfl (Nat.le_of_ble_eq_true rfl) (Nat.le_of_ble_eq_true rfl) rfl (r2 (by omega) hp) rfl ?_
    by_cases h6 : v4 = 0
    · rw [if_pos h6] at H
      refine ex_if_eq_j (ct := am_c172_35) h6 rfl ?_
      refine ex_bipush (v := (-2)) (by decide) ?_
      have H := Option.some.inj H
      subst H
      exact ex_iret (M := 172) (Or.inl rfl)
    · rw [if_neg h6] at H
      refine ex_if_eq_f h6 ?_
      refine ex_aload_n rfl ?_
      refine ex_getR (w := 46) rfl rfl rfl ?_
      refine ex_iload_n rfl ?_
      obtain ⟨v7, S8, hp, H⟩ := am_b2_el H
      refine ex_callV rfl rfl (Nat.le_of_ble_eq_true rfl) (Nat.le_of_ble_eq_true rfl) rfl (r95 (by omega) hp) rfl ?_
      by_cases h9 : v7 = 0
      · rw [if_pos h9] at H
        refine ex_if_ne_f h9 ?_
        refine ex_bipush (v := (-2)) (by decide) ?_
        have H := Option.some.inj H
        subst H
        exact ex_iret (M := 172) (Or.inl rfl)
      · rw [if_neg h9] at H
        refine ex_if_ne_j (ct := am_c172_38) h9 rfl ?_
        refine ex_aload_n rfl ?_
        refine ex_getR (w := 46) rfl rfl rfl ?_
        refine ex_iload_n rfl ?_
        obtain ⟨v10, S11, hp, H⟩ := am_b2_el H
        refine ex_callV rfl rfl (Nat.le_of_ble_eq_true rfl) (Nat.le_of_ble_eq_true rfl) rfl (r116 (by omega) hp) rfl ?_
        by_cases h12 : v10 = 0
        · rw [if_pos h12] at H
          refine ex_if_eq_j (ct := am_c172_52) h12 rfl ?_
          refine ex_aload_n rfl ?_
          refine ex_getR (w := 69) rfl rfl rfl ?_
          refine ex_iload_n rfl ?_
          obtain ⟨v13, S14, hp, H⟩ := am_b2_el H
          refine ex_callV rfl rfl (Nat.le_of_ble_eq_true rfl) (Nat.le_of_ble_eq_true rfl) rfl (r4 (by omega) hp) rfl ?_
          refine ex_iconst (v := 4) (by decide) ?_
          by_cases h15 : v13 < 4
          · rw [if_pos h15] at H
            refine ex_icmp_lt_j (ct := am_c172_67) h15 rfl ?_
            refine ex_aload_n rfl ?_
            refine ex_getR (w := 1) rfl rfl rfl ?_
            obtain ⟨S16, hp, H⟩ := Option.bind_eq_some_iff.mp H
            refine ex_callV rfl rfl (Nat.le_of_ble_eq_true rfl) (Nat.le_of_ble_eq_true rfl) rfl (r58 (by omega) hp) rfl ?_
            refine ex_aload_n rfl ?_
            refine ex_getR (w := 69) rfl rfl rfl ?_
            refine ex_iload_n rfl ?_
            refine ex_iload_n rfl ?_
            obtain ⟨v17, S18, hp, H⟩ := am_b2_el H
            refine ex_callV rfl rfl (Nat.le_of_ble_eq_true rfl) (Nat.le_of_ble_eq_true rfl) rfl (r6 (by omega) hp) rfl ?_
            have H := Option.some.inj H
            subst H
            exact ex_iret (M := 172) (Or.inl rfl)
          · rw [if_neg h15] at H
            refine ex_icmp_lt_f h15 ?_
            refine ex_bipush (v := (-3)) (by decide) ?_
            have H := Option.some.inj H
            subst H
            exact ex_iret (M := 172) (Or.inl rfl)
        · rw [if_neg h12] at H
          refine ex_if_eq_f h12 ?_
          refine ex_bipush (v := (-5)) (by decide) ?_
          have H := Option.some.inj H
          subst H
          exact ex_iret (M := 172) (Or.inl rfl)
  · rw [if_neg h3] at H
    refine ex_if_eq_f h3 ?_
    refine ex_bipush (v := (-4)) (by decide) ?_
    have H := Option.some.inj H
    subst H
    exact ex_iret (M := 172) (Or.inl rfl)
def g240_98 (F : Nat) (k16 : AmT → Option (Int32 × AmT)) (S : AmT) : Option (Int32 × AmT) := k16 S
def g240_16 (F : Nat) : Nat → AmT → Option (Int32 × AmT)
  | 0, _ => none
  | n + 1, S => if (S.1 95 39) ≤ 0 then (if (S.1 95 40) = 1 then (if (S.1 95 41) = 1 then (some (0, S)) else (some (8, S))) else (some (8, S))) else (am_lt ((am_upI S.1 95 39 ((S.1 95 39) - 1), S.2) : AmT) fun S7 => am_ck (S7.1 95 39) 64 (am_ck (S7.1 126 (S7.1 95 39).toNatClampNeg) 32 (if (S7.1 103 (S7.1 126 (S7.1 95 39).toNatClampNeg).toNatClampNeg) = 5 then ((f233 F 6 S7).bind fun S12 => am_ck (S7.1 126 (S7.1 95 39).toNatClampNeg) 32 ((f230 F (S12.1 106 (S7.1 126 (S7.1 95 39).toNatClampNeg).toNatClampNeg) S12).bind fun S13 => am_ck (S7.1 126 (S7.1 95 39).toNatClampNeg) 32 ((f230 F (S13.1 105 (S7.1 126 (S7.1 95 39).toNatClampNeg).toNatClampNeg) S13).bind fun S14 => g240_98 F (fun S => g240_16 F n S) S14))) else (am_b2 (f239 F (S7.1 126 (S7.1 95 39).toNatClampNeg) S7) fun v9 S10 => if v9 = 0 then (some (7, S10)) else (g240_98 F (fun S => g240_16 F n S) S10)))))
-- X10_foldGrid
def f240 (F : Nat) (x1 : Int32) (x2 : Int32) (x3 : Int32) (S : AmT) : Option (Int32 × AmT) := (f234 F x2 x3 S).bind fun S1 => am_lt ((am_upI S1.1 95 39 0, S1.2) : AmT) fun S2 => (f230 F x1 S2).bind fun S3 => g240_16 F F S3
set_option maxHeartbeats 1000000 in
set_option maxRecDepth 20000 in
theorem e240_98 {Lg : Nat} {xs : Nat → Int32} {d F : Nat} {k16 : AmT → Option (Int32 × AmT)} {w1 : Value} {w2 : Value} {w3 : Value} {w4 : Value} {S : AmT} {q : Int32 × AmT} (hd : 4 ≤ d) (hk16 : ∀ (w1 : Value) (w2 : Value) (w3 : Value) (w4 : Value) (S : AmT) (q : Int32 × AmT), k16 S = some q → Ex (am_X Lg xs) d 240 am_c240_16 [.ref 95, w1, w2, w3, w4] [] (hS S) (some q.1, hS q.2)) (H : g240_98 F k16 S = some q) : Ex (am_X Lg xs) d 240 am_c240_98 [.ref 95, w1, w2, w3, w4] [] (hS S) (some q.1, hS q.2) := by
  obtain ⟨d, rfl⟩ : ∃ d2, d = d2 + 1 := ⟨d - 1, by omega⟩
  unfold g240_98 at H
  refine ex_goto (ct := am_c240_16) rfl ?_
  exact hk16 _ _ _ _ _ _ H
set_option maxHeartbeats 1000000 in
set_option maxRecDepth 20000 in
theorem e240_16 {Lg : Nat} {xs : Nat → Int32} {d F : Nat} (hd : 4 ≤ d) : ∀ (n : Nat) (w1 : Value) (w2 : Value) (w3 : Value) (w4 : Value) (S : AmT) (q : Int32 × AmT), g240_16 F n S = some q → Ex (am_X Lg xs) d 240 am_c240_16 [.ref 95, w1, w2, w3, w4] [] (hS S) (some q.1, hS q.2) := by
  obtain ⟨d, rfl⟩ : ∃ d2, d = d2 + 1 := ⟨d - 1, by omega⟩
  intro n
  induction n with
  | zero =>
    intro w1 w2 w3 w4 S q H
    cases H
  | succ n ih =>
    intro w1 w2 w3 w4 S q H
    have H : (if (S.1 95 39) ≤ 0 then (if (S.1 95 40) = 1 then (if (S.1 95 41) = 1 then (some (0, S)) else (some (8, S))) else (some (8, S))) else (am_lt ((am_upI S.1 95 39 ((S.1 95 39) - 1), S.2) : AmT) fun S7 => am_ck (S7.1 95 39) 64 (am_ck (S7.1 126 (S7.1 95 39).toNatClampNeg) 32 (if (S7.1 103 (S7.1 126 (S7.1 95 39).toNatClampNeg).toNatClampNeg) = 5 then ((f233 F 6 S7).bind fun S12 => am_ck (S7.1 126 (S7.1 95 39).toNatClampNeg) 32 ((f230 F (S12.1 106 (S7.1 126 (S7.1 95 39).toNatClampNeg).toNatClampNeg) S12).bind fun S13 => am_ck (S7.1 126 (S7.1 95 39).toNatClampNeg) 32 ((f230 F (S13.1 105 (S7.1 126 (S7.1 95 39).toNatClampNeg).toNatClampNeg) S13).bind fun S14 => g240_98 F (fun S => g240_16 F n S) S14))) else (am_b2 (f239 F (S7.1 126 (S7.1 95 39).toNatClampNeg) S7) fun v9 S10 => if v9 = 0 then (some (7, S10)) else (g240_98 F (fun S => g240_16 F n S) S10)))))) = some q := H
    refine ex_aload_n rfl ?_
    refine ex_gI rfl (by decide) ?_
    by_cases h4 : (S.1 95 39) ≤ 0
    · rw [if_pos h4] at H
      refine ex_if_le_j (ct := am_c240_101) h4 rfl ?_
      refine ex_aload_n rfl ?_
      refine ex_gI rfl (by decide) ?_
      refine ex_iconst (v := 1) (by decide) ?_
      by_cases h5 : (S.1 95 40) = 1
      · rw [if_pos h5] at H
        refine ex_icmp_ne_f h5 ?_
        refine ex_aload_n rfl ?_
        refine ex_gI rfl (by decide) ?_
        refine ex_iconst (v := 1) (by decide) ?_
        by_cases h6 : (S.1 95 41) = 1
        · rw [if_pos h6] at H
          refine ex_icmp_ne_f h6 ?_
          refine ex_iconst (v := 0) (by decide) ?_
          refine ex_goto (ct := am_c240_123) rfl ?_
          have H := Option.some.inj H
          subst H
          exact ex_iret (M := 240) (Or.inl rfl)
        · rw [if_neg h6] at H
          refine ex_icmp_ne_j (ct := am_c240_121) h6 rfl ?_
          refine ex_bipush (v := 8) (by decide) ?_
          have H := Option.some.inj H
          subst H
          exact ex_iret (M := 240) (Or.inl rfl)
      · rw [if_neg h5] at H
        refine ex_icmp_ne_j (ct := am_c240_121) h5 rfl ?_
        refine ex_bipush (v := 8) (by decide) ?_
        have H := Option.some.inj H
        subst H
        exact ex_iret (M := 240) (Or.inl rfl)
    · rw [if_neg h4] at H
      refine ex_if_le_f h4 ?_
      refine ex_aload_n rfl ?_
      refine ex_dupr ?_
      refine ex_gI rfl (by decide) ?_
      refine ex_iconst (v := 1) (by decide) ?_
      refine ex_isub ?_
      refine ex_putI rfl (by decide) (fun z => absurd z.1 (by decide)) ?_
      generalize ((am_upI S.1 95 39 ((S.1 95 39) - 1), S.2) : AmT) = S7 at H ⊢
      have H := am_lt_el H
      refine ex_aload_n rfl ?_
      refine ex_getR (w := 126) rfl rfl rfl ?_
      refine ex_aload_n rfl ?_
      refine ex_gI rfl (by decide) ?_
      obtain ⟨hj, H⟩ := am_ck_el H
      refine ex_iald (k := 64) (v := S7.1 126 (S7.1 95 39).toNatClampNeg) rfl hj rfl ?_
      refine ex_istore (L2 := [.ref 95, w1, w2, w3, .int (S7.1 126 (S7.1 95 39).toNatClampNeg)]) (Nat.le_of_ble_eq_true rfl) rfl ?_
      refine ex_aload_n rfl ?_
      refine ex_getR (w := 103) rfl rfl rfl ?_
      refine ex_iload rfl ?_
      obtain ⟨hj, H⟩ := am_ck_el H
      refine ex_iald (k := 32) (v := S7.1 103 (S7.1 126 (S7.1 95 39).toNatClampNeg).toNatClampNeg) rfl hj rfl ?_
      refine ex_iconst (v := 5) (by decide) ?_
      by_cases h8 : (S7.1 103 (S7.1 126 (S7.1 95 39).toNatClampNeg).toNatClampNeg) = 5
      · rw [if_pos h8] at H
        refine ex_icmp_ne_f h8 ?_
        refine ex_aload_n rfl ?_
        refine ex_bipush (v := 6) (by decide) ?_
        obtain ⟨S12, hp, H⟩ := Option.bind_eq_some_iff.mp H
        refine ex_callV rfl rfl (Nat.le_of_ble_eq_true rfl) (Nat.le_of_ble_eq_true rfl) rfl (r233 (by omega) hp) rfl ?_
        refine ex_aload_n rfl ?_
        refine ex_aload_n rfl ?_
        refine ex_getR (w := 106) rfl rfl rfl ?_
        refine ex_iload rfl ?_
        obtain ⟨hj, H⟩ := am_ck_el H
        refine ex_iald (k := 32) (v := S12.1 106 (S7.1 126 (S7.1 95 39).toNatClampNeg).toNatClampNeg) rfl hj rfl ?_
        obtain ⟨S13, hp, H⟩ := Option.bind_eq_some_iff.mp H
        refine ex_callV rfl rfl (Nat.le_of_ble_eq_true rfl) (Nat.le_of_ble_eq_true rfl) rfl (r230 (by omega) hp) rfl ?_
        refine ex_aload_n rfl ?_
        refine ex_aload_n rfl ?_
        refine ex_getR (w := 105) rfl rfl rfl ?_
        refine ex_iload rfl ?_
        obtain ⟨hj, H⟩ := am_ck_el H
        refine ex_iald (k := 32) (v := S13.1 105 (S7.1 126 (S7.1 95 39).toNatClampNeg).toNatClampNeg) rfl hj rfl ?_
        obtain ⟨S14, hp, H⟩ := Option.bind_eq_some_iff.mp H
        refine ex_callV rfl rfl (Nat.le_of_ble_eq_true rfl) (Nat.le_of_ble_eq_true rfl) rfl (r230 (by omega) hp) rfl ?_
        refine ex_goto (ct := am_c240_98) rfl ?_
        exact e240_98 hd (fun w1 w2 w3 w4 S q H => ih w1 w2 w3 w4 S q H) H
      · rw [if_neg h8] at H
        refine ex_icmp_ne_j (ct := am_c240_86) h8 rfl ?_
        refine ex_aload_n rfl ?_
        refine ex_iload rfl ?_
        obtain ⟨v9, S10, hp, H⟩ := am_b2_el H
        refine ex_callV rfl rfl (Nat.le_of_ble_eq_true rfl) (Nat.le_of_ble_eq_true rfl) rfl (r239 (by omega) hp) rfl ?_
        by_cases h11 : v9 = 0
        · rw [if_pos h11] at H
          refine ex_if_ne_f h11 ?_
          refine ex_bipush (v := 7) (by decide) ?_
          have H := Option.some.inj H
          subst H
          exact ex_iret (M := 240) (Or.inl rfl)
        · rw [if_neg h11] at H
          refine ex_if_ne_j (ct := am_c240_98) h11 rfl ?_
          exact e240_98 hd (fun w1 w2 w3 w4 S q H => ih w1 w2 w3 w4 S q H) H
set_option maxHeartbeats 1000000 in
set_option maxRecDepth 20000 in
theorem r240 {Lg : Nat} {xs : Nat → Int32} {d F : Nat} {x1 : Int32} {x2 : Int32} {x3 : Int32} {S : AmT} {q : Int32 × AmT} (hd : 4 ≤ d) (H : f240 F x1 x2 x3 S = some q) : Ex (am_X Lg xs) d 240 (am_P 240) (am_ini (am_Mi 240).1 [.ref 95, .int x1, .int x2, .int x3]) [] (hS S) (some q.1, hS q.2) := by
  obtain ⟨d, rfl⟩ : ∃ d2, d = d2 + 1 := ⟨d - 1, by omega⟩
  unfold f240 at H
  show Ex (am_X Lg xs) _ 240 am_c240_0 [.ref 95, .int x1, .int x2, .int x3, .long 0] [] (hS S) (some q.1, hS q.2)
  refine ex_aload_n rfl ?_
  refine ex_iload_n rfl ?_
  refine ex_iload_n rfl ?_
  obtain ⟨S1, hp, H⟩ := Option.bind_eq_some_iff.mp H
  refine ex_callV rfl rfl (Nat.le_of_ble_eq_true rfl) (Nat.le_of_ble_eq_true rfl) rfl (r234 (by omega) hp) rfl ?_
  refine ex_aload_n rfl ?_
  refine ex_iconst (v := 0) (by decide) ?_
  refine ex_putI rfl (by decide) (fun z => absurd z.1 (by decide)) ?_
  generalize ((am_upI S1.1 95 39 0, S1.2) : AmT) = S2 at H ⊢
  have H := am_lt_el H
  refine ex_aload_n rfl ?_
  refine ex_iload_n rfl ?_
  obtain ⟨S3, hp, H⟩ := Option.bind_eq_some_iff.mp H
  refine ex_callV rfl rfl (Nat.le_of_ble_eq_true rfl) (Nat.le_of_ble_eq_true rfl) rfl (r230 (by omega) hp) rfl ?_
  exact e240_16 hd _ _ _ _ _ _ _ H
def g267_60 (F : Nat) (s0 : Int32) (S : AmT) : Option (Int32 × AmT) := if s0 ≤ 0 then (some ((S.1 95 50), S)) else (am_b2 (f203 F s0 S) fun v15 S16 => some (v15, S16))
-- X10_seen
def f267 (F : Nat) (x1 : Int32) (x2 : Int32) (x3 : Int32) (x4 : Int32) (x5 : Int32) (x6 : Int32) (S : AmT) : Option (Int32 × AmT) := am_b2 (f249 F x1 S) fun v1 S2 => if v1 = 0 then (some ((-2), S2)) else (am_b2 (f197 F x2 0 1 S2) fun v4 S5 => if v4 = 0 then (some ((-1), S5)) else (am_b2 (f254 F x1 x2 x3 x4 S5) fun v7 S8 => if v7 ≤ 0 then (am_b2 (f251 F x1 x2 x3 x4 S8) fun v10 S11 => am_b2 (f266 F x1 v10 x5 x6 S11) fun v12 S13 => g267_60 F v12 S13) else (g267_60 F v7 S8)))
set_option maxHeartbeats 1000000 in
set_option maxRecDepth 20000 in
theorem e267_60 {Lg : Nat} {xs : Nat → Int32} {d F : Nat} {s0 : Int32} {w1 : Value} {w2 : Value} {w3 : Value} {w4 : Value} {w5 : Value} {w6 : Value} {w7 : Value} {S : AmT} {q : Int32 × AmT} (hd : 4 ≤ d) (H : g267_60 F s0 S = some q) : Ex (am_X Lg xs) d 267 am_c267_60 [.ref 95, w1, w2, w3, w4, w5, w6, w7] [.int s0] (hS S) (some q.1, hS q.2) := by
  obtain ⟨d, rfl⟩ : ∃ d2, d = d2 + 1 := ⟨d - 1, by omega⟩
  unfold g267_60 at H
  refine ex_istore (L2 := [.ref 95, w1, w2, w3, w4, w5, w6, .int s0]) (Nat.le_of_ble_eq_true rfl) rfl ?_
  refine ex_iload rfl ?_
  by_cases h14 : s0 ≤ 0
  · rw [if_pos h14] at H
    refine ex_if_le_j (ct := am_c267_76) h14 rfl ?_
    refine ex_aload_n rfl ?_
    refine ex_gI rfl (by decide) ?_
    have H := Option.some.inj H
    subst H
    exact ex_iret (M := 267) (Or.inl rfl)
  · rw [if_neg h14] at H
    refine ex_if_le_f h14 ?_
    refine ex_aload_n rfl ?_
    refine ex_iload rfl ?_
    obtain ⟨v15, S16, hp, H⟩ := am_b2_el H
    refine ex_callV rfl rfl (Nat.le_of_ble_eq_true rfl) (Nat.le_of_ble_eq_true rfl) rfl (r203 (by omega) hp) rfl ?_
    refine ex_goto (ct := am_c267_80) rfl ?_
    have H := Option.some.inj H
    subst H
    exact ex_iret (M := 267) (Or.inl rfl)
set_option maxHeartbeats 1000000 in
set_option maxRecDepth 20000 in
theorem r267 {Lg : Nat} {xs : Nat → Int32} {d F : Nat} {x1 : Int32} {x2 : Int32} {x3 : Int32} {x4 : Int32} {x5 : Int32} {x6 : Int32} {S : AmT} {q : Int32 × AmT} (hd : 4 ≤ d) (H : f267 F x1 x2 x3 x4 x5 x6 S = some q) : Ex (am_X Lg xs) d 267 (am_P 267) (am_ini (am_Mi 267).1 [.ref 95, .int x1, .int x2, .int x3, .int x4, .int x5, .int x6]) [] (hS S) (some q.1, hS q.2) := by
  obtain ⟨d, rfl⟩ : ∃ d2, d = d2 + 1 := ⟨d - 1, by omega⟩
  unfold f267 at H
  show Ex (am_X Lg xs) _ 267 am_c267_0 [.ref 95, .int x1, .int x2, .int x3, .int x4, .int x5, .int x6, .long 0] [] (hS S) (some q.1, hS q.2)
  refine ex_aload_n rfl ?_
  refine ex_iload_n rfl ?_
  obtain ⟨v1, S2, hp, H⟩ := am_b2_el H
  refine ex_callV rfl rfl (Nat.le_of_ble_eq_true rfl) (Nat.le_of_ble_eq_true rfl) rfl (r249 (by omega) hp) rfl ?_
  by_cases h3 : v1 = 0
  · rw [if_pos h3] at H
    refine ex_if_ne_f h3 ?_
    refine ex_bipush (v := (-2)) (by decide) ?_
    have H := Option.some.inj H
    subst H
    exact ex_iret (M := 267) (Or.inl rfl)
  · rw [if_neg h3] at H
    refine ex_if_ne_j (ct := am_c267_11) h3 rfl ?_
    refine ex_iload_n rfl ?_
    refine ex_iconst (v := 0) (by decide) ?_
    refine ex_iconst (v := 1) (by decide) ?_
    obtain ⟨v4, S5, hp, H⟩ := am_b2_el H
    refine ex_callS rfl rfl (Nat.le_of_ble_eq_true rfl) (Nat.le_of_ble_eq_true rfl) (r197 (by omega) hp) rfl ?_
    by_cases h6 : v4 = 0
    · rw [if_pos h6] at H
      refine ex_if_ne_f h6 ?_
      refine ex_iconst (v := (-1)) (by decide) ?_
      have H := Option.some.inj H
      subst H
      exact ex_iret (M := 267) (Or.inl rfl)
    · rw [if_neg h6] at H
      refine ex_if_ne_j (ct := am_c267_22) h6 rfl ?_
      refine ex_aload_n rfl ?_
      refine ex_iload_n rfl ?_
      refine ex_iload_n rfl ?_
      refine ex_iload_n rfl ?_
      refine ex_iload rfl ?_
      obtain ⟨v7, S8, hp, H⟩ := am_b2_el H
      refine ex_callV rfl rfl (Nat.le_of_ble_eq_true rfl) (Nat.le_of_ble_eq_true rfl) rfl (r254 (by omega) hp) rfl ?_
      refine ex_istore (L2 := [.ref 95, .int x1, .int x2, .int x3, .int x4, .int x5, .int x6, .int v7]) (Nat.le_of_ble_eq_true rfl) rfl ?_
      refine ex_iload rfl ?_
      by_cases h9 : v7 ≤ 0
      · rw [if_pos h9] at H
        refine ex_if_le_j (ct := am_c267_43) h9 rfl ?_
        refine ex_aload_n rfl ?_
        refine ex_iload_n rfl ?_
        refine ex_iload_n rfl ?_
        refine ex_iload_n rfl ?_
        refine ex_iload_n rfl ?_
        refine ex_iload rfl ?_
        obtain ⟨v10, S11, hp, H⟩ := am_b2_el H
        refine ex_callS rfl rfl (Nat.le_of_ble_eq_true rfl) (Nat.le_of_ble_eq_true rfl) (r251 (by omega) hp) rfl ?_
        refine ex_iload rfl ?_
        refine ex_iload rfl ?_
        obtain ⟨v12, S13, hp, H⟩ := am_b2_el H
        refine ex_callV rfl rfl (Nat.le_of_ble_eq_true rfl) (Nat.le_of_ble_eq_true rfl) rfl (r266 (by omega) hp) rfl ?_
        exact e267_60 hd H
      · rw [if_neg h9] at H
        refine ex_if_le_f h9 ?_
        refine ex_iload rfl ?_
        refine ex_goto (ct := am_c267_60) rfl ?_
        exact e267_60 hd H
def g284_108 (F : Nat) (k2 : Int32 → Int32 → Int32 → AmT → Option (Int32 × AmT)) (k31 : Int32 → Int32 → Int32 → Int32 → AmT → Option (Int32 × AmT)) (x1 : Int32) (x2 : Int32) (x3 : Int32) (x4 : Int32) (s1 : Int32) (s2 : Int32) (S : AmT) : Option (Int32 × AmT) := am_lt ((am_upI S.1 95 33 (s1 + s2), S.2) : AmT) fun S13 => k31 x1 x2 x3 (x4 + 1) S13
def g284_75 (F : Nat) (k2 : Int32 → Int32 → Int32 → AmT → Option (Int32 × AmT)) (k31 : Int32 → Int32 → Int32 → Int32 → AmT → Option (Int32 × AmT)) (x1 : Int32) (x2 : Int32) (x3 : Int32) (x4 : Int32) (x5 : Int32) (s0 : Int32) (S : AmT) : Option (Int32 × AmT) := if s0 ≤ 0 then (am_ck x5 2048 (if (S.1 117 x5.toNatClampNeg) = 0 then (g284_108 F k2 k31 x1 x2 x3 x4 (S.1 95 33) 0 S) else (g284_108 F k2 k31 x1 x2 x3 x4 (S.1 95 33) (S.1 95 50) S))) else (some (s0, S))
def g284_31 (F : Nat) (k2 : Int32 → Int32 → Int32 → AmT → Option (Int32 × AmT)) : Nat → Int32 → Int32 → Int32 → Int32 → AmT → Option (Int32 × AmT)
  | 0, _, _, _, _, _ => none
  | n + 1, x1, x2, x3, x4, S => am_ck x1 16 (if (S.1 110 x1.toNatClampNeg) ≤ x4 then (k2 x1 x2 (x3 + 1) S) else (am_b2 (f251 F x1 x2 x3 x4 S) fun v6 S7 => am_ck v6 2048 (if (S7.1 117 v6.toNatClampNeg) = 0 then (g284_75 F k2 (fun x1 x2 x3 x4 S => g284_31 F k2 n x1 x2 x3 x4 S) x1 x2 x3 x4 v6 0 S7) else (am_b2 (f266 F x1 v6 0 0 S7) fun v9 S10 => g284_75 F k2 (fun x1 x2 x3 x4 S => g284_31 F k2 n x1 x2 x3 x4 S) x1 x2 x3 x4 v6 v9 S10))))
def g284_2 (F : Nat) : Nat → Int32 → Int32 → Int32 → AmT → Option (Int32 × AmT)
  | 0, _, _, _, _ => none
  | n + 1, x1, x2, x3, S => am_ck x1 16 (if (S.1 109 x1.toNatClampNeg) ≤ x3 then (some (0, S)) else (am_b2 (f250 F x1 x2 x3 S) fun v2 S3 => am_ck v2 256 (if (S3.1 116 v2.toNatClampNeg) = 0 then (g284_31 F (fun x1 x2 x3 S => g284_2 F n x1 x2 x3 S) F x1 x2 x3 0 S3) else (some (1, S3)))))
-- X10_prints
def f284 (F : Nat) (x1 : Int32) (x2 : Int32) (S : AmT) : Option (Int32 × AmT) := g284_2 F F x1 x2 0 S
set_option maxHeartbeats 1000000 in
set_option maxRecDepth 20000 in
theorem e284_108 {Lg : Nat} {xs : Nat → Int32} {d F : Nat} {k2 : Int32 → Int32 → Int32 → AmT → Option (Int32 × AmT)} {k31 : Int32 → Int32 → Int32 → Int32 → AmT → Option (Int32 × AmT)} {x1 : Int32} {x2 : Int32} {x3 : Int32} {x4 : Int32} {s1 : Int32} {s2 : Int32} {w5 : Value} {w6 : Value} {S : AmT} {q : Int32 × AmT} (hd : 4 ≤ d) (hk2 : ∀ (x1 : Int32) (x2 : Int32) (x3 : Int32) (w4 : Value) (w5 : Value) (w6 : Value) (S : AmT) (q : Int32 × AmT), k2 x1 x2 x3 S = some q → Ex (am_X Lg xs) d 284 am_c284_2 [.ref 95, .int x1, .int x2, .int x3, w4, w5, w6] [] (hS S) (some q.1, hS q.2)) (hk31 : ∀ (x1 : Int32) (x2 : Int32) (x3 : Int32) (x4 : Int32) (w5 : Value) (w6 : Value) (S : AmT) (q : Int32 × AmT), k31 x1 x2 x3 x4 S = some q → Ex (am_X Lg xs) d 284 am_c284_31 [.ref 95, .int x1, .int x2, .int x3, .int x4, w5, w6] [] (hS S) (some q.1, hS q.2)) (H : g284_108 F k2 k31 x1 x2 x3 x4 s1 s2 S = some q) : Ex (am_X Lg xs) d 284 am_c284_108 [.ref 95, .int x1, .int x2, .int x3, .int x4, w5, w6] [.int s2, .int s1, .ref 95] (hS S) (some q.1, hS q.2) := by
  obtain ⟨d, rfl⟩ : ∃ d2, d = d2 + 1 := ⟨d - 1, by omega⟩
  unfold g284_108 at H
  refine ex_iadd ?_
  refine ex_putI rfl (by decide) (fun z => absurd z.1 (by decide)) ?_
  generalize ((am_upI S.1 95 33 (s1 + s2), S.2) : AmT) = S13 at H ⊢
  have H := am_lt_el H
  refine ex_iinc (L2 := [.ref 95, .int x1, .int x2, .int x3, .int (x4 + 1), w5, w6]) (v := (x4 + 1)) rfl (Nat.le_of_ble_eq_true rfl) (congrArg (fun z => x4 + z) (by decide)) rfl ?_
  refine ex_goto (ct := am_c284_31) rfl ?_
  exact hk31 _ _ _ _ _ _ _ _ H
set_option maxHeartbeats 1000000 in
set_option maxRecDepth 20000 in
theorem e284_75 {Lg : Nat} {xs : Nat → Int32} {d F : Nat} {k2 : Int32 → Int32 → Int32 → AmT → Option (Int32 × AmT)} {k31 : Int32 → Int32 → Int32 → Int32 → AmT → Option (Int32 × AmT)} {x1 : Int32} {x2 : Int32} {x3 : Int32} {x4 : Int32} {x5 : Int32} {s0 : Int32} {w6 : Value} {S : AmT} {q : Int32 × AmT} (hd : 4 ≤ d) (hk2 : ∀ (x1 : Int32) (x2 : Int32) (x3 : Int32) (w4 : Value) (w5 : Value) (w6 : Value) (S : AmT) (q : Int32 × AmT), k2 x1 x2 x3 S = some q → Ex (am_X Lg xs) d 284 am_c284_2 [.ref 95, .int x1, .int x2, .int x3, w4, w5, w6] [] (hS S) (some q.1, hS q.2)) (hk31 : ∀ (x1 : Int32) (x2 : Int32) (x3 : Int32) (x4 : Int32) (w5 : Value) (w6 : Value) (S : AmT) (q : Int32 × AmT), k31 x1 x2 x3 x4 S = some q → Ex (am_X Lg xs) d 284 am_c284_31 [.ref 95, .int x1, .int x2, .int x3, .int x4, w5, w6] [] (hS S) (some q.1, hS q.2)) (H : g284_75 F k2 k31 x1 x2 x3 x4 x5 s0 S = some q) : Ex (am_X Lg xs) d 284 am_c284_75 [.ref 95, .int x1, .int x2, .int x3, .int x4, .int x5, w6] [.int s0] (hS S) (some q.1, hS q.2) := by
  obtain ⟨d, rfl⟩ : ∃ d2, d = d2 + 1 := ⟨d - 1, by omega⟩
  unfold g284_75 at H
  refine ex_istore (L2 := [.ref 95, .int x1, .int x2, .int x3, .int x4, .int x5, .int s0]) (Nat.le_of_ble_eq_true rfl) rfl ?_
  refine ex_iload rfl ?_
  by_cases h11 : s0 ≤ 0
  · rw [if_pos h11] at H
    refine ex_if_le_j (ct := am_c284_85) h11 rfl ?_
    refine ex_aload_n rfl ?_
    refine ex_dupr ?_
    refine ex_gI rfl (by decide) ?_
    refine ex_aload_n rfl ?_
    refine ex_getR (w := 117) rfl rfl rfl ?_
    refine ex_iload rfl ?_
    obtain ⟨hj, H⟩ := am_ck_el H
    refine ex_iald (k := 2048) (v := S.1 117 x5.toNatClampNeg) rfl hj rfl ?_
    by_cases h12 : (S.1 117 x5.toNatClampNeg) = 0
    · rw [if_pos h12] at H
      refine ex_if_ne_f h12 ?_
      refine ex_iconst (v := 0) (by decide) ?_
      refine ex_goto (ct := am_c284_108) rfl ?_
      exact e284_108 hd hk2 hk31 H
    · rw [if_neg h12] at H
      refine ex_if_ne_j (ct := am_c284_104) h12 rfl ?_
      refine ex_aload_n rfl ?_
      refine ex_gI rfl (by decide) ?_
      exact e284_108 hd hk2 hk31 H
  · rw [if_neg h11] at H
    refine ex_if_le_f h11 ?_
    refine ex_iload rfl ?_
    have H := Option.some.inj H
    subst H
    exact ex_iret (M := 284) (Or.inl rfl)
set_option maxHeartbeats 1000000 in
set_option maxRecDepth 20000 in
theorem e284_31 {Lg : Nat} {xs : Nat → Int32} {d F : Nat} {k2 : Int32 → Int32 → Int32 → AmT → Option (Int32 × AmT)} (hd : 4 ≤ d) (hk2 : ∀ (x1 : Int32) (x2 : Int32) (x3 : Int32) (w4 : Value) (w5 : Value) (w6 : Value) (S : AmT) (q : Int32 × AmT), k2 x1 x2 x3 S = some q → Ex (am_X Lg xs) d 284 am_c284_2 [.ref 95, .int x1, .int x2, .int x3, w4, w5, w6] [] (hS S) (some q.1, hS q.2)) : ∀ (n : Nat) (x1 : Int32) (x2 : Int32) (x3 : Int32) (x4 : Int32) (w5 : Value) (w6 : Value) (S : AmT) (q : Int32 × AmT), g284_31 F k2 n x1 x2 x3 x4 S = some q → Ex (am_X Lg xs) d 284 am_c284_31 [.ref 95, .int x1, .int x2, .int x3, .int x4, w5, w6] [] (hS S) (some q.1, hS q.2) := by
  obtain ⟨d, rfl⟩ : ∃ d2, d = d2 + 1 := ⟨d - 1, by omega⟩
  intro n
  induction n with
  | zero =>
    intro x1 x2 x3 x4 w5 w6 S q H
    cases H
  | succ n ih =>
    intro x1 x2 x3 x4 w5 w6 S q H
    have H : (am_ck x1 16 (if (S.1 110 x1.toNatClampNeg) ≤ x4 then (k2 x1 x2 (x3 + 1) S) else (am_b2 (f251 F x1 x2 x3 x4 S) fun v6 S7 => am_ck v6 2048 (if (S7.1 117 v6.toNatClampNeg) = 0 then (g284_75 F k2 (fun x1 x2 x3 x4 S => g284_31 F k2 n x1 x2 x3 x4 S) x1 x2 x3 x4 v6 0 S7) else (am_b2 (f266 F x1 v6 0 0 S7) fun v9 S10 => g284_75 F k2 (fun x1 x2 x3 x4 S => g284_31 F k2 n x1 x2 x3 x4 S) x1 x2 x3 x4 v6 v9 S10))))) = some q := H
    refine ex_iload rfl ?_
    refine ex_aload_n rfl ?_
    refine ex_getR (w := 110) rfl rfl rfl ?_
    refine ex_iload_n rfl ?_
    obtain ⟨hj, H⟩ := am_ck_el H
    refine ex_iald (k := 16) (v := S.1 110 x1.toNatClampNeg) rfl hj rfl ?_
    by_cases h5 : (S.1 110 x1.toNatClampNeg) ≤ x4
    · rw [if_pos h5] at H
      refine ex_icmp_ge_j (ct := am_c284_118) h5 rfl ?_
      refine ex_iinc (L2 := [.ref 95, .int x1, .int x2, .int (x3 + 1), .int x4, w5, w6]) (v := (x3 + 1)) rfl (Nat.le_of_ble_eq_true rfl) (congrArg (fun z => x3 + z) (by decide)) rfl ?_
      refine ex_goto (ct := am_c284_2) rfl ?_
      exact hk2 _ _ _ _ _ _ _ _ H
    · rw [if_neg h5] at H
      refine ex_icmp_ge_f h5 ?_
      refine ex_iload_n rfl ?_
      refine ex_iload_n rfl ?_
      refine ex_iload_n rfl ?_
      refine ex_iload rfl ?_
      obtain ⟨v6, S7, hp, H⟩ := am_b2_el H
      refine ex_callS rfl rfl (Nat.le_of_ble_eq_true rfl) (Nat.le_of_ble_eq_true rfl) (r251 (by omega) hp) rfl ?_
      refine ex_istore (L2 := [.ref 95, .int x1, .int x2, .int x3, .int x4, .int v6, w6]) (Nat.le_of_ble_eq_true rfl) rfl ?_
      refine ex_aload_n rfl ?_
      refine ex_getR (w := 117) rfl rfl rfl ?_
      refine ex_iload rfl ?_
      obtain ⟨hj, H⟩ := am_ck_el H
      refine ex_iald (k := 2048) (v := S7.1 117 v6.toNatClampNeg) rfl hj rfl ?_
      by_cases h8 : (S7.1 117 v6.toNatClampNeg) = 0
      · rw [if_pos h8] at H
        refine ex_if_ne_f h8 ?_
        refine ex_iconst (v := 0) (by decide) ?_
        refine ex_goto (ct := am_c284_75) rfl ?_
        exact e284_75 hd hk2 (fun x1 x2 x3 x4 w5 w6 S q H => ih x1 x2 x3 x4 w5 w6 S q H) H
      · rw [if_neg h8] at H
        refine ex_if_ne_j (ct := am_c284_66) h8 rfl ?_
        refine ex_aload_n rfl ?_
        refine ex_iload_n rfl ?_
        refine ex_iload rfl ?_
        refine ex_iconst (v := 0) (by decide) ?_
        refine ex_iconst (v := 0) (by decide) ?_
        obtain ⟨v9, S10, hp, H⟩ := am_b2_el H
        refine ex_callV rfl rfl (Nat.le_of_ble_eq_true rfl) (Nat.le_of_ble_eq_true rfl) rfl (r266 (by omega) hp) rfl ?_
        exact e284_75 hd hk2 (fun x1 x2 x3 x4 w5 w6 S q H => ih x1 x2 x3 x4 w5 w6 S q H) H
set_option maxHeartbeats 1000000 in
set_option maxRecDepth 20000 in
theorem e284_2 {Lg : Nat} {xs : Nat → Int32} {d F : Nat} (hd : 4 ≤ d) : ∀ (n : Nat) (x1 : Int32) (x2 : Int32) (x3 : Int32) (w4 : Value) (w5 : Value) (w6 : Value) (S : AmT) (q : Int32 × AmT), g284_2 F n x1 x2 x3 S = some q → Ex (am_X Lg xs) d 284 am_c284_2 [.ref 95, .int x1, .int x2, .int x3, w4, w5, w6] [] (hS S) (some q.1, hS q.2) := by
  obtain ⟨d, rfl⟩ : ∃ d2, d = d2 + 1 := ⟨d - 1, by omega⟩
  intro n
  induction n with
  | zero =>
    intro x1 x2 x3 w4 w5 w6 S q H
    cases H
  | succ n ih =>
    intro x1 x2 x3 w4 w5 w6 S q H
    have H : (am_ck x1 16 (if (S.1 109 x1.toNatClampNeg) ≤ x3 then (some (0, S)) else (am_b2 (f250 F x1 x2 x3 S) fun v2 S3 => am_ck v2 256 (if (S3.1 116 v2.toNatClampNeg) = 0 then (g284_31 F (fun x1 x2 x3 S => g284_2 F n x1 x2 x3 S) F x1 x2 x3 0 S3) else (some (1, S3)))))) = some q := H
    refine ex_iload_n rfl ?_
    refine ex_aload_n rfl ?_
    refine ex_getR (w := 109) rfl rfl rfl ?_
    refine ex_iload_n rfl ?_
    obtain ⟨hj, H⟩ := am_ck_el H
    refine ex_iald (k := 16) (v := S.1 109 x1.toNatClampNeg) rfl hj rfl ?_
    by_cases h1 : (S.1 109 x1.toNatClampNeg) ≤ x3
    · rw [if_pos h1] at H
      refine ex_icmp_ge_j (ct := am_c284_124) h1 rfl ?_
      refine ex_iconst (v := 0) (by decide) ?_
      have H := Option.some.inj H
      subst H
      exact ex_iret (M := 284) (Or.inl rfl)
    · rw [if_neg h1] at H
      refine ex_icmp_ge_f h1 ?_
      refine ex_aload_n rfl ?_
      refine ex_getR (w := 116) rfl rfl rfl ?_
      refine ex_iload_n rfl ?_
      refine ex_iload_n rfl ?_
      refine ex_iload_n rfl ?_
      obtain ⟨v2, S3, hp, H⟩ := am_b2_el H
      refine ex_callS rfl rfl (Nat.le_of_ble_eq_true rfl) (Nat.le_of_ble_eq_true rfl) (r250 (by omega) hp) rfl ?_
      obtain ⟨hj, H⟩ := am_ck_el H
      refine ex_bald (k := 256) (v := S3.1 116 v2.toNatClampNeg) rfl hj rfl ?_
      by_cases h4 : (S3.1 116 v2.toNatClampNeg) = 0
      · rw [if_pos h4] at H
        refine ex_if_eq_j (ct := am_c284_28) h4 rfl ?_
        refine ex_iconst (v := 0) (by decide) ?_
        refine ex_istore (L2 := [.ref 95, .int x1, .int x2, .int x3, .int 0, w5, w6]) (Nat.le_of_ble_eq_true rfl) rfl ?_
        exact e284_31 hd (fun x1 x2 x3 w4 w5 w6 S q H => ih x1 x2 x3 w4 w5 w6 S q H) _ _ _ _ _ _ _ _ _ H
      · rw [if_neg h4] at H
        refine ex_if_eq_f h4 ?_
        refine ex_iconst (v := 1) (by decide) ?_
        have H := Option.some.inj H
        subst H
        exact ex_iret (M := 284) (Or.inl rfl)
set_option maxHeartbeats 1000000 in
set_option maxRecDepth 20000 in
theorem r284 {Lg : Nat} {xs : Nat → Int32} {d F : Nat} {x1 : Int32} {x2 : Int32} {S : AmT} {q : Int32 × AmT} (hd : 4 ≤ d) (H : f284 F x1 x2 S = some q) : Ex (am_X Lg xs) d 284 (am_P 284) (am_ini (am_Mi 284).1 [.ref 95, .int x1, .int x2]) [] (hS S) (some q.1, hS q.2) := by
  obtain ⟨d, rfl⟩ : ∃ d2, d = d2 + 1 := ⟨d - 1, by omega⟩
  unfold f284 at H
  show Ex (am_X Lg xs) _ 284 am_c284_0 [.ref 95, .int x1, .int x2, .long 0, .long 0, .long 0, .long 0] [] (hS S) (some q.1, hS q.2)
  refine ex_iconst (v := 0) (by decide) ?_
  refine ex_istore_n (L2 := [.ref 95, .int x1, .int x2, .int 0, .long 0, .long 0, .long 0]) (Nat.le_of_ble_eq_true rfl) rfl ?_
  exact e284_2 hd _ _ _ _ _ _ _ _ _ H
def g8_5 (F : Nat) : Nat → Int32 → Int32 → Int32 → Int32 → AmT → Option (Int32 × AmT)
  | 0, _, _, _, _, _ => none
  | n + 1, x1, x2, x3, x4, S => if (kg S.1 75 4 x1) ≤ x4 then (some (x3, S)) else (am_b2 (f7 F x1 x4 S) fun v2 S3 => am_b2 (f97 F v2 S3) fun v4 S5 => am_b2 (f98 F v2 S5) fun v6 S7 => am_b2 (f29 F x2 v4 v6 v2 S7) fun v8 S9 => if 0 ≤ v8 then (g8_5 F n x1 x2 (x3 + v8) (x4 + 1) S9) else (some (v8, S9)))
-- X0_foldSheets
def f8 (F : Nat) (x1 : Int32) (x2 : Int32) (S : AmT) : Option (Int32 × AmT) := g8_5 F F x1 x2 0 0 S
set_option maxHeartbeats 1000000 in
set_option maxRecDepth 20000 in
theorem e8_5 {Lg : Nat} {xs : Nat → Int32} {d F : Nat} (hd : 5 ≤ d) : ∀ (n : Nat) (x1 : Int32) (x2 : Int32) (x3 : Int32) (x4 : Int32) (w5 : Value) (w6 : Value) (S : AmT) (q : Int32 × AmT), g8_5 F n x1 x2 x3 x4 S = some q → Ex (am_X Lg xs) d 8 am_c8_5 [.ref 69, .int x1, .int x2, .int x3, .int x4, w5, w6] [] (hS S) (some q.1, hS q.2) := by
  obtain ⟨d, rfl⟩ : ∃ d2, d = d2 + 1 := ⟨d - 1, by omega⟩
  intro n
  induction n with
  | zero =>
    intro x1 x2 x3 x4 w5 w6 S q H
    cases H
  | succ n ih =>
    intro x1 x2 x3 x4 w5 w6 S q H
    have H : (if (kg S.1 75 4 x1) ≤ x4 then (some (x3, S)) else (am_b2 (f7 F x1 x4 S) fun v2 S3 => am_b2 (f97 F v2 S3) fun v4 S5 => am_b2 (f98 F v2 S5) fun v6 S7 => am_b2 (f29 F x2 v4 v6 v2 S7) fun v8 S9 => if 0 ≤ v8 then (g8_5 F n x1 x2 (x3 + v8) (x4 + 1) S9) else (some (v8, S9)))) = some q := H
    refine ex_iload rfl ?_
    refine ex_aload_n rfl ?_
    refine ex_getR (w := 74) rfl rfl rfl ?_
    refine ex_iload_n rfl ?_
    refine ex_kget (c := 74) (ar := 75) (n := 4) rfl (Nat.le_of_ble_eq_true rfl) ?_
    by_cases h1 : (kg S.1 75 4 x1) ≤ x4
    · rw [if_pos h1] at H
      refine ex_icmp_ge_j (ct := am_c8_76) h1 rfl ?_
      refine ex_iload_n rfl ?_
      have H := Option.some.inj H
      subst H
      exact ex_iret (M := 8) (Or.inl rfl)
    · rw [if_neg h1] at H
      refine ex_icmp_ge_f h1 ?_
      refine ex_aload_n rfl ?_
      refine ex_iload_n rfl ?_
      refine ex_iload rfl ?_
      obtain ⟨v2, S3, hp, H⟩ := am_b2_el H
      refine ex_callV rfl rfl (Nat.le_of_ble_eq_true rfl) (Nat.le_of_ble_eq_true rfl) rfl (r7 (by omega) hp) rfl ?_
      refine ex_istore (L2 := [.ref 69, .int x1, .int x2, .int x3, .int x4, .int v2, w6]) (Nat.le_of_ble_eq_true rfl) rfl ?_
      refine ex_aload_n rfl ?_
      refine ex_getR (w := 22) rfl rfl rfl ?_
      refine ex_iload_n rfl ?_
      refine ex_aload_n rfl ?_
      refine ex_getR (w := 46) rfl rfl rfl ?_
      refine ex_iload rfl ?_
      obtain ⟨v4, S5, hp, H⟩ := am_b2_el H
      refine ex_callV rfl rfl (Nat.le_of_ble_eq_true rfl) (Nat.le_of_ble_eq_true rfl) rfl (r97 (by omega) hp) rfl ?_
      refine ex_aload_n rfl ?_
      refine ex_getR (w := 46) rfl rfl rfl ?_
      refine ex_iload rfl ?_
      obtain ⟨v6, S7, hp, H⟩ := am_b2_el H
      refine ex_callV rfl rfl (Nat.le_of_ble_eq_true rfl) (Nat.le_of_ble_eq_true rfl) rfl (r98 (by omega) hp) rfl ?_
      refine ex_iload rfl ?_
      obtain ⟨v8, S9, hp, H⟩ := am_b2_el H
      refine ex_callV rfl rfl (Nat.le_of_ble_eq_true rfl) (Nat.le_of_ble_eq_true rfl) rfl (r29 (by omega) hp) rfl ?_
      refine ex_istore (L2 := [.ref 69, .int x1, .int x2, .int x3, .int x4, .int v2, .int v8]) (Nat.le_of_ble_eq_true rfl) rfl ?_
      refine ex_iload rfl ?_
      by_cases h10 : 0 ≤ v8
      · rw [if_pos h10] at H
        refine ex_if_ge_j (ct := am_c8_65) h10 rfl ?_
        refine ex_iload_n rfl ?_
        refine ex_iload rfl ?_
        refine ex_iadd ?_
        refine ex_istore_n (L2 := [.ref 69, .int x1, .int x2, .int (x3 + v8), .int x4, .int v2, .int v8]) (Nat.le_of_ble_eq_true rfl) rfl ?_
        refine ex_iinc (L2 := [.ref 69, .int x1, .int x2, .int (x3 + v8), .int (x4 + 1), .int v2, .int v8]) (v := (x4 + 1)) rfl (Nat.le_of_ble_eq_true rfl) (congrArg (fun z => x4 + z) (by decide)) rfl ?_
        refine ex_goto (ct := am_c8_5) rfl ?_
        exact ih _ _ _ _ _ _ _ _ H
      · rw [if_neg h10] at H
        refine ex_if_ge_f h10 ?_
        refine ex_iload rfl ?_
        have H := Option.some.inj H
        subst H
        exact ex_iret (M := 8) (Or.inl rfl)
set_option maxHeartbeats 1000000 in
set_option maxRecDepth 20000 in
theorem r8 {Lg : Nat} {xs : Nat → Int32} {d F : Nat} {x1 : Int32} {x2 : Int32} {S : AmT} {q : Int32 × AmT} (hd : 5 ≤ d) (H : f8 F x1 x2 S = some q) : Ex (am_X Lg xs) d 8 (am_P 8) (am_ini (am_Mi 8).1 [.ref 69, .int x1, .int x2]) [] (hS S) (some q.1, hS q.2) := by
  obtain ⟨d, rfl⟩ : ∃ d2, d = d2 + 1 := ⟨d - 1, by omega⟩
  unfold f8 at H
  show Ex (am_X Lg xs) _ 8 am_c8_0 [.ref 69, .int x1, .int x2, .long 0, .long 0, .long 0, .long 0] [] (hS S) (some q.1, hS q.2)
  refine ex_iconst (v := 0) (by decide) ?_
  refine ex_istore_n (L2 := [.ref 69, .int x1, .int x2, .int 0, .long 0, .long 0, .long 0]) (Nat.le_of_ble_eq_true rfl) rfl ?_
  refine ex_iconst (v := 0) (by decide) ?_
  refine ex_istore (L2 := [.ref 69, .int x1, .int x2, .int 0, .int 0, .long 0, .long 0]) (Nat.le_of_ble_eq_true rfl) rfl ?_
  exact e8_5 hd _ _ _ _ _ _ _ _ _ H
-- X6_work
def f89 (F : Nat) (x1 : Int32) (x2 : Int32) (S : AmT) : Option (Int32 × AmT) := if x2 = 0 then (am_b2 (f90 F S) fun v2 S3 => some (v2, S3)) else if x2 = 1 then (am_b2 (f91 F x1 0 S) fun v5 S6 => some (v5, S6)) else if x2 = 2 then (am_b2 (f91 F x1 1 S) fun v8 S9 => some (v8, S9)) else if x2 = 3 then (am_b2 (f119 F x1 S) fun v11 S12 => am_b2 (f21 F v11 S12) fun v13 S14 => if v13 = 0 then (some ((-11), S14)) else (am_b2 (f97 F x1 S14) fun v16 S17 => am_b2 (f98 F x1 S17) fun v18 S19 => am_b2 (f29 F v11 v16 v18 x1 S19) fun v20 S21 => some (v20, S21))) else (am_b2 (f92 F x1 S) fun v22 S23 => some (v22, S23))
set_option maxHeartbeats 1000000 in
set_option maxRecDepth 20000 in
theorem r89 {Lg : Nat} {xs : Nat → Int32} {d F : Nat} {x1 : Int32} {x2 : Int32} {S : AmT} {q : Int32 × AmT} (hd : 5 ≤ d) (H : f89 F x1 x2 S = some q) : Ex (am_X Lg xs) d 89 (am_P 89) (am_ini (am_Mi 89).1 [.ref 86, .int x1, .int x2]) [] (hS S) (some q.1, hS q.2) := by
  obtain ⟨d, rfl⟩ : ∃ d2, d = d2 + 1 := ⟨d - 1, by omega⟩
  unfold f89 at H
  show Ex (am_X Lg xs) _ 89 am_c89_0 [.ref 86, .int x1, .int x2, .long 0] [] (hS S) (some q.1, hS q.2)
  refine ex_iload_n rfl ?_
  by_cases h1 : x2 = 0
  · rw [if_pos h1] at H
    refine ex_table (off := 31) (ct := am_c89_32) (by rw [h1]; decide) rfl ?_
    refine ex_aload_n rfl ?_
    obtain ⟨v2, S3, hp, H⟩ := am_b2_el H
    refine ex_callV rfl rfl (Nat.le_of_ble_eq_true rfl) (Nat.le_of_ble_eq_true rfl) rfl (r90 (by omega) hp) rfl ?_
    have H := Option.some.inj H
    subst H
    exact ex_iret (M := 89) (Or.inl rfl)
  rw [if_neg h1] at H
  by_cases h4 : x2 = 1
  · rw [if_pos h4] at H
    refine ex_table (off := 36) (ct := am_c89_37) (by rw [h4]; decide) rfl ?_
    refine ex_aload_n rfl ?_
    refine ex_iload_n rfl ?_
    refine ex_iconst (v := 0) (by decide) ?_
    obtain ⟨v5, S6, hp, H⟩ := am_b2_el H
    refine ex_callV rfl rfl (Nat.le_of_ble_eq_true rfl) (Nat.le_of_ble_eq_true rfl) rfl (r91 (by omega) hp) rfl ?_
    have H := Option.some.inj H
    subst H
    exact ex_iret (M := 89) (Or.inl rfl)
  rw [if_neg h4] at H
  by_cases h7 : x2 = 2
  · rw [if_pos h7] at H
    refine ex_table (off := 43) (ct := am_c89_44) (by rw [h7]; decide) rfl ?_
    refine ex_aload_n rfl ?_
    refine ex_iload_n rfl ?_
    refine ex_iconst (v := 1) (by decide) ?_
    obtain ⟨v8, S9, hp, H⟩ := am_b2_el H
    refine ex_callV rfl rfl (Nat.le_of_ble_eq_true rfl) (Nat.le_of_ble_eq_true rfl) rfl (r91 (by omega) hp) rfl ?_
    have H := Option.some.inj H
    subst H
    exact ex_iret (M := 89) (Or.inl rfl)
  rw [if_neg h7] at H
  by_cases h10 : x2 = 3
  · rw [if_pos h10] at H
    refine ex_table (off := 50) (ct := am_c89_51) (by rw [h10]; decide) rfl ?_
    refine ex_aload_n rfl ?_
    refine ex_getR (w := 46) rfl rfl rfl ?_
    refine ex_iload_n rfl ?_
    obtain ⟨v11, S12, hp, H⟩ := am_b2_el H
    refine ex_callV rfl rfl (Nat.le_of_ble_eq_true rfl) (Nat.le_of_ble_eq_true rfl) rfl (r119 (by omega) hp) rfl ?_
    refine ex_istore_n (L2 := [.ref 86, .int x1, .int x2, .int v11]) (Nat.le_of_ble_eq_true rfl) rfl ?_
    refine ex_aload_n rfl ?_
    refine ex_getR (w := 22) rfl rfl rfl ?_
    refine ex_iload_n rfl ?_
    obtain ⟨v13, S14, hp, H⟩ := am_b2_el H
    refine ex_callV rfl rfl (Nat.le_of_ble_eq_true rfl) (Nat.le_of_ble_eq_true rfl) rfl (r21 (by omega) hp) rfl ?_
    by_cases h15 : v13 = 0
    · rw [if_pos h15] at H
      refine ex_if_ne_f h15 ?_
      refine ex_bipush (v := (-11)) (by decide) ?_
      have H := Option.some.inj H
      subst H
      exact ex_iret (M := 89) (Or.inl rfl)
    · rw [if_neg h15] at H
      refine ex_if_ne_j (ct := am_c89_74) h15 rfl ?_
      refine ex_aload_n rfl ?_
      refine ex_getR (w := 22) rfl rfl rfl ?_
      refine ex_iload_n rfl ?_
      refine ex_aload_n rfl ?_
      refine ex_getR (w := 46) rfl rfl rfl ?_
      refine ex_iload_n rfl ?_
      obtain ⟨v16, S17, hp, H⟩ := am_b2_el H
      refine ex_callV rfl rfl (Nat.le_of_ble_eq_true rfl) (Nat.le_of_ble_eq_true rfl) rfl (r97 (by omega) hp) rfl ?_
      refine ex_aload_n rfl ?_
      refine ex_getR (w := 46) rfl rfl rfl ?_
      refine ex_iload_n rfl ?_
      obtain ⟨v18, S19, hp, H⟩ := am_b2_el H
      refine ex_callV rfl rfl (Nat.le_of_ble_eq_true rfl) (Nat.le_of_ble_eq_true rfl) rfl (r98 (by omega) hp) rfl ?_
      refine ex_iload_n rfl ?_
      obtain ⟨v20, S21, hp, H⟩ := am_b2_el H
      refine ex_callV rfl rfl (Nat.le_of_ble_eq_true rfl) (Nat.le_of_ble_eq_true rfl) rfl (r29 (by omega) hp) rfl ?_
      have H := Option.some.inj H
      subst H
      exact ex_iret (M := 89) (Or.inl rfl)
  rw [if_neg h10] at H
  refine ex_table (off := 99) (ct := am_c89_100) (am_sw_out 4 (by decide) (by decide) (by decide) (fun k hk => match k, hk with | 0, _ => h1 | 1, _ => h4 | 2, _ => h7 | 3, _ => h10 | k + 4, hk => absurd hk (by omega))) rfl ?_
  refine ex_aload_n rfl ?_
  refine ex_iload_n rfl ?_
  obtain ⟨v22, S23, hp, H⟩ := am_b2_el H
  refine ex_callV rfl rfl (Nat.le_of_ble_eq_true rfl) (Nat.le_of_ble_eq_true rfl) rfl (r92 (by omega) hp) rfl ?_
  have H := Option.some.inj H
  subst H
  exact ex_iret (M := 89) (Or.inl rfl)
def g110_30 (F : Nat) : Nat → Int32 → Int32 → Int32 → Int32 → AmT → Option (Int32 × AmT)
  | 0, _, _, _, _, _ => none
  | n + 1, x1, x3, x4, x5, S => if x4 ≤ x5 then (some (x4, S)) else (am_b2 (f111 F x1 x5 (x3 + x5) S) fun v4 S5 => if 0 ≤ v4 then (g110_30 F n x1 x3 x4 (x5 + 1) S5) else (some (v4, S5)))
-- X7_layPages
def f110 (F : Nat) (x1 : Int32) (x2 : Int32) (x3 : Int32) (S : AmT) : Option (Int32 × AmT) := am_b2 (f29 F x2 (kg S.1 52 8 x1) (kg S.1 54 8 x1) x1 S) fun v1 S2 => g110_30 F F x1 x3 v1 0 S2
set_option maxHeartbeats 1000000 in
set_option maxRecDepth 20000 in
theorem e110_30 {Lg : Nat} {xs : Nat → Int32} {d F : Nat} (hd : 5 ≤ d) : ∀ (n : Nat) (x1 : Int32) (x3 : Int32) (x4 : Int32) (x5 : Int32) (w2 : Value) (w6 : Value) (S : AmT) (q : Int32 × AmT), g110_30 F n x1 x3 x4 x5 S = some q → Ex (am_X Lg xs) d 110 am_c110_30 [.ref 46, .int x1, w2, .int x3, .int x4, .int x5, w6] [] (hS S) (some q.1, hS q.2) := by
  obtain ⟨d, rfl⟩ : ∃ d2, d = d2 + 1 := ⟨d - 1, by omega⟩
  intro n
  induction n with
  | zero =>
    intro x1 x3 x4 x5 w2 w6 S q H
    cases H
  | succ n ih =>
    intro x1 x3 x4 x5 w2 w6 S q H
    have H : (if x4 ≤ x5 then (some (x4, S)) else (am_b2 (f111 F x1 x5 (x3 + x5) S) fun v4 S5 => if 0 ≤ v4 then (g110_30 F n x1 x3 x4 (x5 + 1) S5) else (some (v4, S5)))) = some q := H
    refine ex_iload rfl ?_
    refine ex_iload rfl ?_
    by_cases h3 : x4 ≤ x5
    · rw [if_pos h3] at H
      refine ex_icmp_ge_j (ct := am_c110_64) h3 rfl ?_
      refine ex_iload rfl ?_
      have H := Option.some.inj H
      subst H
      exact ex_iret (M := 110) (Or.inl rfl)
    · rw [if_neg h3] at H
      refine ex_icmp_ge_f h3 ?_
      refine ex_aload_n rfl ?_
      refine ex_iload_n rfl ?_
      refine ex_iload rfl ?_
      refine ex_iload_n rfl ?_
      refine ex_iload rfl ?_
      refine ex_iadd ?_
      obtain ⟨v4, S5, hp, H⟩ := am_b2_el H
      refine ex_callV rfl rfl (Nat.le_of_ble_eq_true rfl) (Nat.le_of_ble_eq_true rfl) rfl (r111 (by omega) hp) rfl ?_
      refine ex_istore (L2 := [.ref 46, .int x1, w2, .int x3, .int x4, .int x5, .int v4]) (Nat.le_of_ble_eq_true rfl) rfl ?_
      refine ex_iload rfl ?_
      by_cases h6 : 0 ≤ v4
      · rw [if_pos h6] at H
        refine ex_if_ge_j (ct := am_c110_58) h6 rfl ?_
        refine ex_iinc (L2 := [.ref 46, .int x1, w2, .int x3, .int x4, .int (x5 + 1), .int v4]) (v := (x5 + 1)) rfl (Nat.le_of_ble_eq_true rfl) (congrArg (fun z => x5 + z) (by decide)) rfl ?_
        refine ex_goto (ct := am_c110_30) rfl ?_
        exact ih _ _ _ _ _ _ _ _ H
      · rw [if_neg h6] at H
        refine ex_if_ge_f h6 ?_
        refine ex_iload rfl ?_
        have H := Option.some.inj H
        subst H
        exact ex_iret (M := 110) (Or.inl rfl)
set_option maxHeartbeats 1000000 in
set_option maxRecDepth 20000 in
theorem r110 {Lg : Nat} {xs : Nat → Int32} {d F : Nat} {x1 : Int32} {x2 : Int32} {x3 : Int32} {S : AmT} {q : Int32 × AmT} (hd : 5 ≤ d) (H : f110 F x1 x2 x3 S = some q) : Ex (am_X Lg xs) d 110 (am_P 110) (am_ini (am_Mi 110).1 [.ref 46, .int x1, .int x2, .int x3]) [] (hS S) (some q.1, hS q.2) := by
  obtain ⟨d, rfl⟩ : ∃ d2, d = d2 + 1 := ⟨d - 1, by omega⟩
  unfold f110 at H
  show Ex (am_X Lg xs) _ 110 am_c110_0 [.ref 46, .int x1, .int x2, .int x3, .long 0, .long 0, .long 0] [] (hS S) (some q.1, hS q.2)
  refine ex_aload_n rfl ?_
  refine ex_getR (w := 22) rfl rfl rfl ?_
  refine ex_iload_n rfl ?_
  refine ex_aload_n rfl ?_
  refine ex_getR (w := 51) rfl rfl rfl ?_
  refine ex_iload_n rfl ?_
  refine ex_kget (c := 51) (ar := 52) (n := 8) rfl (Nat.le_of_ble_eq_true rfl) ?_
  refine ex_aload_n rfl ?_
  refine ex_getR (w := 53) rfl rfl rfl ?_
  refine ex_iload_n rfl ?_
  refine ex_kget (c := 53) (ar := 54) (n := 8) rfl (Nat.le_of_ble_eq_true rfl) ?_
  refine ex_iload_n rfl ?_
  obtain ⟨v1, S2, hp, H⟩ := am_b2_el H
  refine ex_callV rfl rfl (Nat.le_of_ble_eq_true rfl) (Nat.le_of_ble_eq_true rfl) rfl (r29 (by omega) hp) rfl ?_
  refine ex_istore (L2 := [.ref 46, .int x1, .int x2, .int x3, .int v1, .long 0, .long 0]) (Nat.le_of_ble_eq_true rfl) rfl ?_
  refine ex_iconst (v := 0) (by decide) ?_
  refine ex_istore (L2 := [.ref 46, .int x1, .int x2, .int x3, .int v1, .int 0, .long 0]) (Nat.le_of_ble_eq_true rfl) rfl ?_
  exact e110_30 hd _ _ _ _ _ _ _ _ _ H
