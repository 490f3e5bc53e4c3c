/-! printed by wip/gen/gen20.py -/
-- X10_signature
def f269 (F : Nat) (x1 : Int32) (S : AmT) : Option (Int32 × AmT) := am_b2 (f202 F S) fun v1 S2 => if v1 = 0 then (am_b2 (f197 F x1 0 1 S2) fun v4 S5 => if v4 = 0 then (some ((-1), S5)) else (if (S5.1 96 3) = 4 then (some ((-3), S5)) else ((f201 F S5).bind fun S8 => am_lt ((am_upI S8.1 96 (3 : Int32).toNatClampNeg ((S8.1 96 3) + 1), S8.2) : AmT) fun S9 => am_ck (S8.1 96 3) 8 (am_lt ((am_upI S9.1 119 (S8.1 96 3).toNatClampNeg x1, S9.2) : AmT) fun S10 => am_ck (S8.1 96 3) 8 (am_lt ((am_upI S10.1 120 (S8.1 96 3).toNatClampNeg 0, S10.2) : AmT) fun S11 => am_ck (S8.1 96 3) 8 (am_lt ((am_upI S11.1 122 (S8.1 96 3).toNatClampNeg 0, S11.2) : AmT) fun S12 => some ((S8.1 96 3), S12))))))) else (some ((-4), S2))
set_option maxHeartbeats 1000000 in
set_option maxRecDepth 20000 in
theorem r269 {Lg : Nat} {xs : Nat → Int32} {d F : Nat} {x1 : Int32} {S : AmT} {q : Int32 × AmT} (hd : 3 ≤ d) (H : f269 F x1 S = some q) : Ex (am_X Lg xs) d 269 (am_P 269) (am_ini (am_Mi 269).1 [.ref 95, .int x1]) [] (hS S) (some q.1, hS q.2) := by
  obtain ⟨d, rfl⟩ : ∃ d2, d = d2 + 1 := ⟨d - 1, by omega⟩
  unfold f269 at H
  show Ex (am_X Lg xs) _ 269 am_c269_0 [.ref 95, .int x1, .long 0] [] (hS S) (some q.1, hS q.2)
  refine ex_aload_n rfl ?_
  obtain ⟨v1, S2, hp, H⟩ := am_b2_el H
  refine ex_callV rfl rfl (Nat.le_of_ble_eq_true rfl) (Nat.le_of_ble_eq_true rfl) rfl (r202 (by omega) hp) rfl ?_
  by_cases h3 : v1 = 0
  · rw [if_pos h3] at H
    refine ex_if_eq_j (ct := am_c269_10) h3 rfl ?_
    refine ex_iload_n rfl ?_
    refine ex_iconst (v := 0) (by decide) ?_
    refine ex_iconst (v := 1) (by decide) ?_
    obtain ⟨v4, S5, hp, H⟩ := am_b2_el H
    refine ex_callS rfl rfl (Nat.le_of_ble_eq_true rfl) (Nat.le_of_ble_eq_true rfl) (r197 (by omega) hp) rfl ?_
    by_cases h6 : v4 = 0
    · rw [if_pos h6] at H
      refine ex_if_ne_f h6 ?_
      refine ex_iconst (v := (-1)) (by decide) ?_
      have H := Option.some.inj H
      subst H
      exact ex_iret (M := 269) (Or.inl rfl)
    · rw [if_neg h6] at H
      refine ex_if_ne_j (ct := am_c269_21) h6 rfl ?_
      refine ex_aload_n rfl ?_
      refine ex_getR (w := 96) rfl rfl rfl ?_
      refine ex_iconst (v := 3) (by decide) ?_
      refine ex_iald (v := S5.1 96 3) rfl (by decide) rfl ?_
      refine ex_iconst (v := 4) (by decide) ?_
      by_cases h7 : (S5.1 96 3) = 4
      · rw [if_pos h7] at H
        refine ex_icmp_ne_f h7 ?_
        refine ex_bipush (v := (-3)) (by decide) ?_
        have H := Option.some.inj H
        subst H
        exact ex_iret (M := 269) (Or.inl rfl)
      · rw [if_neg h7] at H
        refine ex_icmp_ne_j (ct := am_c269_34) h7 rfl ?_
        refine ex_aload_n rfl ?_
        obtain ⟨S8, hp, H⟩ := Option.bind_eq_some_iff.mp H
        refine ex_callV rfl rfl (Nat.le_of_ble_eq_true rfl) (Nat.le_of_ble_eq_true rfl) rfl (r201 (by omega) hp) rfl ?_
        refine ex_aload_n rfl ?_
        refine ex_getR (w := 96) rfl rfl rfl ?_
        refine ex_iconst (v := 3) (by decide) ?_
        refine ex_iald (v := S8.1 96 3) rfl (by decide) rfl ?_
        refine ex_istore_n (L2 := [.ref 95, .int x1, .int (S8.1 96 3)]) (Nat.le_of_ble_eq_true rfl) rfl ?_
        refine ex_aload_n rfl ?_
        refine ex_getR (w := 96) rfl rfl rfl ?_
        refine ex_iconst (v := 3) (by decide) ?_
        refine ex_dup2 ?_
        refine ex_iald (v := S8.1 96 3) rfl (by decide) rfl ?_
        refine ex_iconst (v := 1) (by decide) ?_
        refine ex_iadd ?_
        refine ex_iast (k := 32) rfl rfl (by decide) ?_
        generalize ((am_upI S8.1 96 (3 : Int32).toNatClampNeg ((S8.1 96 3) + 1), S8.2) : AmT) = S9 at H ⊢
        have H := am_lt_el H
        refine ex_aload_n rfl ?_
        refine ex_getR (w := 119) rfl rfl rfl ?_
        refine ex_iload_n rfl ?_
        refine ex_iload_n rfl ?_
        obtain ⟨hj, H⟩ := am_ck_el H
        refine ex_iast (k := 8) rfl rfl hj ?_
        generalize ((am_upI S9.1 119 (S8.1 96 3).toNatClampNeg x1, S9.2) : AmT) = S10 at H ⊢
        have H := am_lt_el H
        refine ex_aload_n rfl ?_
        refine ex_getR (w := 120) rfl rfl rfl ?_
        refine ex_iload_n rfl ?_
        refine ex_iconst (v := 0) (by decide) ?_
        obtain ⟨hj, H⟩ := am_ck_el H
        refine ex_iast (k := 8) rfl rfl hj ?_
        generalize ((am_upI S10.1 120 (S8.1 96 3).toNatClampNeg 0, S10.2) : AmT) = S11 at H ⊢
        have H := am_lt_el H
        refine ex_aload_n rfl ?_
        refine ex_getR (w := 122) rfl rfl rfl ?_
        refine ex_iload_n rfl ?_
        refine ex_iconst (v := 0) (by decide) ?_
        obtain ⟨hj, H⟩ := am_ck_el H
        refine ex_bast (k := 8) rfl rfl hj (by decide) ?_
        generalize ((am_upI S11.1 122 (S8.1 96 3).toNatClampNeg 0, S11.2) : AmT) = S12 at H ⊢
        have H := am_lt_el H
        refine ex_iload_n rfl ?_
        have H := Option.some.inj H
        subst H
        exact ex_iret (M := 269) (Or.inl rfl)
  · rw [if_neg h3] at H
    refine ex_if_eq_f h3 ?_
    refine ex_bipush (v := (-4)) (by decide) ?_
    have H := Option.some.inj H
    subst H
    exact ex_iret (M := 269) (Or.inl rfl)
-- X10_gather
def f270 (F : Nat) (x1 : Int32) (x2 : Int32) (S : AmT) : Option (Int32 × AmT) := am_b2 (f202 F S) fun v1 S2 => if v1 = 0 then (am_b2 (f268 F x1 S2) fun v4 S5 => if v4 = 0 then (some ((-2), S5)) else (am_b2 (f249 F x2 S5) fun v7 S8 => if v7 = 0 then (some ((-2), S8)) else (am_ck x2 16 (if (S8.1 115 x2.toNatClampNeg) < 0 then (am_ck x1 8 (if (S8.1 120 x1.toNatClampNeg) = 4 then (some ((-3), S8)) else ((f201 F S8).bind fun S12 => am_ck x2 16 (am_lt ((am_upI S12.1 115 x2.toNatClampNeg x1, S12.2) : AmT) fun S13 => am_ck x1 8 (am_ck ((4 * x1) + (S13.1 120 x1.toNatClampNeg)) 32 (am_lt ((am_upI S13.1 121 ((4 * x1) + (S13.1 120 x1.toNatClampNeg)).toNatClampNeg x2, S13.2) : AmT) fun S14 => am_ck x1 8 (am_ck x1 8 (am_lt ((am_upI S14.1 120 x1.toNatClampNeg ((S14.1 120 x1.toNatClampNeg) + 1), S14.2) : AmT) fun S15 => am_ck x1 8 (some ((S15.1 120 x1.toNatClampNeg), S15)))))))))) else (some ((-5), S8)))))) else (some ((-4), S2))
set_option maxHeartbeats 1000000 in
set_option maxRecDepth 20000 in
theorem r270 {Lg : Nat} {xs : Nat → Int32} {d F : Nat} {x1 : Int32} {x2 : Int32} {S : AmT} {q : Int32 × AmT} (hd : 3 ≤ d) (H : f270 F x1 x2 S = some q) : Ex (am_X Lg xs) d 270 (am_P 270) (am_ini (am_Mi 270).1 [.ref 95, .int x1, .int x2]) [] (hS S) (some q.1, hS q.2) := by
  obtain ⟨d, rfl⟩ : ∃ d2, d = d2 + 1 := ⟨d - 1, by omega⟩
  unfold f270 at H
  show Ex (am_X Lg xs) _ 270 am_c270_0 [.ref 95, .int x1, .int x2] [] (hS S) (some q.1, hS q.2)
  refine ex_aload_n rfl ?_
  obtain ⟨v1, S2, hp, H⟩ := am_b2_el H
  refine ex_callV rfl rfl (Nat.le_of_ble_eq_true rfl) (Nat.le_of_ble_eq_true rfl) rfl (r202 (by omega) hp) rfl ?_
  by_cases h3 : v1 = 0
  · rw [if_pos h3] at H
    refine ex_if_eq_j (ct := am_c270_10) h3 rfl ?_
    refine ex_aload_n rfl ?_
    refine ex_iload_n rfl ?_
    obtain ⟨v4, S5, hp, H⟩ := am_b2_el H
    refine ex_callV rfl rfl (Nat.le_of_ble_eq_true rfl) (Nat.le_of_ble_eq_true rfl) rfl (r268 (by omega) hp) rfl ?_
    by_cases h6 : v4 = 0
    · rw [if_pos h6] at H
      refine ex_if_eq_j (ct := am_c270_26) h6 rfl ?_
      refine ex_bipush (v := (-2)) (by decide) ?_
      have H := Option.some.inj H
      subst H
      exact ex_iret (M := 270) (Or.inl rfl)
    · rw [if_neg h6] at H
      refine ex_if_eq_f h6 ?_
      refine ex_aload_n rfl ?_
      refine ex_iload_n rfl ?_
      obtain ⟨v7, S8, hp, H⟩ := am_b2_el H
      refine ex_callV rfl rfl (Nat.le_of_ble_eq_true rfl) (Nat.le_of_ble_eq_true rfl) rfl (r249 (by omega) hp) rfl ?_
      by_cases h9 : v7 = 0
      · rw [if_pos h9] at H
        refine ex_if_ne_f h9 ?_
        refine ex_bipush (v := (-2)) (by decide) ?_
        have H := Option.some.inj H
        subst H
        exact ex_iret (M := 270) (Or.inl rfl)
      · rw [if_neg h9] at H
        refine ex_if_ne_j (ct := am_c270_29) h9 rfl ?_
        refine ex_aload_n rfl ?_
        refine ex_getR (w := 115) rfl rfl rfl ?_
        refine ex_iload_n rfl ?_
        obtain ⟨hj, H⟩ := am_ck_el H
        refine ex_iald (k := 16) (v := S8.1 115 x2.toNatClampNeg) rfl hj rfl ?_
        by_cases h10 : (S8.1 115 x2.toNatClampNeg) < 0
        · rw [if_pos h10] at H
          refine ex_if_lt_j (ct := am_c270_41) h10 rfl ?_
          refine ex_aload_n rfl ?_
          refine ex_getR (w := 120) rfl rfl rfl ?_
          refine ex_iload_n rfl ?_
          obtain ⟨hj, H⟩ := am_ck_el H
          refine ex_iald (k := 8) (v := S8.1 120 x1.toNatClampNeg) rfl hj rfl ?_
          refine ex_iconst (v := 4) (by decide) ?_
          by_cases h11 : (S8.1 120 x1.toNatClampNeg) = 4
          · rw [if_pos h11] at H
            refine ex_icmp_ne_f h11 ?_
            refine ex_bipush (v := (-3)) (by decide) ?_
            have H := Option.some.inj H
            subst H
            exact ex_iret (M := 270) (Or.inl rfl)
          · rw [if_neg h11] at H
            refine ex_icmp_ne_j (ct := am_c270_54) h11 rfl ?_
            refine ex_aload_n rfl ?_
            obtain ⟨S12, hp, H⟩ := Option.bind_eq_some_iff.mp H
            refine ex_callV rfl rfl (Nat.le_of_ble_eq_true rfl) (Nat.le_of_ble_eq_true rfl) rfl (r201 (by omega) hp) rfl ?_
            refine ex_aload_n rfl ?_
            refine ex_getR (w := 115) rfl rfl rfl ?_
            refine ex_iload_n rfl ?_
            refine ex_iload_n rfl ?_
            obtain ⟨hj, H⟩ := am_ck_el H
            refine ex_iast (k := 16) rfl rfl hj ?_
            generalize ((am_upI S12.1 115 x2.toNatClampNeg x1, S12.2) : AmT) = S13 at H ⊢
            have H := am_lt_el H
            refine ex_aload_n rfl ?_
            refine ex_getR (w := 121) rfl rfl rfl ?_
            refine ex_iconst (v := 4) (by decide) ?_
            refine ex_iload_n rfl ?_
            refine ex_imul ?_
            refine ex_aload_n rfl ?_
            refine ex_getR (w := 120) rfl rfl rfl ?_
            refine ex_iload_n rfl ?_
            obtain ⟨hj, H⟩ := am_ck_el H
            refine ex_iald (k := 8) (v := S13.1 120 x1.toNatClampNeg) rfl hj rfl ?_
            refine ex_iadd ?_
            refine ex_iload_n rfl ?_
            obtain ⟨hj, H⟩ := am_ck_el H
            refine ex_iast (k := 32) rfl rfl hj ?_
            generalize ((am_upI S13.1 121 ((4 * x1) + (S13.1 120 x1.toNatClampNeg)).toNatClampNeg x2, S13.2) : AmT) = S14 at H ⊢
            have H := am_lt_el H
            refine ex_aload_n rfl ?_
            refine ex_getR (w := 120) rfl rfl rfl ?_
            refine ex_iload_n rfl ?_
            refine ex_dup2 ?_
            obtain ⟨hj, H⟩ := am_ck_el H
            refine ex_iald (k := 8) (v := S14.1 120 x1.toNatClampNeg) rfl hj rfl ?_
            refine ex_iconst (v := 1) (by decide) ?_
            refine ex_iadd ?_
            obtain ⟨hj, H⟩ := am_ck_el H
            refine ex_iast (k := 8) rfl rfl hj ?_
            generalize ((am_upI S14.1 120 x1.toNatClampNeg ((S14.1 120 x1.toNatClampNeg) + 1), S14.2) : AmT) = S15 at H ⊢
            have H := am_lt_el H
            refine ex_aload_n rfl ?_
            refine ex_getR (w := 120) rfl rfl rfl ?_
            refine ex_iload_n rfl ?_
            obtain ⟨hj, H⟩ := am_ck_el H
            refine ex_iald (k := 8) (v := S15.1 120 x1.toNatClampNeg) rfl hj rfl ?_
            have H := Option.some.inj H
            subst H
            exact ex_iret (M := 270) (Or.inl rfl)
        · rw [if_neg h10] at H
          refine ex_if_lt_f h10 ?_
          refine ex_bipush (v := (-5)) (by decide) ?_
          have H := Option.some.inj H
          subst H
          exact ex_iret (M := 270) (Or.inl rfl)
  · rw [if_neg h3] at H
    refine ex_if_eq_f h3 ?_
    refine ex_bipush (v := (-4)) (by decide) ?_
    have H := Option.some.inj H
    subst H
    exact ex_iret (M := 270) (Or.inl rfl)
-- X10_add
def f274 (F : Nat) (x1 : Int32) (S : AmT) : Option (Int32 × AmT) := am_b2 (f202 F S) fun v1 S2 => if v1 = 0 then (am_b2 (f268 F x1 S2) fun v4 S5 => if v4 = 0 then (some ((-2), S5)) else (am_ck x1 8 (if (S5.1 122 x1.toNatClampNeg) = 0 then ((f201 F S5).bind fun S8 => am_ck x1 8 (am_lt ((am_upI S8.1 122 x1.toNatClampNeg 1, S8.2) : AmT) fun S9 => am_ck (S9.1 96 4) 8 (am_lt ((am_upI S9.1 123 (S9.1 96 4).toNatClampNeg x1, S9.2) : AmT) fun S10 => am_lt ((am_upI S10.1 96 (4 : Int32).toNatClampNeg ((S10.1 96 4) + 1), S10.2) : AmT) fun S11 => some ((S11.1 96 4), S11)))) else (some ((-5), S5))))) else (some ((-4), S2))
set_option maxHeartbeats 1000000 in
set_option maxRecDepth 20000 in
theorem r274 {Lg : Nat} {xs : Nat → Int32} {d F : Nat} {x1 : Int32} {S : AmT} {q : Int32 × AmT} (hd : 3 ≤ d) (H : f274 F x1 S = some q) : Ex (am_X Lg xs) d 274 (am_P 274) (am_ini (am_Mi 274).1 [.ref 95, .int x1]) [] (hS S) (some q.1, hS q.2) := by
  obtain ⟨d, rfl⟩ : ∃ d2, d = d2 + 1 := ⟨d - 1, by omega⟩
  unfold f274 at H
  show Ex (am_X Lg xs) _ 274 am_c274_0 [.ref 95, .int x1] [] (hS S) (some q.1, hS q.2)
  refine ex_aload_n rfl ?_
  obtain ⟨v1, S2, hp, H⟩ := am_b2_el H
  refine ex_callV rfl rfl (Nat.le_of_ble_eq_true rfl) (Nat.le_of_ble_eq_true rfl) rfl (r202 (by omega) hp) rfl ?_
  by_cases h3 : v1 = 0
  · rw [if_pos h3] at H
    refine ex_if_eq_j (ct := am_c274_10) h3 rfl ?_
    refine ex_aload_n rfl ?_
    refine ex_iload_n rfl ?_
    obtain ⟨v4, S5, hp, H⟩ := am_b2_el H
    refine ex_callV rfl rfl (Nat.le_of_ble_eq_true rfl) (Nat.le_of_ble_eq_true rfl) rfl (r268 (by omega) hp) rfl ?_
    by_cases h6 : v4 = 0
    · rw [if_pos h6] at H
      refine ex_if_ne_f h6 ?_
      refine ex_bipush (v := (-2)) (by decide) ?_
      have H := Option.some.inj H
      subst H
      exact ex_iret (M := 274) (Or.inl rfl)
    · rw [if_neg h6] at H
      refine ex_if_ne_j (ct := am_c274_21) h6 rfl ?_
      refine ex_aload_n rfl ?_
      refine ex_getR (w := 122) rfl rfl rfl ?_
      refine ex_iload_n rfl ?_
      obtain ⟨hj, H⟩ := am_ck_el H
      refine ex_bald (k := 8) (v := S5.1 122 x1.toNatClampNeg) rfl hj rfl ?_
      by_cases h7 : (S5.1 122 x1.toNatClampNeg) = 0
      · rw [if_pos h7] at H
        refine ex_if_eq_j (ct := am_c274_33) h7 rfl ?_
        refine ex_aload_n rfl ?_
        obtain ⟨S8, hp, H⟩ := Option.bind_eq_some_iff.mp H
        refine ex_callV rfl rfl (Nat.le_of_ble_eq_true rfl) (Nat.le_of_ble_eq_true rfl) rfl (r201 (by omega) hp) rfl ?_
        refine ex_aload_n rfl ?_
        refine ex_getR (w := 122) rfl rfl rfl ?_
        refine ex_iload_n rfl ?_
        refine ex_iconst (v := 1) (by decide) ?_
        obtain ⟨hj, H⟩ := am_ck_el H
        refine ex_bast (k := 8) rfl rfl hj (by decide) ?_
        generalize ((am_upI S8.1 122 x1.toNatClampNeg 1, S8.2) : AmT) = S9 at H ⊢
        have H := am_lt_el H
        refine ex_aload_n rfl ?_
        refine ex_getR (w := 123) rfl rfl rfl ?_
        refine ex_aload_n rfl ?_
        refine ex_getR (w := 96) rfl rfl rfl ?_
        refine ex_iconst (v := 4) (by decide) ?_
        refine ex_iald (v := S9.1 96 4) rfl (by decide) rfl ?_
        refine ex_iload_n rfl ?_
        obtain ⟨hj, H⟩ := am_ck_el H
        refine ex_iast (k := 8) rfl rfl hj ?_
        generalize ((am_upI S9.1 123 (S9.1 96 4).toNatClampNeg x1, S9.2) : AmT) = S10 at H ⊢
        have H := am_lt_el H
        refine ex_aload_n rfl ?_
        refine ex_getR (w := 96) rfl rfl rfl ?_
        refine ex_iconst (v := 4) (by decide) ?_
        refine ex_dup2 ?_
        refine ex_iald (v := S10.1 96 4) rfl (by decide) rfl ?_
        refine ex_iconst (v := 1) (by decide) ?_
        refine ex_iadd ?_
        refine ex_iast (k := 32) rfl rfl (by decide) ?_
        generalize ((am_upI S10.1 96 (4 : Int32).toNatClampNeg ((S10.1 96 4) + 1), S10.2) : AmT) = S11 at H ⊢
        have H := am_lt_el H
        refine ex_aload_n rfl ?_
        refine ex_getR (w := 96) rfl rfl rfl ?_
        refine ex_iconst (v := 4) (by decide) ?_
        refine ex_iald (v := S11.1 96 4) rfl (by decide) rfl ?_
        have H := Option.some.inj H
        subst H
        exact ex_iret (M := 274) (Or.inl rfl)
      · rw [if_neg h7] at H
        refine ex_if_eq_f h7 ?_
        refine ex_bipush (v := (-5)) (by decide) ?_
        have H := Option.some.inj H
        subst H
        exact ex_iret (M := 274) (Or.inl rfl)
  · rw [if_neg h3] at H
    refine ex_if_eq_f h3 ?_
    refine ex_bipush (v := (-4)) (by decide) ?_
    have H := Option.some.inj H
    subst H
    exact ex_iret (M := 274) (Or.inl rfl)
def g275_26 (F : Nat) (x1 : Int32) (S : AmT) : Option (Int32 × AmT) := (f201 F S).bind fun S5 => am_lt ((am_upI S5.1 96 (5 : Int32).toNatClampNeg x1, S5.2) : AmT) fun S6 => some (1, S6)
-- X10_cover
def f275 (F : Nat) (x1 : Int32) (S : AmT) : Option (Int32 × AmT) := am_b2 (f202 F S) fun v1 S2 => if v1 = 0 then (if x1 = (-1) then (g275_26 F x1 S2) else (am_b2 (f249 F x1 S2) fun v7 S8 => if v7 = 0 then (some ((-2), S8)) else (g275_26 F x1 S8))) else (some ((-4), S2))
set_option maxHeartbeats 1000000 in
set_option maxRecDepth 20000 in
theorem e275_26 {Lg : Nat} {xs : Nat → Int32} {d F : Nat} {x1 : Int32} {S : AmT} {q : Int32 × AmT} (hd : 3 ≤ d) (H : g275_26 F x1 S = some q) : Ex (am_X Lg xs) d 275 am_c275_26 [.ref 95, .int x1] [] (hS S) (some q.1, hS q.2) := by
  obtain ⟨d, rfl⟩ : ∃ d2, d = d2 + 1 := ⟨d - 1, by omega⟩
  unfold g275_26 at H
  refine ex_aload_n rfl ?_
  obtain ⟨S5, hp, H⟩ := Option.bind_eq_some_iff.mp H
  refine ex_callV rfl rfl (Nat.le_of_ble_eq_true rfl) (Nat.le_of_ble_eq_true rfl) rfl (r201 (by omega) hp) rfl ?_
  refine ex_aload_n rfl ?_
  refine ex_getR (w := 96) rfl rfl rfl ?_
  refine ex_iconst (v := 5) (by decide) ?_
  refine ex_iload_n rfl ?_
  refine ex_iast (k := 32) rfl rfl (by decide) ?_
  generalize ((am_upI S5.1 96 (5 : Int32).toNatClampNeg x1, S5.2) : AmT) = S6 at H ⊢
  have H := am_lt_el H
  refine ex_iconst (v := 1) (by decide) ?_
  have H := Option.some.inj H
  subst H
  exact ex_iret (M := 275) (Or.inl rfl)
set_option maxHeartbeats 1000000 in
set_option maxRecDepth 20000 in
theorem r275 {Lg : Nat} {xs : Nat → Int32} {d F : Nat} {x1 : Int32} {S : AmT} {q : Int32 × AmT} (hd : 3 ≤ d) (H : f275 F x1 S = some q) : Ex (am_X Lg xs) d 275 (am_P 275) (am_ini (am_Mi 275).1 [.ref 95, .int x1]) [] (hS S) (some q.1, hS q.2) := by
  obtain ⟨d, rfl⟩ : ∃ d2, d = d2 + 1 := ⟨d - 1, by omega⟩
  unfold f275 at H
  show Ex (am_X Lg xs) _ 275 am_c275_0 [.ref 95, .int x1] [] (hS S) (some q.1, hS q.2)
  refine ex_aload_n rfl ?_
  obtain ⟨v1, S2, hp, H⟩ := am_b2_el H
  refine ex_callV rfl rfl (Nat.le_of_ble_eq_true rfl) (Nat.le_of_ble_eq_true rfl) rfl (r202 (by omega) hp) rfl ?_
  by_cases h3 : v1 = 0
  · rw [if_pos h3] at H
    refine ex_if_eq_j (ct := am_c275_10) h3 rfl ?_
    refine ex_iload_n rfl ?_
    refine ex_iconst (v := (-1)) (by decide) ?_
    by_cases h4 : x1 = (-1)
    · rw [if_pos h4] at H
      refine ex_icmp_eq_j (ct := am_c275_26) h4 rfl ?_
      exact e275_26 hd H
    · rw [if_neg h4] at H
      refine ex_icmp_eq_f h4 ?_
      refine ex_aload_n rfl ?_
      refine ex_iload_n rfl ?_
      obtain ⟨v7, S8, hp, H⟩ := am_b2_el H
      refine ex_callV rfl rfl (Nat.le_of_ble_eq_true rfl) (Nat.le_of_ble_eq_true rfl) rfl (r249 (by omega) hp) rfl ?_
      by_cases h9 : v7 = 0
      · rw [if_pos h9] at H
        refine ex_if_ne_f h9 ?_
        refine ex_bipush (v := (-2)) (by decide) ?_
        have H := Option.some.inj H
        subst H
        exact ex_iret (M := 275) (Or.inl rfl)
      · rw [if_neg h9] at H
        refine ex_if_ne_j (ct := am_c275_26) h9 rfl ?_
        exact e275_26 hd H
  · rw [if_neg h3] at H
    refine ex_if_eq_f h3 ?_
    refine ex_bipush (v := (-4)) (by decide) ?_
    have H := Option.some.inj H
    subst H
    exact ex_iret (M := 275) (Or.inl rfl)
-- X10_foldBy
def f278 (F : Nat) (x1 : Int32) (x2 : Int32) (S : AmT) : Option (Int32 × AmT) := am_b2 (f202 F S) fun v1 S2 => if v1 = 0 then (am_b2 (f249 F x1 S2) fun v4 S5 => if v4 = 0 then (some ((-2), S5)) else (am_b2 (f224 F x2 S5) fun v7 S8 => if v7 = 0 then (some ((-2), S8)) else ((f201 F S8).bind fun S10 => am_ck x1 16 (am_lt ((am_upI S10.1 111 x1.toNatClampNeg x2, S10.2) : AmT) fun S11 => some (1, S11))))) else (some ((-4), S2))
set_option maxHeartbeats 1000000 in
set_option maxRecDepth 20000 in
theorem r278 {Lg : Nat} {xs : Nat → Int32} {d F : Nat} {x1 : Int32} {x2 : Int32} {S : AmT} {q : Int32 × AmT} (hd : 3 ≤ d) (H : f278 F x1 x2 S = some q) : Ex (am_X Lg xs) d 278 (am_P 278) (am_ini (am_Mi 278).1 [.ref 95, .int x1, .int x2]) [] (hS S) (some q.1, hS q.2) := by
  obtain ⟨d, rfl⟩ : ∃ d2, d = d2 + 1 := ⟨d - 1, by omega⟩
  unfold f278 at H
  show Ex (am_X Lg xs) _ 278 am_c278_0 [.ref 95, .int x1, .int x2] [] (hS S) (some q.1, hS q.2)
  refine ex_aload_n rfl ?_
  obtain ⟨v1, S2, hp, H⟩ := am_b2_el H
  refine ex_callV rfl rfl (Nat.le_of_ble_eq_true rfl) (Nat.le_of_ble_eq_true rfl) rfl (r202 (by omega) hp) rfl ?_
  by_cases h3 : v1 = 0
  · rw [if_pos h3] at H
    refine ex_if_eq_j (ct := am_c278_10) h3 rfl ?_
    refine ex_aload_n rfl ?_
    refine ex_iload_n rfl ?_
    obtain ⟨v4, S5, hp, H⟩ := am_b2_el H
    refine ex_callV rfl rfl (Nat.le_of_ble_eq_true rfl) (Nat.le_of_ble_eq_true rfl) rfl (r249 (by omega) hp) rfl ?_
    by_cases h6 : v4 = 0
    · rw [if_pos h6] at H
      refine ex_if_eq_j (ct := am_c278_26) h6 rfl ?_
      refine ex_bipush (v := (-2)) (by decide) ?_
      have H := Option.some.inj H
      subst H
      exact ex_iret (M := 278) (Or.inl rfl)
    · rw [if_neg h6] at H
      refine ex_if_eq_f h6 ?_
      refine ex_aload_n rfl ?_
      refine ex_iload_n rfl ?_
      obtain ⟨v7, S8, hp, H⟩ := am_b2_el H
      refine ex_callV rfl rfl (Nat.le_of_ble_eq_true rfl) (Nat.le_of_ble_eq_true rfl) rfl (r224 (by omega) hp) rfl ?_
      by_cases h9 : v7 = 0
      · rw [if_pos h9] at H
        refine ex_if_ne_f h9 ?_
        refine ex_bipush (v := (-2)) (by decide) ?_
        have H := Option.some.inj H
        subst H
        exact ex_iret (M := 278) (Or.inl rfl)
      · rw [if_neg h9] at H
        refine ex_if_ne_j (ct := am_c278_29) h9 rfl ?_
        refine ex_aload_n rfl ?_
        obtain ⟨S10, hp, H⟩ := Option.bind_eq_some_iff.mp H
        refine ex_callV rfl rfl (Nat.le_of_ble_eq_true rfl) (Nat.le_of_ble_eq_true rfl) rfl (r201 (by omega) hp) rfl ?_
        refine ex_aload_n rfl ?_
        refine ex_getR (w := 111) rfl rfl rfl ?_
        refine ex_iload_n rfl ?_
        refine ex_iload_n rfl ?_
        obtain ⟨hj, H⟩ := am_ck_el H
        refine ex_iast (k := 16) rfl rfl hj ?_
        generalize ((am_upI S10.1 111 x1.toNatClampNeg x2, S10.2) : AmT) = S11 at H ⊢
        have H := am_lt_el H
        refine ex_iconst (v := 1) (by decide) ?_
        have H := Option.some.inj H
        subst H
        exact ex_iret (M := 278) (Or.inl rfl)
  · rw [if_neg h3] at H
    refine ex_if_eq_f h3 ?_
    refine ex_bipush (v := (-4)) (by decide) ?_
    have H := Option.some.inj H
    subst H
    exact ex_iret (M := 278) (Or.inl rfl)
-- X10_margin
def f279 (F : Nat) (x1 : Int32) (S : AmT) : Option (Int32 × AmT) := am_b2 (f202 F S) fun v1 S2 => if v1 = 0 then (am_b2 (f197 F x1 0 9 S2) fun v4 S5 => if v4 = 0 then (some ((-1), S5)) else ((f201 F S5).bind fun S7 => am_lt ((am_upI S7.1 96 (6 : Int32).toNatClampNeg x1, S7.2) : AmT) fun S8 => some ((S7.1 96 6), S8))) else (some ((-4), S2))
set_option maxHeartbeats 1000000 in
set_option maxRecDepth 20000 in
theorem r279 {Lg : Nat} {xs : Nat → Int32} {d F : Nat} {x1 : Int32} {S : AmT} {q : Int32 × AmT} (hd : 3 ≤ d) (H : f279 F x1 S = some q) : Ex (am_X Lg xs) d 279 (am_P 279) (am_ini (am_Mi 279).1 [.ref 95, .int x1]) [] (hS S) (some q.1, hS q.2) := by
  obtain ⟨d, rfl⟩ : ∃ d2, d = d2 + 1 := ⟨d - 1, by omega⟩
  unfold f279 at H
  show Ex (am_X Lg xs) _ 279 am_c279_0 [.ref 95, .int x1, .long 0] [] (hS S) (some q.1, hS q.2)
  refine ex_aload_n rfl ?_
  obtain ⟨v1, S2, hp, H⟩ := am_b2_el H
  refine ex_callV rfl rfl (Nat.le_of_ble_eq_true rfl) (Nat.le_of_ble_eq_true rfl) rfl (r202 (by omega) hp) rfl ?_
  by_cases h3 : v1 = 0
  · rw [if_pos h3] at H
    refine ex_if_eq_j (ct := am_c279_10) h3 rfl ?_
    refine ex_iload_n rfl ?_
    refine ex_iconst (v := 0) (by decide) ?_
    refine ex_bipush (v := 9) (by decide) ?_
    obtain ⟨v4, S5, hp, H⟩ := am_b2_el H
    refine ex_callS rfl rfl (Nat.le_of_ble_eq_true rfl) (Nat.le_of_ble_eq_true rfl) (r197 (by omega) hp) rfl ?_
    by_cases h6 : v4 = 0
    · rw [if_pos h6] at H
      refine ex_if_ne_f h6 ?_
      refine ex_iconst (v := (-1)) (by decide) ?_
      have H := Option.some.inj H
      subst H
      exact ex_iret (M := 279) (Or.inl rfl)
    · rw [if_neg h6] at H
      refine ex_if_ne_j (ct := am_c279_22) h6 rfl ?_
      refine ex_aload_n rfl ?_
      obtain ⟨S7, hp, H⟩ := Option.bind_eq_some_iff.mp H
      refine ex_callV rfl rfl (Nat.le_of_ble_eq_true rfl) (Nat.le_of_ble_eq_true rfl) rfl (r201 (by omega) hp) rfl ?_
      refine ex_aload_n rfl ?_
      refine ex_getR (w := 96) rfl rfl rfl ?_
      refine ex_bipush (v := 6) (by decide) ?_
      refine ex_iald (v := S7.1 96 6) rfl (by decide) rfl ?_
      refine ex_istore_n (L2 := [.ref 95, .int x1, .int (S7.1 96 6)]) (Nat.le_of_ble_eq_true rfl) rfl ?_
      refine ex_aload_n rfl ?_
      refine ex_getR (w := 96) rfl rfl rfl ?_
      refine ex_bipush (v := 6) (by decide) ?_
      refine ex_iload_n rfl ?_
      refine ex_iast (k := 32) rfl rfl (by decide) ?_
      generalize ((am_upI S7.1 96 (6 : Int32).toNatClampNeg x1, S7.2) : AmT) = S8 at H ⊢
      have H := am_lt_el H
      refine ex_iload_n rfl ?_
      have H := Option.some.inj H
      subst H
      exact ex_iret (M := 279) (Or.inl rfl)
  · rw [if_neg h3] at H
    refine ex_if_eq_f h3 ?_
    refine ex_bipush (v := (-4)) (by decide) ?_
    have H := Option.some.inj H
    subst H
    exact ex_iret (M := 279) (Or.inl rfl)
-- X10_feed
def f281 (F : Nat) (x1 : Int32) (S : AmT) : Option (Int32 × AmT) := am_b2 (f202 F S) fun v1 S2 => if v1 = 0 then (am_b2 (f249 F x1 S2) fun v4 S5 => if v4 = 0 then (some ((-2), S5)) else (am_ck x1 16 (if (S5.1 112 x1.toNatClampNeg) = (-1) then (am_b2 (f280 F 0 S5) fun v8 S9 => if v8 < 0 then ((f201 F S9).bind fun S11 => am_lt ((am_upI S11.1 95 34 ((S11.1 95 34) + 1), S11.2) : AmT) fun S12 => am_ck x1 16 (am_lt ((am_upI S12.1 112 x1.toNatClampNeg 0, S12.2) : AmT) fun S13 => am_ck x1 16 (am_lt ((am_upI S13.1 113 x1.toNatClampNeg ((S13.1 95 34) - 1), S13.2) : AmT) fun S14 => some (((S14.1 95 34) - 1), S14)))) else (some ((-5), S9))) else (some ((-5), S5))))) else (some ((-4), S2))
set_option maxHeartbeats 1000000 in
set_option maxRecDepth 20000 in
theorem r281 {Lg : Nat} {xs : Nat → Int32} {d F : Nat} {x1 : Int32} {S : AmT} {q : Int32 × AmT} (hd : 3 ≤ d) (H : f281 F x1 S = some q) : Ex (am_X Lg xs) d 281 (am_P 281) (am_ini (am_Mi 281).1 [.ref 95, .int x1]) [] (hS S) (some q.1, hS q.2) := by
  obtain ⟨d, rfl⟩ : ∃ d2, d = d2 + 1 := ⟨d - 1, by omega⟩
  unfold f281 at H
  show Ex (am_X Lg xs) _ 281 am_c281_0 [.ref 95, .int x1] [] (hS S) (some q.1, hS q.2)
  refine ex_aload_n rfl ?_
  obtain ⟨v1, S2, hp, H⟩ := am_b2_el H
  refine ex_callV rfl rfl (Nat.le_of_ble_eq_true rfl) (Nat.le_of_ble_eq_true rfl) rfl (r202 (by omega) hp) rfl ?_
  by_cases h3 : v1 = 0
  · rw [if_pos h3] at H
    refine ex_if_eq_j (ct := am_c281_10) h3 rfl ?_
    refine ex_aload_n rfl ?_
    refine ex_iload_n rfl ?_
    obtain ⟨v4, S5, hp, H⟩ := am_b2_el H
    refine ex_callV rfl rfl (Nat.le_of_ble_eq_true rfl) (Nat.le_of_ble_eq_true rfl) rfl (r249 (by omega) hp) rfl ?_
    by_cases h6 : v4 = 0
    · rw [if_pos h6] at H
      refine ex_if_ne_f h6 ?_
      refine ex_bipush (v := (-2)) (by decide) ?_
      have H := Option.some.inj H
      subst H
      exact ex_iret (M := 281) (Or.inl rfl)
    · rw [if_neg h6] at H
      refine ex_if_ne_j (ct := am_c281_21) h6 rfl ?_
      refine ex_aload_n rfl ?_
      refine ex_getR (w := 112) rfl rfl rfl ?_
      refine ex_iload_n rfl ?_
      obtain ⟨hj, H⟩ := am_ck_el H
      refine ex_iald (k := 16) (v := S5.1 112 x1.toNatClampNeg) rfl hj rfl ?_
      refine ex_iconst (v := (-1)) (by decide) ?_
      by_cases h7 : (S5.1 112 x1.toNatClampNeg) = (-1)
      · rw [if_pos h7] at H
        refine ex_icmp_ne_f h7 ?_
        refine ex_aload_n rfl ?_
        refine ex_iconst (v := 0) (by decide) ?_
        obtain ⟨v8, S9, hp, H⟩ := am_b2_el H
        refine ex_callV rfl rfl (Nat.le_of_ble_eq_true rfl) (Nat.le_of_ble_eq_true rfl) rfl (r280 (by omega) hp) rfl ?_
        by_cases h10 : v8 < 0
        · rw [if_pos h10] at H
          refine ex_if_lt_j (ct := am_c281_42) h10 rfl ?_
          refine ex_aload_n rfl ?_
          obtain ⟨S11, hp, H⟩ := Option.bind_eq_some_iff.mp H
          refine ex_callV rfl rfl (Nat.le_of_ble_eq_true rfl) (Nat.le_of_ble_eq_true rfl) rfl (r201 (by omega) hp) rfl ?_
          refine ex_aload_n rfl ?_
          refine ex_dupr ?_
          refine ex_gI rfl (by decide) ?_
          refine ex_iconst (v := 1) (by decide) ?_
          refine ex_iadd ?_
          refine ex_putI rfl (by decide) (fun z => absurd z.1 (by decide)) ?_
          generalize ((am_upI S11.1 95 34 ((S11.1 95 34) + 1), S11.2) : AmT) = S12 at H ⊢
          have H := am_lt_el H
          refine ex_aload_n rfl ?_
          refine ex_getR (w := 112) rfl rfl rfl ?_
          refine ex_iload_n rfl ?_
          refine ex_iconst (v := 0) (by decide) ?_
          obtain ⟨hj, H⟩ := am_ck_el H
          refine ex_iast (k := 16) rfl rfl hj ?_
          generalize ((am_upI S12.1 112 x1.toNatClampNeg 0, S12.2) : AmT) = S13 at H ⊢
          have H := am_lt_el H
          refine ex_aload_n rfl ?_
          refine ex_getR (w := 113) rfl rfl rfl ?_
          refine ex_iload_n rfl ?_
          refine ex_aload_n rfl ?_
          refine ex_gI rfl (by decide) ?_
          refine ex_iconst (v := 1) (by decide) ?_
          refine ex_isub ?_
          obtain ⟨hj, H⟩ := am_ck_el H
          refine ex_iast (k := 16) rfl rfl hj ?_
          generalize ((am_upI S13.1 113 x1.toNatClampNeg ((S13.1 95 34) - 1), S13.2) : AmT) = S14 at H ⊢
          have H := am_lt_el H
          refine ex_aload_n rfl ?_
          refine ex_gI rfl (by decide) ?_
          refine ex_iconst (v := 1) (by decide) ?_
          refine ex_isub ?_
          have H := Option.some.inj H
          subst H
          exact ex_iret (M := 281) (Or.inl rfl)
        · rw [if_neg h10] at H
          refine ex_if_lt_f h10 ?_
          refine ex_bipush (v := (-5)) (by decide) ?_
          have H := Option.some.inj H
          subst H
          exact ex_iret (M := 281) (Or.inl rfl)
      · rw [if_neg h7] at H
        refine ex_icmp_ne_j (ct := am_c281_39) h7 rfl ?_
        refine ex_bipush (v := (-5)) (by decide) ?_
        have H := Option.some.inj H
        subst H
        exact ex_iret (M := 281) (Or.inl rfl)
  · rw [if_neg h3] at H
    refine ex_if_eq_f h3 ?_
    refine ex_bipush (v := (-4)) (by decide) ?_
    have H := Option.some.inj H
    subst H
    exact ex_iret (M := 281) (Or.inl rfl)
-- X10_doubled
def f282 (F : Nat) (S : AmT) : Option (Int32 × AmT) := am_b2 (f202 F S) fun v1 S2 => if v1 = 0 then ((f201 F S2).bind fun S4 => am_lt ((am_upI S4.1 96 (7 : Int32).toNatClampNeg 1, S4.2) : AmT) fun S5 => some (1, S5)) else (some ((-4), S2))
set_option maxHeartbeats 1000000 in
set_option maxRecDepth 20000 in
theorem r282 {Lg : Nat} {xs : Nat → Int32} {d F : Nat} {S : AmT} {q : Int32 × AmT} (hd : 3 ≤ d) (H : f282 F S = some q) : Ex (am_X Lg xs) d 282 (am_P 282) (am_ini (am_Mi 282).1 [.ref 95]) [] (hS S) (some q.1, hS q.2) := by
  obtain ⟨d, rfl⟩ : ∃ d2, d = d2 + 1 := ⟨d - 1, by omega⟩
  unfold f282 at H
  show Ex (am_X Lg xs) _ 282 am_c282_0 [.ref 95] [] (hS S) (some q.1, hS q.2)
  refine ex_aload_n rfl ?_
  obtain ⟨v1, S2, hp, H⟩ := am_b2_el H
  refine ex_callV rfl rfl (Nat.le_of_ble_eq_true rfl) (Nat.le_of_ble_eq_true rfl) rfl (r202 (by omega) hp) rfl ?_
  by_cases h3 : v1 = 0
  · rw [if_pos h3] at H
    refine ex_if_eq_j (ct := am_c282_10) h3 rfl ?_
    refine ex_aload_n rfl ?_
    obtain ⟨S4, hp, H⟩ := Option.bind_eq_some_iff.mp H
    refine ex_callV rfl rfl (Nat.le_of_ble_eq_true rfl) (Nat.le_of_ble_eq_true rfl) rfl (r201 (by omega) hp) rfl ?_
    refine ex_aload_n rfl ?_
    refine ex_getR (w := 96) rfl rfl rfl ?_
    refine ex_bipush (v := 7) (by decide) ?_
    refine ex_iconst (v := 1) (by decide) ?_
    refine ex_iast (k := 32) rfl rfl (by decide) ?_
    generalize ((am_upI S4.1 96 (7 : Int32).toNatClampNeg 1, S4.2) : AmT) = S5 at H ⊢
    have H := am_lt_el H
    refine ex_iconst (v := 1) (by decide) ?_
    have H := Option.some.inj H
    subst H
    exact ex_iret (M := 282) (Or.inl rfl)
  · rw [if_neg h3] at H
    refine ex_if_eq_f h3 ?_
    refine ex_bipush (v := (-4)) (by decide) ?_
    have H := Option.some.inj H
    subst H
    exact ex_iret (M := 282) (Or.inl rfl)
-- X10_jam
def f283 (F : Nat) (x1 : Int32) (S : AmT) : Option (Int32 × AmT) := am_b2 (f202 F S) fun v1 S2 => if v1 = 0 then (am_b2 (f197 F x1 0 4 S2) fun v4 S5 => if v4 = 0 then (some ((-1), S5)) else ((f201 F S5).bind fun S7 => am_ck x1 10 (am_lt ((am_upI S7.1 124 x1.toNatClampNeg 1, S7.2) : AmT) fun S8 => some (1, S8)))) else (some ((-4), S2))
set_option maxHeartbeats 1000000 in
set_option maxRecDepth 20000 in
theorem r283 {Lg : Nat} {xs : Nat → Int32} {d F : Nat} {x1 : Int32} {S : AmT} {q : Int32 × AmT} (hd : 3 ≤ d) (H : f283 F x1 S = some q) : Ex (am_X Lg xs) d 283 (am_P 283) (am_ini (am_Mi 283).1 [.ref 95, .int x1]) [] (hS S) (some q.1, hS q.2) := by
  obtain ⟨d, rfl⟩ : ∃ d2, d = d2 + 1 := ⟨d - 1, by omega⟩
  unfold f283 at H
  show Ex (am_X Lg xs) _ 283 am_c283_0 [.ref 95, .int x1] [] (hS S) (some q.1, hS q.2)
  refine ex_aload_n rfl ?_
  obtain ⟨v1, S2, hp, H⟩ := am_b2_el H
  refine ex_callV rfl rfl (Nat.le_of_ble_eq_true rfl) (Nat.le_of_ble_eq_true rfl) rfl (r202 (by omega) hp) rfl ?_
  by_cases h3 : v1 = 0
  · rw [if_pos h3] at H
    refine ex_if_eq_j (ct := am_c283_10) h3 rfl ?_
    refine ex_iload_n rfl ?_
    refine ex_iconst (v := 0) (by decide) ?_
    refine ex_iconst (v := 4) (by decide) ?_
    obtain ⟨v4, S5, hp, H⟩ := am_b2_el H
    refine ex_callS rfl rfl (Nat.le_of_ble_eq_true rfl) (Nat.le_of_ble_eq_true rfl) (r197 (by omega) hp) rfl ?_
    by_cases h6 : v4 = 0
    · rw [if_pos h6] at H
      refine ex_if_ne_f h6 ?_
      refine ex_iconst (v := (-1)) (by decide) ?_
      have H := Option.some.inj H
      subst H
      exact ex_iret (M := 283) (Or.inl rfl)
    · rw [if_neg h6] at H
      refine ex_if_ne_j (ct := am_c283_21) h6 rfl ?_
      refine ex_aload_n rfl ?_
      obtain ⟨S7, hp, H⟩ := Option.bind_eq_some_iff.mp H
      refine ex_callV rfl rfl (Nat.le_of_ble_eq_true rfl) (Nat.le_of_ble_eq_true rfl) rfl (r201 (by omega) hp) rfl ?_
      refine ex_aload_n rfl ?_
      refine ex_getR (w := 124) rfl rfl rfl ?_
      refine ex_iload_n rfl ?_
      refine ex_iconst (v := 1) (by decide) ?_
      obtain ⟨hj, H⟩ := am_ck_el H
      refine ex_bast (k := 10) rfl rfl hj (by decide) ?_
      generalize ((am_upI S7.1 124 x1.toNatClampNeg 1, S7.2) : AmT) = S8 at H ⊢
      have H := am_lt_el H
      refine ex_iconst (v := 1) (by decide) ?_
      have H := Option.some.inj H
      subst H
      exact ex_iret (M := 283) (Or.inl rfl)
  · rw [if_neg h3] at H
    refine ex_if_eq_f h3 ?_
    refine ex_bipush (v := (-4)) (by decide) ?_
    have H := Option.some.inj H
    subst H
    exact ex_iret (M := 283) (Or.inl rfl)
-- X10_reprint
def f288 (F : Nat) (x1 : Int32) (S : AmT) : Option (Int32 × AmT) := am_b2 (f202 F S) fun v1 S2 => if v1 = 0 then (am_b2 (f249 F x1 S2) fun v4 S5 => if v4 = 0 then (some ((-2), S5)) else (am_ck x1 16 (if (S5.1 112 x1.toNatClampNeg) = 6 then ((f201 F S5).bind fun S8 => am_ck x1 16 (am_lt ((am_upI S8.1 112 x1.toNatClampNeg (-1), S8.2) : AmT) fun S9 => am_ck x1 16 (am_lt ((am_upI S9.1 114 x1.toNatClampNeg 0, S9.2) : AmT) fun S10 => some (1, S10)))) else (some ((-5), S5))))) else (some ((-4), S2))
set_option maxHeartbeats 1000000 in
set_option maxRecDepth 20000 in
theorem r288 {Lg : Nat} {xs : Nat → Int32} {d F : Nat} {x1 : Int32} {S : AmT} {q : Int32 × AmT} (hd : 3 ≤ d) (H : f288 F x1 S = some q) : Ex (am_X Lg xs) d 288 (am_P 288) (am_ini (am_Mi 288).1 [.ref 95, .int x1]) [] (hS S) (some q.1, hS q.2) := by
  obtain ⟨d, rfl⟩ : ∃ d2, d = d2 + 1 := ⟨d - 1, by omega⟩
  unfold f288 at H
  show Ex (am_X Lg xs) _ 288 am_c288_0 [.ref 95, .int x1] [] (hS S) (some q.1, hS q.2)
  refine ex_aload_n rfl ?_
  obtain ⟨v1, S2, hp, H⟩ := am_b2_el H
  refine ex_callV rfl rfl (Nat.le_of_ble_eq_true rfl) (Nat.le_of_ble_eq_true rfl) rfl (r202 (by omega) hp) rfl ?_
  by_cases h3 : v1 = 0
  · rw [if_pos h3] at H
    refine ex_if_eq_j (ct := am_c288_10) h3 rfl ?_
    refine ex_aload_n rfl ?_
    refine ex_iload_n rfl ?_
    obtain ⟨v4, S5, hp, H⟩ := am_b2_el H
    refine ex_callV rfl rfl (Nat.le_of_ble_eq_true rfl) (Nat.le_of_ble_eq_true rfl) rfl (r249 (by omega) hp) rfl ?_
    by_cases h6 : v4 = 0
    · rw [if_pos h6] at H
      refine ex_if_ne_f h6 ?_
      refine ex_bipush (v := (-2)) (by decide) ?_
      have H := Option.some.inj H
      subst H
      exact ex_iret (M := 288) (Or.inl rfl)
    · rw [if_neg h6] at H
      refine ex_if_ne_j (ct := am_c288_21) h6 rfl ?_
      refine ex_aload_n rfl ?_
      refine ex_getR (w := 112) rfl rfl rfl ?_
      refine ex_iload_n rfl ?_
      obtain ⟨hj, H⟩ := am_ck_el H
      refine ex_iald (k := 16) (v := S5.1 112 x1.toNatClampNeg) rfl hj rfl ?_
      refine ex_bipush (v := 6) (by decide) ?_
      by_cases h7 : (S5.1 112 x1.toNatClampNeg) = 6
      · rw [if_pos h7] at H
        refine ex_icmp_eq_j (ct := am_c288_35) h7 rfl ?_
        refine ex_aload_n rfl ?_
        obtain ⟨S8, hp, H⟩ := Option.bind_eq_some_iff.mp H
        refine ex_callV rfl rfl (Nat.le_of_ble_eq_true rfl) (Nat.le_of_ble_eq_true rfl) rfl (r201 (by omega) hp) rfl ?_
        refine ex_aload_n rfl ?_
        refine ex_getR (w := 112) rfl rfl rfl ?_
        refine ex_iload_n rfl ?_
        refine ex_iconst (v := (-1)) (by decide) ?_
        obtain ⟨hj, H⟩ := am_ck_el H
        refine ex_iast (k := 16) rfl rfl hj ?_
        generalize ((am_upI S8.1 112 x1.toNatClampNeg (-1), S8.2) : AmT) = S9 at H ⊢
        have H := am_lt_el H
        refine ex_aload_n rfl ?_
        refine ex_getR (w := 114) rfl rfl rfl ?_
        refine ex_iload_n rfl ?_
        refine ex_iconst (v := 0) (by decide) ?_
        obtain ⟨hj, H⟩ := am_ck_el H
        refine ex_iast (k := 16) rfl rfl hj ?_
        generalize ((am_upI S9.1 114 x1.toNatClampNeg 0, S9.2) : AmT) = S10 at H ⊢
        have H := am_lt_el H
        refine ex_iconst (v := 1) (by decide) ?_
        have H := Option.some.inj H
        subst H
        exact ex_iret (M := 288) (Or.inl rfl)
      · rw [if_neg h7] at H
        refine ex_icmp_eq_f h7 ?_
        refine ex_bipush (v := (-5)) (by decide) ?_
        have H := Option.some.inj H
        subst H
        exact ex_iret (M := 288) (Or.inl rfl)
  · rw [if_neg h3] at H
    refine ex_if_eq_f h3 ?_
    refine ex_bipush (v := (-4)) (by decide) ?_
    have H := Option.some.inj H
    subst H
    exact ex_iret (M := 288) (Or.inl rfl)
-- X10_clear
def f289 (F : Nat) (S : AmT) : Option (Int32 × AmT) := (f201 F S).bind fun S1 => am_lt ((am_upI S1.1 96 (8 : Int32).toNatClampNeg 0, S1.2) : AmT) fun S2 => some ((S1.1 96 8), S2)
set_option maxHeartbeats 1000000 in
set_option maxRecDepth 20000 in
theorem r289 {Lg : Nat} {xs : Nat → Int32} {d F : Nat} {S : AmT} {q : Int32 × AmT} (hd : 3 ≤ d) (H : f289 F S = some q) : Ex (am_X Lg xs) d 289 (am_P 289) (am_ini (am_Mi 289).1 [.ref 95]) [] (hS S) (some q.1, hS q.2) := by
  obtain ⟨d, rfl⟩ : ∃ d2, d = d2 + 1 := ⟨d - 1, by omega⟩
  unfold f289 at H
  show Ex (am_X Lg xs) _ 289 am_c289_0 [.ref 95, .long 0] [] (hS S) (some q.1, hS q.2)
  refine ex_aload_n rfl ?_
  obtain ⟨S1, hp, H⟩ := Option.bind_eq_some_iff.mp H
  refine ex_callV rfl rfl (Nat.le_of_ble_eq_true rfl) (Nat.le_of_ble_eq_true rfl) rfl (r201 (by omega) hp) rfl ?_
  refine ex_aload_n rfl ?_
  refine ex_getR (w := 96) rfl rfl rfl ?_
  refine ex_bipush (v := 8) (by decide) ?_
  refine ex_iald (v := S1.1 96 8) rfl (by decide) rfl ?_
  refine ex_istore_n (L2 := [.ref 95, .int (S1.1 96 8)]) (Nat.le_of_ble_eq_true rfl) rfl ?_
  refine ex_aload_n rfl ?_
  refine ex_getR (w := 96) rfl rfl rfl ?_
  refine ex_bipush (v := 8) (by decide) ?_
  refine ex_iconst (v := 0) (by decide) ?_
  refine ex_iast (k := 32) rfl rfl (by decide) ?_
  generalize ((am_upI S1.1 96 (8 : Int32).toNatClampNeg 0, S1.2) : AmT) = S2 at H ⊢
  have H := am_lt_el H
  refine ex_iload_n rfl ?_
  have H := Option.some.inj H
  subst H
  exact ex_iret (M := 289) (Or.inl rfl)
-- X1_foldGrid
def f29 (F : Nat) (x1 : Int32) (x2 : Int32) (x3 : Int32) (x4 : Int32) (S : AmT) : Option (Int32 × AmT) := (f70 F x2 x3 S).bind fun S1 => am_b2 (f30 F 10 x1 0 S1) fun v2 S3 => if 0 ≤ v2 then (am_b2 (f71 F S3) fun v5 S6 => if v5 = 0 then (some ((-18), S6)) else (am_b2 (f79 F (x4 * 64) S6) fun v8 S9 => some ((2 * v8), S9))) else (some (v2, S3))
set_option maxHeartbeats 1000000 in
set_option maxRecDepth 20000 in
theorem r29 {Lg : Nat} {xs : Nat → Int32} {d F : Nat} {x1 : Int32} {x2 : Int32} {x3 : Int32} {x4 : Int32} {S : AmT} {q : Int32 × AmT} (hd : 4 ≤ d) (H : f29 F x1 x2 x3 x4 S = some q) : Ex (am_X Lg xs) d 29 (am_P 29) (am_ini (am_Mi 29).1 [.ref 22, .int x1, .int x2, .int x3, .int x4]) [] (hS S) (some q.1, hS q.2) := by
  obtain ⟨d, rfl⟩ : ∃ d2, d = d2 + 1 := ⟨d - 1, by omega⟩
  unfold f29 at H
  show Ex (am_X Lg xs) _ 29 am_c29_0 [.ref 22, .int x1, .int x2, .int x3, .int x4, .long 0] [] (hS S) (some q.1, hS q.2)
  refine ex_aload_n rfl ?_
  refine ex_getR (w := 24) rfl rfl rfl ?_
  refine ex_iload_n rfl ?_
  refine ex_iload_n rfl ?_
  obtain ⟨S1, hp, H⟩ := Option.bind_eq_some_iff.mp H
  refine ex_callV rfl rfl (Nat.le_of_ble_eq_true rfl) (Nat.le_of_ble_eq_true rfl) rfl (r70 (by omega) hp) rfl ?_
  refine ex_aload_n rfl ?_
  refine ex_iload_n rfl ?_
  refine ex_iconst (v := 0) (by decide) ?_
  obtain ⟨v2, S3, hp, H⟩ := am_b2_el H
  refine ex_callV rfl rfl (Nat.le_of_ble_eq_true rfl) (Nat.le_of_ble_eq_true rfl) rfl (r30 (by omega) hp) rfl ?_
  refine ex_istore (L2 := [.ref 22, .int x1, .int x2, .int x3, .int x4, .int v2]) (Nat.le_of_ble_eq_true rfl) rfl ?_
  refine ex_iload rfl ?_
  by_cases h4 : 0 ≤ v2
  · rw [if_pos h4] at H
    refine ex_if_ge_j (ct := am_c29_25) h4 rfl ?_
    refine ex_aload_n rfl ?_
    refine ex_getR (w := 24) rfl rfl rfl ?_
    obtain ⟨v5, S6, hp, H⟩ := am_b2_el H
    refine ex_callV rfl rfl (Nat.le_of_ble_eq_true rfl) (Nat.le_of_ble_eq_true rfl) rfl (r71 (by omega) hp) rfl ?_
    by_cases h7 : v5 = 0
    · rw [if_pos h7] at H
      refine ex_if_ne_f h7 ?_
      refine ex_bipush (v := (-18)) (by decide) ?_
      have H := Option.some.inj H
      subst H
      exact ex_iret (M := 29) (Or.inl rfl)
    · rw [if_neg h7] at H
      refine ex_if_ne_j (ct := am_c29_38) h7 rfl ?_
      refine ex_iconst (v := 2) (by decide) ?_
      refine ex_aload_n rfl ?_
      refine ex_getR (w := 24) rfl rfl rfl ?_
      refine ex_aload_n rfl ?_
      refine ex_getR (w := 23) rfl rfl rfl ?_
      refine ex_iload rfl ?_
      refine ex_bipush (v := 64) (by decide) ?_
      refine ex_imul ?_
      obtain ⟨v8, S9, hp, H⟩ := am_b2_el H
      refine ex_callV rfl rfl (Nat.le_of_ble_eq_true rfl) (Nat.le_of_ble_eq_true rfl) rfl (r79 (by omega) hp) rfl ?_
      refine ex_imul ?_
      have H := Option.some.inj H
      subst H
      exact ex_iret (M := 29) (Or.inl rfl)
  · rw [if_neg h4] at H
    refine ex_if_ge_f h4 ?_
    refine ex_iload rfl ?_
    have H := Option.some.inj H
    subst H
    exact ex_iret (M := 29) (Or.inl rfl)
def g91_88 (F : Nat) (k2 : Int32 → Int32 → Int32 → AmT → Option (Int32 × AmT)) (k33 : Int32 → Int32 → Int32 → Int32 → AmT → Option (Int32 × AmT)) (x1 : Int32) (x2 : Int32) (x3 : Int32) (x4 : Int32) (s0 : Int32) (S : AmT) : Option (Int32 × AmT) := if 0 ≤ s0 then ((f135 F s0 S).bind fun S18 => k33 x1 x2 x3 (x4 + 1) S18) else (some (s0, S))
def g91_33 (F : Nat) (k2 : Int32 → Int32 → Int32 → AmT → Option (Int32 × AmT)) : Nat → Int32 → Int32 → Int32 → Int32 → AmT → Option (Int32 × AmT)
  | 0, _, _, _, _, _ => none
  | n + 1, x1, x2, x3, x4, S => am_b2 (f98 F x1 S) fun v7 S8 => if v7 ≤ x4 then (k2 x1 x2 (x3 + 1) S8) else (am_b2 (f104 F x1 x2 x3 x4 S8) fun v10 S11 => am_b2 (f106 F v10 S11) fun v12 S13 => if v12 = 0 then (g91_88 F k2 (fun x1 x2 x3 x4 S => g91_33 F k2 n x1 x2 x3 x4 S) x1 x2 x3 x4 0 S13) else (am_b2 (f115 F x1 v10 0 0 S13) fun v15 S16 => g91_88 F k2 (fun x1 x2 x3 x4 S => g91_33 F k2 n x1 x2 x3 x4 S) x1 x2 x3 x4 v15 S16))
def g91_2 (F : Nat) : Nat → Int32 → Int32 → Int32 → AmT → Option (Int32 × AmT)
  | 0, _, _, _, _ => none
  | n + 1, x1, x2, x3, S => am_b2 (f97 F x1 S) fun v1 S2 => if v1 ≤ x3 then (some (1, S2)) else (am_b2 (f102 F x1 x2 x3 S2) fun v4 S5 => if v4 = 0 then (g91_33 F (fun x1 x2 x3 S => g91_2 F n x1 x2 x3 S) F x1 x2 x3 0 S5) else (some ((-11), S5)))
-- X6_inkSide
def f91 (F : Nat) (x1 : Int32) (x2 : Int32) (S : AmT) : Option (Int32 × AmT) := g91_2 F F x1 x2 0 S
set_option maxHeartbeats 1000000 in
set_option maxRecDepth 20000 in
theorem e91_88 {Lg : Nat} {xs : Nat → Int32} {d F : Nat} {k2 : Int32 → Int32 → Int32 → AmT → Option (Int32 × AmT)} {k33 : Int32 → Int32 → Int32 → Int32 → AmT → Option (Int32 × AmT)} {x1 : Int32} {x2 : Int32} {x3 : Int32} {x4 : Int32} {s0 : Int32} {w5 : Value} {w6 : Value} {S : AmT} {q : Int32 × AmT} (hd : 4 ≤ d) (hk2 : ∀ (x1 : Int32) (x2 : Int32) (x3 : Int32) (w4 : Value) (w5 : Value) (w6 : Value) (S : AmT) (q : Int32 × AmT), k2 x1 x2 x3 S = some q → Ex (am_X Lg xs) d 91 am_c91_2 [.ref 86, .int x1, .int x2, .int x3, w4, w5, w6] [] (hS S) (some q.1, hS q.2)) (hk33 : ∀ (x1 : Int32) (x2 : Int32) (x3 : Int32) (x4 : Int32) (w5 : Value) (w6 : Value) (S : AmT) (q : Int32 × AmT), k33 x1 x2 x3 x4 S = some q → Ex (am_X Lg xs) d 91 am_c91_33 [.ref 86, .int x1, .int x2, .int x3, .int x4, w5, w6] [] (hS S) (some q.1, hS q.2)) (H : g91_88 F k2 k33 x1 x2 x3 x4 s0 S = some q) : Ex (am_X Lg xs) d 91 am_c91_88 [.ref 86, .int x1, .int x2, .int x3, .int x4, w5, w6] [.int s0] (hS S) (some q.1, hS q.2) := by
  obtain ⟨d, rfl⟩ : ∃ d2, d = d2 + 1 := ⟨d - 1, by omega⟩
  unfold g91_88 at H
  refine ex_istore (L2 := [.ref 86, .int x1, .int x2, .int x3, .int x4, w5, .int s0]) (Nat.le_of_ble_eq_true rfl) rfl ?_
  refine ex_iload rfl ?_
  by_cases h17 : 0 ≤ s0
  · rw [if_pos h17] at H
    refine ex_if_ge_j (ct := am_c91_98) h17 rfl ?_
    refine ex_aload_n rfl ?_
    refine ex_getR (w := 5) rfl rfl rfl ?_
    refine ex_iload rfl ?_
    obtain ⟨S18, hp, H⟩ := Option.bind_eq_some_iff.mp H
    refine ex_callV rfl rfl (Nat.le_of_ble_eq_true rfl) (Nat.le_of_ble_eq_true rfl) rfl (r135 (by omega) hp) rfl ?_
    refine ex_iinc (L2 := [.ref 86, .int x1, .int x2, .int x3, .int (x4 + 1), w5, .int s0]) (v := (x4 + 1)) rfl (Nat.le_of_ble_eq_true rfl) (congrArg (fun z => x4 + z) (by decide)) rfl ?_
    refine ex_goto (ct := am_c91_33) rfl ?_
    exact hk33 _ _ _ _ _ _ _ _ H
  · rw [if_neg h17] at H
    refine ex_if_ge_f h17 ?_
    refine ex_iload rfl ?_
    have H := Option.some.inj H
    subst H
    exact ex_iret (M := 91) (Or.inl rfl)
set_option maxHeartbeats 1000000 in
set_option maxRecDepth 20000 in
theorem e91_33 {Lg : Nat} {xs : Nat → Int32} {d F : Nat} {k2 : Int32 → Int32 → Int32 → AmT → Option (Int32 × AmT)} (hd : 4 ≤ d) (hk2 : ∀ (x1 : Int32) (x2 : Int32) (x3 : Int32) (w4 : Value) (w5 : Value) (w6 : Value) (S : AmT) (q : Int32 × AmT), k2 x1 x2 x3 S = some q → Ex (am_X Lg xs) d 91 am_c91_2 [.ref 86, .int x1, .int x2, .int x3, w4, w5, w6] [] (hS S) (some q.1, hS q.2)) : ∀ (n : Nat) (x1 : Int32) (x2 : Int32) (x3 : Int32) (x4 : Int32) (w5 : Value) (w6 : Value) (S : AmT) (q : Int32 × AmT), g91_33 F k2 n x1 x2 x3 x4 S = some q → Ex (am_X Lg xs) d 91 am_c91_33 [.ref 86, .int x1, .int x2, .int x3, .int x4, w5, w6] [] (hS S) (some q.1, hS q.2) := by
  obtain ⟨d, rfl⟩ : ∃ d2, d = d2 + 1 := ⟨d - 1, by omega⟩
  intro n
  induction n with
  | zero =>
    intro x1 x2 x3 x4 w5 w6 S q H
    cases H
  | succ n ih =>
    intro x1 x2 x3 x4 w5 w6 S q H
    have H : (am_b2 (f98 F x1 S) fun v7 S8 => if v7 ≤ x4 then (k2 x1 x2 (x3 + 1) S8) else (am_b2 (f104 F x1 x2 x3 x4 S8) fun v10 S11 => am_b2 (f106 F v10 S11) fun v12 S13 => if v12 = 0 then (g91_88 F k2 (fun x1 x2 x3 x4 S => g91_33 F k2 n x1 x2 x3 x4 S) x1 x2 x3 x4 0 S13) else (am_b2 (f115 F x1 v10 0 0 S13) fun v15 S16 => g91_88 F k2 (fun x1 x2 x3 x4 S => g91_33 F k2 n x1 x2 x3 x4 S) x1 x2 x3 x4 v15 S16))) = some q := H
    refine ex_iload rfl ?_
    refine ex_aload_n rfl ?_
    refine ex_getR (w := 46) rfl rfl rfl ?_
    refine ex_iload_n rfl ?_
    obtain ⟨v7, S8, hp, H⟩ := am_b2_el H
    refine ex_callV rfl rfl (Nat.le_of_ble_eq_true rfl) (Nat.le_of_ble_eq_true rfl) rfl (r98 (by omega) hp) rfl ?_
    by_cases h9 : v7 ≤ x4
    · rw [if_pos h9] at H
      refine ex_icmp_ge_j (ct := am_c91_113) h9 rfl ?_
      refine ex_iinc (L2 := [.ref 86, .int x1, .int x2, .int (x3 + 1), .int x4, w5, w6]) (v := (x3 + 1)) rfl (Nat.le_of_ble_eq_true rfl) (congrArg (fun z => x3 + z) (by decide)) rfl ?_
      refine ex_goto (ct := am_c91_2) rfl ?_
      exact hk2 _ _ _ _ _ _ _ _ H
    · rw [if_neg h9] at H
      refine ex_icmp_ge_f h9 ?_
      refine ex_aload_n rfl ?_
      refine ex_getR (w := 46) rfl rfl rfl ?_
      refine ex_iload_n rfl ?_
      refine ex_iload_n rfl ?_
      refine ex_iload_n rfl ?_
      refine ex_iload rfl ?_
      obtain ⟨v10, S11, hp, H⟩ := am_b2_el H
      refine ex_callV rfl rfl (Nat.le_of_ble_eq_true rfl) (Nat.le_of_ble_eq_true rfl) rfl (r104 (by omega) hp) rfl ?_
      refine ex_istore (L2 := [.ref 86, .int x1, .int x2, .int x3, .int x4, .int v10, w6]) (Nat.le_of_ble_eq_true rfl) rfl ?_
      refine ex_aload_n rfl ?_
      refine ex_getR (w := 46) rfl rfl rfl ?_
      refine ex_iload rfl ?_
      obtain ⟨v12, S13, hp, H⟩ := am_b2_el H
      refine ex_callV rfl rfl (Nat.le_of_ble_eq_true rfl) (Nat.le_of_ble_eq_true rfl) rfl (r106 (by omega) hp) rfl ?_
      by_cases h14 : v12 = 0
      · rw [if_pos h14] at H
        refine ex_if_ne_f h14 ?_
        refine ex_iconst (v := 0) (by decide) ?_
        refine ex_goto (ct := am_c91_88) rfl ?_
        exact e91_88 hd hk2 (fun x1 x2 x3 x4 w5 w6 S q H => ih x1 x2 x3 x4 w5 w6 S q H) H
      · rw [if_neg h14] at H
        refine ex_if_ne_j (ct := am_c91_76) h14 rfl ?_
        refine ex_aload_n rfl ?_
        refine ex_getR (w := 46) rfl rfl rfl ?_
        refine ex_iload_n rfl ?_
        refine ex_iload rfl ?_
        refine ex_iconst (v := 0) (by decide) ?_
        refine ex_iconst (v := 0) (by decide) ?_
        obtain ⟨v15, S16, hp, H⟩ := am_b2_el H
        refine ex_callV rfl rfl (Nat.le_of_ble_eq_true rfl) (Nat.le_of_ble_eq_true rfl) rfl (r115 (by omega) hp) rfl ?_
        exact e91_88 hd hk2 (fun x1 x2 x3 x4 w5 w6 S q H => ih x1 x2 x3 x4 w5 w6 S q H) H
set_option maxHeartbeats 1000000 in
set_option maxRecDepth 20000 in
theorem e91_2 {Lg : Nat} {xs : Nat → Int32} {d F : Nat} (hd : 4 ≤ d) : ∀ (n : Nat) (x1 : Int32) (x2 : Int32) (x3 : Int32) (w4 : Value) (w5 : Value) (w6 : Value) (S : AmT) (q : Int32 × AmT), g91_2 F n x1 x2 x3 S = some q → Ex (am_X Lg xs) d 91 am_c91_2 [.ref 86, .int x1, .int x2, .int x3, w4, w5, w6] [] (hS S) (some q.1, hS q.2) := by
  obtain ⟨d, rfl⟩ : ∃ d2, d = d2 + 1 := ⟨d - 1, by omega⟩
  intro n
  induction n with
  | zero =>
    intro x1 x2 x3 w4 w5 w6 S q H
    cases H
  | succ n ih =>
    intro x1 x2 x3 w4 w5 w6 S q H
    have H : (am_b2 (f97 F x1 S) fun v1 S2 => if v1 ≤ x3 then (some (1, S2)) else (am_b2 (f102 F x1 x2 x3 S2) fun v4 S5 => if v4 = 0 then (g91_33 F (fun x1 x2 x3 S => g91_2 F n x1 x2 x3 S) F x1 x2 x3 0 S5) else (some ((-11), S5)))) = some q := H
    refine ex_iload_n rfl ?_
    refine ex_aload_n rfl ?_
    refine ex_getR (w := 46) rfl rfl rfl ?_
    refine ex_iload_n rfl ?_
    obtain ⟨v1, S2, hp, H⟩ := am_b2_el H
    refine ex_callV rfl rfl (Nat.le_of_ble_eq_true rfl) (Nat.le_of_ble_eq_true rfl) rfl (r97 (by omega) hp) rfl ?_
    by_cases h3 : v1 ≤ x3
    · rw [if_pos h3] at H
      refine ex_icmp_ge_j (ct := am_c91_119) h3 rfl ?_
      refine ex_iconst (v := 1) (by decide) ?_
      have H := Option.some.inj H
      subst H
      exact ex_iret (M := 91) (Or.inl rfl)
    · rw [if_neg h3] at H
      refine ex_icmp_ge_f h3 ?_
      refine ex_aload_n rfl ?_
      refine ex_getR (w := 46) rfl rfl rfl ?_
      refine ex_iload_n rfl ?_
      refine ex_iload_n rfl ?_
      refine ex_iload_n rfl ?_
      obtain ⟨v4, S5, hp, H⟩ := am_b2_el H
      refine ex_callV rfl rfl (Nat.le_of_ble_eq_true rfl) (Nat.le_of_ble_eq_true rfl) rfl (r102 (by omega) hp) rfl ?_
      by_cases h6 : v4 = 0
      · rw [if_pos h6] at H
        refine ex_if_eq_j (ct := am_c91_30) h6 rfl ?_
        refine ex_iconst (v := 0) (by decide) ?_
        refine ex_istore (L2 := [.ref 86, .int x1, .int x2, .int x3, .int 0, w5, w6]) (Nat.le_of_ble_eq_true rfl) rfl ?_
        exact e91_33 hd (fun x1 x2 x3 w4 w5 w6 S q H => ih x1 x2 x3 w4 w5 w6 S q H) _ _ _ _ _ _ _ _ _ H
      · rw [if_neg h6] at H
        refine ex_if_eq_f h6 ?_
        refine ex_bipush (v := (-11)) (by decide) ?_
        have H := Option.some.inj H
        subst H
        exact ex_iret (M := 91) (Or.inl rfl)
set_option maxHeartbeats 1000000 in
set_option maxRecDepth 20000 in
theorem r91 {Lg : Nat} {xs : Nat → Int32} {d F : Nat} {x1 : Int32} {x2 : Int32} {S : AmT} {q : Int32 × AmT} (hd : 4 ≤ d) (H : f91 F x1 x2 S = some q) : Ex (am_X Lg xs) d 91 (am_P 91) (am_ini (am_Mi 91).1 [.ref 86, .int x1, .int x2]) [] (hS S) (some q.1, hS q.2) := by
  obtain ⟨d, rfl⟩ : ∃ d2, d = d2 + 1 := ⟨d - 1, by omega⟩
  unfold f91 at H
  show Ex (am_X Lg xs) _ 91 am_c91_0 [.ref 86, .int x1, .int x2, .long 0, .long 0, .long 0, .long 0] [] (hS S) (some q.1, hS q.2)
  refine ex_iconst (v := 0) (by decide) ?_
  refine ex_istore_n (L2 := [.ref 86, .int x1, .int x2, .int 0, .long 0, .long 0, .long 0]) (Nat.le_of_ble_eq_true rfl) rfl ?_
  exact e91_2 hd _ _ _ _ _ _ _ _ _ H
