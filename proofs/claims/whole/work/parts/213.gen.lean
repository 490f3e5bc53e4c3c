/-! printed by wip/gen/gen20.py -/
-- X9_clear
def f187 (F : Nat) (S : AmT) : Option (Int32 × AmT) := (f58 F S).bind fun S1 => am_b2 (f82 F S1) fun v2 S3 => some (v2, S3)
set_option maxHeartbeats 1000000 in
set_option maxRecDepth 20000 in
theorem r187 {Lg : Nat} {xs : Nat → Int32} {d F : Nat} {S : AmT} {q : Int32 × AmT} (hd : 3 ≤ d) (H : f187 F S = some q) : Ex (am_X Lg xs) d 187 (am_P 187) (am_ini (am_Mi 187).1 [.ref 0]) [] (hS S) (some q.1, hS q.2) := by
  obtain ⟨d, rfl⟩ : ∃ d2, d = d2 + 1 := ⟨d - 1, by omega⟩
  unfold f187 at H
  show Ex (am_X Lg xs) _ 187 am_c187_0 [.ref 0] [] (hS S) (some q.1, hS q.2)
  refine ex_aload_n rfl ?_
  refine ex_getR (w := 1) rfl rfl rfl ?_
  obtain ⟨S1, hp, H⟩ := Option.bind_eq_some_iff.mp H
  refine ex_callV rfl rfl (Nat.le_of_ble_eq_true rfl) (Nat.le_of_ble_eq_true rfl) rfl (r58 (by omega) hp) rfl ?_
  refine ex_aload_n rfl ?_
  refine ex_getR (w := 86) rfl rfl rfl ?_
  obtain ⟨v2, S3, hp, H⟩ := am_b2_el H
  refine ex_callV rfl rfl (Nat.le_of_ble_eq_true rfl) (Nat.le_of_ble_eq_true rfl) rfl (r82 (by omega) hp) rfl ?_
  have H := Option.some.inj H
  subst H
  exact ex_iret (M := 187) (Or.inl rfl)
-- X9_good
def f189 (F : Nat) (x1 : Int32) (S : AmT) : Option (Int32 × AmT) := am_b2 (f2 F x1 S) fun v1 S2 => if v1 = 0 then (some ((-2), S2)) else (am_b2 (f18 F x1 S2) fun v4 S5 => some (v4, S5))
set_option maxHeartbeats 1000000 in
set_option maxRecDepth 20000 in
theorem r189 {Lg : Nat} {xs : Nat → Int32} {d F : Nat} {x1 : Int32} {S : AmT} {q : Int32 × AmT} (hd : 3 ≤ d) (H : f189 F x1 S = some q) : Ex (am_X Lg xs) d 189 (am_P 189) (am_ini (am_Mi 189).1 [.ref 0, .int x1]) [] (hS S) (some q.1, hS q.2) := by
  obtain ⟨d, rfl⟩ : ∃ d2, d = d2 + 1 := ⟨d - 1, by omega⟩
  unfold f189 at H
  show Ex (am_X Lg xs) _ 189 am_c189_0 [.ref 0, .int x1] [] (hS S) (some q.1, hS q.2)
  refine ex_aload_n rfl ?_
  refine ex_getR (w := 69) rfl rfl rfl ?_
  refine ex_iload_n rfl ?_
  obtain ⟨v1, S2, hp, H⟩ := am_b2_el H
  refine ex_callV rfl rfl (Nat.le_of_ble_eq_true rfl) (Nat.le_of_ble_eq_true rfl) rfl (r2 (by omega) hp) rfl ?_
  by_cases h3 : v1 = 0
  · rw [if_pos h3] at H
    refine ex_if_ne_f h3 ?_
    refine ex_bipush (v := (-2)) (by decide) ?_
    have H := Option.some.inj H
    subst H
    exact ex_iret (M := 189) (Or.inl rfl)
  · rw [if_neg h3] at H
    refine ex_if_ne_j (ct := am_c189_14) h3 rfl ?_
    refine ex_aload_n rfl ?_
    refine ex_getR (w := 69) rfl rfl rfl ?_
    refine ex_iload_n rfl ?_
    obtain ⟨v4, S5, hp, H⟩ := am_b2_el H
    refine ex_callV rfl rfl (Nat.le_of_ble_eq_true rfl) (Nat.le_of_ble_eq_true rfl) rfl (r18 (by omega) hp) rfl ?_
    have H := Option.some.inj H
    subst H
    exact ex_iret (M := 189) (Or.inl rfl)
-- X10_job
def f208 (F : Nat) (x1 : Int32) (x2 : Int32) (S : AmT) : Option (Int32 × AmT) := am_b2 (f202 F S) fun v1 S2 => if v1 = 0 then (am_b2 (f197 F x1 1 8 S2) fun v4 S5 => if v4 = 0 then (some ((-1), S5)) else (am_b2 (f197 F x2 1 10 S5) fun v7 S8 => if v7 = 0 then (some ((-1), S8)) else (if (S8.1 96 0) = 3 then (some ((-3), S8)) else ((f201 F S8).bind fun S11 => am_lt ((am_upI S11.1 96 (0 : Int32).toNatClampNeg ((S11.1 96 0) + 1), S11.2) : AmT) fun S12 => am_ck (S11.1 96 0) 6 (am_lt ((am_upI S12.1 97 (S11.1 96 0).toNatClampNeg 0, S12.2) : AmT) fun S13 => am_ck (S11.1 96 0) 6 (am_lt ((am_upI S13.1 98 (S11.1 96 0).toNatClampNeg x1, S13.2) : AmT) fun S14 => am_ck (S11.1 96 0) 6 (am_lt ((am_upI S14.1 99 (S11.1 96 0).toNatClampNeg x2, S14.2) : AmT) fun S15 => some ((S11.1 96 0), S15)))))))) else (some ((-4), S2))
set_option maxHeartbeats 1000000 in
set_option maxRecDepth 20000 in
theorem r208 {Lg : Nat} {xs : Nat → Int32} {d F : Nat} {x1 : Int32} {x2 : Int32} {S : AmT} {q : Int32 × AmT} (hd : 3 ≤ d) (H : f208 F x1 x2 S = some q) : Ex (am_X Lg xs) d 208 (am_P 208) (am_ini (am_Mi 208).1 [.ref 95, .int x1, .int x2]) [] (hS S) (some q.1, hS q.2) := by
  obtain ⟨d, rfl⟩ : ∃ d2, d = d2 + 1 := ⟨d - 1, by omega⟩
  unfold f208 at H
  show Ex (am_X Lg xs) _ 208 am_c208_0 [.ref 95, .int x1, .int x2, .long 0] [] (hS S) (some q.1, hS q.2)
  refine ex_aload_n rfl ?_
  obtain ⟨v1, S2, hp, H⟩ := am_b2_el H
  refine ex_callV rfl rfl (Nat.le_of_ble_eq_true rfl) (Nat.le_of_ble_eq_true rfl) rfl (r202 (by omega) hp) rfl ?_
  by_cases h3 : v1 = 0
  · rw [if_pos h3] at H
    refine ex_if_eq_j (ct := am_c208_10) h3 rfl ?_
    refine ex_iload_n rfl ?_
    refine ex_iconst (v := 1) (by decide) ?_
    refine ex_bipush (v := 8) (by decide) ?_
    obtain ⟨v4, S5, hp, H⟩ := am_b2_el H
    refine ex_callS rfl rfl (Nat.le_of_ble_eq_true rfl) (Nat.le_of_ble_eq_true rfl) (r197 (by omega) hp) rfl ?_
    by_cases h6 : v4 = 0
    · rw [if_pos h6] at H
      refine ex_if_eq_j (ct := am_c208_30) h6 rfl ?_
      refine ex_iconst (v := (-1)) (by decide) ?_
      have H := Option.some.inj H
      subst H
      exact ex_iret (M := 208) (Or.inl rfl)
    · rw [if_neg h6] at H
      refine ex_if_eq_f h6 ?_
      refine ex_iload_n rfl ?_
      refine ex_iconst (v := 1) (by decide) ?_
      refine ex_bipush (v := 10) (by decide) ?_
      obtain ⟨v7, S8, hp, H⟩ := am_b2_el H
      refine ex_callS rfl rfl (Nat.le_of_ble_eq_true rfl) (Nat.le_of_ble_eq_true rfl) (r197 (by omega) hp) rfl ?_
      by_cases h9 : v7 = 0
      · rw [if_pos h9] at H
        refine ex_if_ne_f h9 ?_
        refine ex_iconst (v := (-1)) (by decide) ?_
        have H := Option.some.inj H
        subst H
        exact ex_iret (M := 208) (Or.inl rfl)
      · rw [if_neg h9] at H
        refine ex_if_ne_j (ct := am_c208_32) h9 rfl ?_
        refine ex_aload_n rfl ?_
        refine ex_getR (w := 96) rfl rfl rfl ?_
        refine ex_iconst (v := 0) (by decide) ?_
        refine ex_iald (v := S8.1 96 0) rfl (by decide) rfl ?_
        refine ex_iconst (v := 3) (by decide) ?_
        by_cases h10 : (S8.1 96 0) = 3
        · rw [if_pos h10] at H
          refine ex_icmp_ne_f h10 ?_
          refine ex_bipush (v := (-3)) (by decide) ?_
          have H := Option.some.inj H
          subst H
          exact ex_iret (M := 208) (Or.inl rfl)
        · rw [if_neg h10] at H
          refine ex_icmp_ne_j (ct := am_c208_45) h10 rfl ?_
          refine ex_aload_n rfl ?_
          obtain ⟨S11, hp, H⟩ := Option.bind_eq_some_iff.mp H
          refine ex_callV rfl rfl (Nat.le_of_ble_eq_true rfl) (Nat.le_of_ble_eq_true rfl) rfl (r201 (by omega) hp) rfl ?_
          refine ex_aload_n rfl ?_
          refine ex_getR (w := 96) rfl rfl rfl ?_
          refine ex_iconst (v := 0) (by decide) ?_
          refine ex_iald (v := S11.1 96 0) rfl (by decide) rfl ?_
          refine ex_istore_n (L2 := [.ref 95, .int x1, .int x2, .int (S11.1 96 0)]) (Nat.le_of_ble_eq_true rfl) rfl ?_
          refine ex_aload_n rfl ?_
          refine ex_getR (w := 96) rfl rfl rfl ?_
          refine ex_iconst (v := 0) (by decide) ?_
          refine ex_dup2 ?_
          refine ex_iald (v := S11.1 96 0) rfl (by decide) rfl ?_
          refine ex_iconst (v := 1) (by decide) ?_
          refine ex_iadd ?_
          refine ex_iast (k := 32) rfl rfl (by decide) ?_
          generalize ((am_upI S11.1 96 (0 : Int32).toNatClampNeg ((S11.1 96 0) + 1), S11.2) : AmT) = S12 at H ⊢
          have H := am_lt_el H
          refine ex_aload_n rfl ?_
          refine ex_getR (w := 97) rfl rfl rfl ?_
          refine ex_iload_n rfl ?_
          refine ex_iconst (v := 0) (by decide) ?_
          obtain ⟨hj, H⟩ := am_ck_el H
          refine ex_iast (k := 6) rfl rfl hj ?_
          generalize ((am_upI S12.1 97 (S11.1 96 0).toNatClampNeg 0, S12.2) : AmT) = S13 at H ⊢
          have H := am_lt_el H
          refine ex_aload_n rfl ?_
          refine ex_getR (w := 98) rfl rfl rfl ?_
          refine ex_iload_n rfl ?_
          refine ex_iload_n rfl ?_
          obtain ⟨hj, H⟩ := am_ck_el H
          refine ex_iast (k := 6) rfl rfl hj ?_
          generalize ((am_upI S13.1 98 (S11.1 96 0).toNatClampNeg x1, S13.2) : AmT) = S14 at H ⊢
          have H := am_lt_el H
          refine ex_aload_n rfl ?_
          refine ex_getR (w := 99) rfl rfl rfl ?_
          refine ex_iload_n rfl ?_
          refine ex_iload_n rfl ?_
          obtain ⟨hj, H⟩ := am_ck_el H
          refine ex_iast (k := 6) rfl rfl hj ?_
          generalize ((am_upI S14.1 99 (S11.1 96 0).toNatClampNeg x2, S14.2) : AmT) = S15 at H ⊢
          have H := am_lt_el H
          refine ex_iload_n rfl ?_
          have H := Option.some.inj H
          subst H
          exact ex_iret (M := 208) (Or.inl rfl)
  · rw [if_neg h3] at H
    refine ex_if_eq_f h3 ?_
    refine ex_bipush (v := (-4)) (by decide) ?_
    have H := Option.some.inj H
    subst H
    exact ex_iret (M := 208) (Or.inl rfl)
-- X10_page
def f209 (F : Nat) (x1 : Int32) (S : AmT) : Option (Int32 × AmT) := am_b2 (f202 F S) fun v1 S2 => if v1 = 0 then (am_b2 (f205 F x1 S2) fun v4 S5 => if v4 = 0 then (some ((-2), S5)) else (am_ck x1 6 (if (S5.1 97 x1.toNatClampNeg) = 24 then (some ((-3), S5)) else ((f201 F S5).bind fun S8 => am_ck x1 6 (am_ck x1 6 (am_lt ((am_upI S8.1 97 x1.toNatClampNeg ((S8.1 97 x1.toNatClampNeg) + 1), S8.2) : AmT) fun S9 => am_ck x1 6 (am_b2 (f207 F x1 (S9.1 97 x1.toNatClampNeg) S9) fun v10 S11 => am_ck v10 144 (am_lt ((am_upI S11.1 100 v10.toNatClampNeg (-1), S11.2) : AmT) fun S12 => am_ck x1 6 (some ((S12.1 97 x1.toNatClampNeg), S12)))))))))) else (some ((-4), S2))
set_option maxHeartbeats 1000000 in
set_option maxRecDepth 20000 in
theorem r209 {Lg : Nat} {xs : Nat → Int32} {d F : Nat} {x1 : Int32} {S : AmT} {q : Int32 × AmT} (hd : 3 ≤ d) (H : f209 F x1 S = some q) : Ex (am_X Lg xs) d 209 (am_P 209) (am_ini (am_Mi 209).1 [.ref 95, .int x1]) [] (hS S) (some q.1, hS q.2) := by
  obtain ⟨d, rfl⟩ : ∃ d2, d = d2 + 1 := ⟨d - 1, by omega⟩
  unfold f209 at H
  show Ex (am_X Lg xs) _ 209 am_c209_0 [.ref 95, .int x1] [] (hS S) (some q.1, hS q.2)
  refine ex_aload_n rfl ?_
  obtain ⟨v1, S2, hp, H⟩ := am_b2_el H
  refine ex_callV rfl rfl (Nat.le_of_ble_eq_true rfl) (Nat.le_of_ble_eq_true rfl) rfl (r202 (by omega) hp) rfl ?_
  by_cases h3 : v1 = 0
  · rw [if_pos h3] at H
    refine ex_if_eq_j (ct := am_c209_10) h3 rfl ?_
    refine ex_aload_n rfl ?_
    refine ex_iload_n rfl ?_
    obtain ⟨v4, S5, hp, H⟩ := am_b2_el H
    refine ex_callV rfl rfl (Nat.le_of_ble_eq_true rfl) (Nat.le_of_ble_eq_true rfl) rfl (r205 (by omega) hp) rfl ?_
    by_cases h6 : v4 = 0
    · rw [if_pos h6] at H
      refine ex_if_ne_f h6 ?_
      refine ex_bipush (v := (-2)) (by decide) ?_
      have H := Option.some.inj H
      subst H
      exact ex_iret (M := 209) (Or.inl rfl)
    · rw [if_neg h6] at H
      refine ex_if_ne_j (ct := am_c209_21) h6 rfl ?_
      refine ex_aload_n rfl ?_
      refine ex_getR (w := 97) rfl rfl rfl ?_
      refine ex_iload_n rfl ?_
      obtain ⟨hj, H⟩ := am_ck_el H
      refine ex_iald (k := 6) (v := S5.1 97 x1.toNatClampNeg) rfl hj rfl ?_
      refine ex_bipush (v := 24) (by decide) ?_
      by_cases h7 : (S5.1 97 x1.toNatClampNeg) = 24
      · rw [if_pos h7] at H
        refine ex_icmp_ne_f h7 ?_
        refine ex_bipush (v := (-3)) (by decide) ?_
        have H := Option.some.inj H
        subst H
        exact ex_iret (M := 209) (Or.inl rfl)
      · rw [if_neg h7] at H
        refine ex_icmp_ne_j (ct := am_c209_35) h7 rfl ?_
        refine ex_aload_n rfl ?_
        obtain ⟨S8, hp, H⟩ := Option.bind_eq_some_iff.mp H
        refine ex_callV rfl rfl (Nat.le_of_ble_eq_true rfl) (Nat.le_of_ble_eq_true rfl) rfl (r201 (by omega) hp) rfl ?_
        refine ex_aload_n rfl ?_
        refine ex_getR (w := 97) rfl rfl rfl ?_
        refine ex_iload_n rfl ?_
        refine ex_dup2 ?_
        obtain ⟨hj, H⟩ := am_ck_el H
        refine ex_iald (k := 6) (v := S8.1 97 x1.toNatClampNeg) rfl hj rfl ?_
        refine ex_iconst (v := 1) (by decide) ?_
        refine ex_iadd ?_
        obtain ⟨hj, H⟩ := am_ck_el H
        refine ex_iast (k := 6) rfl rfl hj ?_
        generalize ((am_upI S8.1 97 x1.toNatClampNeg ((S8.1 97 x1.toNatClampNeg) + 1), S8.2) : AmT) = S9 at H ⊢
        have H := am_lt_el H
        refine ex_aload_n rfl ?_
        refine ex_getR (w := 100) rfl rfl rfl ?_
        refine ex_iload_n rfl ?_
        refine ex_aload_n rfl ?_
        refine ex_getR (w := 97) rfl rfl rfl ?_
        refine ex_iload_n rfl ?_
        obtain ⟨hj, H⟩ := am_ck_el H
        refine ex_iald (k := 6) (v := S9.1 97 x1.toNatClampNeg) rfl hj rfl ?_
        obtain ⟨v10, S11, hp, H⟩ := am_b2_el H
        refine ex_callS rfl rfl (Nat.le_of_ble_eq_true rfl) (Nat.le_of_ble_eq_true rfl) (r207 (by omega) hp) rfl ?_
        refine ex_iconst (v := (-1)) (by decide) ?_
        obtain ⟨hj, H⟩ := am_ck_el H
        refine ex_iast (k := 144) rfl rfl hj ?_
        generalize ((am_upI S11.1 100 v10.toNatClampNeg (-1), S11.2) : AmT) = S12 at H ⊢
        have H := am_lt_el H
        refine ex_aload_n rfl ?_
        refine ex_getR (w := 97) rfl rfl rfl ?_
        refine ex_iload_n rfl ?_
        obtain ⟨hj, H⟩ := am_ck_el H
        refine ex_iald (k := 6) (v := S12.1 97 x1.toNatClampNeg) rfl hj rfl ?_
        have H := Option.some.inj H
        subst H
        exact ex_iret (M := 209) (Or.inl rfl)
  · rw [if_neg h3] at H
    refine ex_if_eq_f h3 ?_
    refine ex_bipush (v := (-4)) (by decide) ?_
    have H := Option.some.inj H
    subst H
    exact ex_iret (M := 209) (Or.inl rfl)
-- X10_blank
def f210 (F : Nat) (x1 : Int32) (x2 : Int32) (S : AmT) : Option (Int32 × AmT) := am_b2 (f202 F S) fun v1 S2 => if v1 = 0 then (am_b2 (f206 F x1 x2 S2) fun v4 S5 => if v4 = 0 then (some ((-2), S5)) else ((f201 F S5).bind fun S7 => am_b2 (f207 F x1 x2 S7) fun v8 S9 => am_ck v8 144 (am_lt ((am_upI S9.1 100 v8.toNatClampNeg (-1), S9.2) : AmT) fun S10 => some (1, S10)))) else (some ((-4), S2))
set_option maxHeartbeats 1000000 in
set_option maxRecDepth 20000 in
theorem r210 {Lg : Nat} {xs : Nat → Int32} {d F : Nat} {x1 : Int32} {x2 : Int32} {S : AmT} {q : Int32 × AmT} (hd : 3 ≤ d) (H : f210 F x1 x2 S = some q) : Ex (am_X Lg xs) d 210 (am_P 210) (am_ini (am_Mi 210).1 [.ref 95, .int x1, .int x2]) [] (hS S) (some q.1, hS q.2) := by
  obtain ⟨d, rfl⟩ : ∃ d2, d = d2 + 1 := ⟨d - 1, by omega⟩
  unfold f210 at H
  show Ex (am_X Lg xs) _ 210 am_c210_0 [.ref 95, .int x1, .int x2] [] (hS S) (some q.1, hS q.2)
  refine ex_aload_n rfl ?_
  obtain ⟨v1, S2, hp, H⟩ := am_b2_el H
  refine ex_callV rfl rfl (Nat.le_of_ble_eq_true rfl) (Nat.le_of_ble_eq_true rfl) rfl (r202 (by omega) hp) rfl ?_
  by_cases h3 : v1 = 0
  · rw [if_pos h3] at H
    refine ex_if_eq_j (ct := am_c210_10) h3 rfl ?_
    refine ex_aload_n rfl ?_
    refine ex_iload_n rfl ?_
    refine ex_iload_n rfl ?_
    obtain ⟨v4, S5, hp, H⟩ := am_b2_el H
    refine ex_callV rfl rfl (Nat.le_of_ble_eq_true rfl) (Nat.le_of_ble_eq_true rfl) rfl (r206 (by omega) hp) rfl ?_
    by_cases h6 : v4 = 0
    · rw [if_pos h6] at H
      refine ex_if_ne_f h6 ?_
      refine ex_bipush (v := (-2)) (by decide) ?_
      have H := Option.some.inj H
      subst H
      exact ex_iret (M := 210) (Or.inl rfl)
    · rw [if_neg h6] at H
      refine ex_if_ne_j (ct := am_c210_22) h6 rfl ?_
      refine ex_aload_n rfl ?_
      obtain ⟨S7, hp, H⟩ := Option.bind_eq_some_iff.mp H
      refine ex_callV rfl rfl (Nat.le_of_ble_eq_true rfl) (Nat.le_of_ble_eq_true rfl) rfl (r201 (by omega) hp) rfl ?_
      refine ex_aload_n rfl ?_
      refine ex_getR (w := 100) rfl rfl rfl ?_
      refine ex_iload_n rfl ?_
      refine ex_iload_n rfl ?_
      obtain ⟨v8, S9, hp, H⟩ := am_b2_el H
      refine ex_callS rfl rfl (Nat.le_of_ble_eq_true rfl) (Nat.le_of_ble_eq_true rfl) (r207 (by omega) hp) rfl ?_
      refine ex_iconst (v := (-1)) (by decide) ?_
      obtain ⟨hj, H⟩ := am_ck_el H
      refine ex_iast (k := 144) rfl rfl hj ?_
      generalize ((am_upI S9.1 100 v8.toNatClampNeg (-1), S9.2) : AmT) = S10 at H ⊢
      have H := am_lt_el H
      refine ex_iconst (v := 1) (by decide) ?_
      have H := Option.some.inj H
      subst H
      exact ex_iret (M := 210) (Or.inl rfl)
  · rw [if_neg h3] at H
    refine ex_if_eq_f h3 ?_
    refine ex_bipush (v := (-4)) (by decide) ?_
    have H := Option.some.inj H
    subst H
    exact ex_iret (M := 210) (Or.inl rfl)
def g211_66 (F : Nat) : Nat → Int32 → Int32 → Int32 → AmT → Option (Int32 × AmT)
  | 0, _, _, _, _ => none
  | n + 1, x3, x4, x5, S => if x3 ≤ x5 then (some (1, S)) else (am_ck ((8 * x4) + x5) 1152 (am_lt ((am_upI S.1 101 ((8 * x4) + x5).toNatClampNeg (-1), S.2) : AmT) fun S14 => g211_66 F n x3 x4 (x5 + 1) S14))
-- X10_rows
def f211 (F : Nat) (x1 : Int32) (x2 : Int32) (x3 : Int32) (S : AmT) : Option (Int32 × AmT) := am_b2 (f202 F S) fun v1 S2 => if v1 = 0 then (am_b2 (f206 F x1 x2 S2) fun v4 S5 => if v4 = 0 then (some ((-2), S5)) else ((f201 F S5).bind fun S7 => if x3 ≤ 8 then (if 0 ≤ x3 then (am_b2 (f207 F x1 x2 S7) fun v10 S11 => am_ck v10 144 (am_lt ((am_upI S11.1 100 v10.toNatClampNeg x3, S11.2) : AmT) fun S12 => g211_66 F F x3 v10 0 S12)) else (am_b2 (f203 F 3 S7) fun v15 S16 => some (v15, S16))) else (am_b2 (f203 F 4 S7) fun v17 S18 => some (v17, S18)))) else (some ((-4), S2))
set_option maxHeartbeats 1000000 in
set_option maxRecDepth 20000 in
theorem e211_66 {Lg : Nat} {xs : Nat → Int32} {d F : Nat} (hd : 3 ≤ d) : ∀ (n : Nat) (x3 : Int32) (x4 : Int32) (x5 : Int32) (w1 : Value) (w2 : Value) (S : AmT) (q : Int32 × AmT), g211_66 F n x3 x4 x5 S = some q → Ex (am_X Lg xs) d 211 am_c211_66 [.ref 95, w1, w2, .int x3, .int x4, .int x5] [] (hS S) (some q.1, hS q.2) := by
  obtain ⟨d, rfl⟩ : ∃ d2, d = d2 + 1 := ⟨d - 1, by omega⟩
  intro n
  induction n with
  | zero =>
    intro x3 x4 x5 w1 w2 S q H
    cases H
  | succ n ih =>
    intro x3 x4 x5 w1 w2 S q H
    have H : (if x3 ≤ x5 then (some (1, S)) else (am_ck ((8 * x4) + x5) 1152 (am_lt ((am_upI S.1 101 ((8 * x4) + x5).toNatClampNeg (-1), S.2) : AmT) fun S14 => g211_66 F n x3 x4 (x5 + 1) S14))) = some q := H
    refine ex_iload rfl ?_
    refine ex_iload_n rfl ?_
    by_cases h13 : x3 ≤ x5
    · rw [if_pos h13] at H
      refine ex_icmp_ge_j (ct := am_c211_92) h13 rfl ?_
      refine ex_iconst (v := 1) (by decide) ?_
      have H := Option.some.inj H
      subst H
      exact ex_iret (M := 211) (Or.inl rfl)
    · rw [if_neg h13] at H
      refine ex_icmp_ge_f h13 ?_
      refine ex_aload_n rfl ?_
      refine ex_getR (w := 101) rfl rfl rfl ?_
      refine ex_bipush (v := 8) (by decide) ?_
      refine ex_iload rfl ?_
      refine ex_imul ?_
      refine ex_iload rfl ?_
      refine ex_iadd ?_
      refine ex_iconst (v := (-1)) (by decide) ?_
      obtain ⟨hj, H⟩ := am_ck_el H
      refine ex_iast (k := 1152) rfl rfl hj ?_
      generalize ((am_upI S.1 101 ((8 * x4) + x5).toNatClampNeg (-1), S.2) : AmT) = S14 at H ⊢
      have H := am_lt_el H
      refine ex_iinc (L2 := [.ref 95, w1, w2, .int x3, .int x4, .int (x5 + 1)]) (v := (x5 + 1)) rfl (Nat.le_of_ble_eq_true rfl) (congrArg (fun z => x5 + z) (by decide)) rfl ?_
      refine ex_goto (ct := am_c211_66) rfl ?_
      exact ih _ _ _ _ _ _ _ H
set_option maxHeartbeats 1000000 in
set_option maxRecDepth 20000 in
theorem r211 {Lg : Nat} {xs : Nat → Int32} {d F : Nat} {x1 : Int32} {x2 : Int32} {x3 : Int32} {S : AmT} {q : Int32 × AmT} (hd : 3 ≤ d) (H : f211 F x1 x2 x3 S = some q) : Ex (am_X Lg xs) d 211 (am_P 211) (am_ini (am_Mi 211).1 [.ref 95, .int x1, .int x2, .int x3]) [] (hS S) (some q.1, hS q.2) := by
  obtain ⟨d, rfl⟩ : ∃ d2, d = d2 + 1 := ⟨d - 1, by omega⟩
  unfold f211 at H
  show Ex (am_X Lg xs) _ 211 am_c211_0 [.ref 95, .int x1, .int x2, .int x3, .long 0, .long 0] [] (hS S) (some q.1, hS q.2)
  refine ex_aload_n rfl ?_
  obtain ⟨v1, S2, hp, H⟩ := am_b2_el H
  refine ex_callV rfl rfl (Nat.le_of_ble_eq_true rfl) (Nat.le_of_ble_eq_true rfl) rfl (r202 (by omega) hp) rfl ?_
  by_cases h3 : v1 = 0
  · rw [if_pos h3] at H
    refine ex_if_eq_j (ct := am_c211_10) h3 rfl ?_
    refine ex_aload_n rfl ?_
    refine ex_iload_n rfl ?_
    refine ex_iload_n rfl ?_
    obtain ⟨v4, S5, hp, H⟩ := am_b2_el H
    refine ex_callV rfl rfl (Nat.le_of_ble_eq_true rfl) (Nat.le_of_ble_eq_true rfl) rfl (r206 (by omega) hp) rfl ?_
    by_cases h6 : v4 = 0
    · rw [if_pos h6] at H
      refine ex_if_ne_f h6 ?_
      refine ex_bipush (v := (-2)) (by decide) ?_
      have H := Option.some.inj H
      subst H
      exact ex_iret (M := 211) (Or.inl rfl)
    · rw [if_neg h6] at H
      refine ex_if_ne_j (ct := am_c211_22) h6 rfl ?_
      refine ex_aload_n rfl ?_
      obtain ⟨S7, hp, H⟩ := Option.bind_eq_some_iff.mp H
      refine ex_callV rfl rfl (Nat.le_of_ble_eq_true rfl) (Nat.le_of_ble_eq_true rfl) rfl (r201 (by omega) hp) rfl ?_
      refine ex_iload_n rfl ?_
      refine ex_bipush (v := 8) (by decide) ?_
      by_cases h8 : x3 ≤ 8
      · rw [if_pos h8] at H
        refine ex_icmp_le_j (ct := am_c211_38) h8 rfl ?_
        refine ex_iload_n rfl ?_
        by_cases h9 : 0 ≤ x3
        · rw [if_pos h9] at H
          refine ex_if_ge_j (ct := am_c211_48) h9 rfl ?_
          refine ex_iload_n rfl ?_
          refine ex_iload_n rfl ?_
          obtain ⟨v10, S11, hp, H⟩ := am_b2_el H
          refine ex_callS rfl rfl (Nat.le_of_ble_eq_true rfl) (Nat.le_of_ble_eq_true rfl) (r207 (by omega) hp) rfl ?_
          refine ex_istore (L2 := [.ref 95, .int x1, .int x2, .int x3, .int v10, .long 0]) (Nat.le_of_ble_eq_true rfl) rfl ?_
          refine ex_aload_n rfl ?_
          refine ex_getR (w := 100) rfl rfl rfl ?_
          refine ex_iload rfl ?_
          refine ex_iload_n rfl ?_
          obtain ⟨hj, H⟩ := am_ck_el H
          refine ex_iast (k := 144) rfl rfl hj ?_
          generalize ((am_upI S11.1 100 v10.toNatClampNeg x3, S11.2) : AmT) = S12 at H ⊢
          have H := am_lt_el H
          refine ex_iconst (v := 0) (by decide) ?_
          refine ex_istore (L2 := [.ref 95, .int x1, .int x2, .int x3, .int v10, .int 0]) (Nat.le_of_ble_eq_true rfl) rfl ?_
          exact e211_66 hd _ _ _ _ _ _ _ _ H
        · rw [if_neg h9] at H
          refine ex_if_ge_f h9 ?_
          refine ex_aload_n rfl ?_
          refine ex_iconst (v := 3) (by decide) ?_
          obtain ⟨v15, S16, hp, H⟩ := am_b2_el H
          refine ex_callV rfl rfl (Nat.le_of_ble_eq_true rfl) (Nat.le_of_ble_eq_true rfl) rfl (r203 (by omega) hp) rfl ?_
          have H := Option.some.inj H
          subst H
          exact ex_iret (M := 211) (Or.inl rfl)
      · rw [if_neg h8] at H
        refine ex_icmp_le_f h8 ?_
        refine ex_aload_n rfl ?_
        refine ex_iconst (v := 4) (by decide) ?_
        obtain ⟨v17, S18, hp, H⟩ := am_b2_el H
        refine ex_callV rfl rfl (Nat.le_of_ble_eq_true rfl) (Nat.le_of_ble_eq_true rfl) rfl (r203 (by omega) hp) rfl ?_
        have H := Option.some.inj H
        subst H
        exact ex_iret (M := 211) (Or.inl rfl)
  · rw [if_neg h3] at H
    refine ex_if_eq_f h3 ?_
    refine ex_bipush (v := (-4)) (by decide) ?_
    have H := Option.some.inj H
    subst H
    exact ex_iret (M := 211) (Or.inl rfl)
def g214_95 (F : Nat) : Nat → Int32 → Int32 → Int32 → Int32 → AmT → Option (Int32 × AmT)
  | 0, _, _, _, _, _ => none
  | n + 1, x3, x4, x5, x7, S => if x4 ≤ x7 then (some (1, S)) else (am_ck ((10 * ((8 * x5) + x3)) + x7) 11520 (am_lt ((am_upI S.1 102 ((10 * ((8 * x5) + x3)) + x7).toNatClampNeg 32, S.2) : AmT) fun S17 => g214_95 F n x3 x4 x5 (x7 + 1) S17))
-- X10_row
def f214 (F : Nat) (x1 : Int32) (x2 : Int32) (x3 : Int32) (x4 : Int32) (S : AmT) : Option (Int32 × AmT) := am_b2 (f202 F S) fun v1 S2 => if v1 = 0 then (am_b2 (f206 F x1 x2 S2) fun v4 S5 => if v4 = 0 then (some ((-2), S5)) else ((f201 F S5).bind fun S7 => if x4 ≤ 10 then (if 0 ≤ x4 then (am_b2 (f207 F x1 x2 S7) fun v10 S11 => am_b2 (f212 F v10 x3 S11) fun v12 S13 => if v12 ≤ 0 then (am_ck ((8 * v10) + x3) 1152 (am_lt ((am_upI S13.1 101 ((8 * v10) + x3).toNatClampNeg x4, S13.2) : AmT) fun S15 => g214_95 F F x3 x4 v10 0 S15)) else (am_b2 (f203 F v12 S13) fun v18 S19 => some (v18, S19))) else (am_b2 (f203 F 3 S7) fun v20 S21 => some (v20, S21))) else (am_b2 (f203 F 4 S7) fun v22 S23 => some (v22, S23)))) else (some ((-4), S2))
set_option maxHeartbeats 1000000 in
set_option maxRecDepth 20000 in
theorem e214_95 {Lg : Nat} {xs : Nat → Int32} {d F : Nat} (hd : 3 ≤ d) : ∀ (n : Nat) (x3 : Int32) (x4 : Int32) (x5 : Int32) (x7 : Int32) (w1 : Value) (w2 : Value) (w6 : Value) (S : AmT) (q : Int32 × AmT), g214_95 F n x3 x4 x5 x7 S = some q → Ex (am_X Lg xs) d 214 am_c214_95 [.ref 95, w1, w2, .int x3, .int x4, .int x5, w6, .int x7] [] (hS S) (some q.1, hS q.2) := by
  obtain ⟨d, rfl⟩ : ∃ d2, d = d2 + 1 := ⟨d - 1, by omega⟩
  intro n
  induction n with
  | zero =>
    intro x3 x4 x5 x7 w1 w2 w6 S q H
    cases H
  | succ n ih =>
    intro x3 x4 x5 x7 w1 w2 w6 S q H
    have H : (if x4 ≤ x7 then (some (1, S)) else (am_ck ((10 * ((8 * x5) + x3)) + x7) 11520 (am_lt ((am_upI S.1 102 ((10 * ((8 * x5) + x3)) + x7).toNatClampNeg 32, S.2) : AmT) fun S17 => g214_95 F n x3 x4 x5 (x7 + 1) S17))) = some q := H
    refine ex_iload rfl ?_
    refine ex_iload rfl ?_
    by_cases h16 : x4 ≤ x7
    · rw [if_pos h16] at H
      refine ex_icmp_ge_j (ct := am_c214_128) h16 rfl ?_
      refine ex_iconst (v := 1) (by decide) ?_
      have H := Option.some.inj H
      subst H
      exact ex_iret (M := 214) (Or.inl rfl)
    · rw [if_neg h16] at H
      refine ex_icmp_ge_f h16 ?_
      refine ex_aload_n rfl ?_
      refine ex_getR (w := 102) rfl rfl rfl ?_
      refine ex_bipush (v := 10) (by decide) ?_
      refine ex_bipush (v := 8) (by decide) ?_
      refine ex_iload rfl ?_
      refine ex_imul ?_
      refine ex_iload_n rfl ?_
      refine ex_iadd ?_
      refine ex_imul ?_
      refine ex_iload rfl ?_
      refine ex_iadd ?_
      refine ex_bipush (v := 32) (by decide) ?_
      obtain ⟨hj, H⟩ := am_ck_el H
      refine ex_iast (k := 11520) rfl rfl hj ?_
      generalize ((am_upI S.1 102 ((10 * ((8 * x5) + x3)) + x7).toNatClampNeg 32, S.2) : AmT) = S17 at H ⊢
      have H := am_lt_el H
      refine ex_iinc (L2 := [.ref 95, w1, w2, .int x3, .int x4, .int x5, w6, .int (x7 + 1)]) (v := (x7 + 1)) rfl (Nat.le_of_ble_eq_true rfl) (congrArg (fun z => x7 + z) (by decide)) rfl ?_
      refine ex_goto (ct := am_c214_95) rfl ?_
      exact ih _ _ _ _ _ _ _ _ _ H
set_option maxHeartbeats 1000000 in
set_option maxRecDepth 20000 in
theorem r214 {Lg : Nat} {xs : Nat → Int32} {d F : Nat} {x1 : Int32} {x2 : Int32} {x3 : Int32} {x4 : Int32} {S : AmT} {q : Int32 × AmT} (hd : 3 ≤ d) (H : f214 F x1 x2 x3 x4 S = some q) : Ex (am_X Lg xs) d 214 (am_P 214) (am_ini (am_Mi 214).1 [.ref 95, .int x1, .int x2, .int x3, .int x4]) [] (hS S) (some q.1, hS q.2) := by
  obtain ⟨d, rfl⟩ : ∃ d2, d = d2 + 1 := ⟨d - 1, by omega⟩
  unfold f214 at H
  show Ex (am_X Lg xs) _ 214 am_c214_0 [.ref 95, .int x1, .int x2, .int x3, .int x4, .long 0, .long 0, .long 0] [] (hS S) (some q.1, hS q.2)
  refine ex_aload_n rfl ?_
  obtain ⟨v1, S2, hp, H⟩ := am_b2_el H
  refine ex_callV rfl rfl (Nat.le_of_ble_eq_true rfl) (Nat.le_of_ble_eq_true rfl) rfl (r202 (by omega) hp) rfl ?_
  by_cases h3 : v1 = 0
  · rw [if_pos h3] at H
    refine ex_if_eq_j (ct := am_c214_10) h3 rfl ?_
    refine ex_aload_n rfl ?_
    refine ex_iload_n rfl ?_
    refine ex_iload_n rfl ?_
    obtain ⟨v4, S5, hp, H⟩ := am_b2_el H
    refine ex_callV rfl rfl (Nat.le_of_ble_eq_true rfl) (Nat.le_of_ble_eq_true rfl) rfl (r206 (by omega) hp) rfl ?_
    by_cases h6 : v4 = 0
    · rw [if_pos h6] at H
      refine ex_if_ne_f h6 ?_
      refine ex_bipush (v := (-2)) (by decide) ?_
      have H := Option.some.inj H
      subst H
      exact ex_iret (M := 214) (Or.inl rfl)
    · rw [if_neg h6] at H
      refine ex_if_ne_j (ct := am_c214_22) h6 rfl ?_
      refine ex_aload_n rfl ?_
      obtain ⟨S7, hp, H⟩ := Option.bind_eq_some_iff.mp H
      refine ex_callV rfl rfl (Nat.le_of_ble_eq_true rfl) (Nat.le_of_ble_eq_true rfl) rfl (r201 (by omega) hp) rfl ?_
      refine ex_iload rfl ?_
      refine ex_bipush (v := 10) (by decide) ?_
      by_cases h8 : x4 ≤ 10
      · rw [if_pos h8] at H
        refine ex_icmp_le_j (ct := am_c214_39) h8 rfl ?_
        refine ex_iload rfl ?_
        by_cases h9 : 0 ≤ x4
        · rw [if_pos h9] at H
          refine ex_if_ge_j (ct := am_c214_50) h9 rfl ?_
          refine ex_iload_n rfl ?_
          refine ex_iload_n rfl ?_
          obtain ⟨v10, S11, hp, H⟩ := am_b2_el H
          refine ex_callS rfl rfl (Nat.le_of_ble_eq_true rfl) (Nat.le_of_ble_eq_true rfl) (r207 (by omega) hp) rfl ?_
          refine ex_istore (L2 := [.ref 95, .int x1, .int x2, .int x3, .int x4, .int v10, .long 0, .long 0]) (Nat.le_of_ble_eq_true rfl) rfl ?_
          refine ex_aload_n rfl ?_
          refine ex_iload rfl ?_
          refine ex_iload_n rfl ?_
          obtain ⟨v12, S13, hp, H⟩ := am_b2_el H
          refine ex_callV rfl rfl (Nat.le_of_ble_eq_true rfl) (Nat.le_of_ble_eq_true rfl) rfl (r212 (by omega) hp) rfl ?_
          refine ex_istore (L2 := [.ref 95, .int x1, .int x2, .int x3, .int x4, .int v10, .int v12, .long 0]) (Nat.le_of_ble_eq_true rfl) rfl ?_
          refine ex_iload rfl ?_
          by_cases h14 : v12 ≤ 0
          · rw [if_pos h14] at H
            refine ex_if_le_j (ct := am_c214_78) h14 rfl ?_
            refine ex_aload_n rfl ?_
            refine ex_getR (w := 101) rfl rfl rfl ?_
            refine ex_bipush (v := 8) (by decide) ?_
            refine ex_iload rfl ?_
            refine ex_imul ?_
            refine ex_iload_n rfl ?_
            refine ex_iadd ?_
            refine ex_iload rfl ?_
            obtain ⟨hj, H⟩ := am_ck_el H
            refine ex_iast (k := 1152) rfl rfl hj ?_
            generalize ((am_upI S13.1 101 ((8 * v10) + x3).toNatClampNeg x4, S13.2) : AmT) = S15 at H ⊢
            have H := am_lt_el H
            refine ex_iconst (v := 0) (by decide) ?_
            refine ex_istore (L2 := [.ref 95, .int x1, .int x2, .int x3, .int x4, .int v10, .int v12, .int 0]) (Nat.le_of_ble_eq_true rfl) rfl ?_
            exact e214_95 hd _ _ _ _ _ _ _ _ _ _ H
          · rw [if_neg h14] at H
            refine ex_if_le_f h14 ?_
            refine ex_aload_n rfl ?_
            refine ex_iload rfl ?_
            obtain ⟨v18, S19, hp, H⟩ := am_b2_el H
            refine ex_callV rfl rfl (Nat.le_of_ble_eq_true rfl) (Nat.le_of_ble_eq_true rfl) rfl (r203 (by omega) hp) rfl ?_
            have H := Option.some.inj H
            subst H
            exact ex_iret (M := 214) (Or.inl rfl)
        · rw [if_neg h9] at H
          refine ex_if_ge_f h9 ?_
          refine ex_aload_n rfl ?_
          refine ex_iconst (v := 3) (by decide) ?_
          obtain ⟨v20, S21, hp, H⟩ := am_b2_el H
          refine ex_callV rfl rfl (Nat.le_of_ble_eq_true rfl) (Nat.le_of_ble_eq_true rfl) rfl (r203 (by omega) hp) rfl ?_
          have H := Option.some.inj H
          subst H
          exact ex_iret (M := 214) (Or.inl rfl)
      · rw [if_neg h8] at H
        refine ex_icmp_le_f h8 ?_
        refine ex_aload_n rfl ?_
        refine ex_iconst (v := 4) (by decide) ?_
        obtain ⟨v22, S23, hp, H⟩ := am_b2_el H
        refine ex_callV rfl rfl (Nat.le_of_ble_eq_true rfl) (Nat.le_of_ble_eq_true rfl) rfl (r203 (by omega) hp) rfl ?_
        have H := Option.some.inj H
        subst H
        exact ex_iret (M := 214) (Or.inl rfl)
  · rw [if_neg h3] at H
    refine ex_if_eq_f h3 ?_
    refine ex_bipush (v := (-4)) (by decide) ?_
    have H := Option.some.inj H
    subst H
    exact ex_iret (M := 214) (Or.inl rfl)
-- X10_miss
def f215 (F : Nat) (x1 : Int32) (x2 : Int32) (x3 : Int32) (S : AmT) : Option (Int32 × AmT) := am_b2 (f202 F S) fun v1 S2 => if v1 = 0 then (am_b2 (f206 F x1 x2 S2) fun v4 S5 => if v4 = 0 then (some ((-2), S5)) else ((f201 F S5).bind fun S7 => am_b2 (f207 F x1 x2 S7) fun v8 S9 => am_b2 (f212 F v8 x3 S9) fun v10 S11 => if v10 ≤ 0 then (am_ck ((8 * v8) + x3) 1152 (am_lt ((am_upI S11.1 101 ((8 * v8) + x3).toNatClampNeg (-1), S11.2) : AmT) fun S13 => some (1, S13))) else (am_b2 (f203 F v10 S11) fun v14 S15 => some (v14, S15)))) else (some ((-4), S2))
set_option maxHeartbeats 1000000 in
set_option maxRecDepth 20000 in
theorem r215 {Lg : Nat} {xs : Nat → Int32} {d F : Nat} {x1 : Int32} {x2 : Int32} {x3 : Int32} {S : AmT} {q : Int32 × AmT} (hd : 3 ≤ d) (H : f215 F x1 x2 x3 S = some q) : Ex (am_X Lg xs) d 215 (am_P 215) (am_ini (am_Mi 215).1 [.ref 95, .int x1, .int x2, .int x3]) [] (hS S) (some q.1, hS q.2) := by
  obtain ⟨d, rfl⟩ : ∃ d2, d = d2 + 1 := ⟨d - 1, by omega⟩
  unfold f215 at H
  show Ex (am_X Lg xs) _ 215 am_c215_0 [.ref 95, .int x1, .int x2, .int x3, .long 0, .long 0] [] (hS S) (some q.1, hS q.2)
  refine ex_aload_n rfl ?_
  obtain ⟨v1, S2, hp, H⟩ := am_b2_el H
  refine ex_callV rfl rfl (Nat.le_of_ble_eq_true rfl) (Nat.le_of_ble_eq_true rfl) rfl (r202 (by omega) hp) rfl ?_
  by_cases h3 : v1 = 0
  · rw [if_pos h3] at H
    refine ex_if_eq_j (ct := am_c215_10) h3 rfl ?_
    refine ex_aload_n rfl ?_
    refine ex_iload_n rfl ?_
    refine ex_iload_n rfl ?_
    obtain ⟨v4, S5, hp, H⟩ := am_b2_el H
    refine ex_callV rfl rfl (Nat.le_of_ble_eq_true rfl) (Nat.le_of_ble_eq_true rfl) rfl (r206 (by omega) hp) rfl ?_
    by_cases h6 : v4 = 0
    · rw [if_pos h6] at H
      refine ex_if_ne_f h6 ?_
      refine ex_bipush (v := (-2)) (by decide) ?_
      have H := Option.some.inj H
      subst H
      exact ex_iret (M := 215) (Or.inl rfl)
    · rw [if_neg h6] at H
      refine ex_if_ne_j (ct := am_c215_22) h6 rfl ?_
      refine ex_aload_n rfl ?_
      obtain ⟨S7, hp, H⟩ := Option.bind_eq_some_iff.mp H
      refine ex_callV rfl rfl (Nat.le_of_ble_eq_true rfl) (Nat.le_of_ble_eq_true rfl) rfl (r201 (by omega) hp) rfl ?_
      refine ex_iload_n rfl ?_
      refine ex_iload_n rfl ?_
      obtain ⟨v8, S9, hp, H⟩ := am_b2_el H
      refine ex_callS rfl rfl (Nat.le_of_ble_eq_true rfl) (Nat.le_of_ble_eq_true rfl) (r207 (by omega) hp) rfl ?_
      refine ex_istore (L2 := [.ref 95, .int x1, .int x2, .int x3, .int v8, .long 0]) (Nat.le_of_ble_eq_true rfl) rfl ?_
      refine ex_aload_n rfl ?_
      refine ex_iload rfl ?_
      refine ex_iload_n rfl ?_
      obtain ⟨v10, S11, hp, H⟩ := am_b2_el H
      refine ex_callV rfl rfl (Nat.le_of_ble_eq_true rfl) (Nat.le_of_ble_eq_true rfl) rfl (r212 (by omega) hp) rfl ?_
      refine ex_istore (L2 := [.ref 95, .int x1, .int x2, .int x3, .int v8, .int v10]) (Nat.le_of_ble_eq_true rfl) rfl ?_
      refine ex_iload rfl ?_
      by_cases h12 : v10 ≤ 0
      · rw [if_pos h12] at H
        refine ex_if_le_j (ct := am_c215_54) h12 rfl ?_
        refine ex_aload_n rfl ?_
        refine ex_getR (w := 101) rfl rfl rfl ?_
        refine ex_bipush (v := 8) (by decide) ?_
        refine ex_iload rfl ?_
        refine ex_imul ?_
        refine ex_iload_n rfl ?_
        refine ex_iadd ?_
        refine ex_iconst (v := (-1)) (by decide) ?_
        obtain ⟨hj, H⟩ := am_ck_el H
        refine ex_iast (k := 1152) rfl rfl hj ?_
        generalize ((am_upI S11.1 101 ((8 * v8) + x3).toNatClampNeg (-1), S11.2) : AmT) = S13 at H ⊢
        have H := am_lt_el H
        refine ex_iconst (v := 1) (by decide) ?_
        have H := Option.some.inj H
        subst H
        exact ex_iret (M := 215) (Or.inl rfl)
      · rw [if_neg h12] at H
        refine ex_if_le_f h12 ?_
        refine ex_aload_n rfl ?_
        refine ex_iload rfl ?_
        obtain ⟨v14, S15, hp, H⟩ := am_b2_el H
        refine ex_callV rfl rfl (Nat.le_of_ble_eq_true rfl) (Nat.le_of_ble_eq_true rfl) rfl (r203 (by omega) hp) rfl ?_
        have H := Option.some.inj H
        subst H
        exact ex_iret (M := 215) (Or.inl rfl)
  · rw [if_neg h3] at H
    refine ex_if_eq_f h3 ?_
    refine ex_bipush (v := (-4)) (by decide) ?_
    have H := Option.some.inj H
    subst H
    exact ex_iret (M := 215) (Or.inl rfl)
-- X10_letter
def f216 (F : Nat) (x1 : Int32) (x2 : Int32) (x3 : Int32) (x4 : Int32) (x5 : Int32) (S : AmT) : Option (Int32 × AmT) := am_b2 (f202 F S) fun v1 S2 => if v1 = 0 then (am_b2 (f206 F x1 x2 S2) fun v4 S5 => if v4 = 0 then (some ((-2), S5)) else (am_b2 (f197 F x5 32 126 S5) fun v7 S8 => if v7 = 0 then (some ((-1), S8)) else ((f201 F S8).bind fun S10 => am_b2 (f207 F x1 x2 S10) fun v11 S12 => am_b2 (f213 F v11 x3 x4 S12) fun v13 S14 => if v13 ≤ 0 then (am_ck ((10 * ((8 * v11) + x3)) + x4) 11520 (am_lt ((am_upI S14.1 102 ((10 * ((8 * v11) + x3)) + x4).toNatClampNeg x5, S14.2) : AmT) fun S16 => some (1, S16))) else (am_b2 (f203 F v13 S14) fun v17 S18 => some (v17, S18))))) else (some ((-4), S2))
set_option maxHeartbeats 1000000 in
set_option maxRecDepth 20000 in
theorem r216 {Lg : Nat} {xs : Nat → Int32} {d F : Nat} {x1 : Int32} {x2 : Int32} {x3 : Int32} {x4 : Int32} {x5 : Int32} {S : AmT} {q : Int32 × AmT} (hd : 3 ≤ d) (H : f216 F x1 x2 x3 x4 x5 S = some q) : Ex (am_X Lg xs) d 216 (am_P 216) (am_ini (am_Mi 216).1 [.ref 95, .int x1, .int x2, .int x3, .int x4, .int x5]) [] (hS S) (some q.1, hS q.2) := by
  obtain ⟨d, rfl⟩ : ∃ d2, d = d2 + 1 := ⟨d - 1, by omega⟩
  unfold f216 at H
  show Ex (am_X Lg xs) _ 216 am_c216_0 [.ref 95, .int x1, .int x2, .int x3, .int x4, .int x5, .long 0, .long 0] [] (hS S) (some q.1, hS q.2)
  refine ex_aload_n rfl ?_
  obtain ⟨v1, S2, hp, H⟩ := am_b2_el H
  refine ex_callV rfl rfl (Nat.le_of_ble_eq_true rfl) (Nat.le_of_ble_eq_true rfl) rfl (r202 (by omega) hp) rfl ?_
  by_cases h3 : v1 = 0
  · rw [if_pos h3] at H
    refine ex_if_eq_j (ct := am_c216_10) h3 rfl ?_
    refine ex_aload_n rfl ?_
    refine ex_iload_n rfl ?_
    refine ex_iload_n rfl ?_
    obtain ⟨v4, S5, hp, H⟩ := am_b2_el H
    refine ex_callV rfl rfl (Nat.le_of_ble_eq_true rfl) (Nat.le_of_ble_eq_true rfl) rfl (r206 (by omega) hp) rfl ?_
    by_cases h6 : v4 = 0
    · rw [if_pos h6] at H
      refine ex_if_ne_f h6 ?_
      refine ex_bipush (v := (-2)) (by decide) ?_
      have H := Option.some.inj H
      subst H
      exact ex_iret (M := 216) (Or.inl rfl)
    · rw [if_neg h6] at H
      refine ex_if_ne_j (ct := am_c216_22) h6 rfl ?_
      refine ex_iload rfl ?_
      refine ex_bipush (v := 32) (by decide) ?_
      refine ex_bipush (v := 126) (by decide) ?_
      obtain ⟨v7, S8, hp, H⟩ := am_b2_el H
      refine ex_callS rfl rfl (Nat.le_of_ble_eq_true rfl) (Nat.le_of_ble_eq_true rfl) (r197 (by omega) hp) rfl ?_
      by_cases h9 : v7 = 0
      · rw [if_pos h9] at H
        refine ex_if_ne_f h9 ?_
        refine ex_iconst (v := (-1)) (by decide) ?_
        have H := Option.some.inj H
        subst H
        exact ex_iret (M := 216) (Or.inl rfl)
      · rw [if_neg h9] at H
        refine ex_if_ne_j (ct := am_c216_36) h9 rfl ?_
        refine ex_aload_n rfl ?_
        obtain ⟨S10, hp, H⟩ := Option.bind_eq_some_iff.mp H
        refine ex_callV rfl rfl (Nat.le_of_ble_eq_true rfl) (Nat.le_of_ble_eq_true rfl) rfl (r201 (by omega) hp) rfl ?_
        refine ex_iload_n rfl ?_
        refine ex_iload_n rfl ?_
        obtain ⟨v11, S12, hp, H⟩ := am_b2_el H
        refine ex_callS rfl rfl (Nat.le_of_ble_eq_true rfl) (Nat.le_of_ble_eq_true rfl) (r207 (by omega) hp) rfl ?_
        refine ex_istore (L2 := [.ref 95, .int x1, .int x2, .int x3, .int x4, .int x5, .int v11, .long 0]) (Nat.le_of_ble_eq_true rfl) rfl ?_
        refine ex_aload_n rfl ?_
        refine ex_iload rfl ?_
        refine ex_iload_n rfl ?_
        refine ex_iload rfl ?_
        obtain ⟨v13, S14, hp, H⟩ := am_b2_el H
        refine ex_callV rfl rfl (Nat.le_of_ble_eq_true rfl) (Nat.le_of_ble_eq_true rfl) rfl (r213 (by omega) hp) rfl ?_
        refine ex_istore (L2 := [.ref 95, .int x1, .int x2, .int x3, .int x4, .int x5, .int v11, .int v13]) (Nat.le_of_ble_eq_true rfl) rfl ?_
        refine ex_iload rfl ?_
        by_cases h15 : v13 ≤ 0
        · rw [if_pos h15] at H
          refine ex_if_le_j (ct := am_c216_70) h15 rfl ?_
          refine ex_aload_n rfl ?_
          refine ex_getR (w := 102) rfl rfl rfl ?_
          refine ex_bipush (v := 10) (by decide) ?_
          refine ex_bipush (v := 8) (by decide) ?_
          refine ex_iload rfl ?_
          refine ex_imul ?_
          refine ex_iload_n rfl ?_
          refine ex_iadd ?_
          refine ex_imul ?_
          refine ex_iload rfl ?_
          refine ex_iadd ?_
          refine ex_iload rfl ?_
          obtain ⟨hj, H⟩ := am_ck_el H
          refine ex_iast (k := 11520) rfl rfl hj ?_
          generalize ((am_upI S14.1 102 ((10 * ((8 * v11) + x3)) + x4).toNatClampNeg x5, S14.2) : AmT) = S16 at H ⊢
          have H := am_lt_el H
          refine ex_iconst (v := 1) (by decide) ?_
          have H := Option.some.inj H
          subst H
          exact ex_iret (M := 216) (Or.inl rfl)
        · rw [if_neg h15] at H
          refine ex_if_le_f h15 ?_
          refine ex_aload_n rfl ?_
          refine ex_iload rfl ?_
          obtain ⟨v17, S18, hp, H⟩ := am_b2_el H
          refine ex_callV rfl rfl (Nat.le_of_ble_eq_true rfl) (Nat.le_of_ble_eq_true rfl) rfl (r203 (by omega) hp) rfl ?_
          have H := Option.some.inj H
          subst H
          exact ex_iret (M := 216) (Or.inl rfl)
  · rw [if_neg h3] at H
    refine ex_if_eq_f h3 ?_
    refine ex_bipush (v := (-4)) (by decide) ?_
    have H := Option.some.inj H
    subst H
    exact ex_iret (M := 216) (Or.inl rfl)
-- X10_at
def f217 (F : Nat) (x1 : Int32) (x2 : Int32) (x3 : Int32) (x4 : Int32) (S : AmT) : Option (Int32 × AmT) := am_b2 (f206 F x1 x2 S) fun v1 S2 => if v1 = 0 then (some ((-2), S2)) else (am_b2 (f207 F x1 x2 S2) fun v4 S5 => am_b2 (f213 F v4 x3 x4 S5) fun v6 S7 => if v6 ≤ 0 then (am_ck ((10 * ((8 * v4) + x3)) + x4) 11520 (some ((S7.1 102 ((10 * ((8 * v4) + x3)) + x4).toNatClampNeg), S7))) else (am_b2 (f203 F v6 S7) fun v9 S10 => some (v9, S10)))
set_option maxHeartbeats 1000000 in
set_option maxRecDepth 20000 in
theorem r217 {Lg : Nat} {xs : Nat → Int32} {d F : Nat} {x1 : Int32} {x2 : Int32} {x3 : Int32} {x4 : Int32} {S : AmT} {q : Int32 × AmT} (hd : 3 ≤ d) (H : f217 F x1 x2 x3 x4 S = some q) : Ex (am_X Lg xs) d 217 (am_P 217) (am_ini (am_Mi 217).1 [.ref 95, .int x1, .int x2, .int x3, .int x4]) [] (hS S) (some q.1, hS q.2) := by
  obtain ⟨d, rfl⟩ : ∃ d2, d = d2 + 1 := ⟨d - 1, by omega⟩
  unfold f217 at H
  show Ex (am_X Lg xs) _ 217 am_c217_0 [.ref 95, .int x1, .int x2, .int x3, .int x4, .long 0, .long 0] [] (hS S) (some q.1, hS q.2)
  refine ex_aload_n rfl ?_
  refine ex_iload_n rfl ?_
  refine ex_iload_n rfl ?_
  obtain ⟨v1, S2, hp, H⟩ := am_b2_el H
  refine ex_callV rfl rfl (Nat.le_of_ble_eq_true rfl) (Nat.le_of_ble_eq_true rfl) rfl (r206 (by omega) hp) rfl ?_
  by_cases h3 : v1 = 0
  · rw [if_pos h3] at H
    refine ex_if_ne_f h3 ?_
    refine ex_bipush (v := (-2)) (by decide) ?_
    have H := Option.some.inj H
    subst H
    exact ex_iret (M := 217) (Or.inl rfl)
  · rw [if_neg h3] at H
    refine ex_if_ne_j (ct := am_c217_12) h3 rfl ?_
    refine ex_iload_n rfl ?_
    refine ex_iload_n rfl ?_
    obtain ⟨v4, S5, hp, H⟩ := am_b2_el H
    refine ex_callS rfl rfl (Nat.le_of_ble_eq_true rfl) (Nat.le_of_ble_eq_true rfl) (r207 (by omega) hp) rfl ?_
    refine ex_istore (L2 := [.ref 95, .int x1, .int x2, .int x3, .int x4, .int v4, .long 0]) (Nat.le_of_ble_eq_true rfl) rfl ?_
    refine ex_aload_n rfl ?_
    refine ex_iload rfl ?_
    refine ex_iload_n rfl ?_
    refine ex_iload rfl ?_
    obtain ⟨v6, S7, hp, H⟩ := am_b2_el H
    refine ex_callV rfl rfl (Nat.le_of_ble_eq_true rfl) (Nat.le_of_ble_eq_true rfl) rfl (r213 (by omega) hp) rfl ?_
    refine ex_istore (L2 := [.ref 95, .int x1, .int x2, .int x3, .int x4, .int v4, .int v6]) (Nat.le_of_ble_eq_true rfl) rfl ?_
    refine ex_iload rfl ?_
    by_cases h8 : v6 ≤ 0
    · rw [if_pos h8] at H
      refine ex_if_le_j (ct := am_c217_44) h8 rfl ?_
      refine ex_aload_n rfl ?_
      refine ex_getR (w := 102) rfl rfl rfl ?_
      refine ex_bipush (v := 10) (by decide) ?_
      refine ex_bipush (v := 8) (by decide) ?_
      refine ex_iload rfl ?_
      refine ex_imul ?_
      refine ex_iload_n rfl ?_
      refine ex_iadd ?_
      refine ex_imul ?_
      refine ex_iload rfl ?_
      refine ex_iadd ?_
      obtain ⟨hj, H⟩ := am_ck_el H
      refine ex_iald (k := 11520) (v := S7.1 102 ((10 * ((8 * v4) + x3)) + x4).toNatClampNeg) rfl hj rfl ?_
      have H := Option.some.inj H
      subst H
      exact ex_iret (M := 217) (Or.inl rfl)
    · rw [if_neg h8] at H
      refine ex_if_le_f h8 ?_
      refine ex_aload_n rfl ?_
      refine ex_iload rfl ?_
      obtain ⟨v9, S10, hp, H⟩ := am_b2_el H
      refine ex_callV rfl rfl (Nat.le_of_ble_eq_true rfl) (Nat.le_of_ble_eq_true rfl) rfl (r203 (by omega) hp) rfl ?_
      refine ex_goto (ct := am_c217_62) rfl ?_
      have H := Option.some.inj H
      subst H
      exact ex_iret (M := 217) (Or.inl rfl)
-- X10_size
def f218 (F : Nat) (x1 : Int32) (x2 : Int32) (x3 : Int32) (S : AmT) : Option (Int32 × AmT) := am_b2 (f206 F x1 x2 S) fun v1 S2 => if v1 = 0 then (some ((-2), S2)) else (am_b2 (f207 F x1 x2 S2) fun v4 S5 => if x3 = (-1) then (am_ck v4 144 (if 0 ≤ (S5.1 100 v4.toNatClampNeg) then (am_ck v4 144 (some ((S5.1 100 v4.toNatClampNeg), S5))) else (am_b2 (f203 F 1 S5) fun v16 S17 => some (v16, S17)))) else (am_b2 (f212 F v4 x3 S5) fun v7 S8 => if v7 ≤ 0 then (am_ck ((8 * v4) + x3) 1152 (if 0 ≤ (S8.1 101 ((8 * v4) + x3).toNatClampNeg) then (some ((S8.1 101 ((8 * v4) + x3).toNatClampNeg), S8)) else (am_b2 (f203 F 1 S8) fun v11 S12 => some (v11, S12)))) else (am_b2 (f203 F v7 S8) fun v13 S14 => some (v13, S14))))
set_option maxHeartbeats 1000000 in
set_option maxRecDepth 20000 in
theorem r218 {Lg : Nat} {xs : Nat → Int32} {d F : Nat} {x1 : Int32} {x2 : Int32} {x3 : Int32} {S : AmT} {q : Int32 × AmT} (hd : 3 ≤ d) (H : f218 F x1 x2 x3 S = some q) : Ex (am_X Lg xs) d 218 (am_P 218) (am_ini (am_Mi 218).1 [.ref 95, .int x1, .int x2, .int x3]) [] (hS S) (some q.1, hS q.2) := by
  obtain ⟨d, rfl⟩ : ∃ d2, d = d2 + 1 := ⟨d - 1, by omega⟩
  unfold f218 at H
  show Ex (am_X Lg xs) _ 218 am_c218_0 [.ref 95, .int x1, .int x2, .int x3, .long 0, .long 0, .long 0] [] (hS S) (some q.1, hS q.2)
  refine ex_aload_n rfl ?_
  refine ex_iload_n rfl ?_
  refine ex_iload_n rfl ?_
  obtain ⟨v1, S2, hp, H⟩ := am_b2_el H
  refine ex_callV rfl rfl (Nat.le_of_ble_eq_true rfl) (Nat.le_of_ble_eq_true rfl) rfl (r206 (by omega) hp) rfl ?_
  by_cases h3 : v1 = 0
  · rw [if_pos h3] at H
    refine ex_if_ne_f h3 ?_
    refine ex_bipush (v := (-2)) (by decide) ?_
    have H := Option.some.inj H
    subst H
    exact ex_iret (M := 218) (Or.inl rfl)
  · rw [if_neg h3] at H
    refine ex_if_ne_j (ct := am_c218_12) h3 rfl ?_
    refine ex_iload_n rfl ?_
    refine ex_iload_n rfl ?_
    obtain ⟨v4, S5, hp, H⟩ := am_b2_el H
    refine ex_callS rfl rfl (Nat.le_of_ble_eq_true rfl) (Nat.le_of_ble_eq_true rfl) (r207 (by omega) hp) rfl ?_
    refine ex_istore (L2 := [.ref 95, .int x1, .int x2, .int x3, .int v4, .long 0, .long 0]) (Nat.le_of_ble_eq_true rfl) rfl ?_
    refine ex_iload_n rfl ?_
    refine ex_iconst (v := (-1)) (by decide) ?_
    by_cases h6 : x3 = (-1)
    · rw [if_pos h6] at H
      refine ex_icmp_ne_f h6 ?_
      refine ex_aload_n rfl ?_
      refine ex_getR (w := 100) rfl rfl rfl ?_
      refine ex_iload rfl ?_
      obtain ⟨hj, H⟩ := am_ck_el H
      refine ex_iald (k := 144) (v := S5.1 100 v4.toNatClampNeg) rfl hj rfl ?_
      by_cases h15 : 0 ≤ (S5.1 100 v4.toNatClampNeg)
      · rw [if_pos h15] at H
        refine ex_if_ge_j (ct := am_c218_42) h15 rfl ?_
        refine ex_aload_n rfl ?_
        refine ex_getR (w := 100) rfl rfl rfl ?_
        refine ex_iload rfl ?_
        obtain ⟨hj, H⟩ := am_ck_el H
        refine ex_iald (k := 144) (v := S5.1 100 v4.toNatClampNeg) rfl hj rfl ?_
        have H := Option.some.inj H
        subst H
        exact ex_iret (M := 218) (Or.inl rfl)
      · rw [if_neg h15] at H
        refine ex_if_ge_f h15 ?_
        refine ex_aload_n rfl ?_
        refine ex_iconst (v := 1) (by decide) ?_
        obtain ⟨v16, S17, hp, H⟩ := am_b2_el H
        refine ex_callV rfl rfl (Nat.le_of_ble_eq_true rfl) (Nat.le_of_ble_eq_true rfl) rfl (r203 (by omega) hp) rfl ?_
        refine ex_goto (ct := am_c218_49) rfl ?_
        have H := Option.some.inj H
        subst H
        exact ex_iret (M := 218) (Or.inl rfl)
    · rw [if_neg h6] at H
      refine ex_icmp_ne_j (ct := am_c218_50) h6 rfl ?_
      refine ex_aload_n rfl ?_
      refine ex_iload rfl ?_
      refine ex_iload_n rfl ?_
      obtain ⟨v7, S8, hp, H⟩ := am_b2_el H
      refine ex_callV rfl rfl (Nat.le_of_ble_eq_true rfl) (Nat.le_of_ble_eq_true rfl) rfl (r212 (by omega) hp) rfl ?_
      refine ex_istore (L2 := [.ref 95, .int x1, .int x2, .int x3, .int v4, .int v7, .long 0]) (Nat.le_of_ble_eq_true rfl) rfl ?_
      refine ex_iload rfl ?_
      by_cases h9 : v7 ≤ 0
      · rw [if_pos h9] at H
        refine ex_if_le_j (ct := am_c218_71) h9 rfl ?_
        refine ex_aload_n rfl ?_
        refine ex_getR (w := 101) rfl rfl rfl ?_
        refine ex_bipush (v := 8) (by decide) ?_
        refine ex_iload rfl ?_
        refine ex_imul ?_
        refine ex_iload_n rfl ?_
        refine ex_iadd ?_
        obtain ⟨hj, H⟩ := am_ck_el H
        refine ex_iald (k := 1152) (v := S8.1 101 ((8 * v4) + x3).toNatClampNeg) rfl hj rfl ?_
        refine ex_istore (L2 := [.ref 95, .int x1, .int x2, .int x3, .int v4, .int v7, .int (S8.1 101 ((8 * v4) + x3).toNatClampNeg)]) (Nat.le_of_ble_eq_true rfl) rfl ?_
        refine ex_iload rfl ?_
        by_cases h10 : 0 ≤ (S8.1 101 ((8 * v4) + x3).toNatClampNeg)
        · rw [if_pos h10] at H
          refine ex_if_ge_j (ct := am_c218_98) h10 rfl ?_
          refine ex_iload rfl ?_
          have H := Option.some.inj H
          subst H
          exact ex_iret (M := 218) (Or.inl rfl)
        · rw [if_neg h10] at H
          refine ex_if_ge_f h10 ?_
          refine ex_aload_n rfl ?_
          refine ex_iconst (v := 1) (by decide) ?_
          obtain ⟨v11, S12, hp, H⟩ := am_b2_el H
          refine ex_callV rfl rfl (Nat.le_of_ble_eq_true rfl) (Nat.le_of_ble_eq_true rfl) rfl (r203 (by omega) hp) rfl ?_
          refine ex_goto (ct := am_c218_100) rfl ?_
          have H := Option.some.inj H
          subst H
          exact ex_iret (M := 218) (Or.inl rfl)
      · rw [if_neg h9] at H
        refine ex_if_le_f h9 ?_
        refine ex_aload_n rfl ?_
        refine ex_iload rfl ?_
        obtain ⟨v13, S14, hp, H⟩ := am_b2_el H
        refine ex_callV rfl rfl (Nat.le_of_ble_eq_true rfl) (Nat.le_of_ble_eq_true rfl) rfl (r203 (by omega) hp) rfl ?_
        have H := Option.some.inj H
        subst H
        exact ex_iret (M := 218) (Or.inl rfl)
def g220_142 (F : Nat) (S : AmT) : Option (Int32 × AmT) := am_b2 (f203 F 5 S) fun v21 S22 => some (v21, S22)
def g220_151 (F : Nat) (k72 : Int32 → Int32 → Int32 → Int32 → Int32 → Int32 → Int32 → AmT → Option (Int32 × AmT)) : Nat → Int32 → Int32 → Int32 → Int32 → Int32 → Int32 → Int32 → Int32 → AmT → Option (Int32 × AmT)
  | 0, _, _, _, _, _, _, _, _, _ => none
  | n + 1, x3, x5, x6, x7, x8, x9, x10, x11, S => if x7 ≤ x11 then (am_lt ((am_upI S.1 95 35 ((S.1 95 35) + 1), S.2) : AmT) fun S36 => k72 x3 x5 x6 x7 x8 x9 (x10 + 1) S36) else (am_ck ((10 * (((8 * x8) + x3) + x10)) + x11) 11520 (am_ck ((10 * (((8 * x9) + x5) + x10)) + x11) 11520 (am_lt ((am_upI S.1 102 ((10 * (((8 * x9) + x5) + x10)) + x11).toNatClampNeg (S.1 102 ((10 * (((8 * x8) + x3) + x10)) + x11).toNatClampNeg), S.2) : AmT) fun S37 => g220_151 F k72 n x3 x5 x6 x7 x8 x9 x10 (x11 + 1) S37)))
def g220_72 (F : Nat) : Nat → Int32 → Int32 → Int32 → Int32 → Int32 → Int32 → Int32 → AmT → Option (Int32 × AmT)
  | 0, _, _, _, _, _, _, _, _ => none
  | n + 1, x3, x5, x6, x7, x8, x9, x10, S => if x6 ≤ x10 then (some (1, S)) else (if x7 < 0 then (g220_142 F S) else (am_b2 (f219 F x8 (x3 + x10) S) fun v23 S24 => if v23 < x7 then (g220_142 F S24) else (am_b2 (f219 F x9 (x5 + x10) S24) fun v26 S27 => if v26 < x7 then (g220_142 F S27) else (am_b2 (f219 F x8 (x3 + x10) S27) fun v29 S30 => if v29 < 0 then (g220_142 F S30) else (am_b2 (f219 F x9 (x5 + x10) S30) fun v32 S33 => if 0 ≤ v32 then (g220_151 F (fun x3 x5 x6 x7 x8 x9 x10 S => g220_72 F n x3 x5 x6 x7 x8 x9 x10 S) F x3 x5 x6 x7 x8 x9 x10 0 S33) else (g220_142 F S33))))))
-- X10_move
def f220 (F : Nat) (x1 : Int32) (x2 : Int32) (x3 : Int32) (x4 : Int32) (x5 : Int32) (x6 : Int32) (x7 : Int32) (S : AmT) : Option (Int32 × AmT) := am_b2 (f202 F S) fun v1 S2 => if v1 = 0 then (am_b2 (f206 F x1 x2 S2) fun v4 S5 => if v4 = 0 then (some ((-2), S5)) else (am_b2 (f206 F x1 x4 S5) fun v7 S8 => if v7 = 0 then (some ((-2), S8)) else (am_b2 (f197 F x6 0 8 S8) fun v10 S11 => if v10 = 0 then (some ((-1), S11)) else ((f201 F S11).bind fun S13 => am_lt ((am_upI S13.1 95 35 0, S13.2) : AmT) fun S14 => am_b2 (f207 F x1 x2 S14) fun v15 S16 => am_b2 (f207 F x1 x4 S16) fun v17 S18 => g220_72 F F x3 x5 x6 x7 v15 v17 0 S18)))) else (some ((-4), S2))
set_option maxHeartbeats 1000000 in
set_option maxRecDepth 20000 in
theorem e220_142 {Lg : Nat} {xs : Nat → Int32} {d F : Nat} {w1 : Value} {w2 : Value} {w3 : Value} {w4 : Value} {w5 : Value} {w6 : Value} {w7 : Value} {w8 : Value} {w9 : Value} {w10 : Value} {w11 : Value} {S : AmT} {q : Int32 × AmT} (hd : 3 ≤ d) (H : g220_142 F S = some q) : Ex (am_X Lg xs) d 220 am_c220_142 [.ref 95, w1, w2, w3, w4, w5, w6, w7, w8, w9, w10, w11] [] (hS S) (some q.1, hS q.2) := by
  obtain ⟨d, rfl⟩ : ∃ d2, d = d2 + 1 := ⟨d - 1, by omega⟩
  unfold g220_142 at H
  refine ex_aload_n rfl ?_
  refine ex_iconst (v := 5) (by decide) ?_
  obtain ⟨v21, S22, hp, H⟩ := am_b2_el H
  refine ex_callV rfl rfl (Nat.le_of_ble_eq_true rfl) (Nat.le_of_ble_eq_true rfl) rfl (r203 (by omega) hp) rfl ?_
  have H := Option.some.inj H
  subst H
  exact ex_iret (M := 220) (Or.inl rfl)
set_option maxHeartbeats 1000000 in
set_option maxRecDepth 20000 in
theorem e220_151 {Lg : Nat} {xs : Nat → Int32} {d F : Nat} {k72 : Int32 → Int32 → Int32 → Int32 → Int32 → Int32 → Int32 → AmT → Option (Int32 × AmT)} (hd : 3 ≤ d) (hk72 : ∀ (x3 : Int32) (x5 : Int32) (x6 : Int32) (x7 : Int32) (x8 : Int32) (x9 : Int32) (x10 : Int32) (w1 : Value) (w2 : Value) (w4 : Value) (w11 : Value) (S : AmT) (q : Int32 × AmT), k72 x3 x5 x6 x7 x8 x9 x10 S = some q → Ex (am_X Lg xs) d 220 am_c220_72 [.ref 95, w1, w2, .int x3, w4, .int x5, .int x6, .int x7, .int x8, .int x9, .int x10, w11] [] (hS S) (some q.1, hS q.2)) : ∀ (n : Nat) (x3 : Int32) (x5 : Int32) (x6 : Int32) (x7 : Int32) (x8 : Int32) (x9 : Int32) (x10 : Int32) (x11 : Int32) (w1 : Value) (w2 : Value) (w4 : Value) (S : AmT) (q : Int32 × AmT), g220_151 F k72 n x3 x5 x6 x7 x8 x9 x10 x11 S = some q → Ex (am_X Lg xs) d 220 am_c220_151 [.ref 95, w1, w2, .int x3, w4, .int x5, .int x6, .int x7, .int x8, .int x9, .int x10, .int x11] [] (hS S) (some q.1, hS q.2) := by
  obtain ⟨d, rfl⟩ : ∃ d2, d = d2 + 1 := ⟨d - 1, by omega⟩
  intro n
  induction n with
  | zero =>
    intro x3 x5 x6 x7 x8 x9 x10 x11 w1 w2 w4 S q H
    cases H
  | succ n ih =>
    intro x3 x5 x6 x7 x8 x9 x10 x11 w1 w2 w4 S q H
    have H : (if x7 ≤ x11 then (am_lt ((am_upI S.1 95 35 ((S.1 95 35) + 1), S.2) : AmT) fun S36 => k72 x3 x5 x6 x7 x8 x9 (x10 + 1) S36) else (am_ck ((10 * (((8 * x8) + x3) + x10)) + x11) 11520 (am_ck ((10 * (((8 * x9) + x5) + x10)) + x11) 11520 (am_lt ((am_upI S.1 102 ((10 * (((8 * x9) + x5) + x10)) + x11).toNatClampNeg (S.1 102 ((10 * (((8 * x8) + x3) + x10)) + x11).toNatClampNeg), S.2) : AmT) fun S37 => g220_151 F k72 n x3 x5 x6 x7 x8 x9 x10 (x11 + 1) S37)))) = some q := H
    refine ex_iload rfl ?_
    refine ex_iload rfl ?_
    by_cases h35 : x7 ≤ x11
    · rw [if_pos h35] at H
      refine ex_icmp_ge_j (ct := am_c220_207) h35 rfl ?_
      refine ex_aload_n rfl ?_
      refine ex_dupr ?_
      refine ex_gI rfl (by decide) ?_
      refine ex_iconst (v := 1) (by decide) ?_
      refine ex_iadd ?_
      refine ex_putI rfl (by decide) (fun z => absurd z.1 (by decide)) ?_
      generalize ((am_upI S.1 95 35 ((S.1 95 35) + 1), S.2) : AmT) = S36 at H ⊢
      have H := am_lt_el H
      refine ex_iinc (L2 := [.ref 95, w1, w2, .int x3, w4, .int x5, .int x6, .int x7, .int x8, .int x9, .int (x10 + 1), .int x11]) (v := (x10 + 1)) rfl (Nat.le_of_ble_eq_true rfl) (congrArg (fun z => x10 + z) (by decide)) rfl ?_
      refine ex_goto (ct := am_c220_72) rfl ?_
      exact hk72 _ _ _ _ _ _ _ _ _ _ _ _ _ H
    · rw [if_neg h35] at H
      refine ex_icmp_ge_f h35 ?_
      refine ex_aload_n rfl ?_
      refine ex_getR (w := 102) rfl rfl rfl ?_
      refine ex_bipush (v := 10) (by decide) ?_
      refine ex_bipush (v := 8) (by decide) ?_
      refine ex_iload rfl ?_
      refine ex_imul ?_
      refine ex_iload rfl ?_
      refine ex_iadd ?_
      refine ex_iload rfl ?_
      refine ex_iadd ?_
      refine ex_imul ?_
      refine ex_iload rfl ?_
      refine ex_iadd ?_
      refine ex_aload_n rfl ?_
      refine ex_getR (w := 102) rfl rfl rfl ?_
      refine ex_bipush (v := 10) (by decide) ?_
      refine ex_bipush (v := 8) (by decide) ?_
      refine ex_iload rfl ?_
      refine ex_imul ?_
      refine ex_iload_n rfl ?_
      refine ex_iadd ?_
      refine ex_iload rfl ?_
      refine ex_iadd ?_
      refine ex_imul ?_
      refine ex_iload rfl ?_
      refine ex_iadd ?_
      obtain ⟨hj, H⟩ := am_ck_el H
      refine ex_iald (k := 11520) (v := S.1 102 ((10 * (((8 * x8) + x3) + x10)) + x11).toNatClampNeg) rfl hj rfl ?_
      obtain ⟨hj, H⟩ := am_ck_el H
      refine ex_iast (k := 11520) rfl rfl hj ?_
      generalize ((am_upI S.1 102 ((10 * (((8 * x9) + x5) + x10)) + x11).toNatClampNeg (S.1 102 ((10 * (((8 * x8) + x3) + x10)) + x11).toNatClampNeg), S.2) : AmT) = S37 at H ⊢
      have H := am_lt_el H
      refine ex_iinc (L2 := [.ref 95, w1, w2, .int x3, w4, .int x5, .int x6, .int x7, .int x8, .int x9, .int x10, .int (x11 + 1)]) (v := (x11 + 1)) rfl (Nat.le_of_ble_eq_true rfl) (congrArg (fun z => x11 + z) (by decide)) rfl ?_
      refine ex_goto (ct := am_c220_151) rfl ?_
      exact ih _ _ _ _ _ _ _ _ _ _ _ _ _ H
set_option maxHeartbeats 1000000 in
set_option maxRecDepth 20000 in
theorem e220_72 {Lg : Nat} {xs : Nat → Int32} {d F : Nat} (hd : 3 ≤ d) : ∀ (n : Nat) (x3 : Int32) (x5 : Int32) (x6 : Int32) (x7 : Int32) (x8 : Int32) (x9 : Int32) (x10 : Int32) (w1 : Value) (w2 : Value) (w4 : Value) (w11 : Value) (S : AmT) (q : Int32 × AmT), g220_72 F n x3 x5 x6 x7 x8 x9 x10 S = some q → Ex (am_X Lg xs) d 220 am_c220_72 [.ref 95, w1, w2, .int x3, w4, .int x5, .int x6, .int x7, .int x8, .int x9, .int x10, w11] [] (hS S) (some q.1, hS q.2) := by
  obtain ⟨d, rfl⟩ : ∃ d2, d = d2 + 1 := ⟨d - 1, by omega⟩
  intro n
  induction n with
  | zero =>
    intro x3 x5 x6 x7 x8 x9 x10 w1 w2 w4 w11 S q H
    cases H
  | succ n ih =>
    intro x3 x5 x6 x7 x8 x9 x10 w1 w2 w4 w11 S q H
    have H : (if x6 ≤ x10 then (some (1, S)) else (if x7 < 0 then (g220_142 F S) else (am_b2 (f219 F x8 (x3 + x10) S) fun v23 S24 => if v23 < x7 then (g220_142 F S24) else (am_b2 (f219 F x9 (x5 + x10) S24) fun v26 S27 => if v26 < x7 then (g220_142 F S27) else (am_b2 (f219 F x8 (x3 + x10) S27) fun v29 S30 => if v29 < 0 then (g220_142 F S30) else (am_b2 (f219 F x9 (x5 + x10) S30) fun v32 S33 => if 0 ≤ v32 then (g220_151 F (fun x3 x5 x6 x7 x8 x9 x10 S => g220_72 F n x3 x5 x6 x7 x8 x9 x10 S) F x3 x5 x6 x7 x8 x9 x10 0 S33) else (g220_142 F S33))))))) = some q := H
    refine ex_iload rfl ?_
    refine ex_iload rfl ?_
    by_cases h19 : x6 ≤ x10
    · rw [if_pos h19] at H
      refine ex_icmp_ge_j (ct := am_c220_223) h19 rfl ?_
      refine ex_iconst (v := 1) (by decide) ?_
      have H := Option.some.inj H
      subst H
      exact ex_iret (M := 220) (Or.inl rfl)
    · rw [if_neg h19] at H
      refine ex_icmp_ge_f h19 ?_
      refine ex_iload rfl ?_
      by_cases h20 : x7 < 0
      · rw [if_pos h20] at H
        refine ex_if_lt_j (ct := am_c220_142) h20 rfl ?_
        exact e220_142 hd H
      · rw [if_neg h20] at H
        refine ex_if_lt_f h20 ?_
        refine ex_aload_n rfl ?_
        refine ex_iload rfl ?_
        refine ex_iload_n rfl ?_
        refine ex_iload rfl ?_
        refine ex_iadd ?_
        obtain ⟨v23, S24, hp, H⟩ := am_b2_el H
        refine ex_callV rfl rfl (Nat.le_of_ble_eq_true rfl) (Nat.le_of_ble_eq_true rfl) rfl (r219 (by omega) hp) rfl ?_
        refine ex_iload rfl ?_
        by_cases h25 : v23 < x7
        · rw [if_pos h25] at H
          refine ex_icmp_lt_j (ct := am_c220_142) h25 rfl ?_
          exact e220_142 hd H
        · rw [if_neg h25] at H
          refine ex_icmp_lt_f h25 ?_
          refine ex_aload_n rfl ?_
          refine ex_iload rfl ?_
          refine ex_iload rfl ?_
          refine ex_iload rfl ?_
          refine ex_iadd ?_
          obtain ⟨v26, S27, hp, H⟩ := am_b2_el H
          refine ex_callV rfl rfl (Nat.le_of_ble_eq_true rfl) (Nat.le_of_ble_eq_true rfl) rfl (r219 (by omega) hp) rfl ?_
          refine ex_iload rfl ?_
          by_cases h28 : v26 < x7
          · rw [if_pos h28] at H
            refine ex_icmp_lt_j (ct := am_c220_142) h28 rfl ?_
            exact e220_142 hd H
          · rw [if_neg h28] at H
            refine ex_icmp_lt_f h28 ?_
            refine ex_aload_n rfl ?_
            refine ex_iload rfl ?_
            refine ex_iload_n rfl ?_
            refine ex_iload rfl ?_
            refine ex_iadd ?_
            obtain ⟨v29, S30, hp, H⟩ := am_b2_el H
            refine ex_callV rfl rfl (Nat.le_of_ble_eq_true rfl) (Nat.le_of_ble_eq_true rfl) rfl (r219 (by omega) hp) rfl ?_
            by_cases h31 : v29 < 0
            · rw [if_pos h31] at H
              refine ex_if_lt_j (ct := am_c220_142) h31 rfl ?_
              exact e220_142 hd H
            · rw [if_neg h31] at H
              refine ex_if_lt_f h31 ?_
              refine ex_aload_n rfl ?_
              refine ex_iload rfl ?_
              refine ex_iload rfl ?_
              refine ex_iload rfl ?_
              refine ex_iadd ?_
              obtain ⟨v32, S33, hp, H⟩ := am_b2_el H
              refine ex_callV rfl rfl (Nat.le_of_ble_eq_true rfl) (Nat.le_of_ble_eq_true rfl) rfl (r219 (by omega) hp) rfl ?_
              by_cases h34 : 0 ≤ v32
              · rw [if_pos h34] at H
                refine ex_if_ge_j (ct := am_c220_148) h34 rfl ?_
                refine ex_iconst (v := 0) (by decide) ?_
                refine ex_istore (L2 := [.ref 95, w1, w2, .int x3, w4, .int x5, .int x6, .int x7, .int x8, .int x9, .int x10, .int 0]) (Nat.le_of_ble_eq_true rfl) rfl ?_
                exact e220_151 hd (fun x3 x5 x6 x7 x8 x9 x10 w1 w2 w4 w11 S q H => ih x3 x5 x6 x7 x8 x9 x10 w1 w2 w4 w11 S q H) _ _ _ _ _ _ _ _ _ _ _ _ _ _ H
              · rw [if_neg h34] at H
                refine ex_if_ge_f h34 ?_
                exact e220_142 hd H
set_option maxHeartbeats 1000000 in
set_option maxRecDepth 20000 in
theorem r220 {Lg : Nat} {xs : Nat → Int32} {d F : Nat} {x1 : Int32} {x2 : Int32} {x3 : Int32} {x4 : Int32} {x5 : Int32} {x6 : Int32} {x7 : Int32} {S : AmT} {q : Int32 × AmT} (hd : 3 ≤ d) (H : f220 F x1 x2 x3 x4 x5 x6 x7 S = some q) : Ex (am_X Lg xs) d 220 (am_P 220) (am_ini (am_Mi 220).1 [.ref 95, .int x1, .int x2, .int x3, .int x4, .int x5, .int x6, .int x7]) [] (hS S) (some q.1, hS q.2) := by
  obtain ⟨d, rfl⟩ : ∃ d2, d = d2 + 1 := ⟨d - 1, by omega⟩
  unfold f220 at H
  show Ex (am_X Lg xs) _ 220 am_c220_0 [.ref 95, .int x1, .int x2, .int x3, .int x4, .int x5, .int x6, .int x7, .long 0, .long 0, .long 0, .long 0] [] (hS S) (some q.1, hS q.2)
  refine ex_aload_n rfl ?_
  obtain ⟨v1, S2, hp, H⟩ := am_b2_el H
  refine ex_callV rfl rfl (Nat.le_of_ble_eq_true rfl) (Nat.le_of_ble_eq_true rfl) rfl (r202 (by omega) hp) rfl ?_
  by_cases h3 : v1 = 0
  · rw [if_pos h3] at H
    refine ex_if_eq_j (ct := am_c220_10) h3 rfl ?_
    refine ex_aload_n rfl ?_
    refine ex_iload_n rfl ?_
    refine ex_iload_n rfl ?_
    obtain ⟨v4, S5, hp, H⟩ := am_b2_el H
    refine ex_callV rfl rfl (Nat.le_of_ble_eq_true rfl) (Nat.le_of_ble_eq_true rfl) rfl (r206 (by omega) hp) rfl ?_
    by_cases h6 : v4 = 0
    · rw [if_pos h6] at H
      refine ex_if_eq_j (ct := am_c220_29) h6 rfl ?_
      refine ex_bipush (v := (-2)) (by decide) ?_
      have H := Option.some.inj H
      subst H
      exact ex_iret (M := 220) (Or.inl rfl)
    · rw [if_neg h6] at H
      refine ex_if_eq_f h6 ?_
      refine ex_aload_n rfl ?_
      refine ex_iload_n rfl ?_
      refine ex_iload rfl ?_
      obtain ⟨v7, S8, hp, H⟩ := am_b2_el H
      refine ex_callV rfl rfl (Nat.le_of_ble_eq_true rfl) (Nat.le_of_ble_eq_true rfl) rfl (r206 (by omega) hp) rfl ?_
      by_cases h9 : v7 = 0
      · rw [if_pos h9] at H
        refine ex_if_ne_f h9 ?_
        refine ex_bipush (v := (-2)) (by decide) ?_
        have H := Option.some.inj H
        subst H
        exact ex_iret (M := 220) (Or.inl rfl)
      · rw [if_neg h9] at H
        refine ex_if_ne_j (ct := am_c220_32) h9 rfl ?_
        refine ex_iload rfl ?_
        refine ex_iconst (v := 0) (by decide) ?_
        refine ex_bipush (v := 8) (by decide) ?_
        obtain ⟨v10, S11, hp, H⟩ := am_b2_el H
        refine ex_callS rfl rfl (Nat.le_of_ble_eq_true rfl) (Nat.le_of_ble_eq_true rfl) (r197 (by omega) hp) rfl ?_
        by_cases h12 : v10 = 0
        · rw [if_pos h12] at H
          refine ex_if_ne_f h12 ?_
          refine ex_iconst (v := (-1)) (by decide) ?_
          have H := Option.some.inj H
          subst H
          exact ex_iret (M := 220) (Or.inl rfl)
        · rw [if_neg h12] at H
          refine ex_if_ne_j (ct := am_c220_45) h12 rfl ?_
          refine ex_aload_n rfl ?_
          obtain ⟨S13, hp, H⟩ := Option.bind_eq_some_iff.mp H
          refine ex_callV rfl rfl (Nat.le_of_ble_eq_true rfl) (Nat.le_of_ble_eq_true rfl) rfl (r201 (by omega) hp) rfl ?_
          refine ex_aload_n rfl ?_
          refine ex_iconst (v := 0) (by decide) ?_
          refine ex_putI rfl (by decide) (fun z => absurd z.1 (by decide)) ?_
          generalize ((am_upI S13.1 95 35 0, S13.2) : AmT) = S14 at H ⊢
          have H := am_lt_el H
          refine ex_iload_n rfl ?_
          refine ex_iload_n rfl ?_
          obtain ⟨v15, S16, hp, H⟩ := am_b2_el H
          refine ex_callS rfl rfl (Nat.le_of_ble_eq_true rfl) (Nat.le_of_ble_eq_true rfl) (r207 (by omega) hp) rfl ?_
          refine ex_istore (L2 := [.ref 95, .int x1, .int x2, .int x3, .int x4, .int x5, .int x6, .int x7, .int v15, .long 0, .long 0, .long 0]) (Nat.le_of_ble_eq_true rfl) rfl ?_
          refine ex_iload_n rfl ?_
          refine ex_iload rfl ?_
          obtain ⟨v17, S18, hp, H⟩ := am_b2_el H
          refine ex_callS rfl rfl (Nat.le_of_ble_eq_true rfl) (Nat.le_of_ble_eq_true rfl) (r207 (by omega) hp) rfl ?_
          refine ex_istore (L2 := [.ref 95, .int x1, .int x2, .int x3, .int x4, .int x5, .int x6, .int x7, .int v15, .int v17, .long 0, .long 0]) (Nat.le_of_ble_eq_true rfl) rfl ?_
          refine ex_iconst (v := 0) (by decide) ?_
          refine ex_istore (L2 := [.ref 95, .int x1, .int x2, .int x3, .int x4, .int x5, .int x6, .int x7, .int v15, .int v17, .int 0, .long 0]) (Nat.le_of_ble_eq_true rfl) rfl ?_
          exact e220_72 hd _ _ _ _ _ _ _ _ _ _ _ _ _ _ H
  · rw [if_neg h3] at H
    refine ex_if_eq_f h3 ?_
    refine ex_bipush (v := (-4)) (by decide) ?_
    have H := Option.some.inj H
    subst H
    exact ex_iret (M := 220) (Or.inl rfl)
