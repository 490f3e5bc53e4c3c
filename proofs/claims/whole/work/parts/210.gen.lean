/-! printed by wip/gen/gen20.py -/
-- X10_cell
def f256 (F : Nat) (x1 : Int32) (x2 : Int32) (x3 : Int32) (x4 : Int32) (x5 : Int32) (S : AmT) : Option (Int32 × AmT) := am_b2 (f249 F x1 S) fun v1 S2 => if v1 = 0 then (some ((-2), S2)) else (am_b2 (f197 F x2 0 1 S2) fun v4 S5 => if v4 = 0 then (some ((-1), S5)) else (am_b2 (f197 F x5 0 1 S5) fun v7 S8 => if v7 = 0 then (some ((-1), S8)) else (am_b2 (f254 F x1 x2 x3 x4 S8) fun v10 S11 => if v10 ≤ 0 then (am_b2 (f251 F x1 x2 x3 x4 S11) fun v13 S14 => if x5 = 0 then (am_ck v13 2048 (some ((S14.1 117 v13.toNatClampNeg), S14))) else (am_ck v13 2048 (some ((S14.1 118 v13.toNatClampNeg), S14)))) else (am_b2 (f203 F v10 S11) fun v16 S17 => some (v16, S17)))))
set_option maxHeartbeats 1000000 in
set_option maxRecDepth 20000 in
theorem r256 {Lg : Nat} {xs : Nat → Int32} {d F : Nat} {x1 : Int32} {x2 : Int32} {x3 : Int32} {x4 : Int32} {x5 : Int32} {S : AmT} {q : Int32 × AmT} (hd : 2 ≤ d) (H : f256 F x1 x2 x3 x4 x5 S = some q) : Ex (am_X Lg xs) d 256 (am_P 256) (am_ini (am_Mi 256).1 [.ref 95, .int x1, .int x2, .int x3, .int x4, .int x5]) [] (hS S) (some q.1, hS q.2) := by
  obtain ⟨d, rfl⟩ : ∃ d2, d = d2 + 1 := ⟨d - 1, by omega⟩
  unfold f256 at H
  show Ex (am_X Lg xs) _ 256 am_c256_0 [.ref 95, .int x1, .int x2, .int x3, .int x4, .int x5, .long 0, .long 0] [] (hS S) (some q.1, hS q.2)
  refine ex_aload_n rfl ?_
  refine ex_iload_n rfl ?_
  obtain ⟨v1, S2, hp, H⟩ := am_b2_el H
  refine ex_callV rfl rfl (Nat.le_of_ble_eq_true rfl) (Nat.le_of_ble_eq_true rfl) rfl (r249 (by omega) hp) rfl ?_
  by_cases h3 : v1 = 0
  · rw [if_pos h3] at H
    refine ex_if_ne_f h3 ?_
    refine ex_bipush (v := (-2)) (by decide) ?_
    have H := Option.some.inj H
    subst H
    exact ex_iret (M := 256) (Or.inl rfl)
  · rw [if_neg h3] at H
    refine ex_if_ne_j (ct := am_c256_11) h3 rfl ?_
    refine ex_iload_n rfl ?_
    refine ex_iconst (v := 0) (by decide) ?_
    refine ex_iconst (v := 1) (by decide) ?_
    obtain ⟨v4, S5, hp, H⟩ := am_b2_el H
    refine ex_callS rfl rfl (Nat.le_of_ble_eq_true rfl) (Nat.le_of_ble_eq_true rfl) (r197 (by omega) hp) rfl ?_
    by_cases h6 : v4 = 0
    · rw [if_pos h6] at H
      refine ex_if_eq_j (ct := am_c256_30) h6 rfl ?_
      refine ex_iconst (v := (-1)) (by decide) ?_
      have H := Option.some.inj H
      subst H
      exact ex_iret (M := 256) (Or.inl rfl)
    · rw [if_neg h6] at H
      refine ex_if_eq_f h6 ?_
      refine ex_iload rfl ?_
      refine ex_iconst (v := 0) (by decide) ?_
      refine ex_iconst (v := 1) (by decide) ?_
      obtain ⟨v7, S8, hp, H⟩ := am_b2_el H
      refine ex_callS rfl rfl (Nat.le_of_ble_eq_true rfl) (Nat.le_of_ble_eq_true rfl) (r197 (by omega) hp) rfl ?_
      by_cases h9 : v7 = 0
      · rw [if_pos h9] at H
        refine ex_if_ne_f h9 ?_
        refine ex_iconst (v := (-1)) (by decide) ?_
        have H := Option.some.inj H
        subst H
        exact ex_iret (M := 256) (Or.inl rfl)
      · rw [if_neg h9] at H
        refine ex_if_ne_j (ct := am_c256_32) h9 rfl ?_
        refine ex_aload_n rfl ?_
        refine ex_iload_n rfl ?_
        refine ex_iload_n rfl ?_
        refine ex_iload_n rfl ?_
        refine ex_iload rfl ?_
        obtain ⟨v10, S11, hp, H⟩ := am_b2_el H
        refine ex_callV rfl rfl (Nat.le_of_ble_eq_true rfl) (Nat.le_of_ble_eq_true rfl) rfl (r254 (by omega) hp) rfl ?_
        refine ex_istore (L2 := [.ref 95, .int x1, .int x2, .int x3, .int x4, .int x5, .int v10, .long 0]) (Nat.le_of_ble_eq_true rfl) rfl ?_
        refine ex_iload rfl ?_
        by_cases h12 : v10 ≤ 0
        · rw [if_pos h12] at H
          refine ex_if_le_j (ct := am_c256_55) h12 rfl ?_
          refine ex_iload_n rfl ?_
          refine ex_iload_n rfl ?_
          refine ex_iload_n rfl ?_
          refine ex_iload rfl ?_
          obtain ⟨v13, S14, hp, H⟩ := am_b2_el H
          refine ex_callS rfl rfl (Nat.le_of_ble_eq_true rfl) (Nat.le_of_ble_eq_true rfl) (r251 (by omega) hp) rfl ?_
          refine ex_istore (L2 := [.ref 95, .int x1, .int x2, .int x3, .int x4, .int x5, .int v10, .int v13]) (Nat.le_of_ble_eq_true rfl) rfl ?_
          refine ex_iload rfl ?_
          by_cases h15 : x5 = 0
          · rw [if_pos h15] at H
            refine ex_if_ne_f h15 ?_
            refine ex_aload_n rfl ?_
            refine ex_getR (w := 117) rfl rfl rfl ?_
            refine ex_iload rfl ?_
            obtain ⟨hj, H⟩ := am_ck_el H
            refine ex_iald (k := 2048) (v := S14.1 117 v13.toNatClampNeg) rfl hj rfl ?_
            refine ex_goto (ct := am_c256_87) rfl ?_
            have H := Option.some.inj H
            subst H
            exact ex_iret (M := 256) (Or.inl rfl)
          · rw [if_neg h15] at H
            refine ex_if_ne_j (ct := am_c256_80) h15 rfl ?_
            refine ex_aload_n rfl ?_
            refine ex_getR (w := 118) rfl rfl rfl ?_
            refine ex_iload rfl ?_
            obtain ⟨hj, H⟩ := am_ck_el H
            refine ex_iald (k := 2048) (v := S14.1 118 v13.toNatClampNeg) rfl hj rfl ?_
            have H := Option.some.inj H
            subst H
            exact ex_iret (M := 256) (Or.inl rfl)
        · rw [if_neg h12] at H
          refine ex_if_le_f h12 ?_
          refine ex_aload_n rfl ?_
          refine ex_iload rfl ?_
          obtain ⟨v16, S17, hp, H⟩ := am_b2_el H
          refine ex_callV rfl rfl (Nat.le_of_ble_eq_true rfl) (Nat.le_of_ble_eq_true rfl) rfl (r203 (by omega) hp) rfl ?_
          have H := Option.some.inj H
          subst H
          exact ex_iret (M := 256) (Or.inl rfl)
def g262_107 (F : Nat) (k2 : Int32 → Int32 → AmT → Option (Int32 × AmT)) (x1 : Int32) (x2 : Int32) (x4 : Int32) (x5 : Int32) (s1 : Int32) (s2 : Int32) (S : AmT) : Option (Int32 × AmT) := am_ck s1 2048 (am_lt ((am_upI S.1 117 s1.toNatClampNeg s2, S.2) : AmT) fun S18 => am_b2 (f245 F x4 S18) fun v19 S20 => am_ck x5 2048 (am_lt ((am_upI S20.1 118 x5.toNatClampNeg v19, S20.2) : AmT) fun S21 => k2 x1 (x2 + 1) S21))
def g262_2 (F : Nat) : Nat → Int32 → Int32 → AmT → Option (Int32 × AmT)
  | 0, _, _, _ => none
  | n + 1, x1, x2, S => if (S.1 95 47) ≤ x2 then (some ((S.1 95 47), S)) else (am_ck x2 2048 (am_ck x2 2048 (am_b2 (f242 F (S.1 131 x2.toNatClampNeg) S) fun v2 S3 => am_b2 (f243 F (S.1 131 x2.toNatClampNeg) S3) fun v4 S5 => am_b2 (f250 F (S.1 129 x2.toNatClampNeg) v2 v4 S5) fun v6 S7 => am_ck v6 256 (if (S7.1 116 v6.toNatClampNeg) = 0 then (am_b2 (f242 F (S.1 131 x2.toNatClampNeg) S7) fun v9 S10 => am_b2 (f243 F (S.1 131 x2.toNatClampNeg) S10) fun v11 S12 => am_b2 (f244 F (S.1 131 x2.toNatClampNeg) S12) fun v13 S14 => am_b2 (f251 F (S.1 129 x2.toNatClampNeg) v9 v11 v13 S14) fun v15 S16 => am_ck (S.1 129 x2.toNatClampNeg) 16 (am_ck (S16.1 108 (S.1 129 x2.toNatClampNeg).toNatClampNeg) 6 (if (S16.1 97 (S16.1 108 (S.1 129 x2.toNatClampNeg).toNatClampNeg).toNatClampNeg) < (x1 + x2) then (g262_107 F (fun x1 x2 S => g262_2 F n x1 x2 S) x1 x2 (S.1 131 x2.toNatClampNeg) v15 v15 0 S16) else (g262_107 F (fun x1 x2 S => g262_2 F n x1 x2 S) x1 x2 (S.1 131 x2.toNatClampNeg) v15 v15 (x1 + x2) S16)))) else (am_b2 (f203 F 1 S7) fun v22 S23 => some (v22, S23))))))
-- X10_layList
def f262 (F : Nat) (x1 : Int32) (S : AmT) : Option (Int32 × AmT) := g262_2 F F x1 0 S
set_option maxHeartbeats 1000000 in
set_option maxRecDepth 20000 in
theorem e262_107 {Lg : Nat} {xs : Nat → Int32} {d F : Nat} {k2 : Int32 → Int32 → AmT → Option (Int32 × AmT)} {x1 : Int32} {x2 : Int32} {x4 : Int32} {x5 : Int32} {s1 : Int32} {s2 : Int32} {w3 : Value} {w6 : Value} {S : AmT} {q : Int32 × AmT} (hd : 2 ≤ d) (hk2 : ∀ (x1 : Int32) (x2 : Int32) (w3 : Value) (w4 : Value) (w5 : Value) (w6 : Value) (S : AmT) (q : Int32 × AmT), k2 x1 x2 S = some q → Ex (am_X Lg xs) d 262 am_c262_2 [.ref 95, .int x1, .int x2, w3, w4, w5, w6] [] (hS S) (some q.1, hS q.2)) (H : g262_107 F k2 x1 x2 x4 x5 s1 s2 S = some q) : Ex (am_X Lg xs) d 262 am_c262_107 [.ref 95, .int x1, .int x2, w3, .int x4, .int x5, w6] [.int s2, .int s1, .ref 117] (hS S) (some q.1, hS q.2) := by
  obtain ⟨d, rfl⟩ : ∃ d2, d = d2 + 1 := ⟨d - 1, by omega⟩
  unfold g262_107 at H
  obtain ⟨hj, H⟩ := am_ck_el H
  refine ex_iast (k := 2048) rfl rfl hj ?_
  generalize ((am_upI S.1 117 s1.toNatClampNeg s2, S.2) : AmT) = S18 at H ⊢
  have H := am_lt_el H
  refine ex_aload_n rfl ?_
  refine ex_getR (w := 118) rfl rfl rfl ?_
  refine ex_iload rfl ?_
  refine ex_iload rfl ?_
  obtain ⟨v19, S20, hp, H⟩ := am_b2_el H
  refine ex_callS rfl rfl (Nat.le_of_ble_eq_true rfl) (Nat.le_of_ble_eq_true rfl) (r245 (by omega) hp) rfl ?_
  obtain ⟨hj, H⟩ := am_ck_el H
  refine ex_iast (k := 2048) rfl rfl hj ?_
  generalize ((am_upI S20.1 118 x5.toNatClampNeg v19, S20.2) : AmT) = S21 at H ⊢
  have H := am_lt_el H
  refine ex_iinc (L2 := [.ref 95, .int x1, .int (x2 + 1), w3, .int x4, .int x5, w6]) (v := (x2 + 1)) rfl (Nat.le_of_ble_eq_true rfl) (congrArg (fun z => x2 + z) (by decide)) rfl ?_
  refine ex_goto (ct := am_c262_2) rfl ?_
  exact hk2 _ _ _ _ _ _ _ _ H
set_option maxHeartbeats 1000000 in
set_option maxRecDepth 20000 in
theorem e262_2 {Lg : Nat} {xs : Nat → Int32} {d F : Nat} (hd : 2 ≤ d) : ∀ (n : Nat) (x1 : Int32) (x2 : Int32) (w3 : Value) (w4 : Value) (w5 : Value) (w6 : Value) (S : AmT) (q : Int32 × AmT), g262_2 F n x1 x2 S = some q → Ex (am_X Lg xs) d 262 am_c262_2 [.ref 95, .int x1, .int x2, w3, w4, w5, w6] [] (hS S) (some q.1, hS q.2) := by
  obtain ⟨d, rfl⟩ : ∃ d2, d = d2 + 1 := ⟨d - 1, by omega⟩
  intro n
  induction n with
  | zero =>
    intro x1 x2 w3 w4 w5 w6 S q H
    cases H
  | succ n ih =>
    intro x1 x2 w3 w4 w5 w6 S q H
    have H : (if (S.1 95 47) ≤ x2 then (some ((S.1 95 47), S)) else (am_ck x2 2048 (am_ck x2 2048 (am_b2 (f242 F (S.1 131 x2.toNatClampNeg) S) fun v2 S3 => am_b2 (f243 F (S.1 131 x2.toNatClampNeg) S3) fun v4 S5 => am_b2 (f250 F (S.1 129 x2.toNatClampNeg) v2 v4 S5) fun v6 S7 => am_ck v6 256 (if (S7.1 116 v6.toNatClampNeg) = 0 then (am_b2 (f242 F (S.1 131 x2.toNatClampNeg) S7) fun v9 S10 => am_b2 (f243 F (S.1 131 x2.toNatClampNeg) S10) fun v11 S12 => am_b2 (f244 F (S.1 131 x2.toNatClampNeg) S12) fun v13 S14 => am_b2 (f251 F (S.1 129 x2.toNatClampNeg) v9 v11 v13 S14) fun v15 S16 => am_ck (S.1 129 x2.toNatClampNeg) 16 (am_ck (S16.1 108 (S.1 129 x2.toNatClampNeg).toNatClampNeg) 6 (if (S16.1 97 (S16.1 108 (S.1 129 x2.toNatClampNeg).toNatClampNeg).toNatClampNeg) < (x1 + x2) then (g262_107 F (fun x1 x2 S => g262_2 F n x1 x2 S) x1 x2 (S.1 131 x2.toNatClampNeg) v15 v15 0 S16) else (g262_107 F (fun x1 x2 S => g262_2 F n x1 x2 S) x1 x2 (S.1 131 x2.toNatClampNeg) v15 v15 (x1 + x2) S16)))) else (am_b2 (f203 F 1 S7) fun v22 S23 => some (v22, S23))))))) = some q := H
    refine ex_iload_n rfl ?_
    refine ex_aload_n rfl ?_
    refine ex_gI rfl (by decide) ?_
    by_cases h1 : (S.1 95 47) ≤ x2
    · rw [if_pos h1] at H
      refine ex_icmp_ge_j (ct := am_c262_126) h1 rfl ?_
      refine ex_aload_n rfl ?_
      refine ex_gI rfl (by decide) ?_
      have H := Option.some.inj H
      subst H
      exact ex_iret (M := 262) (Or.inl rfl)
    · rw [if_neg h1] at H
      refine ex_icmp_ge_f h1 ?_
      refine ex_aload_n rfl ?_
      refine ex_getR (w := 129) rfl rfl rfl ?_
      refine ex_iload_n rfl ?_
      obtain ⟨hj, H⟩ := am_ck_el H
      refine ex_iald (k := 2048) (v := S.1 129 x2.toNatClampNeg) rfl hj rfl ?_
      refine ex_istore_n (L2 := [.ref 95, .int x1, .int x2, .int (S.1 129 x2.toNatClampNeg), w4, w5, w6]) (Nat.le_of_ble_eq_true rfl) rfl ?_
      refine ex_aload_n rfl ?_
      refine ex_getR (w := 131) rfl rfl rfl ?_
      refine ex_iload_n rfl ?_
      obtain ⟨hj, H⟩ := am_ck_el H
      refine ex_iald (k := 2048) (v := S.1 131 x2.toNatClampNeg) rfl hj rfl ?_
      refine ex_istore (L2 := [.ref 95, .int x1, .int x2, .int (S.1 129 x2.toNatClampNeg), .int (S.1 131 x2.toNatClampNeg), w5, w6]) (Nat.le_of_ble_eq_true rfl) rfl ?_
      refine ex_aload_n rfl ?_
      refine ex_getR (w := 116) rfl rfl rfl ?_
      refine ex_iload_n rfl ?_
      refine ex_iload rfl ?_
      obtain ⟨v2, S3, hp, H⟩ := am_b2_el H
      refine ex_callS rfl rfl (Nat.le_of_ble_eq_true rfl) (Nat.le_of_ble_eq_true rfl) (r242 (by omega) hp) rfl ?_
      refine ex_iload rfl ?_
      obtain ⟨v4, S5, hp, H⟩ := am_b2_el H
      refine ex_callS rfl rfl (Nat.le_of_ble_eq_true rfl) (Nat.le_of_ble_eq_true rfl) (r243 (by omega) hp) rfl ?_
      obtain ⟨v6, S7, hp, H⟩ := am_b2_el H
      refine ex_callS rfl rfl (Nat.le_of_ble_eq_true rfl) (Nat.le_of_ble_eq_true rfl) (r250 (by omega) hp) rfl ?_
      obtain ⟨hj, H⟩ := am_ck_el H
      refine ex_bald (k := 256) (v := S7.1 116 v6.toNatClampNeg) rfl hj rfl ?_
      by_cases h8 : (S7.1 116 v6.toNatClampNeg) = 0
      · rw [if_pos h8] at H
        refine ex_if_eq_j (ct := am_c262_53) h8 rfl ?_
        refine ex_iload_n rfl ?_
        refine ex_iload rfl ?_
        obtain ⟨v9, S10, hp, H⟩ := am_b2_el H
        refine ex_callS rfl rfl (Nat.le_of_ble_eq_true rfl) (Nat.le_of_ble_eq_true rfl) (r242 (by omega) hp) rfl ?_
        refine ex_iload rfl ?_
        obtain ⟨v11, S12, hp, H⟩ := am_b2_el H
        refine ex_callS rfl rfl (Nat.le_of_ble_eq_true rfl) (Nat.le_of_ble_eq_true rfl) (r243 (by omega) hp) rfl ?_
        refine ex_iload rfl ?_
        obtain ⟨v13, S14, hp, H⟩ := am_b2_el H
        refine ex_callS rfl rfl (Nat.le_of_ble_eq_true rfl) (Nat.le_of_ble_eq_true rfl) (r244 (by omega) hp) rfl ?_
        obtain ⟨v15, S16, hp, H⟩ := am_b2_el H
        refine ex_callS rfl rfl (Nat.le_of_ble_eq_true rfl) (Nat.le_of_ble_eq_true rfl) (r251 (by omega) hp) rfl ?_
        refine ex_istore (L2 := [.ref 95, .int x1, .int x2, .int (S.1 129 x2.toNatClampNeg), .int (S.1 131 x2.toNatClampNeg), .int v15, w6]) (Nat.le_of_ble_eq_true rfl) rfl ?_
        refine ex_iload_n rfl ?_
        refine ex_iload_n rfl ?_
        refine ex_iadd ?_
        refine ex_istore (L2 := [.ref 95, .int x1, .int x2, .int (S.1 129 x2.toNatClampNeg), .int (S.1 131 x2.toNatClampNeg), .int v15, .int (x1 + x2)]) (Nat.le_of_ble_eq_true rfl) rfl ?_
        refine ex_aload_n rfl ?_
        refine ex_getR (w := 117) rfl rfl rfl ?_
        refine ex_iload rfl ?_
        refine ex_iload rfl ?_
        refine ex_aload_n rfl ?_
        refine ex_getR (w := 97) rfl rfl rfl ?_
        refine ex_aload_n rfl ?_
        refine ex_getR (w := 108) rfl rfl rfl ?_
        refine ex_iload_n rfl ?_
        obtain ⟨hj, H⟩ := am_ck_el H
        refine ex_iald (k := 16) (v := S16.1 108 (S.1 129 x2.toNatClampNeg).toNatClampNeg) rfl hj rfl ?_
        obtain ⟨hj, H⟩ := am_ck_el H
        refine ex_iald (k := 6) (v := S16.1 97 (S16.1 108 (S.1 129 x2.toNatClampNeg).toNatClampNeg).toNatClampNeg) rfl hj rfl ?_
        by_cases h17 : (S16.1 97 (S16.1 108 (S.1 129 x2.toNatClampNeg).toNatClampNeg).toNatClampNeg) < (x1 + x2)
        · rw [if_pos h17] at H
          refine ex_icmp_gt_j (ct := am_c262_106) h17 rfl ?_
          refine ex_iconst (v := 0) (by decide) ?_
          exact e262_107 hd (fun x1 x2 w3 w4 w5 w6 S q H => ih x1 x2 w3 w4 w5 w6 S q H) H
        · rw [if_neg h17] at H
          refine ex_icmp_gt_f h17 ?_
          refine ex_iload rfl ?_
          refine ex_goto (ct := am_c262_107) rfl ?_
          exact e262_107 hd (fun x1 x2 w3 w4 w5 w6 S q H => ih x1 x2 w3 w4 w5 w6 S q H) H
      · rw [if_neg h8] at H
        refine ex_if_eq_f h8 ?_
        refine ex_aload_n rfl ?_
        refine ex_iconst (v := 1) (by decide) ?_
        obtain ⟨v22, S23, hp, H⟩ := am_b2_el H
        refine ex_callV rfl rfl (Nat.le_of_ble_eq_true rfl) (Nat.le_of_ble_eq_true rfl) rfl (r203 (by omega) hp) rfl ?_
        have H := Option.some.inj H
        subst H
        exact ex_iret (M := 262) (Or.inl rfl)
set_option maxHeartbeats 1000000 in
set_option maxRecDepth 20000 in
theorem r262 {Lg : Nat} {xs : Nat → Int32} {d F : Nat} {x1 : Int32} {S : AmT} {q : Int32 × AmT} (hd : 2 ≤ d) (H : f262 F x1 S = some q) : Ex (am_X Lg xs) d 262 (am_P 262) (am_ini (am_Mi 262).1 [.ref 95, .int x1]) [] (hS S) (some q.1, hS q.2) := by
  obtain ⟨d, rfl⟩ : ∃ d2, d = d2 + 1 := ⟨d - 1, by omega⟩
  unfold f262 at H
  show Ex (am_X Lg xs) _ 262 am_c262_0 [.ref 95, .int x1, .long 0, .long 0, .long 0, .long 0, .long 0] [] (hS S) (some q.1, hS q.2)
  refine ex_iconst (v := 0) (by decide) ?_
  refine ex_istore_n (L2 := [.ref 95, .int x1, .int 0, .long 0, .long 0, .long 0, .long 0]) (Nat.le_of_ble_eq_true rfl) rfl ?_
  exact e262_2 hd _ _ _ _ _ _ _ _ _ H
-- X10_readList
def f263 (F : Nat) (x1 : Int32) (S : AmT) : Option (Int32 × AmT) := am_b2 (f197 F x1 0 ((S.1 95 47) - 1) S) fun v1 S2 => if v1 = 0 then (am_b2 (f203 F 2 S2) fun v21 S22 => some (v21, S22)) else (am_ck x1 2048 (am_ck x1 2048 (am_b2 (f242 F (S2.1 131 x1.toNatClampNeg) S2) fun v4 S5 => am_b2 (f243 F (S2.1 131 x1.toNatClampNeg) S5) fun v6 S7 => am_b2 (f250 F (S2.1 129 x1.toNatClampNeg) v4 v6 S7) fun v8 S9 => am_ck v8 256 (if (S9.1 116 v8.toNatClampNeg) = 0 then (am_b2 (f242 F (S2.1 131 x1.toNatClampNeg) S9) fun v11 S12 => am_b2 (f243 F (S2.1 131 x1.toNatClampNeg) S12) fun v13 S14 => am_b2 (f244 F (S2.1 131 x1.toNatClampNeg) S14) fun v15 S16 => am_b2 (f251 F (S2.1 129 x1.toNatClampNeg) v11 v13 v15 S16) fun v17 S18 => am_ck v17 2048 (some ((S18.1 117 v17.toNatClampNeg), S18))) else (am_b2 (f203 F 1 S9) fun v19 S20 => some (v19, S20))))))
set_option maxHeartbeats 1000000 in
set_option maxRecDepth 20000 in
theorem r263 {Lg : Nat} {xs : Nat → Int32} {d F : Nat} {x1 : Int32} {S : AmT} {q : Int32 × AmT} (hd : 2 ≤ d) (H : f263 F x1 S = some q) : Ex (am_X Lg xs) d 263 (am_P 263) (am_ini (am_Mi 263).1 [.ref 95, .int x1]) [] (hS S) (some q.1, hS q.2) := by
  obtain ⟨d, rfl⟩ : ∃ d2, d = d2 + 1 := ⟨d - 1, by omega⟩
  unfold f263 at H
  show Ex (am_X Lg xs) _ 263 am_c263_0 [.ref 95, .int x1, .long 0, .long 0] [] (hS S) (some q.1, hS q.2)
  refine ex_iload_n rfl ?_
  refine ex_iconst (v := 0) (by decide) ?_
  refine ex_aload_n rfl ?_
  refine ex_gI rfl (by decide) ?_
  refine ex_iconst (v := 1) (by decide) ?_
  refine ex_isub ?_
  obtain ⟨v1, S2, hp, H⟩ := am_b2_el H
  refine ex_callS rfl rfl (Nat.le_of_ble_eq_true rfl) (Nat.le_of_ble_eq_true rfl) (r197 (by omega) hp) rfl ?_
  by_cases h3 : v1 = 0
  · rw [if_pos h3] at H
    refine ex_if_ne_f h3 ?_
    refine ex_aload_n rfl ?_
    refine ex_iconst (v := 2) (by decide) ?_
    obtain ⟨v21, S22, hp, H⟩ := am_b2_el H
    refine ex_callV rfl rfl (Nat.le_of_ble_eq_true rfl) (Nat.le_of_ble_eq_true rfl) rfl (r203 (by omega) hp) rfl ?_
    have H := Option.some.inj H
    subst H
    exact ex_iret (M := 263) (Or.inl rfl)
  · rw [if_neg h3] at H
    refine ex_if_ne_j (ct := am_c263_20) h3 rfl ?_
    refine ex_aload_n rfl ?_
    refine ex_getR (w := 129) rfl rfl rfl ?_
    refine ex_iload_n rfl ?_
    obtain ⟨hj, H⟩ := am_ck_el H
    refine ex_iald (k := 2048) (v := S2.1 129 x1.toNatClampNeg) rfl hj rfl ?_
    refine ex_istore_n (L2 := [.ref 95, .int x1, .int (S2.1 129 x1.toNatClampNeg), .long 0]) (Nat.le_of_ble_eq_true rfl) rfl ?_
    refine ex_aload_n rfl ?_
    refine ex_getR (w := 131) rfl rfl rfl ?_
    refine ex_iload_n rfl ?_
    obtain ⟨hj, H⟩ := am_ck_el H
    refine ex_iald (k := 2048) (v := S2.1 131 x1.toNatClampNeg) rfl hj rfl ?_
    refine ex_istore_n (L2 := [.ref 95, .int x1, .int (S2.1 129 x1.toNatClampNeg), .int (S2.1 131 x1.toNatClampNeg)]) (Nat.le_of_ble_eq_true rfl) rfl ?_
    refine ex_aload_n rfl ?_
    refine ex_getR (w := 116) rfl rfl rfl ?_
    refine ex_iload_n rfl ?_
    refine ex_iload_n rfl ?_
    obtain ⟨v4, S5, hp, H⟩ := am_b2_el H
    refine ex_callS rfl rfl (Nat.le_of_ble_eq_true rfl) (Nat.le_of_ble_eq_true rfl) (r242 (by omega) hp) rfl ?_
    refine ex_iload_n rfl ?_
    obtain ⟨v6, S7, hp, H⟩ := am_b2_el H
    refine ex_callS rfl rfl (Nat.le_of_ble_eq_true rfl) (Nat.le_of_ble_eq_true rfl) (r243 (by omega) hp) rfl ?_
    obtain ⟨v8, S9, hp, H⟩ := am_b2_el H
    refine ex_callS rfl rfl (Nat.le_of_ble_eq_true rfl) (Nat.le_of_ble_eq_true rfl) (r250 (by omega) hp) rfl ?_
    obtain ⟨hj, H⟩ := am_ck_el H
    refine ex_bald (k := 256) (v := S9.1 116 v8.toNatClampNeg) rfl hj rfl ?_
    by_cases h10 : (S9.1 116 v8.toNatClampNeg) = 0
    · rw [if_pos h10] at H
      refine ex_if_eq_j (ct := am_c263_62) h10 rfl ?_
      refine ex_aload_n rfl ?_
      refine ex_getR (w := 117) rfl rfl rfl ?_
      refine ex_iload_n rfl ?_
      refine ex_iload_n rfl ?_
      obtain ⟨v11, S12, hp, H⟩ := am_b2_el H
      refine ex_callS rfl rfl (Nat.le_of_ble_eq_true rfl) (Nat.le_of_ble_eq_true rfl) (r242 (by omega) hp) rfl ?_
      refine ex_iload_n rfl ?_
      obtain ⟨v13, S14, hp, H⟩ := am_b2_el H
      refine ex_callS rfl rfl (Nat.le_of_ble_eq_true rfl) (Nat.le_of_ble_eq_true rfl) (r243 (by omega) hp) rfl ?_
      refine ex_iload_n rfl ?_
      obtain ⟨v15, S16, hp, H⟩ := am_b2_el H
      refine ex_callS rfl rfl (Nat.le_of_ble_eq_true rfl) (Nat.le_of_ble_eq_true rfl) (r244 (by omega) hp) rfl ?_
      obtain ⟨v17, S18, hp, H⟩ := am_b2_el H
      refine ex_callS rfl rfl (Nat.le_of_ble_eq_true rfl) (Nat.le_of_ble_eq_true rfl) (r251 (by omega) hp) rfl ?_
      obtain ⟨hj, H⟩ := am_ck_el H
      refine ex_iald (k := 2048) (v := S18.1 117 v17.toNatClampNeg) rfl hj rfl ?_
      have H := Option.some.inj H
      subst H
      exact ex_iret (M := 263) (Or.inl rfl)
    · rw [if_neg h10] at H
      refine ex_if_eq_f h10 ?_
      refine ex_aload_n rfl ?_
      refine ex_iconst (v := 1) (by decide) ?_
      obtain ⟨v19, S20, hp, H⟩ := am_b2_el H
      refine ex_callV rfl rfl (Nat.le_of_ble_eq_true rfl) (Nat.le_of_ble_eq_true rfl) rfl (r203 (by omega) hp) rfl ?_
      refine ex_goto (ct := am_c263_83) rfl ?_
      have H := Option.some.inj H
      subst H
      exact ex_iret (M := 263) (Or.inl rfl)
-- X10_creep
def f273 (F : Nat) (x1 : Int32) (x2 : Int32) (x3 : Int32) (S : AmT) : Option (Int32 × AmT) := am_b2 (f268 F x1 S) fun v1 S2 => if v1 = 0 then (some ((-2), S2)) else (am_b2 (f224 F x2 S2) fun v4 S5 => if v4 = 0 then (some ((-2), S5)) else (am_ck x1 8 (am_b2 (f197 F x3 0 ((S5.1 120 x1.toNatClampNeg) - 1) S5) fun v7 S8 => if v7 = 0 then (am_b2 (f203 F 2 S8) fun v13 S14 => some (v13, S14)) else (am_ck x1 8 (if (S8.1 119 x1.toNatClampNeg) = 1 then (am_b2 (f231 F x2 0 S8) fun v11 S12 => some ((x3 * v11), S12)) else (some (0, S8)))))))
set_option maxHeartbeats 1000000 in
set_option maxRecDepth 20000 in
theorem r273 {Lg : Nat} {xs : Nat → Int32} {d F : Nat} {x1 : Int32} {x2 : Int32} {x3 : Int32} {S : AmT} {q : Int32 × AmT} (hd : 2 ≤ d) (H : f273 F x1 x2 x3 S = some q) : Ex (am_X Lg xs) d 273 (am_P 273) (am_ini (am_Mi 273).1 [.ref 95, .int x1, .int x2, .int x3]) [] (hS S) (some q.1, hS q.2) := by
  obtain ⟨d, rfl⟩ : ∃ d2, d = d2 + 1 := ⟨d - 1, by omega⟩
  unfold f273 at H
  show Ex (am_X Lg xs) _ 273 am_c273_0 [.ref 95, .int x1, .int x2, .int x3] [] (hS S) (some q.1, hS q.2)
  refine ex_aload_n rfl ?_
  refine ex_iload_n rfl ?_
  obtain ⟨v1, S2, hp, H⟩ := am_b2_el H
  refine ex_callV rfl rfl (Nat.le_of_ble_eq_true rfl) (Nat.le_of_ble_eq_true rfl) rfl (r268 (by omega) hp) rfl ?_
  by_cases h3 : v1 = 0
  · rw [if_pos h3] at H
    refine ex_if_eq_j (ct := am_c273_16) h3 rfl ?_
    refine ex_bipush (v := (-2)) (by decide) ?_
    have H := Option.some.inj H
    subst H
    exact ex_iret (M := 273) (Or.inl rfl)
  · rw [if_neg h3] at H
    refine ex_if_eq_f h3 ?_
    refine ex_aload_n rfl ?_
    refine ex_iload_n rfl ?_
    obtain ⟨v4, S5, hp, H⟩ := am_b2_el H
    refine ex_callV rfl rfl (Nat.le_of_ble_eq_true rfl) (Nat.le_of_ble_eq_true rfl) rfl (r224 (by omega) hp) rfl ?_
    by_cases h6 : v4 = 0
    · rw [if_pos h6] at H
      refine ex_if_ne_f h6 ?_
      refine ex_bipush (v := (-2)) (by decide) ?_
      have H := Option.some.inj H
      subst H
      exact ex_iret (M := 273) (Or.inl rfl)
    · rw [if_neg h6] at H
      refine ex_if_ne_j (ct := am_c273_19) h6 rfl ?_
      refine ex_iload_n rfl ?_
      refine ex_iconst (v := 0) (by decide) ?_
      refine ex_aload_n rfl ?_
      refine ex_getR (w := 120) rfl rfl rfl ?_
      refine ex_iload_n rfl ?_
      obtain ⟨hj, H⟩ := am_ck_el H
      refine ex_iald (k := 8) (v := S5.1 120 x1.toNatClampNeg) rfl hj rfl ?_
      refine ex_iconst (v := 1) (by decide) ?_
      refine ex_isub ?_
      obtain ⟨v7, S8, hp, H⟩ := am_b2_el H
      refine ex_callS rfl rfl (Nat.le_of_ble_eq_true rfl) (Nat.le_of_ble_eq_true rfl) (r197 (by omega) hp) rfl ?_
      by_cases h9 : v7 = 0
      · rw [if_pos h9] at H
        refine ex_if_ne_f h9 ?_
        refine ex_aload_n rfl ?_
        refine ex_iconst (v := 2) (by decide) ?_
        obtain ⟨v13, S14, hp, H⟩ := am_b2_el H
        refine ex_callV rfl rfl (Nat.le_of_ble_eq_true rfl) (Nat.le_of_ble_eq_true rfl) rfl (r203 (by omega) hp) rfl ?_
        have H := Option.some.inj H
        subst H
        exact ex_iret (M := 273) (Or.inl rfl)
      · rw [if_neg h9] at H
        refine ex_if_ne_j (ct := am_c273_41) h9 rfl ?_
        refine ex_aload_n rfl ?_
        refine ex_getR (w := 119) rfl rfl rfl ?_
        refine ex_iload_n rfl ?_
        obtain ⟨hj, H⟩ := am_ck_el H
        refine ex_iald (k := 8) (v := S8.1 119 x1.toNatClampNeg) rfl hj rfl ?_
        refine ex_iconst (v := 1) (by decide) ?_
        by_cases h10 : (S8.1 119 x1.toNatClampNeg) = 1
        · rw [if_pos h10] at H
          refine ex_icmp_ne_f h10 ?_
          refine ex_iload_n rfl ?_
          refine ex_aload_n rfl ?_
          refine ex_iload_n rfl ?_
          refine ex_iconst (v := 0) (by decide) ?_
          obtain ⟨v11, S12, hp, H⟩ := am_b2_el H
          refine ex_callV rfl rfl (Nat.le_of_ble_eq_true rfl) (Nat.le_of_ble_eq_true rfl) rfl (r231 (by omega) hp) rfl ?_
          refine ex_imul ?_
          refine ex_goto (ct := am_c273_63) rfl ?_
          have H := Option.some.inj H
          subst H
          exact ex_iret (M := 273) (Or.inl rfl)
        · rw [if_neg h10] at H
          refine ex_icmp_ne_j (ct := am_c273_62) h10 rfl ?_
          refine ex_iconst (v := 0) (by decide) ?_
          have H := Option.some.inj H
          subst H
          exact ex_iret (M := 273) (Or.inl rfl)
-- X10_state
def f290 (F : Nat) (x1 : Int32) (x2 : Int32) (S : AmT) : Option (Int32 × AmT) := am_b2 (f249 F x1 S) fun v1 S2 => if v1 = 0 then (some ((-2), S2)) else (if x2 = 0 then (am_ck x1 16 (some ((S2.1 112 x1.toNatClampNeg), S2))) else (if x2 = 1 then (am_ck x1 16 (some ((S2.1 113 x1.toNatClampNeg), S2))) else (if x2 = 2 then (am_ck x1 16 (some ((S2.1 114 x1.toNatClampNeg), S2))) else (some ((-1), S2)))))
set_option maxHeartbeats 1000000 in
set_option maxRecDepth 20000 in
theorem r290 {Lg : Nat} {xs : Nat → Int32} {d F : Nat} {x1 : Int32} {x2 : Int32} {S : AmT} {q : Int32 × AmT} (hd : 2 ≤ d) (H : f290 F x1 x2 S = some q) : Ex (am_X Lg xs) d 290 (am_P 290) (am_ini (am_Mi 290).1 [.ref 95, .int x1, .int x2]) [] (hS S) (some q.1, hS q.2) := by
  obtain ⟨d, rfl⟩ : ∃ d2, d = d2 + 1 := ⟨d - 1, by omega⟩
  unfold f290 at H
  show Ex (am_X Lg xs) _ 290 am_c290_0 [.ref 95, .int x1, .int x2] [] (hS S) (some q.1, hS q.2)
  refine ex_aload_n rfl ?_
  refine ex_iload_n rfl ?_
  obtain ⟨v1, S2, hp, H⟩ := am_b2_el H
  refine ex_callV rfl rfl (Nat.le_of_ble_eq_true rfl) (Nat.le_of_ble_eq_true rfl) rfl (r249 (by omega) hp) rfl ?_
  by_cases h3 : v1 = 0
  · rw [if_pos h3] at H
    refine ex_if_ne_f h3 ?_
    refine ex_bipush (v := (-2)) (by decide) ?_
    have H := Option.some.inj H
    subst H
    exact ex_iret (M := 290) (Or.inl rfl)
  · rw [if_neg h3] at H
    refine ex_if_ne_j (ct := am_c290_11) h3 rfl ?_
    refine ex_iload_n rfl ?_
    by_cases h4 : x2 = 0
    · rw [if_pos h4] at H
      refine ex_if_ne_f h4 ?_
      refine ex_aload_n rfl ?_
      refine ex_getR (w := 112) rfl rfl rfl ?_
      refine ex_iload_n rfl ?_
      obtain ⟨hj, H⟩ := am_ck_el H
      refine ex_iald (k := 16) (v := S2.1 112 x1.toNatClampNeg) rfl hj rfl ?_
      refine ex_goto (ct := am_c290_53) rfl ?_
      have H := Option.some.inj H
      subst H
      exact ex_iret (M := 290) (Or.inl rfl)
    · rw [if_neg h4] at H
      refine ex_if_ne_j (ct := am_c290_24) h4 rfl ?_
      refine ex_iload_n rfl ?_
      refine ex_iconst (v := 1) (by decide) ?_
      by_cases h5 : x2 = 1
      · rw [if_pos h5] at H
        refine ex_icmp_ne_f h5 ?_
        refine ex_aload_n rfl ?_
        refine ex_getR (w := 113) rfl rfl rfl ?_
        refine ex_iload_n rfl ?_
        obtain ⟨hj, H⟩ := am_ck_el H
        refine ex_iald (k := 16) (v := S2.1 113 x1.toNatClampNeg) rfl hj rfl ?_
        refine ex_goto (ct := am_c290_53) rfl ?_
        have H := Option.some.inj H
        subst H
        exact ex_iret (M := 290) (Or.inl rfl)
      · rw [if_neg h5] at H
        refine ex_icmp_ne_j (ct := am_c290_38) h5 rfl ?_
        refine ex_iload_n rfl ?_
        refine ex_iconst (v := 2) (by decide) ?_
        by_cases h6 : x2 = 2
        · rw [if_pos h6] at H
          refine ex_icmp_ne_f h6 ?_
          refine ex_aload_n rfl ?_
          refine ex_getR (w := 114) rfl rfl rfl ?_
          refine ex_iload_n rfl ?_
          obtain ⟨hj, H⟩ := am_ck_el H
          refine ex_iald (k := 16) (v := S2.1 114 x1.toNatClampNeg) rfl hj rfl ?_
          refine ex_goto (ct := am_c290_53) rfl ?_
          have H := Option.some.inj H
          subst H
          exact ex_iret (M := 290) (Or.inl rfl)
        · rw [if_neg h6] at H
          refine ex_icmp_ne_j (ct := am_c290_52) h6 rfl ?_
          refine ex_iconst (v := (-1)) (by decide) ?_
          have H := Option.some.inj H
          subst H
          exact ex_iret (M := 290) (Or.inl rfl)
def g291_13 (F : Nat) : Nat → Int32 → Int32 → AmT → Option (Int32 × AmT)
  | 0, _, _, _ => none
  | n + 1, x1, x2, S => am_ck x1 8 (if (S.1 120 x1.toNatClampNeg) ≤ x2 then (some (x2, S)) else (am_ck ((4 * x1) + x2) 32 (am_ck (S.1 121 ((4 * x1) + x2).toNatClampNeg) 16 (if (S.1 112 (S.1 121 ((4 * x1) + x2).toNatClampNeg).toNatClampNeg) = 5 then (g291_13 F n x1 (x2 + 1) S) else (some (x2, S))))))
-- X10_good
def f291 (F : Nat) (x1 : Int32) (S : AmT) : Option (Int32 × AmT) := am_b2 (f268 F x1 S) fun v1 S2 => if v1 = 0 then (some ((-2), S2)) else (g291_13 F F x1 0 S2)
set_option maxHeartbeats 1000000 in
set_option maxRecDepth 20000 in
theorem e291_13 {Lg : Nat} {xs : Nat → Int32} {d F : Nat} (hd : 2 ≤ d) : ∀ (n : Nat) (x1 : Int32) (x2 : Int32) (S : AmT) (q : Int32 × AmT), g291_13 F n x1 x2 S = some q → Ex (am_X Lg xs) d 291 am_c291_13 [.ref 95, .int x1, .int x2] [] (hS S) (some q.1, hS q.2) := by
  obtain ⟨d, rfl⟩ : ∃ d2, d = d2 + 1 := ⟨d - 1, by omega⟩
  intro n
  induction n with
  | zero =>
    intro x1 x2 S q H
    cases H
  | succ n ih =>
    intro x1 x2 S q H
    have H : (am_ck x1 8 (if (S.1 120 x1.toNatClampNeg) ≤ x2 then (some (x2, S)) else (am_ck ((4 * x1) + x2) 32 (am_ck (S.1 121 ((4 * x1) + x2).toNatClampNeg) 16 (if (S.1 112 (S.1 121 ((4 * x1) + x2).toNatClampNeg).toNatClampNeg) = 5 then (g291_13 F n x1 (x2 + 1) S) else (some (x2, S))))))) = some q := H
    refine ex_iload_n rfl ?_
    refine ex_aload_n rfl ?_
    refine ex_getR (w := 120) rfl rfl rfl ?_
    refine ex_iload_n rfl ?_
    obtain ⟨hj, H⟩ := am_ck_el H
    refine ex_iald (k := 8) (v := S.1 120 x1.toNatClampNeg) rfl hj rfl ?_
    by_cases h4 : (S.1 120 x1.toNatClampNeg) ≤ x2
    · rw [if_pos h4] at H
      refine ex_icmp_ge_j (ct := am_c291_48) h4 rfl ?_
      refine ex_iload_n rfl ?_
      have H := Option.some.inj H
      subst H
      exact ex_iret (M := 291) (Or.inl rfl)
    · rw [if_neg h4] at H
      refine ex_icmp_ge_f h4 ?_
      refine ex_aload_n rfl ?_
      refine ex_getR (w := 112) rfl rfl rfl ?_
      refine ex_aload_n rfl ?_
      refine ex_getR (w := 121) rfl rfl rfl ?_
      refine ex_iconst (v := 4) (by decide) ?_
      refine ex_iload_n rfl ?_
      refine ex_imul ?_
      refine ex_iload_n rfl ?_
      refine ex_iadd ?_
      obtain ⟨hj, H⟩ := am_ck_el H
      refine ex_iald (k := 32) (v := S.1 121 ((4 * x1) + x2).toNatClampNeg) rfl hj rfl ?_
      obtain ⟨hj, H⟩ := am_ck_el H
      refine ex_iald (k := 16) (v := S.1 112 (S.1 121 ((4 * x1) + x2).toNatClampNeg).toNatClampNeg) rfl hj rfl ?_
      refine ex_iconst (v := 5) (by decide) ?_
      by_cases h5 : (S.1 112 (S.1 121 ((4 * x1) + x2).toNatClampNeg).toNatClampNeg) = 5
      · rw [if_pos h5] at H
        refine ex_icmp_ne_f h5 ?_
        refine ex_iinc (L2 := [.ref 95, .int x1, .int (x2 + 1)]) (v := (x2 + 1)) rfl (Nat.le_of_ble_eq_true rfl) (congrArg (fun z => x2 + z) (by decide)) rfl ?_
        refine ex_goto (ct := am_c291_13) rfl ?_
        exact ih _ _ _ _ H
      · rw [if_neg h5] at H
        refine ex_icmp_ne_j (ct := am_c291_48) h5 rfl ?_
        refine ex_iload_n rfl ?_
        have H := Option.some.inj H
        subst H
        exact ex_iret (M := 291) (Or.inl rfl)
set_option maxHeartbeats 1000000 in
set_option maxRecDepth 20000 in
theorem r291 {Lg : Nat} {xs : Nat → Int32} {d F : Nat} {x1 : Int32} {S : AmT} {q : Int32 × AmT} (hd : 2 ≤ d) (H : f291 F x1 S = some q) : Ex (am_X Lg xs) d 291 (am_P 291) (am_ini (am_Mi 291).1 [.ref 95, .int x1]) [] (hS S) (some q.1, hS q.2) := by
  obtain ⟨d, rfl⟩ : ∃ d2, d = d2 + 1 := ⟨d - 1, by omega⟩
  unfold f291 at H
  show Ex (am_X Lg xs) _ 291 am_c291_0 [.ref 95, .int x1, .long 0] [] (hS S) (some q.1, hS q.2)
  refine ex_aload_n rfl ?_
  refine ex_iload_n rfl ?_
  obtain ⟨v1, S2, hp, H⟩ := am_b2_el H
  refine ex_callV rfl rfl (Nat.le_of_ble_eq_true rfl) (Nat.le_of_ble_eq_true rfl) rfl (r268 (by omega) hp) rfl ?_
  by_cases h3 : v1 = 0
  · rw [if_pos h3] at H
    refine ex_if_ne_f h3 ?_
    refine ex_bipush (v := (-2)) (by decide) ?_
    have H := Option.some.inj H
    subst H
    exact ex_iret (M := 291) (Or.inl rfl)
  · rw [if_neg h3] at H
    refine ex_if_ne_j (ct := am_c291_11) h3 rfl ?_
    refine ex_iconst (v := 0) (by decide) ?_
    refine ex_istore_n (L2 := [.ref 95, .int x1, .int 0]) (Nat.le_of_ble_eq_true rfl) rfl ?_
    exact e291_13 hd _ _ _ _ _ H
-- X10_about
def f294 (F : Nat) (x1 : Int32) (x2 : Int32) (S : AmT) : Option (Int32 × AmT) := am_b2 (f205 F x1 S) fun v1 S2 => if v1 = 0 then (some ((-2), S2)) else (if x2 = 0 then (am_ck x1 6 (some ((S2.1 97 x1.toNatClampNeg), S2))) else (if x2 = 1 then (am_ck x1 6 (some ((S2.1 98 x1.toNatClampNeg), S2))) else (if x2 = 2 then (am_ck x1 6 (some ((S2.1 99 x1.toNatClampNeg), S2))) else (some ((-1), S2)))))
set_option maxHeartbeats 1000000 in
set_option maxRecDepth 20000 in
theorem r294 {Lg : Nat} {xs : Nat → Int32} {d F : Nat} {x1 : Int32} {x2 : Int32} {S : AmT} {q : Int32 × AmT} (hd : 2 ≤ d) (H : f294 F x1 x2 S = some q) : Ex (am_X Lg xs) d 294 (am_P 294) (am_ini (am_Mi 294).1 [.ref 95, .int x1, .int x2]) [] (hS S) (some q.1, hS q.2) := by
  obtain ⟨d, rfl⟩ : ∃ d2, d = d2 + 1 := ⟨d - 1, by omega⟩
  unfold f294 at H
  show Ex (am_X Lg xs) _ 294 am_c294_0 [.ref 95, .int x1, .int x2] [] (hS S) (some q.1, hS q.2)
  refine ex_aload_n rfl ?_
  refine ex_iload_n rfl ?_
  obtain ⟨v1, S2, hp, H⟩ := am_b2_el H
  refine ex_callV rfl rfl (Nat.le_of_ble_eq_true rfl) (Nat.le_of_ble_eq_true rfl) rfl (r205 (by omega) hp) rfl ?_
  by_cases h3 : v1 = 0
  · rw [if_pos h3] at H
    refine ex_if_ne_f h3 ?_
    refine ex_bipush (v := (-2)) (by decide) ?_
    have H := Option.some.inj H
    subst H
    exact ex_iret (M := 294) (Or.inl rfl)
  · rw [if_neg h3] at H
    refine ex_if_ne_j (ct := am_c294_11) h3 rfl ?_
    refine ex_iload_n rfl ?_
    by_cases h4 : x2 = 0
    · rw [if_pos h4] at H
      refine ex_if_ne_f h4 ?_
      refine ex_aload_n rfl ?_
      refine ex_getR (w := 97) rfl rfl rfl ?_
      refine ex_iload_n rfl ?_
      obtain ⟨hj, H⟩ := am_ck_el H
      refine ex_iald (k := 6) (v := S2.1 97 x1.toNatClampNeg) rfl hj rfl ?_
      refine ex_goto (ct := am_c294_53) rfl ?_
      have H := Option.some.inj H
      subst H
      exact ex_iret (M := 294) (Or.inl rfl)
    · rw [if_neg h4] at H
      refine ex_if_ne_j (ct := am_c294_24) h4 rfl ?_
      refine ex_iload_n rfl ?_
      refine ex_iconst (v := 1) (by decide) ?_
      by_cases h5 : x2 = 1
      · rw [if_pos h5] at H
        refine ex_icmp_ne_f h5 ?_
        refine ex_aload_n rfl ?_
        refine ex_getR (w := 98) rfl rfl rfl ?_
        refine ex_iload_n rfl ?_
        obtain ⟨hj, H⟩ := am_ck_el H
        refine ex_iald (k := 6) (v := S2.1 98 x1.toNatClampNeg) rfl hj rfl ?_
        refine ex_goto (ct := am_c294_53) rfl ?_
        have H := Option.some.inj H
        subst H
        exact ex_iret (M := 294) (Or.inl rfl)
      · rw [if_neg h5] at H
        refine ex_icmp_ne_j (ct := am_c294_38) h5 rfl ?_
        refine ex_iload_n rfl ?_
        refine ex_iconst (v := 2) (by decide) ?_
        by_cases h6 : x2 = 2
        · rw [if_pos h6] at H
          refine ex_icmp_ne_f h6 ?_
          refine ex_aload_n rfl ?_
          refine ex_getR (w := 99) rfl rfl rfl ?_
          refine ex_iload_n rfl ?_
          obtain ⟨hj, H⟩ := am_ck_el H
          refine ex_iald (k := 6) (v := S2.1 99 x1.toNatClampNeg) rfl hj rfl ?_
          refine ex_goto (ct := am_c294_53) rfl ?_
          have H := Option.some.inj H
          subst H
          exact ex_iret (M := 294) (Or.inl rfl)
        · rw [if_neg h6] at H
          refine ex_icmp_ne_j (ct := am_c294_52) h6 rfl ?_
          refine ex_iconst (v := (-1)) (by decide) ?_
          have H := Option.some.inj H
          subst H
          exact ex_iret (M := 294) (Or.inl rfl)
-- X0_take
def f6 (F : Nat) (x1 : Int32) (x2 : Int32) (S : AmT) : Option (Int32 × AmT) := am_nn S (am_lt (ks S 76 77 16 ((x1 * 4) + (kg S.1 75 4 x1)) x2) fun S1 => am_nn S1 (am_lt (ks S1 74 75 4 x1 ((kg S.1 75 4 x1) + 1)) fun S2 => (f117 F x2 S2).bind fun S3 => some (((kg S.1 75 4 x1) + 1), S3)))
set_option maxHeartbeats 1000000 in
set_option maxRecDepth 20000 in
theorem r6 {Lg : Nat} {xs : Nat → Int32} {d F : Nat} {x1 : Int32} {x2 : Int32} {S : AmT} {q : Int32 × AmT} (hd : 3 ≤ d) (H : f6 F x1 x2 S = some q) : Ex (am_X Lg xs) d 6 (am_P 6) (am_ini (am_Mi 6).1 [.ref 69, .int x1, .int x2]) [] (hS S) (some q.1, hS q.2) := by
  obtain ⟨d, rfl⟩ : ∃ d2, d = d2 + 1 := ⟨d - 1, by omega⟩
  unfold f6 at H
  show Ex (am_X Lg xs) _ 6 am_c6_0 [.ref 69, .int x1, .int x2, .long 0] [] (hS S) (some q.1, hS q.2)
  refine ex_aload_n rfl ?_
  refine ex_getR (w := 74) rfl rfl rfl ?_
  refine ex_iload_n rfl ?_
  refine ex_kget (c := 74) (ar := 75) (n := 4) rfl (Nat.le_of_ble_eq_true rfl) ?_
  refine ex_istore_n (L2 := [.ref 69, .int x1, .int x2, .int (kg S.1 75 4 x1)]) (Nat.le_of_ble_eq_true rfl) rfl ?_
  refine ex_aload_n rfl ?_
  refine ex_getR (w := 76) rfl rfl rfl ?_
  refine ex_iload_n rfl ?_
  refine ex_iconst (v := 4) (by decide) ?_
  refine ex_imul ?_
  refine ex_iload_n rfl ?_
  refine ex_iadd ?_
  refine ex_iload_n rfl ?_
  obtain ⟨hnn, H⟩ := am_nn_el H
  refine ex_kset (c := 76) (ar := 77) (n := 16) rfl hnn (by omega) (Nat.le_of_ble_eq_true rfl) ?_
  generalize (ks S 76 77 16 ((x1 * 4) + (kg S.1 75 4 x1)) x2) = S1 at H ⊢
  have H := am_lt_el H
  refine ex_aload_n rfl ?_
  refine ex_getR (w := 74) rfl rfl rfl ?_
  refine ex_iload_n rfl ?_
  refine ex_iload_n rfl ?_
  refine ex_iconst (v := 1) (by decide) ?_
  refine ex_iadd ?_
  obtain ⟨hnn, H⟩ := am_nn_el H
  refine ex_kset (c := 74) (ar := 75) (n := 4) rfl hnn (by omega) (Nat.le_of_ble_eq_true rfl) ?_
  generalize (ks S1 74 75 4 x1 ((kg S.1 75 4 x1) + 1)) = S2 at H ⊢
  have H := am_lt_el H
  refine ex_aload_n rfl ?_
  refine ex_getR (w := 46) rfl rfl rfl ?_
  refine ex_iload_n rfl ?_
  obtain ⟨S3, hp, H⟩ := Option.bind_eq_some_iff.mp H
  refine ex_callV rfl rfl (Nat.le_of_ble_eq_true rfl) (Nat.le_of_ble_eq_true rfl) rfl (r117 (by omega) hp) rfl ?_
  refine ex_iload_n rfl ?_
  refine ex_iconst (v := 1) (by decide) ?_
  refine ex_iadd ?_
  have H := Option.some.inj H
  subst H
  exact ex_iret (M := 6) (Or.inl rfl)
def g53_47 (F : Nat) : Nat → Int32 → Int32 → Int32 → Int32 → AmT → Option (Int32 × AmT)
  | 0, _, _, _, _, _ => none
  | n + 1, x1, x2, x3, x4, S => if (kg S.1 15 3 x1) < x4 then (some (1, S)) else (am_b2 (f39 F x1 x4 S) fun v8 S9 => (f54 F v8 x2 x3 S9).bind fun S10 => g53_47 F n x1 x2 x3 (x4 + 1) S10)
-- X2_trimTo
def f53 (F : Nat) (x1 : Int32) (x2 : Int32) (x3 : Int32) (S : AmT) : Option (Int32 × AmT) := if 8 < x2 then (some ((-14), S)) else (if x3 ≤ 10 then (if x2 < 0 then (some ((-13), S)) else (if 0 ≤ x3 then (am_nn S (am_lt (ks S 10 11 3 x1 x2) fun S5 => am_nn S5 (am_lt (ks S5 12 13 3 x1 x3) fun S6 => g53_47 F F x1 x2 x3 1 S6))) else (some ((-13), S)))) else (some ((-14), S)))
set_option maxHeartbeats 1000000 in
set_option maxRecDepth 20000 in
theorem e53_47 {Lg : Nat} {xs : Nat → Int32} {d F : Nat} (hd : 3 ≤ d) : ∀ (n : Nat) (x1 : Int32) (x2 : Int32) (x3 : Int32) (x4 : Int32) (S : AmT) (q : Int32 × AmT), g53_47 F n x1 x2 x3 x4 S = some q → Ex (am_X Lg xs) d 53 am_c53_47 [.ref 7, .int x1, .int x2, .int x3, .int x4] [] (hS S) (some q.1, hS q.2) := by
  obtain ⟨d, rfl⟩ : ∃ d2, d = d2 + 1 := ⟨d - 1, by omega⟩
  intro n
  induction n with
  | zero =>
    intro x1 x2 x3 x4 S q H
    cases H
  | succ n ih =>
    intro x1 x2 x3 x4 S q H
    have H : (if (kg S.1 15 3 x1) < x4 then (some (1, S)) else (am_b2 (f39 F x1 x4 S) fun v8 S9 => (f54 F v8 x2 x3 S9).bind fun S10 => g53_47 F n x1 x2 x3 (x4 + 1) S10)) = some q := H
    refine ex_iload rfl ?_
    refine ex_aload_n rfl ?_
    refine ex_getR (w := 14) rfl rfl rfl ?_
    refine ex_iload_n rfl ?_
    refine ex_kget (c := 14) (ar := 15) (n := 3) rfl (Nat.le_of_ble_eq_true rfl) ?_
    by_cases h7 : (kg S.1 15 3 x1) < x4
    · rw [if_pos h7] at H
      refine ex_icmp_gt_j (ct := am_c53_79) h7 rfl ?_
      refine ex_iconst (v := 1) (by decide) ?_
      have H := Option.some.inj H
      subst H
      exact ex_iret (M := 53) (Or.inl rfl)
    · rw [if_neg h7] at H
      refine ex_icmp_gt_f h7 ?_
      refine ex_aload_n rfl ?_
      refine ex_aload_n rfl ?_
      refine ex_iload_n rfl ?_
      refine ex_iload rfl ?_
      obtain ⟨v8, S9, hp, H⟩ := am_b2_el H
      refine ex_callV rfl rfl (Nat.le_of_ble_eq_true rfl) (Nat.le_of_ble_eq_true rfl) rfl (r39 (by omega) hp) rfl ?_
      refine ex_iload_n rfl ?_
      refine ex_iload_n rfl ?_
      obtain ⟨S10, hp, H⟩ := Option.bind_eq_some_iff.mp H
      refine ex_callV rfl rfl (Nat.le_of_ble_eq_true rfl) (Nat.le_of_ble_eq_true rfl) rfl (r54 (by omega) hp) rfl ?_
      refine ex_iinc (L2 := [.ref 7, .int x1, .int x2, .int x3, .int (x4 + 1)]) (v := (x4 + 1)) rfl (Nat.le_of_ble_eq_true rfl) (congrArg (fun z => x4 + z) (by decide)) rfl ?_
      refine ex_goto (ct := am_c53_47) rfl ?_
      exact ih _ _ _ _ _ _ H
set_option maxHeartbeats 1000000 in
set_option maxRecDepth 20000 in
theorem r53 {Lg : Nat} {xs : Nat → Int32} {d F : Nat} {x1 : Int32} {x2 : Int32} {x3 : Int32} {S : AmT} {q : Int32 × AmT} (hd : 3 ≤ d) (H : f53 F x1 x2 x3 S = some q) : Ex (am_X Lg xs) d 53 (am_P 53) (am_ini (am_Mi 53).1 [.ref 7, .int x1, .int x2, .int x3]) [] (hS S) (some q.1, hS q.2) := by
  obtain ⟨d, rfl⟩ : ∃ d2, d = d2 + 1 := ⟨d - 1, by omega⟩
  unfold f53 at H
  show Ex (am_X Lg xs) _ 53 am_c53_0 [.ref 7, .int x1, .int x2, .int x3, .long 0] [] (hS S) (some q.1, hS q.2)
  refine ex_iload_n rfl ?_
  refine ex_bipush (v := 8) (by decide) ?_
  by_cases h1 : 8 < x2
  · rw [if_pos h1] at H
    refine ex_icmp_gt_j (ct := am_c53_12) h1 rfl ?_
    refine ex_bipush (v := (-14)) (by decide) ?_
    have H := Option.some.inj H
    subst H
    exact ex_iret (M := 53) (Or.inl rfl)
  · rw [if_neg h1] at H
    refine ex_icmp_gt_f h1 ?_
    refine ex_iload_n rfl ?_
    refine ex_bipush (v := 10) (by decide) ?_
    by_cases h2 : x3 ≤ 10
    · rw [if_pos h2] at H
      refine ex_icmp_le_j (ct := am_c53_15) h2 rfl ?_
      refine ex_iload_n rfl ?_
      by_cases h3 : x2 < 0
      · rw [if_pos h3] at H
        refine ex_if_lt_j (ct := am_c53_23) h3 rfl ?_
        refine ex_bipush (v := (-13)) (by decide) ?_
        have H := Option.some.inj H
        subst H
        exact ex_iret (M := 53) (Or.inl rfl)
      · rw [if_neg h3] at H
        refine ex_if_lt_f h3 ?_
        refine ex_iload_n rfl ?_
        by_cases h4 : 0 ≤ x3
        · rw [if_pos h4] at H
          refine ex_if_ge_j (ct := am_c53_26) h4 rfl ?_
          refine ex_aload_n rfl ?_
          refine ex_getR (w := 10) rfl rfl rfl ?_
          refine ex_iload_n rfl ?_
          refine ex_iload_n rfl ?_
          obtain ⟨hnn, H⟩ := am_nn_el H
          refine ex_kset (c := 10) (ar := 11) (n := 3) rfl hnn (by omega) (Nat.le_of_ble_eq_true rfl) ?_
          generalize (ks S 10 11 3 x1 x2) = S5 at H ⊢
          have H := am_lt_el H
          refine ex_aload_n rfl ?_
          refine ex_getR (w := 12) rfl rfl rfl ?_
          refine ex_iload_n rfl ?_
          refine ex_iload_n rfl ?_
          obtain ⟨hnn, H⟩ := am_nn_el H
          refine ex_kset (c := 12) (ar := 13) (n := 3) rfl hnn (by omega) (Nat.le_of_ble_eq_true rfl) ?_
          generalize (ks S5 12 13 3 x1 x3) = S6 at H ⊢
          have H := am_lt_el H
          refine ex_iconst (v := 1) (by decide) ?_
          refine ex_istore (L2 := [.ref 7, .int x1, .int x2, .int x3, .int 1]) (Nat.le_of_ble_eq_true rfl) rfl ?_
          exact e53_47 hd _ _ _ _ _ _ _ H
        · rw [if_neg h4] at H
          refine ex_if_ge_f h4 ?_
          refine ex_bipush (v := (-13)) (by decide) ?_
          have H := Option.some.inj H
          subst H
          exact ex_iret (M := 53) (Or.inl rfl)
    · rw [if_neg h2] at H
      refine ex_icmp_le_f h2 ?_
      refine ex_bipush (v := (-14)) (by decide) ?_
      have H := Option.some.inj H
      subst H
      exact ex_iret (M := 53) (Or.inl rfl)
-- X7_faceCell
def f112 (F : Nat) (x1 : Int32) (x2 : Int32) (S : AmT) : Option (Int32 × AmT) := am_b2 (f31 F x1 x2 0 S) fun v1 S2 => am_b2 (f31 F x1 x2 1 S2) fun v3 S4 => am_b2 (f31 F x1 x2 2 S4) fun v5 S6 => am_b2 (f104 F x1 v1 v3 v5 S6) fun v7 S8 => some (v7, S8)
set_option maxHeartbeats 1000000 in
set_option maxRecDepth 20000 in
theorem r112 {Lg : Nat} {xs : Nat → Int32} {d F : Nat} {x1 : Int32} {x2 : Int32} {S : AmT} {q : Int32 × AmT} (hd : 3 ≤ d) (H : f112 F x1 x2 S = some q) : Ex (am_X Lg xs) d 112 (am_P 112) (am_ini (am_Mi 112).1 [.ref 46, .int x1, .int x2]) [] (hS S) (some q.1, hS q.2) := by
  obtain ⟨d, rfl⟩ : ∃ d2, d = d2 + 1 := ⟨d - 1, by omega⟩
  unfold f112 at H
  show Ex (am_X Lg xs) _ 112 am_c112_0 [.ref 46, .int x1, .int x2, .long 0] [] (hS S) (some q.1, hS q.2)
  refine ex_aload_n rfl ?_
  refine ex_getR (w := 22) rfl rfl rfl ?_
  refine ex_iload_n rfl ?_
  refine ex_iload_n rfl ?_
  refine ex_iconst (v := 0) (by decide) ?_
  obtain ⟨v1, S2, hp, H⟩ := am_b2_el H
  refine ex_callV rfl rfl (Nat.le_of_ble_eq_true rfl) (Nat.le_of_ble_eq_true rfl) rfl (r31 (by omega) hp) rfl ?_
  refine ex_istore_n (L2 := [.ref 46, .int x1, .int x2, .int v1]) (Nat.le_of_ble_eq_true rfl) rfl ?_
  refine ex_aload_n rfl ?_
  refine ex_iload_n rfl ?_
  refine ex_iload_n rfl ?_
  refine ex_aload_n rfl ?_
  refine ex_getR (w := 22) rfl rfl rfl ?_
  refine ex_iload_n rfl ?_
  refine ex_iload_n rfl ?_
  refine ex_iconst (v := 1) (by decide) ?_
  obtain ⟨v3, S4, hp, H⟩ := am_b2_el H
  refine ex_callV rfl rfl (Nat.le_of_ble_eq_true rfl) (Nat.le_of_ble_eq_true rfl) rfl (r31 (by omega) hp) rfl ?_
  refine ex_aload_n rfl ?_
  refine ex_getR (w := 22) rfl rfl rfl ?_
  refine ex_iload_n rfl ?_
  refine ex_iload_n rfl ?_
  refine ex_iconst (v := 2) (by decide) ?_
  obtain ⟨v5, S6, hp, H⟩ := am_b2_el H
  refine ex_callV rfl rfl (Nat.le_of_ble_eq_true rfl) (Nat.le_of_ble_eq_true rfl) rfl (r31 (by omega) hp) rfl ?_
  obtain ⟨v7, S8, hp, H⟩ := am_b2_el H
  refine ex_callV rfl rfl (Nat.le_of_ble_eq_true rfl) (Nat.le_of_ble_eq_true rfl) rfl (r104 (by omega) hp) rfl ?_
  have H := Option.some.inj H
  subst H
  exact ex_iret (M := 112) (Or.inl rfl)
-- X7_letterSeen
def f115 (F : Nat) (x1 : Int32) (x2 : Int32) (x3 : Int32) (x4 : Int32) (S : AmT) : Option (Int32 × AmT) := am_b2 (f106 F x2 S) fun v1 S2 => am_b2 (f35 F (kg S.1 50 8 x1) v1 S2) fun v3 S4 => if v3 = 0 then (some ((-11), S4)) else (am_b2 (f39 F (kg S.1 50 8 x1) v1 S4) fun v6 S7 => am_b2 (f107 F x2 S7) fun v8 S9 => if v8 = 0 then (am_b2 (f47 F v6 x3 x4 S9) fun v17 S18 => some (v17, S18)) else (am_b2 (f37 F (kg S.1 50 8 x1) S9) fun v11 S12 => am_b2 (f38 F (kg S.1 50 8 x1) S12) fun v13 S14 => am_b2 (f47 F v6 ((v11 - 1) - x3) ((v13 - 1) - x4) S14) fun v15 S16 => some (v15, S16)))
set_option maxHeartbeats 1000000 in
set_option maxRecDepth 20000 in
theorem r115 {Lg : Nat} {xs : Nat → Int32} {d F : Nat} {x1 : Int32} {x2 : Int32} {x3 : Int32} {x4 : Int32} {S : AmT} {q : Int32 × AmT} (hd : 3 ≤ d) (H : f115 F x1 x2 x3 x4 S = some q) : Ex (am_X Lg xs) d 115 (am_P 115) (am_ini (am_Mi 115).1 [.ref 46, .int x1, .int x2, .int x3, .int x4]) [] (hS S) (some q.1, hS q.2) := by
  obtain ⟨d, rfl⟩ : ∃ d2, d = d2 + 1 := ⟨d - 1, by omega⟩
  unfold f115 at H
  show Ex (am_X Lg xs) _ 115 am_c115_0 [.ref 46, .int x1, .int x2, .int x3, .int x4, .long 0, .long 0, .long 0] [] (hS S) (some q.1, hS q.2)
  refine ex_aload_n rfl ?_
  refine ex_getR (w := 49) rfl rfl rfl ?_
  refine ex_iload_n rfl ?_
  refine ex_kget (c := 49) (ar := 50) (n := 8) rfl (Nat.le_of_ble_eq_true rfl) ?_
  refine ex_istore (L2 := [.ref 46, .int x1, .int x2, .int x3, .int x4, .int (kg S.1 50 8 x1), .long 0, .long 0]) (Nat.le_of_ble_eq_true rfl) rfl ?_
  refine ex_aload_n rfl ?_
  refine ex_iload_n rfl ?_
  obtain ⟨v1, S2, hp, H⟩ := am_b2_el H
  refine ex_callV rfl rfl (Nat.le_of_ble_eq_true rfl) (Nat.le_of_ble_eq_true rfl) rfl (r106 (by omega) hp) rfl ?_
  refine ex_istore (L2 := [.ref 46, .int x1, .int x2, .int x3, .int x4, .int (kg S.1 50 8 x1), .int v1, .long 0]) (Nat.le_of_ble_eq_true rfl) rfl ?_
  refine ex_aload_n rfl ?_
  refine ex_getR (w := 7) rfl rfl rfl ?_
  refine ex_iload rfl ?_
  refine ex_iload rfl ?_
  obtain ⟨v3, S4, hp, H⟩ := am_b2_el H
  refine ex_callV rfl rfl (Nat.le_of_ble_eq_true rfl) (Nat.le_of_ble_eq_true rfl) rfl (r35 (by omega) hp) rfl ?_
  by_cases h5 : v3 = 0
  · rw [if_pos h5] at H
    refine ex_if_ne_f h5 ?_
    refine ex_bipush (v := (-11)) (by decide) ?_
    have H := Option.some.inj H
    subst H
    exact ex_iret (M := 115) (Or.inl rfl)
  · rw [if_neg h5] at H
    refine ex_if_ne_j (ct := am_c115_34) h5 rfl ?_
    refine ex_aload_n rfl ?_
    refine ex_getR (w := 7) rfl rfl rfl ?_
    refine ex_iload rfl ?_
    refine ex_iload rfl ?_
    obtain ⟨v6, S7, hp, H⟩ := am_b2_el H
    refine ex_callV rfl rfl (Nat.le_of_ble_eq_true rfl) (Nat.le_of_ble_eq_true rfl) rfl (r39 (by omega) hp) rfl ?_
    refine ex_istore (L2 := [.ref 46, .int x1, .int x2, .int x3, .int x4, .int (kg S.1 50 8 x1), .int v1, .int v6]) (Nat.le_of_ble_eq_true rfl) rfl ?_
    refine ex_aload_n rfl ?_
    refine ex_iload_n rfl ?_
    obtain ⟨v8, S9, hp, H⟩ := am_b2_el H
    refine ex_callV rfl rfl (Nat.le_of_ble_eq_true rfl) (Nat.le_of_ble_eq_true rfl) rfl (r107 (by omega) hp) rfl ?_
    by_cases h10 : v8 = 0
    · rw [if_pos h10] at H
      refine ex_if_ne_f h10 ?_
      refine ex_aload_n rfl ?_
      refine ex_getR (w := 7) rfl rfl rfl ?_
      refine ex_iload rfl ?_
      refine ex_iload_n rfl ?_
      refine ex_iload rfl ?_
      obtain ⟨v17, S18, hp, H⟩ := am_b2_el H
      refine ex_callV rfl rfl (Nat.le_of_ble_eq_true rfl) (Nat.le_of_ble_eq_true rfl) rfl (r47 (by omega) hp) rfl ?_
      have H := Option.some.inj H
      subst H
      exact ex_iret (M := 115) (Or.inl rfl)
    · rw [if_neg h10] at H
      refine ex_if_ne_j (ct := am_c115_68) h10 rfl ?_
      refine ex_aload_n rfl ?_
      refine ex_getR (w := 7) rfl rfl rfl ?_
      refine ex_iload rfl ?_
      refine ex_aload_n rfl ?_
      refine ex_getR (w := 7) rfl rfl rfl ?_
      refine ex_iload rfl ?_
      obtain ⟨v11, S12, hp, H⟩ := am_b2_el H
      refine ex_callV rfl rfl (Nat.le_of_ble_eq_true rfl) (Nat.le_of_ble_eq_true rfl) rfl (r37 (by omega) hp) rfl ?_
      refine ex_iconst (v := 1) (by decide) ?_
      refine ex_isub ?_
      refine ex_iload_n rfl ?_
      refine ex_isub ?_
      refine ex_aload_n rfl ?_
      refine ex_getR (w := 7) rfl rfl rfl ?_
      refine ex_iload rfl ?_
      obtain ⟨v13, S14, hp, H⟩ := am_b2_el H
      refine ex_callV rfl rfl (Nat.le_of_ble_eq_true rfl) (Nat.le_of_ble_eq_true rfl) rfl (r38 (by omega) hp) rfl ?_
      refine ex_iconst (v := 1) (by decide) ?_
      refine ex_isub ?_
      refine ex_iload rfl ?_
      refine ex_isub ?_
      obtain ⟨v15, S16, hp, H⟩ := am_b2_el H
      refine ex_callV rfl rfl (Nat.le_of_ble_eq_true rfl) (Nat.le_of_ble_eq_true rfl) rfl (r47 (by omega) hp) rfl ?_
      have H := Option.some.inj H
      subst H
      exact ex_iret (M := 115) (Or.inl rfl)
-- X9_job
def f141 (F : Nat) (x1 : Int32) (x2 : Int32) (S : AmT) : Option (Int32 × AmT) := am_b2 (f81 F S) fun v1 S2 => if v1 = 0 then (am_b2 (f194 F x1 1 8 S2) fun v4 S5 => if v4 = 0 then (some ((-1), S5)) else (am_b2 (f194 F x2 1 10 S5) fun v7 S8 => if v7 = 0 then (some ((-1), S8)) else (am_b2 (f33 F S8) fun v10 S11 => if v10 < 3 then ((f58 F S11).bind fun S13 => am_b2 (f40 F x1 x2 S13) fun v14 S15 => some (v14, S15)) else (some ((-3), S11))))) else (some ((-4), S2))
set_option maxHeartbeats 1000000 in
set_option maxRecDepth 20000 in
theorem r141 {Lg : Nat} {xs : Nat → Int32} {d F : Nat} {x1 : Int32} {x2 : Int32} {S : AmT} {q : Int32 × AmT} (hd : 3 ≤ d) (H : f141 F x1 x2 S = some q) : Ex (am_X Lg xs) d 141 (am_P 141) (am_ini (am_Mi 141).1 [.ref 0, .int x1, .int x2]) [] (hS S) (some q.1, hS q.2) := by
  obtain ⟨d, rfl⟩ : ∃ d2, d = d2 + 1 := ⟨d - 1, by omega⟩
  unfold f141 at H
  show Ex (am_X Lg xs) _ 141 am_c141_0 [.ref 0, .int x1, .int x2] [] (hS S) (some q.1, hS q.2)
  refine ex_aload_n rfl ?_
  refine ex_getR (w := 86) rfl rfl rfl ?_
  obtain ⟨v1, S2, hp, H⟩ := am_b2_el H
  refine ex_callV rfl rfl (Nat.le_of_ble_eq_true rfl) (Nat.le_of_ble_eq_true rfl) rfl (r81 (by omega) hp) rfl ?_
  by_cases h3 : v1 = 0
  · rw [if_pos h3] at H
    refine ex_if_eq_j (ct := am_c141_13) h3 rfl ?_
    refine ex_iload_n rfl ?_
    refine ex_iconst (v := 1) (by decide) ?_
    refine ex_bipush (v := 8) (by decide) ?_
    obtain ⟨v4, S5, hp, H⟩ := am_b2_el H
    refine ex_callS rfl rfl (Nat.le_of_ble_eq_true rfl) (Nat.le_of_ble_eq_true rfl) (r194 (by omega) hp) rfl ?_
    by_cases h6 : v4 = 0
    · rw [if_pos h6] at H
      refine ex_if_eq_j (ct := am_c141_33) h6 rfl ?_
      refine ex_iconst (v := (-1)) (by decide) ?_
      have H := Option.some.inj H
      subst H
      exact ex_iret (M := 141) (Or.inl rfl)
    · rw [if_neg h6] at H
      refine ex_if_eq_f h6 ?_
      refine ex_iload_n rfl ?_
      refine ex_iconst (v := 1) (by decide) ?_
      refine ex_bipush (v := 10) (by decide) ?_
      obtain ⟨v7, S8, hp, H⟩ := am_b2_el H
      refine ex_callS rfl rfl (Nat.le_of_ble_eq_true rfl) (Nat.le_of_ble_eq_true rfl) (r194 (by omega) hp) rfl ?_
      by_cases h9 : v7 = 0
      · rw [if_pos h9] at H
        refine ex_if_ne_f h9 ?_
        refine ex_iconst (v := (-1)) (by decide) ?_
        have H := Option.some.inj H
        subst H
        exact ex_iret (M := 141) (Or.inl rfl)
      · rw [if_neg h9] at H
        refine ex_if_ne_j (ct := am_c141_35) h9 rfl ?_
        refine ex_aload_n rfl ?_
        refine ex_getR (w := 7) rfl rfl rfl ?_
        obtain ⟨v10, S11, hp, H⟩ := am_b2_el H
        refine ex_callV rfl rfl (Nat.le_of_ble_eq_true rfl) (Nat.le_of_ble_eq_true rfl) rfl (r33 (by omega) hp) rfl ?_
        refine ex_iconst (v := 3) (by decide) ?_
        by_cases h12 : v10 < 3
        · rw [if_pos h12] at H
          refine ex_icmp_lt_j (ct := am_c141_49) h12 rfl ?_
          refine ex_aload_n rfl ?_
          refine ex_getR (w := 1) rfl rfl rfl ?_
          obtain ⟨S13, hp, H⟩ := Option.bind_eq_some_iff.mp H
          refine ex_callV rfl rfl (Nat.le_of_ble_eq_true rfl) (Nat.le_of_ble_eq_true rfl) rfl (r58 (by omega) hp) rfl ?_
          refine ex_aload_n rfl ?_
          refine ex_getR (w := 7) rfl rfl rfl ?_
          refine ex_iload_n rfl ?_
          refine ex_iload_n rfl ?_
          obtain ⟨v14, S15, hp, H⟩ := am_b2_el H
          refine ex_callV rfl rfl (Nat.le_of_ble_eq_true rfl) (Nat.le_of_ble_eq_true rfl) rfl (r40 (by omega) hp) rfl ?_
          have H := Option.some.inj H
          subst H
          exact ex_iret (M := 141) (Or.inl rfl)
        · rw [if_neg h12] at H
          refine ex_icmp_lt_f h12 ?_
          refine ex_bipush (v := (-3)) (by decide) ?_
          have H := Option.some.inj H
          subst H
          exact ex_iret (M := 141) (Or.inl rfl)
  · rw [if_neg h3] at H
    refine ex_if_eq_f h3 ?_
    refine ex_bipush (v := (-4)) (by decide) ?_
    have H := Option.some.inj H
    subst H
    exact ex_iret (M := 141) (Or.inl rfl)
