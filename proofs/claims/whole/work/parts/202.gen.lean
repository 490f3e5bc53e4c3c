/-! printed by wip/gen/gen20.py -/
def g198c113_31 (F : Nat) (k2 : Int32 → Int32 → Int32 → AmT → Option AmT) (x1 : Int32) (x2 : Int32) (x3 : Int32) (s1 : Int32) (s3 : Int32) (S : AmT) : Option AmT := am_ck s3 16 (am_ck s1 16 (am_lt ((am_upI S.1 113 s1.toNatClampNeg (S.1 113 s3.toNatClampNeg), S.2) : AmT) fun S4 => k2 x1 x2 (x3 + 1) S4))
def g198c113_19 (F : Nat) (k2 : Int32 → Int32 → Int32 → AmT → Option AmT) (x1 : Int32) (x2 : Int32) (x3 : Int32) (s1 : Int32) (S : AmT) : Option AmT := if x2 = 0 then (g198c113_31 F k2 x1 x2 x3 s1 x3 S) else (g198c113_31 F k2 x1 x2 x3 s1 (x1 + x3) S)
def g198c113_2 (F : Nat) : Nat → Int32 → Int32 → Int32 → AmT → Option AmT
  | 0, _, _, _, _ => none
  | n + 1, x1, x2, x3, S => if x1 ≤ x3 then (some S) else (if x2 = 0 then (g198c113_19 F (fun x1 x2 x3 S => g198c113_2 F n x1 x2 x3 S) x1 x2 x3 (x1 + x3) S) else (g198c113_19 F (fun x1 x2 x3 S => g198c113_2 F n x1 x2 x3 S) x1 x2 x3 x3 S))
-- X10_keepRow
def f198c113 (F : Nat) (x1 : Int32) (x2 : Int32) (S : AmT) : Option AmT := g198c113_2 F F x1 x2 0 S
set_option maxHeartbeats 1000000 in
set_option maxRecDepth 20000 in
theorem e198c113_31 {Lg : Nat} {xs : Nat → Int32} {d F : Nat} {k2 : Int32 → Int32 → Int32 → AmT → Option AmT} {x1 : Int32} {x2 : Int32} {x3 : Int32} {s1 : Int32} {s3 : Int32} {S : AmT} {q : AmT} (hd : 0 ≤ d) (hk2 : ∀ (x1 : Int32) (x2 : Int32) (x3 : Int32) (S : AmT) (q : AmT), k2 x1 x2 x3 S = some q → Ex (am_X Lg xs) d 198 am_c198_2 [.ref 113, .int x1, .int x2, .int x3] [] (hS S) (none, hS q)) (H : g198c113_31 F k2 x1 x2 x3 s1 s3 S = some q) : Ex (am_X Lg xs) d 198 am_c198_31 [.ref 113, .int x1, .int x2, .int x3] [.int s3, .ref 113, .int s1, .ref 113] (hS S) (none, hS q) := by
  unfold g198c113_31 at H
  obtain ⟨hj, H⟩ := am_ck_el H
  refine ex_iald (k := 16) (v := S.1 113 s3.toNatClampNeg) rfl hj rfl ?_
  obtain ⟨hj, H⟩ := am_ck_el H
  refine ex_iast (k := 16) rfl rfl hj ?_
  generalize ((am_upI S.1 113 s1.toNatClampNeg (S.1 113 s3.toNatClampNeg), S.2) : AmT) = S4 at H ⊢
  have H := am_lt_el H
  refine ex_iinc (L2 := [.ref 113, .int x1, .int x2, .int (x3 + 1)]) (v := (x3 + 1)) rfl (Nat.le_of_ble_eq_true rfl) (congrArg (fun z => x3 + z) (by decide)) rfl ?_
  refine ex_goto (ct := am_c198_2) rfl ?_
  exact hk2 _ _ _ _ _ H
set_option maxHeartbeats 1000000 in
set_option maxRecDepth 20000 in
theorem e198c113_19 {Lg : Nat} {xs : Nat → Int32} {d F : Nat} {k2 : Int32 → Int32 → Int32 → AmT → Option AmT} {x1 : Int32} {x2 : Int32} {x3 : Int32} {s1 : Int32} {S : AmT} {q : AmT} (hd : 0 ≤ d) (hk2 : ∀ (x1 : Int32) (x2 : Int32) (x3 : Int32) (S : AmT) (q : AmT), k2 x1 x2 x3 S = some q → Ex (am_X Lg xs) d 198 am_c198_2 [.ref 113, .int x1, .int x2, .int x3] [] (hS S) (none, hS q)) (H : g198c113_19 F k2 x1 x2 x3 s1 S = some q) : Ex (am_X Lg xs) d 198 am_c198_19 [.ref 113, .int x1, .int x2, .int x3] [.int s1, .ref 113] (hS S) (none, hS q) := by
  unfold g198c113_19 at H
  refine ex_aload_n rfl ?_
  refine ex_iload_n rfl ?_
  by_cases h3 : x2 = 0
  · rw [if_pos h3] at H
    refine ex_if_eq_j (ct := am_c198_30) h3 rfl ?_
    refine ex_iload_n rfl ?_
    exact e198c113_31 hd hk2 H
  · rw [if_neg h3] at H
    refine ex_if_eq_f h3 ?_
    refine ex_iload_n rfl ?_
    refine ex_iload_n rfl ?_
    refine ex_iadd ?_
    refine ex_goto (ct := am_c198_31) rfl ?_
    exact e198c113_31 hd hk2 H
set_option maxHeartbeats 1000000 in
set_option maxRecDepth 20000 in
theorem e198c113_2 {Lg : Nat} {xs : Nat → Int32} {d F : Nat} (hd : 0 ≤ d) : ∀ (n : Nat) (x1 : Int32) (x2 : Int32) (x3 : Int32) (S : AmT) (q : AmT), g198c113_2 F n x1 x2 x3 S = some q → Ex (am_X Lg xs) d 198 am_c198_2 [.ref 113, .int x1, .int x2, .int x3] [] (hS S) (none, hS q) := by
  intro n
  induction n with
  | zero =>
    intro x1 x2 x3 S q H
    cases H
  | succ n ih =>
    intro x1 x2 x3 S q H
    have H : (if x1 ≤ x3 then (some S) else (if x2 = 0 then (g198c113_19 F (fun x1 x2 x3 S => g198c113_2 F n x1 x2 x3 S) x1 x2 x3 (x1 + x3) S) else (g198c113_19 F (fun x1 x2 x3 S => g198c113_2 F n x1 x2 x3 S) x1 x2 x3 x3 S))) = some q := H
    refine ex_iload_n rfl ?_
    refine ex_iload_n rfl ?_
    by_cases h1 : x1 ≤ x3
    · rw [if_pos h1] at H
      refine ex_icmp_ge_j (ct := am_c198_39) h1 rfl ?_
      have H := Option.some.inj H
      subst H
      exact ex_vret (M := 198) rfl
    · rw [if_neg h1] at H
      refine ex_icmp_ge_f h1 ?_
      refine ex_aload_n rfl ?_
      refine ex_iload_n rfl ?_
      by_cases h2 : x2 = 0
      · rw [if_pos h2] at H
        refine ex_if_eq_j (ct := am_c198_16) h2 rfl ?_
        refine ex_iload_n rfl ?_
        refine ex_iload_n rfl ?_
        refine ex_iadd ?_
        exact e198c113_19 hd (fun x1 x2 x3 S q H => ih x1 x2 x3 S q H) H
      · rw [if_neg h2] at H
        refine ex_if_eq_f h2 ?_
        refine ex_iload_n rfl ?_
        refine ex_goto (ct := am_c198_19) rfl ?_
        exact e198c113_19 hd (fun x1 x2 x3 S q H => ih x1 x2 x3 S q H) H
set_option maxHeartbeats 1000000 in
set_option maxRecDepth 20000 in
theorem r198c113 {Lg : Nat} {xs : Nat → Int32} {d F : Nat} {x1 : Int32} {x2 : Int32} {S : AmT} {q : AmT} (hd : 0 ≤ d) (H : f198c113 F x1 x2 S = some q) : Ex (am_X Lg xs) d 198 (am_P 198) (am_ini (am_Mi 198).1 [.ref 113, .int x1, .int x2]) [] (hS S) (none, hS q) := by
  unfold f198c113 at H
  show Ex (am_X Lg xs) _ 198 am_c198_0 [.ref 113, .int x1, .int x2, .long 0] [] (hS S) (none, hS q)
  refine ex_iconst (v := 0) (by decide) ?_
  refine ex_istore_n (L2 := [.ref 113, .int x1, .int x2, .int 0]) (Nat.le_of_ble_eq_true rfl) rfl ?_
  exact e198c113_2 hd _ _ _ _ _ _ H
def g198c114_31 (F : Nat) (k2 : Int32 → Int32 → Int32 → AmT → Option AmT) (x1 : Int32) (x2 : Int32) (x3 : Int32) (s1 : Int32) (s3 : Int32) (S : AmT) : Option AmT := am_ck s3 16 (am_ck s1 16 (am_lt ((am_upI S.1 114 s1.toNatClampNeg (S.1 114 s3.toNatClampNeg), S.2) : AmT) fun S4 => k2 x1 x2 (x3 + 1) S4))
def g198c114_19 (F : Nat) (k2 : Int32 → Int32 → Int32 → AmT → Option AmT) (x1 : Int32) (x2 : Int32) (x3 : Int32) (s1 : Int32) (S : AmT) : Option AmT := if x2 = 0 then (g198c114_31 F k2 x1 x2 x3 s1 x3 S) else (g198c114_31 F k2 x1 x2 x3 s1 (x1 + x3) S)
def g198c114_2 (F : Nat) : Nat → Int32 → Int32 → Int32 → AmT → Option AmT
  | 0, _, _, _, _ => none
  | n + 1, x1, x2, x3, S => if x1 ≤ x3 then (some S) else (if x2 = 0 then (g198c114_19 F (fun x1 x2 x3 S => g198c114_2 F n x1 x2 x3 S) x1 x2 x3 (x1 + x3) S) else (g198c114_19 F (fun x1 x2 x3 S => g198c114_2 F n x1 x2 x3 S) x1 x2 x3 x3 S))
-- X10_keepRow
def f198c114 (F : Nat) (x1 : Int32) (x2 : Int32) (S : AmT) : Option AmT := g198c114_2 F F x1 x2 0 S
set_option maxHeartbeats 1000000 in
set_option maxRecDepth 20000 in
theorem e198c114_31 {Lg : Nat} {xs : Nat → Int32} {d F : Nat} {k2 : Int32 → Int32 → Int32 → AmT → Option AmT} {x1 : Int32} {x2 : Int32} {x3 : Int32} {s1 : Int32} {s3 : Int32} {S : AmT} {q : AmT} (hd : 0 ≤ d) (hk2 : ∀ (x1 : Int32) (x2 : Int32) (x3 : Int32) (S : AmT) (q : AmT), k2 x1 x2 x3 S = some q → Ex (am_X Lg xs) d 198 am_c198_2 [.ref 114, .int x1, .int x2, .int x3] [] (hS S) (none, hS q)) (H : g198c114_31 F k2 x1 x2 x3 s1 s3 S = some q) : Ex (am_X Lg xs) d 198 am_c198_31 [.ref 114, .int x1, .int x2, .int x3] [.int s3, .ref 114, .int s1, .ref 114] (hS S) (none, hS q) := by
  unfold g198c114_31 at H
  obtain ⟨hj, H⟩ := am_ck_el H
  refine ex_iald (k := 16) (v := S.1 114 s3.toNatClampNeg) rfl hj rfl ?_
  obtain ⟨hj, H⟩ := am_ck_el H
  refine ex_iast (k := 16) rfl rfl hj ?_
  generalize ((am_upI S.1 114 s1.toNatClampNeg (S.1 114 s3.toNatClampNeg), S.2) : AmT) = S4 at H ⊢
  have H := am_lt_el H
  refine ex_iinc (L2 := [.ref 114, .int x1, .int x2, .int (x3 + 1)]) (v := (x3 + 1)) rfl (Nat.le_of_ble_eq_true rfl) (congrArg (fun z => x3 + z) (by decide)) rfl ?_
  refine ex_goto (ct := am_c198_2) rfl ?_
  exact hk2 _ _ _ _ _ H
set_option maxHeartbeats 1000000 in
set_option maxRecDepth 20000 in
theorem e198c114_19 {Lg : Nat} {xs : Nat → Int32} {d F : Nat} {k2 : Int32 → Int32 → Int32 → AmT → Option AmT} {x1 : Int32} {x2 : Int32} {x3 : Int32} {s1 : Int32} {S : AmT} {q : AmT} (hd : 0 ≤ d) (hk2 : ∀ (x1 : Int32) (x2 : Int32) (x3 : Int32) (S : AmT) (q : AmT), k2 x1 x2 x3 S = some q → Ex (am_X Lg xs) d 198 am_c198_2 [.ref 114, .int x1, .int x2, .int x3] [] (hS S) (none, hS q)) (H : g198c114_19 F k2 x1 x2 x3 s1 S = some q) : Ex (am_X Lg xs) d 198 am_c198_19 [.ref 114, .int x1, .int x2, .int x3] [.int s1, .ref 114] (hS S) (none, hS q) := by
  unfold g198c114_19 at H
  refine ex_aload_n rfl ?_
  refine ex_iload_n rfl ?_
  by_cases h3 : x2 = 0
  · rw [if_pos h3] at H
    refine ex_if_eq_j (ct := am_c198_30) h3 rfl ?_
    refine ex_iload_n rfl ?_
    exact e198c114_31 hd hk2 H
  · rw [if_neg h3] at H
    refine ex_if_eq_f h3 ?_
    refine ex_iload_n rfl ?_
    refine ex_iload_n rfl ?_
    refine ex_iadd ?_
    refine ex_goto (ct := am_c198_31) rfl ?_
    exact e198c114_31 hd hk2 H
set_option maxHeartbeats 1000000 in
set_option maxRecDepth 20000 in
theorem e198c114_2 {Lg : Nat} {xs : Nat → Int32} {d F : Nat} (hd : 0 ≤ d) : ∀ (n : Nat) (x1 : Int32) (x2 : Int32) (x3 : Int32) (S : AmT) (q : AmT), g198c114_2 F n x1 x2 x3 S = some q → Ex (am_X Lg xs) d 198 am_c198_2 [.ref 114, .int x1, .int x2, .int x3] [] (hS S) (none, hS q) := by
  intro n
  induction n with
  | zero =>
    intro x1 x2 x3 S q H
    cases H
  | succ n ih =>
    intro x1 x2 x3 S q H
    have H : (if x1 ≤ x3 then (some S) else (if x2 = 0 then (g198c114_19 F (fun x1 x2 x3 S => g198c114_2 F n x1 x2 x3 S) x1 x2 x3 (x1 + x3) S) else (g198c114_19 F (fun x1 x2 x3 S => g198c114_2 F n x1 x2 x3 S) x1 x2 x3 x3 S))) = some q := H
    refine ex_iload_n rfl ?_
    refine ex_iload_n rfl ?_
    by_cases h1 : x1 ≤ x3
    · rw [if_pos h1] at H
      refine ex_icmp_ge_j (ct := am_c198_39) h1 rfl ?_
      have H := Option.some.inj H
      subst H
      exact ex_vret (M := 198) rfl
    · rw [if_neg h1] at H
      refine ex_icmp_ge_f h1 ?_
      refine ex_aload_n rfl ?_
      refine ex_iload_n rfl ?_
      by_cases h2 : x2 = 0
      · rw [if_pos h2] at H
        refine ex_if_eq_j (ct := am_c198_16) h2 rfl ?_
        refine ex_iload_n rfl ?_
        refine ex_iload_n rfl ?_
        refine ex_iadd ?_
        exact e198c114_19 hd (fun x1 x2 x3 S q H => ih x1 x2 x3 S q H) H
      · rw [if_neg h2] at H
        refine ex_if_eq_f h2 ?_
        refine ex_iload_n rfl ?_
        refine ex_goto (ct := am_c198_19) rfl ?_
        exact e198c114_19 hd (fun x1 x2 x3 S q H => ih x1 x2 x3 S q H) H
set_option maxHeartbeats 1000000 in
set_option maxRecDepth 20000 in
theorem r198c114 {Lg : Nat} {xs : Nat → Int32} {d F : Nat} {x1 : Int32} {x2 : Int32} {S : AmT} {q : AmT} (hd : 0 ≤ d) (H : f198c114 F x1 x2 S = some q) : Ex (am_X Lg xs) d 198 (am_P 198) (am_ini (am_Mi 198).1 [.ref 114, .int x1, .int x2]) [] (hS S) (none, hS q) := by
  unfold f198c114 at H
  show Ex (am_X Lg xs) _ 198 am_c198_0 [.ref 114, .int x1, .int x2, .long 0] [] (hS S) (none, hS q)
  refine ex_iconst (v := 0) (by decide) ?_
  refine ex_istore_n (L2 := [.ref 114, .int x1, .int x2, .int 0]) (Nat.le_of_ble_eq_true rfl) rfl ?_
  exact e198c114_2 hd _ _ _ _ _ _ H
def g198c115_31 (F : Nat) (k2 : Int32 → Int32 → Int32 → AmT → Option AmT) (x1 : Int32) (x2 : Int32) (x3 : Int32) (s1 : Int32) (s3 : Int32) (S : AmT) : Option AmT := am_ck s3 16 (am_ck s1 16 (am_lt ((am_upI S.1 115 s1.toNatClampNeg (S.1 115 s3.toNatClampNeg), S.2) : AmT) fun S4 => k2 x1 x2 (x3 + 1) S4))
def g198c115_19 (F : Nat) (k2 : Int32 → Int32 → Int32 → AmT → Option AmT) (x1 : Int32) (x2 : Int32) (x3 : Int32) (s1 : Int32) (S : AmT) : Option AmT := if x2 = 0 then (g198c115_31 F k2 x1 x2 x3 s1 x3 S) else (g198c115_31 F k2 x1 x2 x3 s1 (x1 + x3) S)
def g198c115_2 (F : Nat) : Nat → Int32 → Int32 → Int32 → AmT → Option AmT
  | 0, _, _, _, _ => none
  | n + 1, x1, x2, x3, S => if x1 ≤ x3 then (some S) else (if x2 = 0 then (g198c115_19 F (fun x1 x2 x3 S => g198c115_2 F n x1 x2 x3 S) x1 x2 x3 (x1 + x3) S) else (g198c115_19 F (fun x1 x2 x3 S => g198c115_2 F n x1 x2 x3 S) x1 x2 x3 x3 S))
-- X10_keepRow
def f198c115 (F : Nat) (x1 : Int32) (x2 : Int32) (S : AmT) : Option AmT := g198c115_2 F F x1 x2 0 S
set_option maxHeartbeats 1000000 in
set_option maxRecDepth 20000 in
theorem e198c115_31 {Lg : Nat} {xs : Nat → Int32} {d F : Nat} {k2 : Int32 → Int32 → Int32 → AmT → Option AmT} {x1 : Int32} {x2 : Int32} {x3 : Int32} {s1 : Int32} {s3 : Int32} {S : AmT} {q : AmT} (hd : 0 ≤ d) (hk2 : ∀ (x1 : Int32) (x2 : Int32) (x3 : Int32) (S : AmT) (q : AmT), k2 x1 x2 x3 S = some q → Ex (am_X Lg xs) d 198 am_c198_2 [.ref 115, .int x1, .int x2, .int x3] [] (hS S) (none, hS q)) (H : g198c115_31 F k2 x1 x2 x3 s1 s3 S = some q) : Ex (am_X Lg xs) d 198 am_c198_31 [.ref 115, .int x1, .int x2, .int x3] [.int s3, .ref 115, .int s1, .ref 115] (hS S) (none, hS q) := by
  unfold g198c115_31 at H
  obtain ⟨hj, H⟩ := am_ck_el H
  refine ex_iald (k := 16) (v := S.1 115 s3.toNatClampNeg) rfl hj rfl ?_
  obtain ⟨hj, H⟩ := am_ck_el H
  refine ex_iast (k := 16) rfl rfl hj ?_
  generalize ((am_upI S.1 115 s1.toNatClampNeg (S.1 115 s3.toNatClampNeg), S.2) : AmT) = S4 at H ⊢
  have H := am_lt_el H
  refine ex_iinc (L2 := [.ref 115, .int x1, .int x2, .int (x3 + 1)]) (v := (x3 + 1)) rfl (Nat.le_of_ble_eq_true rfl) (congrArg (fun z => x3 + z) (by decide)) rfl ?_
  refine ex_goto (ct := am_c198_2) rfl ?_
  exact hk2 _ _ _ _ _ H
set_option maxHeartbeats 1000000 in
set_option maxRecDepth 20000 in
theorem e198c115_19 {Lg : Nat} {xs : Nat → Int32} {d F : Nat} {k2 : Int32 → Int32 → Int32 → AmT → Option AmT} {x1 : Int32} {x2 : Int32} {x3 : Int32} {s1 : Int32} {S : AmT} {q : AmT} (hd : 0 ≤ d) (hk2 : ∀ (x1 : Int32) (x2 : Int32) (x3 : Int32) (S : AmT) (q : AmT), k2 x1 x2 x3 S = some q → Ex (am_X Lg xs) d 198 am_c198_2 [.ref 115, .int x1, .int x2, .int x3] [] (hS S) (none, hS q)) (H : g198c115_19 F k2 x1 x2 x3 s1 S = some q) : Ex (am_X Lg xs) d 198 am_c198_19 [.ref 115, .int x1, .int x2, .int x3] [.int s1, .ref 115] (hS S) (none, hS q) := by
  unfold g198c115_19 at H
  refine ex_aload_n rfl ?_
  refine ex_iload_n rfl ?_
  by_cases h3 : x2 = 0
  · rw [if_pos h3] at H
    refine ex_if_eq_j (ct := am_c198_30) h3 rfl ?_
    refine ex_iload_n rfl ?_
    exact e198c115_31 hd hk2 H
  · rw [if_neg h3] at H
    refine ex_if_eq_f h3 ?_
    refine ex_iload_n rfl ?_
    refine ex_iload_n rfl ?_
    refine ex_iadd ?_
    refine ex_goto (ct := am_c198_31) rfl ?_
    exact e198c115_31 hd hk2 H
set_option maxHeartbeats 1000000 in
set_option maxRecDepth 20000 in
theorem e198c115_2 {Lg : Nat} {xs : Nat → Int32} {d F : Nat} (hd : 0 ≤ d) : ∀ (n : Nat) (x1 : Int32) (x2 : Int32) (x3 : Int32) (S : AmT) (q : AmT), g198c115_2 F n x1 x2 x3 S = some q → Ex (am_X Lg xs) d 198 am_c198_2 [.ref 115, .int x1, .int x2, .int x3] [] (hS S) (none, hS q) := by
  intro n
  induction n with
  | zero =>
    intro x1 x2 x3 S q H
    cases H
  | succ n ih =>
    intro x1 x2 x3 S q H
    have H : (if x1 ≤ x3 then (some S) else (if x2 = 0 then (g198c115_19 F (fun x1 x2 x3 S => g198c115_2 F n x1 x2 x3 S) x1 x2 x3 (x1 + x3) S) else (g198c115_19 F (fun x1 x2 x3 S => g198c115_2 F n x1 x2 x3 S) x1 x2 x3 x3 S))) = some q := H
    refine ex_iload_n rfl ?_
    refine ex_iload_n rfl ?_
    by_cases h1 : x1 ≤ x3
    · rw [if_pos h1] at H
      refine ex_icmp_ge_j (ct := am_c198_39) h1 rfl ?_
      have H := Option.some.inj H
      subst H
      exact ex_vret (M := 198) rfl
    · rw [if_neg h1] at H
      refine ex_icmp_ge_f h1 ?_
      refine ex_aload_n rfl ?_
      refine ex_iload_n rfl ?_
      by_cases h2 : x2 = 0
      · rw [if_pos h2] at H
        refine ex_if_eq_j (ct := am_c198_16) h2 rfl ?_
        refine ex_iload_n rfl ?_
        refine ex_iload_n rfl ?_
        refine ex_iadd ?_
        exact e198c115_19 hd (fun x1 x2 x3 S q H => ih x1 x2 x3 S q H) H
      · rw [if_neg h2] at H
        refine ex_if_eq_f h2 ?_
        refine ex_iload_n rfl ?_
        refine ex_goto (ct := am_c198_19) rfl ?_
        exact e198c115_19 hd (fun x1 x2 x3 S q H => ih x1 x2 x3 S q H) H
set_option maxHeartbeats 1000000 in
set_option maxRecDepth 20000 in
theorem r198c115 {Lg : Nat} {xs : Nat → Int32} {d F : Nat} {x1 : Int32} {x2 : Int32} {S : AmT} {q : AmT} (hd : 0 ≤ d) (H : f198c115 F x1 x2 S = some q) : Ex (am_X Lg xs) d 198 (am_P 198) (am_ini (am_Mi 198).1 [.ref 115, .int x1, .int x2]) [] (hS S) (none, hS q) := by
  unfold f198c115 at H
  show Ex (am_X Lg xs) _ 198 am_c198_0 [.ref 115, .int x1, .int x2, .long 0] [] (hS S) (none, hS q)
  refine ex_iconst (v := 0) (by decide) ?_
  refine ex_istore_n (L2 := [.ref 115, .int x1, .int x2, .int 0]) (Nat.le_of_ble_eq_true rfl) rfl ?_
  exact e198c115_2 hd _ _ _ _ _ _ H
def g198c117_31 (F : Nat) (k2 : Int32 → Int32 → Int32 → AmT → Option AmT) (x1 : Int32) (x2 : Int32) (x3 : Int32) (s1 : Int32) (s3 : Int32) (S : AmT) : Option AmT := am_ck s3 2048 (am_ck s1 2048 (am_lt ((am_upI S.1 117 s1.toNatClampNeg (S.1 117 s3.toNatClampNeg), S.2) : AmT) fun S4 => k2 x1 x2 (x3 + 1) S4))
def g198c117_19 (F : Nat) (k2 : Int32 → Int32 → Int32 → AmT → Option AmT) (x1 : Int32) (x2 : Int32) (x3 : Int32) (s1 : Int32) (S : AmT) : Option AmT := if x2 = 0 then (g198c117_31 F k2 x1 x2 x3 s1 x3 S) else (g198c117_31 F k2 x1 x2 x3 s1 (x1 + x3) S)
def g198c117_2 (F : Nat) : Nat → Int32 → Int32 → Int32 → AmT → Option AmT
  | 0, _, _, _, _ => none
  | n + 1, x1, x2, x3, S => if x1 ≤ x3 then (some S) else (if x2 = 0 then (g198c117_19 F (fun x1 x2 x3 S => g198c117_2 F n x1 x2 x3 S) x1 x2 x3 (x1 + x3) S) else (g198c117_19 F (fun x1 x2 x3 S => g198c117_2 F n x1 x2 x3 S) x1 x2 x3 x3 S))
-- X10_keepRow
def f198c117 (F : Nat) (x1 : Int32) (x2 : Int32) (S : AmT) : Option AmT := g198c117_2 F F x1 x2 0 S
set_option maxHeartbeats 1000000 in
set_option maxRecDepth 20000 in
theorem e198c117_31 {Lg : Nat} {xs : Nat → Int32} {d F : Nat} {k2 : Int32 → Int32 → Int32 → AmT → Option AmT} {x1 : Int32} {x2 : Int32} {x3 : Int32} {s1 : Int32} {s3 : Int32} {S : AmT} {q : AmT} (hd : 0 ≤ d) (hk2 : ∀ (x1 : Int32) (x2 : Int32) (x3 : Int32) (S : AmT) (q : AmT), k2 x1 x2 x3 S = some q → Ex (am_X Lg xs) d 198 am_c198_2 [.ref 117, .int x1, .int x2, .int x3] [] (hS S) (none, hS q)) (H : g198c117_31 F k2 x1 x2 x3 s1 s3 S = some q) : Ex (am_X Lg xs) d 198 am_c198_31 [.ref 117, .int x1, .int x2, .int x3] [.int s3, .ref 117, .int s1, .ref 117] (hS S) (none, hS q) := by
  unfold g198c117_31 at H
  obtain ⟨hj, H⟩ := am_ck_el H
  refine ex_iald (k := 2048) (v := S.1 117 s3.toNatClampNeg) rfl hj rfl ?_
  obtain ⟨hj, H⟩ := am_ck_el H
  refine ex_iast (k := 2048) rfl rfl hj ?_
  generalize ((am_upI S.1 117 s1.toNatClampNeg (S.1 117 s3.toNatClampNeg), S.2) : AmT) = S4 at H ⊢
  have H := am_lt_el H
  refine ex_iinc (L2 := [.ref 117, .int x1, .int x2, .int (x3 + 1)]) (v := (x3 + 1)) rfl (Nat.le_of_ble_eq_true rfl) (congrArg (fun z => x3 + z) (by decide)) rfl ?_
  refine ex_goto (ct := am_c198_2) rfl ?_
  exact hk2 _ _ _ _ _ H
set_option maxHeartbeats 1000000 in
set_option maxRecDepth 20000 in
theorem e198c117_19 {Lg : Nat} {xs : Nat → Int32} {d F : Nat} {k2 : Int32 → Int32 → Int32 → AmT → Option AmT} {x1 : Int32} {x2 : Int32} {x3 : Int32} {s1 : Int32} {S : AmT} {q : AmT} (hd : 0 ≤ d) (hk2 : ∀ (x1 : Int32) (x2 : Int32) (x3 : Int32) (S : AmT) (q : AmT), k2 x1 x2 x3 S = some q → Ex (am_X Lg xs) d 198 am_c198_2 [.ref 117, .int x1, .int x2, .int x3] [] (hS S) (none, hS q)) (H : g198c117_19 F k2 x1 x2 x3 s1 S = some q) : Ex (am_X Lg xs) d 198 am_c198_19 [.ref 117, .int x1, .int x2, .int x3] [.int s1, .ref 117] (hS S) (none, hS q) := by
  unfold g198c117_19 at H
  refine ex_aload_n rfl ?_
  refine ex_iload_n rfl ?_
  by_cases h3 : x2 = 0
  · rw [if_pos h3] at H
    refine ex_if_eq_j (ct := am_c198_30) h3 rfl ?_
    refine ex_iload_n rfl ?_
    exact e198c117_31 hd hk2 H
  · rw [if_neg h3] at H
    refine ex_if_eq_f h3 ?_
    refine ex_iload_n rfl ?_
    refine ex_iload_n rfl ?_
    refine ex_iadd ?_
    refine ex_goto (ct := am_c198_31) rfl ?_
    exact e198c117_31 hd hk2 H
set_option maxHeartbeats 1000000 in
set_option maxRecDepth 20000 in
theorem e198c117_2 {Lg : Nat} {xs : Nat → Int32} {d F : Nat} (hd : 0 ≤ d) : ∀ (n : Nat) (x1 : Int32) (x2 : Int32) (x3 : Int32) (S : AmT) (q : AmT), g198c117_2 F n x1 x2 x3 S = some q → Ex (am_X Lg xs) d 198 am_c198_2 [.ref 117, .int x1, .int x2, .int x3] [] (hS S) (none, hS q) := by
  intro n
  induction n with
  | zero =>
    intro x1 x2 x3 S q H
    cases H
  | succ n ih =>
    intro x1 x2 x3 S q H
    have H : (if x1 ≤ x3 then (some S) else (if x2 = 0 then (g198c117_19 F (fun x1 x2 x3 S => g198c117_2 F n x1 x2 x3 S) x1 x2 x3 (x1 + x3) S) else (g198c117_19 F (fun x1 x2 x3 S => g198c117_2 F n x1 x2 x3 S) x1 x2 x3 x3 S))) = some q := H
    refine ex_iload_n rfl ?_
    refine ex_iload_n rfl ?_
    by_cases h1 : x1 ≤ x3
    · rw [if_pos h1] at H
      refine ex_icmp_ge_j (ct := am_c198_39) h1 rfl ?_
      have H := Option.some.inj H
      subst H
      exact ex_vret (M := 198) rfl
    · rw [if_neg h1] at H
      refine ex_icmp_ge_f h1 ?_
      refine ex_aload_n rfl ?_
      refine ex_iload_n rfl ?_
      by_cases h2 : x2 = 0
      · rw [if_pos h2] at H
        refine ex_if_eq_j (ct := am_c198_16) h2 rfl ?_
        refine ex_iload_n rfl ?_
        refine ex_iload_n rfl ?_
        refine ex_iadd ?_
        exact e198c117_19 hd (fun x1 x2 x3 S q H => ih x1 x2 x3 S q H) H
      · rw [if_neg h2] at H
        refine ex_if_eq_f h2 ?_
        refine ex_iload_n rfl ?_
        refine ex_goto (ct := am_c198_19) rfl ?_
        exact e198c117_19 hd (fun x1 x2 x3 S q H => ih x1 x2 x3 S q H) H
set_option maxHeartbeats 1000000 in
set_option maxRecDepth 20000 in
theorem r198c117 {Lg : Nat} {xs : Nat → Int32} {d F : Nat} {x1 : Int32} {x2 : Int32} {S : AmT} {q : AmT} (hd : 0 ≤ d) (H : f198c117 F x1 x2 S = some q) : Ex (am_X Lg xs) d 198 (am_P 198) (am_ini (am_Mi 198).1 [.ref 117, .int x1, .int x2]) [] (hS S) (none, hS q) := by
  unfold f198c117 at H
  show Ex (am_X Lg xs) _ 198 am_c198_0 [.ref 117, .int x1, .int x2, .long 0] [] (hS S) (none, hS q)
  refine ex_iconst (v := 0) (by decide) ?_
  refine ex_istore_n (L2 := [.ref 117, .int x1, .int x2, .int 0]) (Nat.le_of_ble_eq_true rfl) rfl ?_
  exact e198c117_2 hd _ _ _ _ _ _ H
def g198c118_31 (F : Nat) (k2 : Int32 → Int32 → Int32 → AmT → Option AmT) (x1 : Int32) (x2 : Int32) (x3 : Int32) (s1 : Int32) (s3 : Int32) (S : AmT) : Option AmT := am_ck s3 2048 (am_ck s1 2048 (am_lt ((am_upI S.1 118 s1.toNatClampNeg (S.1 118 s3.toNatClampNeg), S.2) : AmT) fun S4 => k2 x1 x2 (x3 + 1) S4))
def g198c118_19 (F : Nat) (k2 : Int32 → Int32 → Int32 → AmT → Option AmT) (x1 : Int32) (x2 : Int32) (x3 : Int32) (s1 : Int32) (S : AmT) : Option AmT := if x2 = 0 then (g198c118_31 F k2 x1 x2 x3 s1 x3 S) else (g198c118_31 F k2 x1 x2 x3 s1 (x1 + x3) S)
def g198c118_2 (F : Nat) : Nat → Int32 → Int32 → Int32 → AmT → Option AmT
  | 0, _, _, _, _ => none
  | n + 1, x1, x2, x3, S => if x1 ≤ x3 then (some S) else (if x2 = 0 then (g198c118_19 F (fun x1 x2 x3 S => g198c118_2 F n x1 x2 x3 S) x1 x2 x3 (x1 + x3) S) else (g198c118_19 F (fun x1 x2 x3 S => g198c118_2 F n x1 x2 x3 S) x1 x2 x3 x3 S))
-- X10_keepRow
def f198c118 (F : Nat) (x1 : Int32) (x2 : Int32) (S : AmT) : Option AmT := g198c118_2 F F x1 x2 0 S
set_option maxHeartbeats 1000000 in
set_option maxRecDepth 20000 in
theorem e198c118_31 {Lg : Nat} {xs : Nat → Int32} {d F : Nat} {k2 : Int32 → Int32 → Int32 → AmT → Option AmT} {x1 : Int32} {x2 : Int32} {x3 : Int32} {s1 : Int32} {s3 : Int32} {S : AmT} {q : AmT} (hd : 0 ≤ d) (hk2 : ∀ (x1 : Int32) (x2 : Int32) (x3 : Int32) (S : AmT) (q : AmT), k2 x1 x2 x3 S = some q → Ex (am_X Lg xs) d 198 am_c198_2 [.ref 118, .int x1, .int x2, .int x3] [] (hS S) (none, hS q)) (H : g198c118_31 F k2 x1 x2 x3 s1 s3 S = some q) : Ex (am_X Lg xs) d 198 am_c198_31 [.ref 118, .int x1, .int x2, .int x3] [.int s3, .ref 118, .int s1, .ref 118] (hS S) (none, hS q) := by
  unfold g198c118_31 at H
  obtain ⟨hj, H⟩ := am_ck_el H
  refine ex_iald (k := 2048) (v := S.1 118 s3.toNatClampNeg) rfl hj rfl ?_
  obtain ⟨hj, H⟩ := am_ck_el H
  refine ex_iast (k := 2048) rfl rfl hj ?_
  generalize ((am_upI S.1 118 s1.toNatClampNeg (S.1 118 s3.toNatClampNeg), S.2) : AmT) = S4 at H ⊢
  have H := am_lt_el H
  refine ex_iinc (L2 := [.ref 118, .int x1, .int x2, .int (x3 + 1)]) (v := (x3 + 1)) rfl (Nat.le_of_ble_eq_true rfl) (congrArg (fun z => x3 + z) (by decide)) rfl ?_
  refine ex_goto (ct := am_c198_2) rfl ?_
  exact hk2 _ _ _ _ _ H
set_option maxHeartbeats 1000000 in
set_option maxRecDepth 20000 in
theorem e198c118_19 {Lg : Nat} {xs : Nat → Int32} {d F : Nat} {k2 : Int32 → Int32 → Int32 → AmT → Option AmT} {x1 : Int32} {x2 : Int32} {x3 : Int32} {s1 : Int32} {S : AmT} {q : AmT} (hd : 0 ≤ d) (hk2 : ∀ (x1 : Int32) (x2 : Int32) (x3 : Int32) (S : AmT) (q : AmT), k2 x1 x2 x3 S = some q → Ex (am_X Lg xs) d 198 am_c198_2 [.ref 118, .int x1, .int x2, .int x3] [] (hS S) (none, hS q)) (H : g198c118_19 F k2 x1 x2 x3 s1 S = some q) : Ex (am_X Lg xs) d 198 am_c198_19 [.ref 118, .int x1, .int x2, .int x3] [.int s1, .ref 118] (hS S) (none, hS q) := by
  unfold g198c118_19 at H
  refine ex_aload_n rfl ?_
  refine ex_iload_n rfl ?_
  by_cases h3 : x2 = 0
  · rw [if_pos h3] at H
    refine ex_if_eq_j (ct := am_c198_30) h3 rfl ?_
    refine ex_iload_n rfl ?_
    exact e198c118_31 hd hk2 H
  · rw [if_neg h3] at H
    refine ex_if_eq_f h3 ?_
    refine ex_iload_n rfl ?_
    refine ex_iload_n rfl ?_
    refine ex_iadd ?_
    refine ex_goto (ct := am_c198_31) rfl ?_
    exact e198c118_31 hd hk2 H
set_option maxHeartbeats 1000000 in
set_option maxRecDepth 20000 in
theorem e198c118_2 {Lg : Nat} {xs : Nat → Int32} {d F : Nat} (hd : 0 ≤ d) : ∀ (n : Nat) (x1 : Int32) (x2 : Int32) (x3 : Int32) (S : AmT) (q : AmT), g198c118_2 F n x1 x2 x3 S = some q → Ex (am_X Lg xs) d 198 am_c198_2 [.ref 118, .int x1, .int x2, .int x3] [] (hS S) (none, hS q) := by
  intro n
  induction n with
  | zero =>
    intro x1 x2 x3 S q H
    cases H
  | succ n ih =>
    intro x1 x2 x3 S q H
    have H : (if x1 ≤ x3 then (some S) else (if x2 = 0 then (g198c118_19 F (fun x1 x2 x3 S => g198c118_2 F n x1 x2 x3 S) x1 x2 x3 (x1 + x3) S) else (g198c118_19 F (fun x1 x2 x3 S => g198c118_2 F n x1 x2 x3 S) x1 x2 x3 x3 S))) = some q := H
    refine ex_iload_n rfl ?_
    refine ex_iload_n rfl ?_
    by_cases h1 : x1 ≤ x3
    · rw [if_pos h1] at H
      refine ex_icmp_ge_j (ct := am_c198_39) h1 rfl ?_
      have H := Option.some.inj H
      subst H
      exact ex_vret (M := 198) rfl
    · rw [if_neg h1] at H
      refine ex_icmp_ge_f h1 ?_
      refine ex_aload_n rfl ?_
      refine ex_iload_n rfl ?_
      by_cases h2 : x2 = 0
      · rw [if_pos h2] at H
        refine ex_if_eq_j (ct := am_c198_16) h2 rfl ?_
        refine ex_iload_n rfl ?_
        refine ex_iload_n rfl ?_
        refine ex_iadd ?_
        exact e198c118_19 hd (fun x1 x2 x3 S q H => ih x1 x2 x3 S q H) H
      · rw [if_neg h2] at H
        refine ex_if_eq_f h2 ?_
        refine ex_iload_n rfl ?_
        refine ex_goto (ct := am_c198_19) rfl ?_
        exact e198c118_19 hd (fun x1 x2 x3 S q H => ih x1 x2 x3 S q H) H
set_option maxHeartbeats 1000000 in
set_option maxRecDepth 20000 in
theorem r198c118 {Lg : Nat} {xs : Nat → Int32} {d F : Nat} {x1 : Int32} {x2 : Int32} {S : AmT} {q : AmT} (hd : 0 ≤ d) (H : f198c118 F x1 x2 S = some q) : Ex (am_X Lg xs) d 198 (am_P 198) (am_ini (am_Mi 198).1 [.ref 118, .int x1, .int x2]) [] (hS S) (none, hS q) := by
  unfold f198c118 at H
  show Ex (am_X Lg xs) _ 198 am_c198_0 [.ref 118, .int x1, .int x2, .long 0] [] (hS S) (none, hS q)
  refine ex_iconst (v := 0) (by decide) ?_
  refine ex_istore_n (L2 := [.ref 118, .int x1, .int x2, .int 0]) (Nat.le_of_ble_eq_true rfl) rfl ?_
  exact e198c118_2 hd _ _ _ _ _ _ H
def g198c119_31 (F : Nat) (k2 : Int32 → Int32 → Int32 → AmT → Option AmT) (x1 : Int32) (x2 : Int32) (x3 : Int32) (s1 : Int32) (s3 : Int32) (S : AmT) : Option AmT := am_ck s3 8 (am_ck s1 8 (am_lt ((am_upI S.1 119 s1.toNatClampNeg (S.1 119 s3.toNatClampNeg), S.2) : AmT) fun S4 => k2 x1 x2 (x3 + 1) S4))
def g198c119_19 (F : Nat) (k2 : Int32 → Int32 → Int32 → AmT → Option AmT) (x1 : Int32) (x2 : Int32) (x3 : Int32) (s1 : Int32) (S : AmT) : Option AmT := if x2 = 0 then (g198c119_31 F k2 x1 x2 x3 s1 x3 S) else (g198c119_31 F k2 x1 x2 x3 s1 (x1 + x3) S)
def g198c119_2 (F : Nat) : Nat → Int32 → Int32 → Int32 → AmT → Option AmT
  | 0, _, _, _, _ => none
  | n + 1, x1, x2, x3, S => if x1 ≤ x3 then (some S) else (if x2 = 0 then (g198c119_19 F (fun x1 x2 x3 S => g198c119_2 F n x1 x2 x3 S) x1 x2 x3 (x1 + x3) S) else (g198c119_19 F (fun x1 x2 x3 S => g198c119_2 F n x1 x2 x3 S) x1 x2 x3 x3 S))
-- X10_keepRow
def f198c119 (F : Nat) (x1 : Int32) (x2 : Int32) (S : AmT) : Option AmT := g198c119_2 F F x1 x2 0 S
set_option maxHeartbeats 1000000 in
set_option maxRecDepth 20000 in
theorem e198c119_31 {Lg : Nat} {xs : Nat → Int32} {d F : Nat} {k2 : Int32 → Int32 → Int32 → AmT → Option AmT} {x1 : Int32} {x2 : Int32} {x3 : Int32} {s1 : Int32} {s3 : Int32} {S : AmT} {q : AmT} (hd : 0 ≤ d) (hk2 : ∀ (x1 : Int32) (x2 : Int32) (x3 : Int32) (S : AmT) (q : AmT), k2 x1 x2 x3 S = some q → Ex (am_X Lg xs) d 198 am_c198_2 [.ref 119, .int x1, .int x2, .int x3] [] (hS S) (none, hS q)) (H : g198c119_31 F k2 x1 x2 x3 s1 s3 S = some q) : Ex (am_X Lg xs) d 198 am_c198_31 [.ref 119, .int x1, .int x2, .int x3] [.int s3, .ref 119, .int s1, .ref 119] (hS S) (none, hS q) := by
  unfold g198c119_31 at H
  obtain ⟨hj, H⟩ := am_ck_el H
  refine ex_iald (k := 8) (v := S.1 119 s3.toNatClampNeg) rfl hj rfl ?_
  obtain ⟨hj, H⟩ := am_ck_el H
  refine ex_iast (k := 8) rfl rfl hj ?_
  generalize ((am_upI S.1 119 s1.toNatClampNeg (S.1 119 s3.toNatClampNeg), S.2) : AmT) = S4 at H ⊢
  have H := am_lt_el H
  refine ex_iinc (L2 := [.ref 119, .int x1, .int x2, .int (x3 + 1)]) (v := (x3 + 1)) rfl (Nat.le_of_ble_eq_true rfl) (congrArg (fun z => x3 + z) (by decide)) rfl ?_
  refine ex_goto (ct := am_c198_2) rfl ?_
  exact hk2 _ _ _ _ _ H
set_option maxHeartbeats 1000000 in
set_option maxRecDepth 20000 in
theorem e198c119_19 {Lg : Nat} {xs : Nat → Int32} {d F : Nat} {k2 : Int32 → Int32 → Int32 → AmT → Option AmT} {x1 : Int32} {x2 : Int32} {x3 : Int32} {s1 : Int32} {S : AmT} {q : AmT} (hd : 0 ≤ d) (hk2 : ∀ (x1 : Int32) (x2 : Int32) (x3 : Int32) (S : AmT) (q : AmT), k2 x1 x2 x3 S = some q → Ex (am_X Lg xs) d 198 am_c198_2 [.ref 119, .int x1, .int x2, .int x3] [] (hS S) (none, hS q)) (H : g198c119_19 F k2 x1 x2 x3 s1 S = some q) : Ex (am_X Lg xs) d 198 am_c198_19 [.ref 119, .int x1, .int x2, .int x3] [.int s1, .ref 119] (hS S) (none, hS q) := by
  unfold g198c119_19 at H
  refine ex_aload_n rfl ?_
  refine ex_iload_n rfl ?_
  by_cases h3 : x2 = 0
  · rw [if_pos h3] at H
    refine ex_if_eq_j (ct := am_c198_30) h3 rfl ?_
    refine ex_iload_n rfl ?_
    exact e198c119_31 hd hk2 H
  · rw [if_neg h3] at H
    refine ex_if_eq_f h3 ?_
    refine ex_iload_n rfl ?_
    refine ex_iload_n rfl ?_
    refine ex_iadd ?_
    refine ex_goto (ct := am_c198_31) rfl ?_
    exact e198c119_31 hd hk2 H
set_option maxHeartbeats 1000000 in
set_option maxRecDepth 20000 in
theorem e198c119_2 {Lg : Nat} {xs : Nat → Int32} {d F : Nat} (hd : 0 ≤ d) : ∀ (n : Nat) (x1 : Int32) (x2 : Int32) (x3 : Int32) (S : AmT) (q : AmT), g198c119_2 F n x1 x2 x3 S = some q → Ex (am_X Lg xs) d 198 am_c198_2 [.ref 119, .int x1, .int x2, .int x3] [] (hS S) (none, hS q) := by
  intro n
  induction n with
  | zero =>
    intro x1 x2 x3 S q H
    cases H
  | succ n ih =>
    intro x1 x2 x3 S q H
    have H : (if x1 ≤ x3 then (some S) else (if x2 = 0 then (g198c119_19 F (fun x1 x2 x3 S => g198c119_2 F n x1 x2 x3 S) x1 x2 x3 (x1 + x3) S) else (g198c119_19 F (fun x1 x2 x3 S => g198c119_2 F n x1 x2 x3 S) x1 x2 x3 x3 S))) = some q := H
    refine ex_iload_n rfl ?_
    refine ex_iload_n rfl ?_
    by_cases h1 : x1 ≤ x3
    · rw [if_pos h1] at H
      refine ex_icmp_ge_j (ct := am_c198_39) h1 rfl ?_
      have H := Option.some.inj H
      subst H
      exact ex_vret (M := 198) rfl
    · rw [if_neg h1] at H
      refine ex_icmp_ge_f h1 ?_
      refine ex_aload_n rfl ?_
      refine ex_iload_n rfl ?_
      by_cases h2 : x2 = 0
      · rw [if_pos h2] at H
        refine ex_if_eq_j (ct := am_c198_16) h2 rfl ?_
        refine ex_iload_n rfl ?_
        refine ex_iload_n rfl ?_
        refine ex_iadd ?_
        exact e198c119_19 hd (fun x1 x2 x3 S q H => ih x1 x2 x3 S q H) H
      · rw [if_neg h2] at H
        refine ex_if_eq_f h2 ?_
        refine ex_iload_n rfl ?_
        refine ex_goto (ct := am_c198_19) rfl ?_
        exact e198c119_19 hd (fun x1 x2 x3 S q H => ih x1 x2 x3 S q H) H
set_option maxHeartbeats 1000000 in
set_option maxRecDepth 20000 in
theorem r198c119 {Lg : Nat} {xs : Nat → Int32} {d F : Nat} {x1 : Int32} {x2 : Int32} {S : AmT} {q : AmT} (hd : 0 ≤ d) (H : f198c119 F x1 x2 S = some q) : Ex (am_X Lg xs) d 198 (am_P 198) (am_ini (am_Mi 198).1 [.ref 119, .int x1, .int x2]) [] (hS S) (none, hS q) := by
  unfold f198c119 at H
  show Ex (am_X Lg xs) _ 198 am_c198_0 [.ref 119, .int x1, .int x2, .long 0] [] (hS S) (none, hS q)
  refine ex_iconst (v := 0) (by decide) ?_
  refine ex_istore_n (L2 := [.ref 119, .int x1, .int x2, .int 0]) (Nat.le_of_ble_eq_true rfl) rfl ?_
  exact e198c119_2 hd _ _ _ _ _ _ H
def g198c120_31 (F : Nat) (k2 : Int32 → Int32 → Int32 → AmT → Option AmT) (x1 : Int32) (x2 : Int32) (x3 : Int32) (s1 : Int32) (s3 : Int32) (S : AmT) : Option AmT := am_ck s3 8 (am_ck s1 8 (am_lt ((am_upI S.1 120 s1.toNatClampNeg (S.1 120 s3.toNatClampNeg), S.2) : AmT) fun S4 => k2 x1 x2 (x3 + 1) S4))
def g198c120_19 (F : Nat) (k2 : Int32 → Int32 → Int32 → AmT → Option AmT) (x1 : Int32) (x2 : Int32) (x3 : Int32) (s1 : Int32) (S : AmT) : Option AmT := if x2 = 0 then (g198c120_31 F k2 x1 x2 x3 s1 x3 S) else (g198c120_31 F k2 x1 x2 x3 s1 (x1 + x3) S)
def g198c120_2 (F : Nat) : Nat → Int32 → Int32 → Int32 → AmT → Option AmT
  | 0, _, _, _, _ => none
  | n + 1, x1, x2, x3, S => if x1 ≤ x3 then (some S) else (if x2 = 0 then (g198c120_19 F (fun x1 x2 x3 S => g198c120_2 F n x1 x2 x3 S) x1 x2 x3 (x1 + x3) S) else (g198c120_19 F (fun x1 x2 x3 S => g198c120_2 F n x1 x2 x3 S) x1 x2 x3 x3 S))
-- X10_keepRow
def f198c120 (F : Nat) (x1 : Int32) (x2 : Int32) (S : AmT) : Option AmT := g198c120_2 F F x1 x2 0 S
set_option maxHeartbeats 1000000 in
set_option maxRecDepth 20000 in
theorem e198c120_31 {Lg : Nat} {xs : Nat → Int32} {d F : Nat} {k2 : Int32 → Int32 → Int32 → AmT → Option AmT} {x1 : Int32} {x2 : Int32} {x3 : Int32} {s1 : Int32} {s3 : Int32} {S : AmT} {q : AmT} (hd : 0 ≤ d) (hk2 : ∀ (x1 : Int32) (x2 : Int32) (x3 : Int32) (S : AmT) (q : AmT), k2 x1 x2 x3 S = some q → Ex (am_X Lg xs) d 198 am_c198_2 [.ref 120, .int x1, .int x2, .int x3] [] (hS S) (none, hS q)) (H : g198c120_31 F k2 x1 x2 x3 s1 s3 S = some q) : Ex (am_X Lg xs) d 198 am_c198_31 [.ref 120, .int x1, .int x2, .int x3] [.int s3, .ref 120, .int s1, .ref 120] (hS S) (none, hS q) := by
  unfold g198c120_31 at H
  obtain ⟨hj, H⟩ := am_ck_el H
  refine ex_iald (k := 8) (v := S.1 120 s3.toNatClampNeg) rfl hj rfl ?_
  obtain ⟨hj, H⟩ := am_ck_el H
  refine ex_iast (k := 8) rfl rfl hj ?_
  generalize ((am_upI S.1 120 s1.toNatClampNeg (S.1 120 s3.toNatClampNeg), S.2) : AmT) = S4 at H ⊢
  have H := am_lt_el H
  refine ex_iinc (L2 := [.ref 120, .int x1, .int x2, .int (x3 + 1)]) (v := (x3 + 1)) rfl (Nat.le_of_ble_eq_true rfl) (congrArg (fun z => x3 + z) (by decide)) rfl ?_
  refine ex_goto (ct := am_c198_2) rfl ?_
  exact hk2 _ _ _ _ _ H
set_option maxHeartbeats 1000000 in
set_option maxRecDepth 20000 in
theorem e198c120_19 {Lg : Nat} {xs : Nat → Int32} {d F : Nat} {k2 : Int32 → Int32 → Int32 → AmT → Option AmT} {x1 : Int32} {x2 : Int32} {x3 : Int32} {s1 : Int32} {S : AmT} {q : AmT} (hd : 0 ≤ d) (hk2 : ∀ (x1 : Int32) (x2 : Int32) (x3 : Int32) (S : AmT) (q : AmT), k2 x1 x2 x3 S = some q → Ex (am_X Lg xs) d 198 am_c198_2 [.ref 120, .int x1, .int x2, .int x3] [] (hS S) (none, hS q)) (H : g198c120_19 F k2 x1 x2 x3 s1 S = some q) : Ex (am_X Lg xs) d 198 am_c198_19 [.ref 120, .int x1, .int x2, .int x3] [.int s1, .ref 120] (hS S) (none, hS q) := by
  unfold g198c120_19 at H
  refine ex_aload_n rfl ?_
  refine ex_iload_n rfl ?_
  by_cases h3 : x2 = 0
  · rw [if_pos h3] at H
    refine ex_if_eq_j (ct := am_c198_30) h3 rfl ?_
    refine ex_iload_n rfl ?_
    exact e198c120_31 hd hk2 H
  · rw [if_neg h3] at H
    refine ex_if_eq_f h3 ?_
    refine ex_iload_n rfl ?_
    refine ex_iload_n rfl ?_
    refine ex_iadd ?_
    refine ex_goto (ct := am_c198_31) rfl ?_
    exact e198c120_31 hd hk2 H
set_option maxHeartbeats 1000000 in
set_option maxRecDepth 20000 in
theorem e198c120_2 {Lg : Nat} {xs : Nat → Int32} {d F : Nat} (hd : 0 ≤ d) : ∀ (n : Nat) (x1 : Int32) (x2 : Int32) (x3 : Int32) (S : AmT) (q : AmT), g198c120_2 F n x1 x2 x3 S = some q → Ex (am_X Lg xs) d 198 am_c198_2 [.ref 120, .int x1, .int x2, .int x3] [] (hS S) (none, hS q) := by
  intro n
  induction n with
  | zero =>
    intro x1 x2 x3 S q H
    cases H
  | succ n ih =>
    intro x1 x2 x3 S q H
    have H : (if x1 ≤ x3 then (some S) else (if x2 = 0 then (g198c120_19 F (fun x1 x2 x3 S => g198c120_2 F n x1 x2 x3 S) x1 x2 x3 (x1 + x3) S) else (g198c120_19 F (fun x1 x2 x3 S => g198c120_2 F n x1 x2 x3 S) x1 x2 x3 x3 S))) = some q := H
    refine ex_iload_n rfl ?_
    refine ex_iload_n rfl ?_
    by_cases h1 : x1 ≤ x3
    · rw [if_pos h1] at H
      refine ex_icmp_ge_j (ct := am_c198_39) h1 rfl ?_
      have H := Option.some.inj H
      subst H
      exact ex_vret (M := 198) rfl
    · rw [if_neg h1] at H
      refine ex_icmp_ge_f h1 ?_
      refine ex_aload_n rfl ?_
      refine ex_iload_n rfl ?_
      by_cases h2 : x2 = 0
      · rw [if_pos h2] at H
        refine ex_if_eq_j (ct := am_c198_16) h2 rfl ?_
        refine ex_iload_n rfl ?_
        refine ex_iload_n rfl ?_
        refine ex_iadd ?_
        exact e198c120_19 hd (fun x1 x2 x3 S q H => ih x1 x2 x3 S q H) H
      · rw [if_neg h2] at H
        refine ex_if_eq_f h2 ?_
        refine ex_iload_n rfl ?_
        refine ex_goto (ct := am_c198_19) rfl ?_
        exact e198c120_19 hd (fun x1 x2 x3 S q H => ih x1 x2 x3 S q H) H
set_option maxHeartbeats 1000000 in
set_option maxRecDepth 20000 in
theorem r198c120 {Lg : Nat} {xs : Nat → Int32} {d F : Nat} {x1 : Int32} {x2 : Int32} {S : AmT} {q : AmT} (hd : 0 ≤ d) (H : f198c120 F x1 x2 S = some q) : Ex (am_X Lg xs) d 198 (am_P 198) (am_ini (am_Mi 198).1 [.ref 120, .int x1, .int x2]) [] (hS S) (none, hS q) := by
  unfold f198c120 at H
  show Ex (am_X Lg xs) _ 198 am_c198_0 [.ref 120, .int x1, .int x2, .long 0] [] (hS S) (none, hS q)
  refine ex_iconst (v := 0) (by decide) ?_
  refine ex_istore_n (L2 := [.ref 120, .int x1, .int x2, .int 0]) (Nat.le_of_ble_eq_true rfl) rfl ?_
  exact e198c120_2 hd _ _ _ _ _ _ H
def g198c121_31 (F : Nat) (k2 : Int32 → Int32 → Int32 → AmT → Option AmT) (x1 : Int32) (x2 : Int32) (x3 : Int32) (s1 : Int32) (s3 : Int32) (S : AmT) : Option AmT := am_ck s3 32 (am_ck s1 32 (am_lt ((am_upI S.1 121 s1.toNatClampNeg (S.1 121 s3.toNatClampNeg), S.2) : AmT) fun S4 => k2 x1 x2 (x3 + 1) S4))
def g198c121_19 (F : Nat) (k2 : Int32 → Int32 → Int32 → AmT → Option AmT) (x1 : Int32) (x2 : Int32) (x3 : Int32) (s1 : Int32) (S : AmT) : Option AmT := if x2 = 0 then (g198c121_31 F k2 x1 x2 x3 s1 x3 S) else (g198c121_31 F k2 x1 x2 x3 s1 (x1 + x3) S)
def g198c121_2 (F : Nat) : Nat → Int32 → Int32 → Int32 → AmT → Option AmT
  | 0, _, _, _, _ => none
  | n + 1, x1, x2, x3, S => if x1 ≤ x3 then (some S) else (if x2 = 0 then (g198c121_19 F (fun x1 x2 x3 S => g198c121_2 F n x1 x2 x3 S) x1 x2 x3 (x1 + x3) S) else (g198c121_19 F (fun x1 x2 x3 S => g198c121_2 F n x1 x2 x3 S) x1 x2 x3 x3 S))
-- X10_keepRow
def f198c121 (F : Nat) (x1 : Int32) (x2 : Int32) (S : AmT) : Option AmT := g198c121_2 F F x1 x2 0 S
set_option maxHeartbeats 1000000 in
set_option maxRecDepth 20000 in
theorem e198c121_31 {Lg : Nat} {xs : Nat → Int32} {d F : Nat} {k2 : Int32 → Int32 → Int32 → AmT → Option AmT} {x1 : Int32} {x2 : Int32} {x3 : Int32} {s1 : Int32} {s3 : Int32} {S : AmT} {q : AmT} (hd : 0 ≤ d) (hk2 : ∀ (x1 : Int32) (x2 : Int32) (x3 : Int32) (S : AmT) (q : AmT), k2 x1 x2 x3 S = some q → Ex (am_X Lg xs) d 198 am_c198_2 [.ref 121, .int x1, .int x2, .int x3] [] (hS S) (none, hS q)) (H : g198c121_31 F k2 x1 x2 x3 s1 s3 S = some q) : Ex (am_X Lg xs) d 198 am_c198_31 [.ref 121, .int x1, .int x2, .int x3] [.int s3, .ref 121, .int s1, .ref 121] (hS S) (none, hS q) := by
  unfold g198c121_31 at H
  obtain ⟨hj, H⟩ := am_ck_el H
  refine ex_iald (k := 32) (v := S.1 121 s3.toNatClampNeg) rfl hj rfl ?_
  obtain ⟨hj, H⟩ := am_ck_el H
  refine ex_iast (k := 32) rfl rfl hj ?_
  generalize ((am_upI S.1 121 s1.toNatClampNeg (S.1 121 s3.toNatClampNeg), S.2) : AmT) = S4 at H ⊢
  have H := am_lt_el H
  refine ex_iinc (L2 := [.ref 121, .int x1, .int x2, .int (x3 + 1)]) (v := (x3 + 1)) rfl (Nat.le_of_ble_eq_true rfl) (congrArg (fun z => x3 + z) (by decide)) rfl ?_
  refine ex_goto (ct := am_c198_2) rfl ?_
  exact hk2 _ _ _ _ _ H
set_option maxHeartbeats 1000000 in
set_option maxRecDepth 20000 in
theorem e198c121_19 {Lg : Nat} {xs : Nat → Int32} {d F : Nat} {k2 : Int32 → Int32 → Int32 → AmT → Option AmT} {x1 : Int32} {x2 : Int32} {x3 : Int32} {s1 : Int32} {S : AmT} {q : AmT} (hd : 0 ≤ d) (hk2 : ∀ (x1 : Int32) (x2 : Int32) (x3 : Int32) (S : AmT) (q : AmT), k2 x1 x2 x3 S = some q → Ex (am_X Lg xs) d 198 am_c198_2 [.ref 121, .int x1, .int x2, .int x3] [] (hS S) (none, hS q)) (H : g198c121_19 F k2 x1 x2 x3 s1 S = some q) : Ex (am_X Lg xs) d 198 am_c198_19 [.ref 121, .int x1, .int x2, .int x3] [.int s1, .ref 121] (hS S) (none, hS q) := by
  unfold g198c121_19 at H
  refine ex_aload_n rfl ?_
  refine ex_iload_n rfl ?_
  by_cases h3 : x2 = 0
  · rw [if_pos h3] at H
    refine ex_if_eq_j (ct := am_c198_30) h3 rfl ?_
    refine ex_iload_n rfl ?_
    exact e198c121_31 hd hk2 H
  · rw [if_neg h3] at H
    refine ex_if_eq_f h3 ?_
    refine ex_iload_n rfl ?_
    refine ex_iload_n rfl ?_
    refine ex_iadd ?_
    refine ex_goto (ct := am_c198_31) rfl ?_
    exact e198c121_31 hd hk2 H
set_option maxHeartbeats 1000000 in
set_option maxRecDepth 20000 in
theorem e198c121_2 {Lg : Nat} {xs : Nat → Int32} {d F : Nat} (hd : 0 ≤ d) : ∀ (n : Nat) (x1 : Int32) (x2 : Int32) (x3 : Int32) (S : AmT) (q : AmT), g198c121_2 F n x1 x2 x3 S = some q → Ex (am_X Lg xs) d 198 am_c198_2 [.ref 121, .int x1, .int x2, .int x3] [] (hS S) (none, hS q) := by
  intro n
  induction n with
  | zero =>
    intro x1 x2 x3 S q H
    cases H
  | succ n ih =>
    intro x1 x2 x3 S q H
    have H : (if x1 ≤ x3 then (some S) else (if x2 = 0 then (g198c121_19 F (fun x1 x2 x3 S => g198c121_2 F n x1 x2 x3 S) x1 x2 x3 (x1 + x3) S) else (g198c121_19 F (fun x1 x2 x3 S => g198c121_2 F n x1 x2 x3 S) x1 x2 x3 x3 S))) = some q := H
    refine ex_iload_n rfl ?_
    refine ex_iload_n rfl ?_
    by_cases h1 : x1 ≤ x3
    · rw [if_pos h1] at H
      refine ex_icmp_ge_j (ct := am_c198_39) h1 rfl ?_
      have H := Option.some.inj H
      subst H
      exact ex_vret (M := 198) rfl
    · rw [if_neg h1] at H
      refine ex_icmp_ge_f h1 ?_
      refine ex_aload_n rfl ?_
      refine ex_iload_n rfl ?_
      by_cases h2 : x2 = 0
      · rw [if_pos h2] at H
        refine ex_if_eq_j (ct := am_c198_16) h2 rfl ?_
        refine ex_iload_n rfl ?_
        refine ex_iload_n rfl ?_
        refine ex_iadd ?_
        exact e198c121_19 hd (fun x1 x2 x3 S q H => ih x1 x2 x3 S q H) H
      · rw [if_neg h2] at H
        refine ex_if_eq_f h2 ?_
        refine ex_iload_n rfl ?_
        refine ex_goto (ct := am_c198_19) rfl ?_
        exact e198c121_19 hd (fun x1 x2 x3 S q H => ih x1 x2 x3 S q H) H
set_option maxHeartbeats 1000000 in
set_option maxRecDepth 20000 in
theorem r198c121 {Lg : Nat} {xs : Nat → Int32} {d F : Nat} {x1 : Int32} {x2 : Int32} {S : AmT} {q : AmT} (hd : 0 ≤ d) (H : f198c121 F x1 x2 S = some q) : Ex (am_X Lg xs) d 198 (am_P 198) (am_ini (am_Mi 198).1 [.ref 121, .int x1, .int x2]) [] (hS S) (none, hS q) := by
  unfold f198c121 at H
  show Ex (am_X Lg xs) _ 198 am_c198_0 [.ref 121, .int x1, .int x2, .long 0] [] (hS S) (none, hS q)
  refine ex_iconst (v := 0) (by decide) ?_
  refine ex_istore_n (L2 := [.ref 121, .int x1, .int x2, .int 0]) (Nat.le_of_ble_eq_true rfl) rfl ?_
  exact e198c121_2 hd _ _ _ _ _ _ H
def g198c123_31 (F : Nat) (k2 : Int32 → Int32 → Int32 → AmT → Option AmT) (x1 : Int32) (x2 : Int32) (x3 : Int32) (s1 : Int32) (s3 : Int32) (S : AmT) : Option AmT := am_ck s3 8 (am_ck s1 8 (am_lt ((am_upI S.1 123 s1.toNatClampNeg (S.1 123 s3.toNatClampNeg), S.2) : AmT) fun S4 => k2 x1 x2 (x3 + 1) S4))
def g198c123_19 (F : Nat) (k2 : Int32 → Int32 → Int32 → AmT → Option AmT) (x1 : Int32) (x2 : Int32) (x3 : Int32) (s1 : Int32) (S : AmT) : Option AmT := if x2 = 0 then (g198c123_31 F k2 x1 x2 x3 s1 x3 S) else (g198c123_31 F k2 x1 x2 x3 s1 (x1 + x3) S)
def g198c123_2 (F : Nat) : Nat → Int32 → Int32 → Int32 → AmT → Option AmT
  | 0, _, _, _, _ => none
  | n + 1, x1, x2, x3, S => if x1 ≤ x3 then (some S) else (if x2 = 0 then (g198c123_19 F (fun x1 x2 x3 S => g198c123_2 F n x1 x2 x3 S) x1 x2 x3 (x1 + x3) S) else (g198c123_19 F (fun x1 x2 x3 S => g198c123_2 F n x1 x2 x3 S) x1 x2 x3 x3 S))
-- X10_keepRow
def f198c123 (F : Nat) (x1 : Int32) (x2 : Int32) (S : AmT) : Option AmT := g198c123_2 F F x1 x2 0 S
set_option maxHeartbeats 1000000 in
set_option maxRecDepth 20000 in
theorem e198c123_31 {Lg : Nat} {xs : Nat → Int32} {d F : Nat} {k2 : Int32 → Int32 → Int32 → AmT → Option AmT} {x1 : Int32} {x2 : Int32} {x3 : Int32} {s1 : Int32} {s3 : Int32} {S : AmT} {q : AmT} (hd : 0 ≤ d) (hk2 : ∀ (x1 : Int32) (x2 : Int32) (x3 : Int32) (S : AmT) (q : AmT), k2 x1 x2 x3 S = some q → Ex (am_X Lg xs) d 198 am_c198_2 [.ref 123, .int x1, .int x2, .int x3] [] (hS S) (none, hS q)) (H : g198c123_31 F k2 x1 x2 x3 s1 s3 S = some q) : Ex (am_X Lg xs) d 198 am_c198_31 [.ref 123, .int x1, .int x2, .int x3] [.int s3, .ref 123, .int s1, .ref 123] (hS S) (none, hS q) := by
  unfold g198c123_31 at H
  obtain ⟨hj, H⟩ := am_ck_el H
  refine ex_iald (k := 8) (v := S.1 123 s3.toNatClampNeg) rfl hj rfl ?_
  obtain ⟨hj, H⟩ := am_ck_el H
  refine ex_iast (k := 8) rfl rfl hj ?_
  generalize ((am_upI S.1 123 s1.toNatClampNeg (S.1 123 s3.toNatClampNeg), S.2) : AmT) = S4 at H ⊢
  have H := am_lt_el H
  refine ex_iinc (L2 := [.ref 123, .int x1, .int x2, .int (x3 + 1)]) (v := (x3 + 1)) rfl (Nat.le_of_ble_eq_true rfl) (congrArg (fun z => x3 + z) (by decide)) rfl ?_
  refine ex_goto (ct := am_c198_2) rfl ?_
  exact hk2 _ _ _ _ _ H
set_option maxHeartbeats 1000000 in
set_option maxRecDepth 20000 in
theorem e198c123_19 {Lg : Nat} {xs : Nat → Int32} {d F : Nat} {k2 : Int32 → Int32 → Int32 → AmT → Option AmT} {x1 : Int32} {x2 : Int32} {x3 : Int32} {s1 : Int32} {S : AmT} {q : AmT} (hd : 0 ≤ d) (hk2 : ∀ (x1 : Int32) (x2 : Int32) (x3 : Int32) (S : AmT) (q : AmT), k2 x1 x2 x3 S = some q → Ex (am_X Lg xs) d 198 am_c198_2 [.ref 123, .int x1, .int x2, .int x3] [] (hS S) (none, hS q)) (H : g198c123_19 F k2 x1 x2 x3 s1 S = some q) : Ex (am_X Lg xs) d 198 am_c198_19 [.ref 123, .int x1, .int x2, .int x3] [.int s1, .ref 123] (hS S) (none, hS q) := by
  unfold g198c123_19 at H
  refine ex_aload_n rfl ?_
  refine ex_iload_n rfl ?_
  by_cases h3 : x2 = 0
  · rw [if_pos h3] at H
    refine ex_if_eq_j (ct := am_c198_30) h3 rfl ?_
    refine ex_iload_n rfl ?_
    exact e198c123_31 hd hk2 H
  · rw [if_neg h3] at H
    refine ex_if_eq_f h3 ?_
    refine ex_iload_n rfl ?_
    refine ex_iload_n rfl ?_
    refine ex_iadd ?_
    refine ex_goto (ct := am_c198_31) rfl ?_
    exact e198c123_31 hd hk2 H
set_option maxHeartbeats 1000000 in
set_option maxRecDepth 20000 in
theorem e198c123_2 {Lg : Nat} {xs : Nat → Int32} {d F : Nat} (hd : 0 ≤ d) : ∀ (n : Nat) (x1 : Int32) (x2 : Int32) (x3 : Int32) (S : AmT) (q : AmT), g198c123_2 F n x1 x2 x3 S = some q → Ex (am_X Lg xs) d 198 am_c198_2 [.ref 123, .int x1, .int x2, .int x3] [] (hS S) (none, hS q) := by
  intro n
  induction n with
  | zero =>
    intro x1 x2 x3 S q H
    cases H
  | succ n ih =>
    intro x1 x2 x3 S q H
    have H : (if x1 ≤ x3 then (some S) else (if x2 = 0 then (g198c123_19 F (fun x1 x2 x3 S => g198c123_2 F n x1 x2 x3 S) x1 x2 x3 (x1 + x3) S) else (g198c123_19 F (fun x1 x2 x3 S => g198c123_2 F n x1 x2 x3 S) x1 x2 x3 x3 S))) = some q := H
    refine ex_iload_n rfl ?_
    refine ex_iload_n rfl ?_
    by_cases h1 : x1 ≤ x3
    · rw [if_pos h1] at H
      refine ex_icmp_ge_j (ct := am_c198_39) h1 rfl ?_
      have H := Option.some.inj H
      subst H
      exact ex_vret (M := 198) rfl
    · rw [if_neg h1] at H
      refine ex_icmp_ge_f h1 ?_
      refine ex_aload_n rfl ?_
      refine ex_iload_n rfl ?_
      by_cases h2 : x2 = 0
      · rw [if_pos h2] at H
        refine ex_if_eq_j (ct := am_c198_16) h2 rfl ?_
        refine ex_iload_n rfl ?_
        refine ex_iload_n rfl ?_
        refine ex_iadd ?_
        exact e198c123_19 hd (fun x1 x2 x3 S q H => ih x1 x2 x3 S q H) H
      · rw [if_neg h2] at H
        refine ex_if_eq_f h2 ?_
        refine ex_iload_n rfl ?_
        refine ex_goto (ct := am_c198_19) rfl ?_
        exact e198c123_19 hd (fun x1 x2 x3 S q H => ih x1 x2 x3 S q H) H
set_option maxHeartbeats 1000000 in
set_option maxRecDepth 20000 in
theorem r198c123 {Lg : Nat} {xs : Nat → Int32} {d F : Nat} {x1 : Int32} {x2 : Int32} {S : AmT} {q : AmT} (hd : 0 ≤ d) (H : f198c123 F x1 x2 S = some q) : Ex (am_X Lg xs) d 198 (am_P 198) (am_ini (am_Mi 198).1 [.ref 123, .int x1, .int x2]) [] (hS S) (none, hS q) := by
  unfold f198c123 at H
  show Ex (am_X Lg xs) _ 198 am_c198_0 [.ref 123, .int x1, .int x2, .long 0] [] (hS S) (none, hS q)
  refine ex_iconst (v := 0) (by decide) ?_
  refine ex_istore_n (L2 := [.ref 123, .int x1, .int x2, .int 0]) (Nat.le_of_ble_eq_true rfl) rfl ?_
  exact e198c123_2 hd _ _ _ _ _ _ H
def g199c116_31 (F : Nat) (k2 : Int32 → Int32 → Int32 → AmT → Option AmT) (x1 : Int32) (x2 : Int32) (x3 : Int32) (s1 : Int32) (s3 : Int32) (S : AmT) : Option AmT := am_ck s3 256 (am_ck s1 256 (am_b01 (S.1 116 s3.toNatClampNeg) (am_lt ((am_upI S.1 116 s1.toNatClampNeg (S.1 116 s3.toNatClampNeg), S.2) : AmT) fun S4 => k2 x1 x2 (x3 + 1) S4)))
def g199c116_19 (F : Nat) (k2 : Int32 → Int32 → Int32 → AmT → Option AmT) (x1 : Int32) (x2 : Int32) (x3 : Int32) (s1 : Int32) (S : AmT) : Option AmT := if x2 = 0 then (g199c116_31 F k2 x1 x2 x3 s1 x3 S) else (g199c116_31 F k2 x1 x2 x3 s1 (x1 + x3) S)
def g199c116_2 (F : Nat) : Nat → Int32 → Int32 → Int32 → AmT → Option AmT
  | 0, _, _, _, _ => none
  | n + 1, x1, x2, x3, S => if x1 ≤ x3 then (some S) else (if x2 = 0 then (g199c116_19 F (fun x1 x2 x3 S => g199c116_2 F n x1 x2 x3 S) x1 x2 x3 (x1 + x3) S) else (g199c116_19 F (fun x1 x2 x3 S => g199c116_2 F n x1 x2 x3 S) x1 x2 x3 x3 S))
-- X10_keepMarks
def f199c116 (F : Nat) (x1 : Int32) (x2 : Int32) (S : AmT) : Option AmT := g199c116_2 F F x1 x2 0 S
set_option maxHeartbeats 1000000 in
set_option maxRecDepth 20000 in
theorem e199c116_31 {Lg : Nat} {xs : Nat → Int32} {d F : Nat} {k2 : Int32 → Int32 → Int32 → AmT → Option AmT} {x1 : Int32} {x2 : Int32} {x3 : Int32} {s1 : Int32} {s3 : Int32} {S : AmT} {q : AmT} (hd : 0 ≤ d) (hk2 : ∀ (x1 : Int32) (x2 : Int32) (x3 : Int32) (S : AmT) (q : AmT), k2 x1 x2 x3 S = some q → Ex (am_X Lg xs) d 199 am_c199_2 [.ref 116, .int x1, .int x2, .int x3] [] (hS S) (none, hS q)) (H : g199c116_31 F k2 x1 x2 x3 s1 s3 S = some q) : Ex (am_X Lg xs) d 199 am_c199_31 [.ref 116, .int x1, .int x2, .int x3] [.int s3, .ref 116, .int s1, .ref 116] (hS S) (none, hS q) := by
  unfold g199c116_31 at H
  obtain ⟨hj, H⟩ := am_ck_el H
  refine ex_bald (k := 256) (v := S.1 116 s3.toNatClampNeg) rfl hj rfl ?_
  obtain ⟨hj, H⟩ := am_ck_el H
  obtain ⟨hb, H⟩ := am_b01_el H
  refine ex_bast (k := 256) rfl rfl hj hb ?_
  generalize ((am_upI S.1 116 s1.toNatClampNeg (S.1 116 s3.toNatClampNeg), S.2) : AmT) = S4 at H ⊢
  have H := am_lt_el H
  refine ex_iinc (L2 := [.ref 116, .int x1, .int x2, .int (x3 + 1)]) (v := (x3 + 1)) rfl (Nat.le_of_ble_eq_true rfl) (congrArg (fun z => x3 + z) (by decide)) rfl ?_
  refine ex_goto (ct := am_c199_2) rfl ?_
  exact hk2 _ _ _ _ _ H
set_option maxHeartbeats 1000000 in
set_option maxRecDepth 20000 in
theorem e199c116_19 {Lg : Nat} {xs : Nat → Int32} {d F : Nat} {k2 : Int32 → Int32 → Int32 → AmT → Option AmT} {x1 : Int32} {x2 : Int32} {x3 : Int32} {s1 : Int32} {S : AmT} {q : AmT} (hd : 0 ≤ d) (hk2 : ∀ (x1 : Int32) (x2 : Int32) (x3 : Int32) (S : AmT) (q : AmT), k2 x1 x2 x3 S = some q → Ex (am_X Lg xs) d 199 am_c199_2 [.ref 116, .int x1, .int x2, .int x3] [] (hS S) (none, hS q)) (H : g199c116_19 F k2 x1 x2 x3 s1 S = some q) : Ex (am_X Lg xs) d 199 am_c199_19 [.ref 116, .int x1, .int x2, .int x3] [.int s1, .ref 116] (hS S) (none, hS q) := by
  unfold g199c116_19 at H
  refine ex_aload_n rfl ?_
  refine ex_iload_n rfl ?_
  by_cases h3 : x2 = 0
  · rw [if_pos h3] at H
    refine ex_if_eq_j (ct := am_c199_30) h3 rfl ?_
    refine ex_iload_n rfl ?_
    exact e199c116_31 hd hk2 H
  · rw [if_neg h3] at H
    refine ex_if_eq_f h3 ?_
    refine ex_iload_n rfl ?_
    refine ex_iload_n rfl ?_
    refine ex_iadd ?_
    refine ex_goto (ct := am_c199_31) rfl ?_
    exact e199c116_31 hd hk2 H
set_option maxHeartbeats 1000000 in
set_option maxRecDepth 20000 in
theorem e199c116_2 {Lg : Nat} {xs : Nat → Int32} {d F : Nat} (hd : 0 ≤ d) : ∀ (n : Nat) (x1 : Int32) (x2 : Int32) (x3 : Int32) (S : AmT) (q : AmT), g199c116_2 F n x1 x2 x3 S = some q → Ex (am_X Lg xs) d 199 am_c199_2 [.ref 116, .int x1, .int x2, .int x3] [] (hS S) (none, hS q) := by
  intro n
  induction n with
  | zero =>
    intro x1 x2 x3 S q H
    cases H
  | succ n ih =>
    intro x1 x2 x3 S q H
    have H : (if x1 ≤ x3 then (some S) else (if x2 = 0 then (g199c116_19 F (fun x1 x2 x3 S => g199c116_2 F n x1 x2 x3 S) x1 x2 x3 (x1 + x3) S) else (g199c116_19 F (fun x1 x2 x3 S => g199c116_2 F n x1 x2 x3 S) x1 x2 x3 x3 S))) = some q := H
    refine ex_iload_n rfl ?_
    refine ex_iload_n rfl ?_
    by_cases h1 : x1 ≤ x3
    · rw [if_pos h1] at H
      refine ex_icmp_ge_j (ct := am_c199_39) h1 rfl ?_
      have H := Option.some.inj H
      subst H
      exact ex_vret (M := 199) rfl
    · rw [if_neg h1] at H
      refine ex_icmp_ge_f h1 ?_
      refine ex_aload_n rfl ?_
      refine ex_iload_n rfl ?_
      by_cases h2 : x2 = 0
      · rw [if_pos h2] at H
        refine ex_if_eq_j (ct := am_c199_16) h2 rfl ?_
        refine ex_iload_n rfl ?_
        refine ex_iload_n rfl ?_
        refine ex_iadd ?_
        exact e199c116_19 hd (fun x1 x2 x3 S q H => ih x1 x2 x3 S q H) H
      · rw [if_neg h2] at H
        refine ex_if_eq_f h2 ?_
        refine ex_iload_n rfl ?_
        refine ex_goto (ct := am_c199_19) rfl ?_
        exact e199c116_19 hd (fun x1 x2 x3 S q H => ih x1 x2 x3 S q H) H
set_option maxHeartbeats 1000000 in
set_option maxRecDepth 20000 in
theorem r199c116 {Lg : Nat} {xs : Nat → Int32} {d F : Nat} {x1 : Int32} {x2 : Int32} {S : AmT} {q : AmT} (hd : 0 ≤ d) (H : f199c116 F x1 x2 S = some q) : Ex (am_X Lg xs) d 199 (am_P 199) (am_ini (am_Mi 199).1 [.ref 116, .int x1, .int x2]) [] (hS S) (none, hS q) := by
  unfold f199c116 at H
  show Ex (am_X Lg xs) _ 199 am_c199_0 [.ref 116, .int x1, .int x2, .long 0] [] (hS S) (none, hS q)
  refine ex_iconst (v := 0) (by decide) ?_
  refine ex_istore_n (L2 := [.ref 116, .int x1, .int x2, .int 0]) (Nat.le_of_ble_eq_true rfl) rfl ?_
  exact e199c116_2 hd _ _ _ _ _ _ H
def g199c122_31 (F : Nat) (k2 : Int32 → Int32 → Int32 → AmT → Option AmT) (x1 : Int32) (x2 : Int32) (x3 : Int32) (s1 : Int32) (s3 : Int32) (S : AmT) : Option AmT := am_ck s3 8 (am_ck s1 8 (am_b01 (S.1 122 s3.toNatClampNeg) (am_lt ((am_upI S.1 122 s1.toNatClampNeg (S.1 122 s3.toNatClampNeg), S.2) : AmT) fun S4 => k2 x1 x2 (x3 + 1) S4)))
def g199c122_19 (F : Nat) (k2 : Int32 → Int32 → Int32 → AmT → Option AmT) (x1 : Int32) (x2 : Int32) (x3 : Int32) (s1 : Int32) (S : AmT) : Option AmT := if x2 = 0 then (g199c122_31 F k2 x1 x2 x3 s1 x3 S) else (g199c122_31 F k2 x1 x2 x3 s1 (x1 + x3) S)
def g199c122_2 (F : Nat) : Nat → Int32 → Int32 → Int32 → AmT → Option AmT
  | 0, _, _, _, _ => none
  | n + 1, x1, x2, x3, S => if x1 ≤ x3 then (some S) else (if x2 = 0 then (g199c122_19 F (fun x1 x2 x3 S => g199c122_2 F n x1 x2 x3 S) x1 x2 x3 (x1 + x3) S) else (g199c122_19 F (fun x1 x2 x3 S => g199c122_2 F n x1 x2 x3 S) x1 x2 x3 x3 S))
-- X10_keepMarks
def f199c122 (F : Nat) (x1 : Int32) (x2 : Int32) (S : AmT) : Option AmT := g199c122_2 F F x1 x2 0 S
set_option maxHeartbeats 1000000 in
set_option maxRecDepth 20000 in
theorem e199c122_31 {Lg : Nat} {xs : Nat → Int32} {d F : Nat} {k2 : Int32 → Int32 → Int32 → AmT → Option AmT} {x1 : Int32} {x2 : Int32} {x3 : Int32} {s1 : Int32} {s3 : Int32} {S : AmT} {q : AmT} (hd : 0 ≤ d) (hk2 : ∀ (x1 : Int32) (x2 : Int32) (x3 : Int32) (S : AmT) (q : AmT), k2 x1 x2 x3 S = some q → Ex (am_X Lg xs) d 199 am_c199_2 [.ref 122, .int x1, .int x2, .int x3] [] (hS S) (none, hS q)) (H : g199c122_31 F k2 x1 x2 x3 s1 s3 S = some q) : Ex (am_X Lg xs) d 199 am_c199_31 [.ref 122, .int x1, .int x2, .int x3] [.int s3, .ref 122, .int s1, .ref 122] (hS S) (none, hS q) := by
  unfold g199c122_31 at H
  obtain ⟨hj, H⟩ := am_ck_el H
  refine ex_bald (k := 8) (v := S.1 122 s3.toNatClampNeg) rfl hj rfl ?_
  obtain ⟨hj, H⟩ := am_ck_el H
  obtain ⟨hb, H⟩ := am_b01_el H
  refine ex_bast (k := 8) rfl rfl hj hb ?_
  generalize ((am_upI S.1 122 s1.toNatClampNeg (S.1 122 s3.toNatClampNeg), S.2) : AmT) = S4 at H ⊢
  have H := am_lt_el H
  refine ex_iinc (L2 := [.ref 122, .int x1, .int x2, .int (x3 + 1)]) (v := (x3 + 1)) rfl (Nat.le_of_ble_eq_true rfl) (congrArg (fun z => x3 + z) (by decide)) rfl ?_
  refine ex_goto (ct := am_c199_2) rfl ?_
  exact hk2 _ _ _ _ _ H
set_option maxHeartbeats 1000000 in
set_option maxRecDepth 20000 in
theorem e199c122_19 {Lg : Nat} {xs : Nat → Int32} {d F : Nat} {k2 : Int32 → Int32 → Int32 → AmT → Option AmT} {x1 : Int32} {x2 : Int32} {x3 : Int32} {s1 : Int32} {S : AmT} {q : AmT} (hd : 0 ≤ d) (hk2 : ∀ (x1 : Int32) (x2 : Int32) (x3 : Int32) (S : AmT) (q : AmT), k2 x1 x2 x3 S = some q → Ex (am_X Lg xs) d 199 am_c199_2 [.ref 122, .int x1, .int x2, .int x3] [] (hS S) (none, hS q)) (H : g199c122_19 F k2 x1 x2 x3 s1 S = some q) : Ex (am_X Lg xs) d 199 am_c199_19 [.ref 122, .int x1, .int x2, .int x3] [.int s1, .ref 122] (hS S) (none, hS q) := by
  unfold g199c122_19 at H
  refine ex_aload_n rfl ?_
  refine ex_iload_n rfl ?_
  by_cases h3 : x2 = 0
  · rw [if_pos h3] at H
    refine ex_if_eq_j (ct := am_c199_30) h3 rfl ?_
    refine ex_iload_n rfl ?_
    exact e199c122_31 hd hk2 H
  · rw [if_neg h3] at H
    refine ex_if_eq_f h3 ?_
    refine ex_iload_n rfl ?_
    refine ex_iload_n rfl ?_
    refine ex_iadd ?_
    refine ex_goto (ct := am_c199_31) rfl ?_
    exact e199c122_31 hd hk2 H
set_option maxHeartbeats 1000000 in
set_option maxRecDepth 20000 in
theorem e199c122_2 {Lg : Nat} {xs : Nat → Int32} {d F : Nat} (hd : 0 ≤ d) : ∀ (n : Nat) (x1 : Int32) (x2 : Int32) (x3 : Int32) (S : AmT) (q : AmT), g199c122_2 F n x1 x2 x3 S = some q → Ex (am_X Lg xs) d 199 am_c199_2 [.ref 122, .int x1, .int x2, .int x3] [] (hS S) (none, hS q) := by
  intro n
  induction n with
  | zero =>
    intro x1 x2 x3 S q H
    cases H
  | succ n ih =>
    intro x1 x2 x3 S q H
    have H : (if x1 ≤ x3 then (some S) else (if x2 = 0 then (g199c122_19 F (fun x1 x2 x3 S => g199c122_2 F n x1 x2 x3 S) x1 x2 x3 (x1 + x3) S) else (g199c122_19 F (fun x1 x2 x3 S => g199c122_2 F n x1 x2 x3 S) x1 x2 x3 x3 S))) = some q := H
    refine ex_iload_n rfl ?_
    refine ex_iload_n rfl ?_
    by_cases h1 : x1 ≤ x3
    · rw [if_pos h1] at H
      refine ex_icmp_ge_j (ct := am_c199_39) h1 rfl ?_
      have H := Option.some.inj H
      subst H
      exact ex_vret (M := 199) rfl
    · rw [if_neg h1] at H
      refine ex_icmp_ge_f h1 ?_
      refine ex_aload_n rfl ?_
      refine ex_iload_n rfl ?_
      by_cases h2 : x2 = 0
      · rw [if_pos h2] at H
        refine ex_if_eq_j (ct := am_c199_16) h2 rfl ?_
        refine ex_iload_n rfl ?_
        refine ex_iload_n rfl ?_
        refine ex_iadd ?_
        exact e199c122_19 hd (fun x1 x2 x3 S q H => ih x1 x2 x3 S q H) H
      · rw [if_neg h2] at H
        refine ex_if_eq_f h2 ?_
        refine ex_iload_n rfl ?_
        refine ex_goto (ct := am_c199_19) rfl ?_
        exact e199c122_19 hd (fun x1 x2 x3 S q H => ih x1 x2 x3 S q H) H
set_option maxHeartbeats 1000000 in
set_option maxRecDepth 20000 in
theorem r199c122 {Lg : Nat} {xs : Nat → Int32} {d F : Nat} {x1 : Int32} {x2 : Int32} {S : AmT} {q : AmT} (hd : 0 ≤ d) (H : f199c122 F x1 x2 S = some q) : Ex (am_X Lg xs) d 199 (am_P 199) (am_ini (am_Mi 199).1 [.ref 122, .int x1, .int x2]) [] (hS S) (none, hS q) := by
  unfold f199c122 at H
  show Ex (am_X Lg xs) _ 199 am_c199_0 [.ref 122, .int x1, .int x2, .long 0] [] (hS S) (none, hS q)
  refine ex_iconst (v := 0) (by decide) ?_
  refine ex_istore_n (L2 := [.ref 122, .int x1, .int x2, .int 0]) (Nat.le_of_ble_eq_true rfl) rfl ?_
  exact e199c122_2 hd _ _ _ _ _ _ H
def g199c124_31 (F : Nat) (k2 : Int32 → Int32 → Int32 → AmT → Option AmT) (x1 : Int32) (x2 : Int32) (x3 : Int32) (s1 : Int32) (s3 : Int32) (S : AmT) : Option AmT := am_ck s3 10 (am_ck s1 10 (am_b01 (S.1 124 s3.toNatClampNeg) (am_lt ((am_upI S.1 124 s1.toNatClampNeg (S.1 124 s3.toNatClampNeg), S.2) : AmT) fun S4 => k2 x1 x2 (x3 + 1) S4)))
def g199c124_19 (F : Nat) (k2 : Int32 → Int32 → Int32 → AmT → Option AmT) (x1 : Int32) (x2 : Int32) (x3 : Int32) (s1 : Int32) (S : AmT) : Option AmT := if x2 = 0 then (g199c124_31 F k2 x1 x2 x3 s1 x3 S) else (g199c124_31 F k2 x1 x2 x3 s1 (x1 + x3) S)
def g199c124_2 (F : Nat) : Nat → Int32 → Int32 → Int32 → AmT → Option AmT
  | 0, _, _, _, _ => none
  | n + 1, x1, x2, x3, S => if x1 ≤ x3 then (some S) else (if x2 = 0 then (g199c124_19 F (fun x1 x2 x3 S => g199c124_2 F n x1 x2 x3 S) x1 x2 x3 (x1 + x3) S) else (g199c124_19 F (fun x1 x2 x3 S => g199c124_2 F n x1 x2 x3 S) x1 x2 x3 x3 S))
-- X10_keepMarks
def f199c124 (F : Nat) (x1 : Int32) (x2 : Int32) (S : AmT) : Option AmT := g199c124_2 F F x1 x2 0 S
set_option maxHeartbeats 1000000 in
set_option maxRecDepth 20000 in
theorem e199c124_31 {Lg : Nat} {xs : Nat → Int32} {d F : Nat} {k2 : Int32 → Int32 → Int32 → AmT → Option AmT} {x1 : Int32} {x2 : Int32} {x3 : Int32} {s1 : Int32} {s3 : Int32} {S : AmT} {q : AmT} (hd : 0 ≤ d) (hk2 : ∀ (x1 : Int32) (x2 : Int32) (x3 : Int32) (S : AmT) (q : AmT), k2 x1 x2 x3 S = some q → Ex (am_X Lg xs) d 199 am_c199_2 [.ref 124, .int x1, .int x2, .int x3] [] (hS S) (none, hS q)) (H : g199c124_31 F k2 x1 x2 x3 s1 s3 S = some q) : Ex (am_X Lg xs) d 199 am_c199_31 [.ref 124, .int x1, .int x2, .int x3] [.int s3, .ref 124, .int s1, .ref 124] (hS S) (none, hS q) := by
  unfold g199c124_31 at H
  obtain ⟨hj, H⟩ := am_ck_el H
  refine ex_bald (k := 10) (v := S.1 124 s3.toNatClampNeg) rfl hj rfl ?_
  obtain ⟨hj, H⟩ := am_ck_el H
  obtain ⟨hb, H⟩ := am_b01_el H
  refine ex_bast (k := 10) rfl rfl hj hb ?_
  generalize ((am_upI S.1 124 s1.toNatClampNeg (S.1 124 s3.toNatClampNeg), S.2) : AmT) = S4 at H ⊢
  have H := am_lt_el H
  refine ex_iinc (L2 := [.ref 124, .int x1, .int x2, .int (x3 + 1)]) (v := (x3 + 1)) rfl (Nat.le_of_ble_eq_true rfl) (congrArg (fun z => x3 + z) (by decide)) rfl ?_
  refine ex_goto (ct := am_c199_2) rfl ?_
  exact hk2 _ _ _ _ _ H
set_option maxHeartbeats 1000000 in
set_option maxRecDepth 20000 in
theorem e199c124_19 {Lg : Nat} {xs : Nat → Int32} {d F : Nat} {k2 : Int32 → Int32 → Int32 → AmT → Option AmT} {x1 : Int32} {x2 : Int32} {x3 : Int32} {s1 : Int32} {S : AmT} {q : AmT} (hd : 0 ≤ d) (hk2 : ∀ (x1 : Int32) (x2 : Int32) (x3 : Int32) (S : AmT) (q : AmT), k2 x1 x2 x3 S = some q → Ex (am_X Lg xs) d 199 am_c199_2 [.ref 124, .int x1, .int x2, .int x3] [] (hS S) (none, hS q)) (H : g199c124_19 F k2 x1 x2 x3 s1 S = some q) : Ex (am_X Lg xs) d 199 am_c199_19 [.ref 124, .int x1, .int x2, .int x3] [.int s1, .ref 124] (hS S) (none, hS q) := by
  unfold g199c124_19 at H
  refine ex_aload_n rfl ?_
  refine ex_iload_n rfl ?_
  by_cases h3 : x2 = 0
  · rw [if_pos h3] at H
    refine ex_if_eq_j (ct := am_c199_30) h3 rfl ?_
    refine ex_iload_n rfl ?_
    exact e199c124_31 hd hk2 H
  · rw [if_neg h3] at H
    refine ex_if_eq_f h3 ?_
    refine ex_iload_n rfl ?_
    refine ex_iload_n rfl ?_
    refine ex_iadd ?_
    refine ex_goto (ct := am_c199_31) rfl ?_
    exact e199c124_31 hd hk2 H
set_option maxHeartbeats 1000000 in
set_option maxRecDepth 20000 in
theorem e199c124_2 {Lg : Nat} {xs : Nat → Int32} {d F : Nat} (hd : 0 ≤ d) : ∀ (n : Nat) (x1 : Int32) (x2 : Int32) (x3 : Int32) (S : AmT) (q : AmT), g199c124_2 F n x1 x2 x3 S = some q → Ex (am_X Lg xs) d 199 am_c199_2 [.ref 124, .int x1, .int x2, .int x3] [] (hS S) (none, hS q) := by
  intro n
  induction n with
  | zero =>
    intro x1 x2 x3 S q H
    cases H
  | succ n ih =>
    intro x1 x2 x3 S q H
    have H : (if x1 ≤ x3 then (some S) else (if x2 = 0 then (g199c124_19 F (fun x1 x2 x3 S => g199c124_2 F n x1 x2 x3 S) x1 x2 x3 (x1 + x3) S) else (g199c124_19 F (fun x1 x2 x3 S => g199c124_2 F n x1 x2 x3 S) x1 x2 x3 x3 S))) = some q := H
    refine ex_iload_n rfl ?_
    refine ex_iload_n rfl ?_
    by_cases h1 : x1 ≤ x3
    · rw [if_pos h1] at H
      refine ex_icmp_ge_j (ct := am_c199_39) h1 rfl ?_
      have H := Option.some.inj H
      subst H
      exact ex_vret (M := 199) rfl
    · rw [if_neg h1] at H
      refine ex_icmp_ge_f h1 ?_
      refine ex_aload_n rfl ?_
      refine ex_iload_n rfl ?_
      by_cases h2 : x2 = 0
      · rw [if_pos h2] at H
        refine ex_if_eq_j (ct := am_c199_16) h2 rfl ?_
        refine ex_iload_n rfl ?_
        refine ex_iload_n rfl ?_
        refine ex_iadd ?_
        exact e199c124_19 hd (fun x1 x2 x3 S q H => ih x1 x2 x3 S q H) H
      · rw [if_neg h2] at H
        refine ex_if_eq_f h2 ?_
        refine ex_iload_n rfl ?_
        refine ex_goto (ct := am_c199_19) rfl ?_
        exact e199c124_19 hd (fun x1 x2 x3 S q H => ih x1 x2 x3 S q H) H
set_option maxHeartbeats 1000000 in
set_option maxRecDepth 20000 in
theorem r199c124 {Lg : Nat} {xs : Nat → Int32} {d F : Nat} {x1 : Int32} {x2 : Int32} {S : AmT} {q : AmT} (hd : 0 ≤ d) (H : f199c124 F x1 x2 S = some q) : Ex (am_X Lg xs) d 199 (am_P 199) (am_ini (am_Mi 199).1 [.ref 124, .int x1, .int x2]) [] (hS S) (none, hS q) := by
  unfold f199c124 at H
  show Ex (am_X Lg xs) _ 199 am_c199_0 [.ref 124, .int x1, .int x2, .long 0] [] (hS S) (none, hS q)
  refine ex_iconst (v := 0) (by decide) ?_
  refine ex_istore_n (L2 := [.ref 124, .int x1, .int x2, .int 0]) (Nat.le_of_ble_eq_true rfl) rfl ?_
  exact e199c124_2 hd _ _ _ _ _ _ H
-- X10_isJammed
def f202 (F : Nat) (S : AmT) : Option (Int32 × AmT) := if (S.1 96 8) = 1 then (some (1, S)) else (some (0, S))
set_option maxHeartbeats 1000000 in
set_option maxRecDepth 20000 in
theorem r202 {Lg : Nat} {xs : Nat → Int32} {d F : Nat} {S : AmT} {q : Int32 × AmT} (hd : 0 ≤ d) (H : f202 F S = some q) : Ex (am_X Lg xs) d 202 (am_P 202) (am_ini (am_Mi 202).1 [.ref 95]) [] (hS S) (some q.1, hS q.2) := by
  unfold f202 at H
  show Ex (am_X Lg xs) _ 202 am_c202_0 [.ref 95] [] (hS S) (some q.1, hS q.2)
  refine ex_aload_n rfl ?_
  refine ex_getR (w := 96) rfl rfl rfl ?_
  refine ex_bipush (v := 8) (by decide) ?_
  refine ex_iald (v := S.1 96 8) rfl (by decide) rfl ?_
  refine ex_iconst (v := 1) (by decide) ?_
  by_cases h1 : (S.1 96 8) = 1
  · rw [if_pos h1] at H
    refine ex_icmp_ne_f h1 ?_
    refine ex_iconst (v := 1) (by decide) ?_
    refine ex_goto (ct := am_c202_16) rfl ?_
    have H := Option.some.inj H
    subst H
    exact ex_iret (M := 202) (Or.inr ⟨rfl, by decide⟩)
  · rw [if_neg h1] at H
    refine ex_icmp_ne_j (ct := am_c202_15) h1 rfl ?_
    refine ex_iconst (v := 0) (by decide) ?_
    have H := Option.some.inj H
    subst H
    exact ex_iret (M := 202) (Or.inr ⟨rfl, by decide⟩)
-- X10_finds
def f203 (F : Nat) (x1 : Int32) (S : AmT) : Option (Int32 × AmT) := am_lt ((am_upI S.1 95 30 ((S.1 95 30) + 1), S.2) : AmT) fun S1 => am_lt ((am_upI S1.1 95 31 x1, S1.2) : AmT) fun S2 => some (((-10) - x1), S2)
set_option maxHeartbeats 1000000 in
set_option maxRecDepth 20000 in
theorem r203 {Lg : Nat} {xs : Nat → Int32} {d F : Nat} {x1 : Int32} {S : AmT} {q : Int32 × AmT} (hd : 0 ≤ d) (H : f203 F x1 S = some q) : Ex (am_X Lg xs) d 203 (am_P 203) (am_ini (am_Mi 203).1 [.ref 95, .int x1]) [] (hS S) (some q.1, hS q.2) := by
  unfold f203 at H
  show Ex (am_X Lg xs) _ 203 am_c203_0 [.ref 95, .int x1] [] (hS S) (some q.1, hS q.2)
  refine ex_aload_n rfl ?_
  refine ex_dupr ?_
  refine ex_gI rfl (by decide) ?_
  refine ex_iconst (v := 1) (by decide) ?_
  refine ex_iadd ?_
  refine ex_putI rfl (by decide) (fun z => absurd z.1 (by decide)) ?_
  generalize ((am_upI S.1 95 30 ((S.1 95 30) + 1), S.2) : AmT) = S1 at H ⊢
  have H := am_lt_el H
  refine ex_aload_n rfl ?_
  refine ex_iload_n rfl ?_
  refine ex_putI rfl (by decide) (fun z => absurd z.1 (by decide)) ?_
  generalize ((am_upI S1.1 95 31 x1, S1.2) : AmT) = S2 at H ⊢
  have H := am_lt_el H
  refine ex_bipush (v := (-10)) (by decide) ?_
  refine ex_iload_n rfl ?_
  refine ex_isub ?_
  have H := Option.some.inj H
  subst H
  exact ex_iret (M := 203) (Or.inl rfl)
