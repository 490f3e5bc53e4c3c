/-! printed by wip/gen/gen20.py -/
def g198c100_31 (F : Nat) (k2 : Int32 → Int32 → Int32 → AmT → Option AmT) (x1 : Int32) (x2 : Int32) (x3 : Int32) (s1 : Int32) (s3 : Int32) (S : AmT) : Option AmT := am_ck s3 144 (am_ck s1 144 (am_lt ((am_upI S.1 100 s1.toNatClampNeg (S.1 100 s3.toNatClampNeg), S.2) : AmT) fun S4 => k2 x1 x2 (x3 + 1) S4))
def g198c100_19 (F : Nat) (k2 : Int32 → Int32 → Int32 → AmT → Option AmT) (x1 : Int32) (x2 : Int32) (x3 : Int32) (s1 : Int32) (S : AmT) : Option AmT := if x2 = 0 then (g198c100_31 F k2 x1 x2 x3 s1 x3 S) else (g198c100_31 F k2 x1 x2 x3 s1 (x1 + x3) S)
def g198c100_2 (F : Nat) : Nat → Int32 → Int32 → Int32 → AmT → Option AmT
  | 0, _, _, _, _ => none
  | n + 1, x1, x2, x3, S => if x1 ≤ x3 then (some S) else (if x2 = 0 then (g198c100_19 F (fun x1 x2 x3 S => g198c100_2 F n x1 x2 x3 S) x1 x2 x3 (x1 + x3) S) else (g198c100_19 F (fun x1 x2 x3 S => g198c100_2 F n x1 x2 x3 S) x1 x2 x3 x3 S))
-- X10_keepRow
def f198c100 (F : Nat) (x1 : Int32) (x2 : Int32) (S : AmT) : Option AmT := g198c100_2 F F x1 x2 0 S
set_option maxHeartbeats 1000000 in
set_option maxRecDepth 20000 in
theorem e198c100_31 {Lg : Nat} {xs : Nat → Int32} {d F : Nat} {k2 : Int32 → Int32 → Int32 → AmT → Option AmT} {x1 : Int32} {x2 : Int32} {x3 : Int32} {s1 : Int32} {s3 : Int32} {S : AmT} {q : AmT} (hd : 0 ≤ d) (hk2 : ∀ (x1 : Int32) (x2 : Int32) (x3 : Int32) (S : AmT) (q : AmT), k2 x1 x2 x3 S = some q → Ex (am_X Lg xs) d 198 am_c198_2 [.ref 100, .int x1, .int x2, .int x3] [] (hS S) (none, hS q)) (H : g198c100_31 F k2 x1 x2 x3 s1 s3 S = some q) : Ex (am_X Lg xs) d 198 am_c198_31 [.ref 100, .int x1, .int x2, .int x3] [.int s3, .ref 100, .int s1, .ref 100] (hS S) (none, hS q) := by
  unfold g198c100_31 at H
  obtain ⟨hj, H⟩ := am_ck_el H
  refine ex_iald (k := 144) (v := S.1 100 s3.toNatClampNeg) rfl hj rfl ?_
  obtain ⟨hj, H⟩ := am_ck_el H
  refine ex_iast (k := 144) rfl rfl hj ?_
  generalize ((am_upI S.1 100 s1.toNatClampNeg (S.1 100 s3.toNatClampNeg), S.2) : AmT) = S4 at H ⊢
  have H := am_lt_el H
  refine ex_iinc (L2 := [.ref 100, .int x1, .int x2, .int (x3 + 1)]) (v := (x3 + 1)) rfl (Nat.le_of_ble_eq_true rfl) (congrArg (fun z => x3 + z) (by decide)) rfl ?_
  refine ex_goto (ct := am_c198_2) rfl ?_
  exact hk2 _ _ _ _ _ H
set_option maxHeartbeats 1000000 in
set_option maxRecDepth 20000 in
theorem e198c100_19 {Lg : Nat} {xs : Nat → Int32} {d F : Nat} {k2 : Int32 → Int32 → Int32 → AmT → Option AmT} {x1 : Int32} {x2 : Int32} {x3 : Int32} {s1 : Int32} {S : AmT} {q : AmT} (hd : 0 ≤ d) (hk2 : ∀ (x1 : Int32) (x2 : Int32) (x3 : Int32) (S : AmT) (q : AmT), k2 x1 x2 x3 S = some q → Ex (am_X Lg xs) d 198 am_c198_2 [.ref 100, .int x1, .int x2, .int x3] [] (hS S) (none, hS q)) (H : g198c100_19 F k2 x1 x2 x3 s1 S = some q) : Ex (am_X Lg xs) d 198 am_c198_19 [.ref 100, .int x1, .int x2, .int x3] [.int s1, .ref 100] (hS S) (none, hS q) := by
  unfold g198c100_19 at H
  refine ex_aload_n rfl ?_
  refine ex_iload_n rfl ?_
  by_cases h3 : x2 = 0
  · rw [if_pos h3] at H
    refine ex_if_eq_j (ct := am_c198_30) h3 rfl ?_
    refine ex_iload_n rfl ?_
    exact e198c100_31 hd hk2 H
  · rw [if_neg h3] at H
    refine ex_if_eq_f h3 ?_
    refine ex_iload_n rfl ?_
    refine ex_iload_n rfl ?_
    refine ex_iadd ?_
    refine ex_goto (ct := am_c198_31) rfl ?_
    exact e198c100_31 hd hk2 H
set_option maxHeartbeats 1000000 in
set_option maxRecDepth 20000 in
theorem e198c100_2 {Lg : Nat} {xs : Nat → Int32} {d F : Nat} (hd : 0 ≤ d) : ∀ (n : Nat) (x1 : Int32) (x2 : Int32) (x3 : Int32) (S : AmT) (q : AmT), g198c100_2 F n x1 x2 x3 S = some q → Ex (am_X Lg xs) d 198 am_c198_2 [.ref 100, .int x1, .int x2, .int x3] [] (hS S) (none, hS q) := by
  intro n
  induction n with
  | zero =>
    intro x1 x2 x3 S q H
    cases H
  | succ n ih =>
    intro x1 x2 x3 S q H
    have H : (if x1 ≤ x3 then (some S) else (if x2 = 0 then (g198c100_19 F (fun x1 x2 x3 S => g198c100_2 F n x1 x2 x3 S) x1 x2 x3 (x1 + x3) S) else (g198c100_19 F (fun x1 x2 x3 S => g198c100_2 F n x1 x2 x3 S) x1 x2 x3 x3 S))) = some q := H
    refine ex_iload_n rfl ?_
    refine ex_iload_n rfl ?_
    by_cases h1 : x1 ≤ x3
    · rw [if_pos h1] at H
      refine ex_icmp_ge_j (ct := am_c198_39) h1 rfl ?_
      have H := Option.some.inj H
      subst H
      exact ex_vret (M := 198) rfl
    · rw [if_neg h1] at H
      refine ex_icmp_ge_f h1 ?_
      refine ex_aload_n rfl ?_
      refine ex_iload_n rfl ?_
      by_cases h2 : x2 = 0
      · rw [if_pos h2] at H
        refine ex_if_eq_j (ct := am_c198_16) h2 rfl ?_
        refine ex_iload_n rfl ?_
        refine ex_iload_n rfl ?_
        refine ex_iadd ?_
        exact e198c100_19 hd (fun x1 x2 x3 S q H => ih x1 x2 x3 S q H) H
      · rw [if_neg h2] at H
        refine ex_if_eq_f h2 ?_
        refine ex_iload_n rfl ?_
        refine ex_goto (ct := am_c198_19) rfl ?_
        exact e198c100_19 hd (fun x1 x2 x3 S q H => ih x1 x2 x3 S q H) H
set_option maxHeartbeats 1000000 in
set_option maxRecDepth 20000 in
theorem r198c100 {Lg : Nat} {xs : Nat → Int32} {d F : Nat} {x1 : Int32} {x2 : Int32} {S : AmT} {q : AmT} (hd : 0 ≤ d) (H : f198c100 F x1 x2 S = some q) : Ex (am_X Lg xs) d 198 (am_P 198) (am_ini (am_Mi 198).1 [.ref 100, .int x1, .int x2]) [] (hS S) (none, hS q) := by
  unfold f198c100 at H
  show Ex (am_X Lg xs) _ 198 am_c198_0 [.ref 100, .int x1, .int x2, .long 0] [] (hS S) (none, hS q)
  refine ex_iconst (v := 0) (by decide) ?_
  refine ex_istore_n (L2 := [.ref 100, .int x1, .int x2, .int 0]) (Nat.le_of_ble_eq_true rfl) rfl ?_
  exact e198c100_2 hd _ _ _ _ _ _ H
def g198c101_31 (F : Nat) (k2 : Int32 → Int32 → Int32 → AmT → Option AmT) (x1 : Int32) (x2 : Int32) (x3 : Int32) (s1 : Int32) (s3 : Int32) (S : AmT) : Option AmT := am_ck s3 1152 (am_ck s1 1152 (am_lt ((am_upI S.1 101 s1.toNatClampNeg (S.1 101 s3.toNatClampNeg), S.2) : AmT) fun S4 => k2 x1 x2 (x3 + 1) S4))
def g198c101_19 (F : Nat) (k2 : Int32 → Int32 → Int32 → AmT → Option AmT) (x1 : Int32) (x2 : Int32) (x3 : Int32) (s1 : Int32) (S : AmT) : Option AmT := if x2 = 0 then (g198c101_31 F k2 x1 x2 x3 s1 x3 S) else (g198c101_31 F k2 x1 x2 x3 s1 (x1 + x3) S)
def g198c101_2 (F : Nat) : Nat → Int32 → Int32 → Int32 → AmT → Option AmT
  | 0, _, _, _, _ => none
  | n + 1, x1, x2, x3, S => if x1 ≤ x3 then (some S) else (if x2 = 0 then (g198c101_19 F (fun x1 x2 x3 S => g198c101_2 F n x1 x2 x3 S) x1 x2 x3 (x1 + x3) S) else (g198c101_19 F (fun x1 x2 x3 S => g198c101_2 F n x1 x2 x3 S) x1 x2 x3 x3 S))
-- X10_keepRow
def f198c101 (F : Nat) (x1 : Int32) (x2 : Int32) (S : AmT) : Option AmT := g198c101_2 F F x1 x2 0 S
set_option maxHeartbeats 1000000 in
set_option maxRecDepth 20000 in
theorem e198c101_31 {Lg : Nat} {xs : Nat → Int32} {d F : Nat} {k2 : Int32 → Int32 → Int32 → AmT → Option AmT} {x1 : Int32} {x2 : Int32} {x3 : Int32} {s1 : Int32} {s3 : Int32} {S : AmT} {q : AmT} (hd : 0 ≤ d) (hk2 : ∀ (x1 : Int32) (x2 : Int32) (x3 : Int32) (S : AmT) (q : AmT), k2 x1 x2 x3 S = some q → Ex (am_X Lg xs) d 198 am_c198_2 [.ref 101, .int x1, .int x2, .int x3] [] (hS S) (none, hS q)) (H : g198c101_31 F k2 x1 x2 x3 s1 s3 S = some q) : Ex (am_X Lg xs) d 198 am_c198_31 [.ref 101, .int x1, .int x2, .int x3] [.int s3, .ref 101, .int s1, .ref 101] (hS S) (none, hS q) := by
  unfold g198c101_31 at H
  obtain ⟨hj, H⟩ := am_ck_el H
  refine ex_iald (k := 1152) (v := S.1 101 s3.toNatClampNeg) rfl hj rfl ?_
  obtain ⟨hj, H⟩ := am_ck_el H
  refine ex_iast (k := 1152) rfl rfl hj ?_
  generalize ((am_upI S.1 101 s1.toNatClampNeg (S.1 101 s3.toNatClampNeg), S.2) : AmT) = S4 at H ⊢
  have H := am_lt_el H
  refine ex_iinc (L2 := [.ref 101, .int x1, .int x2, .int (x3 + 1)]) (v := (x3 + 1)) rfl (Nat.le_of_ble_eq_true rfl) (congrArg (fun z => x3 + z) (by decide)) rfl ?_
  refine ex_goto (ct := am_c198_2) rfl ?_
  exact hk2 _ _ _ _ _ H
set_option maxHeartbeats 1000000 in
set_option maxRecDepth 20000 in
theorem e198c101_19 {Lg : Nat} {xs : Nat → Int32} {d F : Nat} {k2 : Int32 → Int32 → Int32 → AmT → Option AmT} {x1 : Int32} {x2 : Int32} {x3 : Int32} {s1 : Int32} {S : AmT} {q : AmT} (hd : 0 ≤ d) (hk2 : ∀ (x1 : Int32) (x2 : Int32) (x3 : Int32) (S : AmT) (q : AmT), k2 x1 x2 x3 S = some q → Ex (am_X Lg xs) d 198 am_c198_2 [.ref 101, .int x1, .int x2, .int x3] [] (hS S) (none, hS q)) (H : g198c101_19 F k2 x1 x2 x3 s1 S = some q) : Ex (am_X Lg xs) d 198 am_c198_19 [.ref 101, .int x1, .int x2, .int x3] [.int s1, .ref 101] (hS S) (none, hS q) := by
  unfold g198c101_19 at H
  refine ex_aload_n rfl ?_
  refine ex_iload_n rfl ?_
  by_cases h3 : x2 = 0
  · rw [if_pos h3] at H
    refine ex_if_eq_j (ct := am_c198_30) h3 rfl ?_
    refine ex_iload_n rfl ?_
    exact e198c101_31 hd hk2 H
  · rw [if_neg h3] at H
    refine ex_if_eq_f h3 ?_
    refine ex_iload_n rfl ?_
    refine ex_iload_n rfl ?_
    refine ex_iadd ?_
    refine ex_goto (ct := am_c198_31) rfl ?_
    exact e198c101_31 hd hk2 H
set_option maxHeartbeats 1000000 in
set_option maxRecDepth 20000 in
theorem e198c101_2 {Lg : Nat} {xs : Nat → Int32} {d F : Nat} (hd : 0 ≤ d) : ∀ (n : Nat) (x1 : Int32) (x2 : Int32) (x3 : Int32) (S : AmT) (q : AmT), g198c101_2 F n x1 x2 x3 S = some q → Ex (am_X Lg xs) d 198 am_c198_2 [.ref 101, .int x1, .int x2, .int x3] [] (hS S) (none, hS q) := by
  intro n
  induction n with
  | zero =>
    intro x1 x2 x3 S q H
    cases H
  | succ n ih =>
    intro x1 x2 x3 S q H
    have H : (if x1 ≤ x3 then (some S) else (if x2 = 0 then (g198c101_19 F (fun x1 x2 x3 S => g198c101_2 F n x1 x2 x3 S) x1 x2 x3 (x1 + x3) S) else (g198c101_19 F (fun x1 x2 x3 S => g198c101_2 F n x1 x2 x3 S) x1 x2 x3 x3 S))) = some q := H
    refine ex_iload_n rfl ?_
    refine ex_iload_n rfl ?_
    by_cases h1 : x1 ≤ x3
    · rw [if_pos h1] at H
      refine ex_icmp_ge_j (ct := am_c198_39) h1 rfl ?_
      have H := Option.some.inj H
      subst H
      exact ex_vret (M := 198) rfl
    · rw [if_neg h1] at H
      refine ex_icmp_ge_f h1 ?_
      refine ex_aload_n rfl ?_
      refine ex_iload_n rfl ?_
      by_cases h2 : x2 = 0
      · rw [if_pos h2] at H
        refine ex_if_eq_j (ct := am_c198_16) h2 rfl ?_
        refine ex_iload_n rfl ?_
        refine ex_iload_n rfl ?_
        refine ex_iadd ?_
        exact e198c101_19 hd (fun x1 x2 x3 S q H => ih x1 x2 x3 S q H) H
      · rw [if_neg h2] at H
        refine ex_if_eq_f h2 ?_
        refine ex_iload_n rfl ?_
        refine ex_goto (ct := am_c198_19) rfl ?_
        exact e198c101_19 hd (fun x1 x2 x3 S q H => ih x1 x2 x3 S q H) H
set_option maxHeartbeats 1000000 in
set_option maxRecDepth 20000 in
theorem r198c101 {Lg : Nat} {xs : Nat → Int32} {d F : Nat} {x1 : Int32} {x2 : Int32} {S : AmT} {q : AmT} (hd : 0 ≤ d) (H : f198c101 F x1 x2 S = some q) : Ex (am_X Lg xs) d 198 (am_P 198) (am_ini (am_Mi 198).1 [.ref 101, .int x1, .int x2]) [] (hS S) (none, hS q) := by
  unfold f198c101 at H
  show Ex (am_X Lg xs) _ 198 am_c198_0 [.ref 101, .int x1, .int x2, .long 0] [] (hS S) (none, hS q)
  refine ex_iconst (v := 0) (by decide) ?_
  refine ex_istore_n (L2 := [.ref 101, .int x1, .int x2, .int 0]) (Nat.le_of_ble_eq_true rfl) rfl ?_
  exact e198c101_2 hd _ _ _ _ _ _ H
def g198c102_31 (F : Nat) (k2 : Int32 → Int32 → Int32 → AmT → Option AmT) (x1 : Int32) (x2 : Int32) (x3 : Int32) (s1 : Int32) (s3 : Int32) (S : AmT) : Option AmT := am_ck s3 11520 (am_ck s1 11520 (am_lt ((am_upI S.1 102 s1.toNatClampNeg (S.1 102 s3.toNatClampNeg), S.2) : AmT) fun S4 => k2 x1 x2 (x3 + 1) S4))
def g198c102_19 (F : Nat) (k2 : Int32 → Int32 → Int32 → AmT → Option AmT) (x1 : Int32) (x2 : Int32) (x3 : Int32) (s1 : Int32) (S : AmT) : Option AmT := if x2 = 0 then (g198c102_31 F k2 x1 x2 x3 s1 x3 S) else (g198c102_31 F k2 x1 x2 x3 s1 (x1 + x3) S)
def g198c102_2 (F : Nat) : Nat → Int32 → Int32 → Int32 → AmT → Option AmT
  | 0, _, _, _, _ => none
  | n + 1, x1, x2, x3, S => if x1 ≤ x3 then (some S) else (if x2 = 0 then (g198c102_19 F (fun x1 x2 x3 S => g198c102_2 F n x1 x2 x3 S) x1 x2 x3 (x1 + x3) S) else (g198c102_19 F (fun x1 x2 x3 S => g198c102_2 F n x1 x2 x3 S) x1 x2 x3 x3 S))
-- X10_keepRow
def f198c102 (F : Nat) (x1 : Int32) (x2 : Int32) (S : AmT) : Option AmT := g198c102_2 F F x1 x2 0 S
set_option maxHeartbeats 1000000 in
set_option maxRecDepth 20000 in
theorem e198c102_31 {Lg : Nat} {xs : Nat → Int32} {d F : Nat} {k2 : Int32 → Int32 → Int32 → AmT → Option AmT} {x1 : Int32} {x2 : Int32} {x3 : Int32} {s1 : Int32} {s3 : Int32} {S : AmT} {q : AmT} (hd : 0 ≤ d) (hk2 : ∀ (x1 : Int32) (x2 : Int32) (x3 : Int32) (S : AmT) (q : AmT), k2 x1 x2 x3 S = some q → Ex (am_X Lg xs) d 198 am_c198_2 [.ref 102, .int x1, .int x2, .int x3] [] (hS S) (none, hS q)) (H : g198c102_31 F k2 x1 x2 x3 s1 s3 S = some q) : Ex (am_X Lg xs) d 198 am_c198_31 [.ref 102, .int x1, .int x2, .int x3] [.int s3, .ref 102, .int s1, .ref 102] (hS S) (none, hS q) := by
  unfold g198c102_31 at H
  obtain ⟨hj, H⟩ := am_ck_el H
  refine ex_iald (k := 11520) (v := S.1 102 s3.toNatClampNeg) rfl hj rfl ?_
  obtain ⟨hj, H⟩ := am_ck_el H
  refine ex_iast (k := 11520) rfl rfl hj ?_
  generalize ((am_upI S.1 102 s1.toNatClampNeg (S.1 102 s3.toNatClampNeg), S.2) : AmT) = S4 at H ⊢
  have H := am_lt_el H
  refine ex_iinc (L2 := [.ref 102, .int x1, .int x2, .int (x3 + 1)]) (v := (x3 + 1)) rfl (Nat.le_of_ble_eq_true rfl) (congrArg (fun z => x3 + z) (by decide)) rfl ?_
  refine ex_goto (ct := am_c198_2) rfl ?_
  exact hk2 _ _ _ _ _ H
set_option maxHeartbeats 1000000 in
set_option maxRecDepth 20000 in
theorem e198c102_19 {Lg : Nat} {xs : Nat → Int32} {d F : Nat} {k2 : Int32 → Int32 → Int32 → AmT → Option AmT} {x1 : Int32} {x2 : Int32} {x3 : Int32} {s1 : Int32} {S : AmT} {q : AmT} (hd : 0 ≤ d) (hk2 : ∀ (x1 : Int32) (x2 : Int32) (x3 : Int32) (S : AmT) (q : AmT), k2 x1 x2 x3 S = some q → Ex (am_X Lg xs) d 198 am_c198_2 [.ref 102, .int x1, .int x2, .int x3] [] (hS S) (none, hS q)) (H : g198c102_19 F k2 x1 x2 x3 s1 S = some q) : Ex (am_X Lg xs) d 198 am_c198_19 [.ref 102, .int x1, .int x2, .int x3] [.int s1, .ref 102] (hS S) (none, hS q) := by
  unfold g198c102_19 at H
  refine ex_aload_n rfl ?_
  refine ex_iload_n rfl ?_
  by_cases h3 : x2 = 0
  · rw [if_pos h3] at H
    refine ex_if_eq_j (ct := am_c198_30) h3 rfl ?_
    refine ex_iload_n rfl ?_
    exact e198c102_31 hd hk2 H
  · rw [if_neg h3] at H
    refine ex_if_eq_f h3 ?_
    refine ex_iload_n rfl ?_
    refine ex_iload_n rfl ?_
    refine ex_iadd ?_
    refine ex_goto (ct := am_c198_31) rfl ?_
    exact e198c102_31 hd hk2 H
set_option maxHeartbeats 1000000 in
set_option maxRecDepth 20000 in
theorem e198c102_2 {Lg : Nat} {xs : Nat → Int32} {d F : Nat} (hd : 0 ≤ d) : ∀ (n : Nat) (x1 : Int32) (x2 : Int32) (x3 : Int32) (S : AmT) (q : AmT), g198c102_2 F n x1 x2 x3 S = some q → Ex (am_X Lg xs) d 198 am_c198_2 [.ref 102, .int x1, .int x2, .int x3] [] (hS S) (none, hS q) := by
  intro n
  induction n with
  | zero =>
    intro x1 x2 x3 S q H
    cases H
  | succ n ih =>
    intro x1 x2 x3 S q H
    have H : (if x1 ≤ x3 then (some S) else (if x2 = 0 then (g198c102_19 F (fun x1 x2 x3 S => g198c102_2 F n x1 x2 x3 S) x1 x2 x3 (x1 + x3) S) else (g198c102_19 F (fun x1 x2 x3 S => g198c102_2 F n x1 x2 x3 S) x1 x2 x3 x3 S))) = some q := H
    refine ex_iload_n rfl ?_
    refine ex_iload_n rfl ?_
    by_cases h1 : x1 ≤ x3
    · rw [if_pos h1] at H
      refine ex_icmp_ge_j (ct := am_c198_39) h1 rfl ?_
      have H := Option.some.inj H
      subst H
      exact ex_vret (M := 198) rfl
    · rw [if_neg h1] at H
      refine ex_icmp_ge_f h1 ?_
      refine ex_aload_n rfl ?_
      refine ex_iload_n rfl ?_
      by_cases h2 : x2 = 0
      · rw [if_pos h2] at H
        refine ex_if_eq_j (ct := am_c198_16) h2 rfl ?_
        refine ex_iload_n rfl ?_
        refine ex_iload_n rfl ?_
        refine ex_iadd ?_
        exact e198c102_19 hd (fun x1 x2 x3 S q H => ih x1 x2 x3 S q H) H
      · rw [if_neg h2] at H
        refine ex_if_eq_f h2 ?_
        refine ex_iload_n rfl ?_
        refine ex_goto (ct := am_c198_19) rfl ?_
        exact e198c102_19 hd (fun x1 x2 x3 S q H => ih x1 x2 x3 S q H) H
set_option maxHeartbeats 1000000 in
set_option maxRecDepth 20000 in
theorem r198c102 {Lg : Nat} {xs : Nat → Int32} {d F : Nat} {x1 : Int32} {x2 : Int32} {S : AmT} {q : AmT} (hd : 0 ≤ d) (H : f198c102 F x1 x2 S = some q) : Ex (am_X Lg xs) d 198 (am_P 198) (am_ini (am_Mi 198).1 [.ref 102, .int x1, .int x2]) [] (hS S) (none, hS q) := by
  unfold f198c102 at H
  show Ex (am_X Lg xs) _ 198 am_c198_0 [.ref 102, .int x1, .int x2, .long 0] [] (hS S) (none, hS q)
  refine ex_iconst (v := 0) (by decide) ?_
  refine ex_istore_n (L2 := [.ref 102, .int x1, .int x2, .int 0]) (Nat.le_of_ble_eq_true rfl) rfl ?_
  exact e198c102_2 hd _ _ _ _ _ _ H
def g198c103_31 (F : Nat) (k2 : Int32 → Int32 → Int32 → AmT → Option AmT) (x1 : Int32) (x2 : Int32) (x3 : Int32) (s1 : Int32) (s3 : Int32) (S : AmT) : Option AmT := am_ck s3 32 (am_ck s1 32 (am_lt ((am_upI S.1 103 s1.toNatClampNeg (S.1 103 s3.toNatClampNeg), S.2) : AmT) fun S4 => k2 x1 x2 (x3 + 1) S4))
def g198c103_19 (F : Nat) (k2 : Int32 → Int32 → Int32 → AmT → Option AmT) (x1 : Int32) (x2 : Int32) (x3 : Int32) (s1 : Int32) (S : AmT) : Option AmT := if x2 = 0 then (g198c103_31 F k2 x1 x2 x3 s1 x3 S) else (g198c103_31 F k2 x1 x2 x3 s1 (x1 + x3) S)
def g198c103_2 (F : Nat) : Nat → Int32 → Int32 → Int32 → AmT → Option AmT
  | 0, _, _, _, _ => none
  | n + 1, x1, x2, x3, S => if x1 ≤ x3 then (some S) else (if x2 = 0 then (g198c103_19 F (fun x1 x2 x3 S => g198c103_2 F n x1 x2 x3 S) x1 x2 x3 (x1 + x3) S) else (g198c103_19 F (fun x1 x2 x3 S => g198c103_2 F n x1 x2 x3 S) x1 x2 x3 x3 S))
-- X10_keepRow
def f198c103 (F : Nat) (x1 : Int32) (x2 : Int32) (S : AmT) : Option AmT := g198c103_2 F F x1 x2 0 S
set_option maxHeartbeats 1000000 in
set_option maxRecDepth 20000 in
theorem e198c103_31 {Lg : Nat} {xs : Nat → Int32} {d F : Nat} {k2 : Int32 → Int32 → Int32 → AmT → Option AmT} {x1 : Int32} {x2 : Int32} {x3 : Int32} {s1 : Int32} {s3 : Int32} {S : AmT} {q : AmT} (hd : 0 ≤ d) (hk2 : ∀ (x1 : Int32) (x2 : Int32) (x3 : Int32) (S : AmT) (q : AmT), k2 x1 x2 x3 S = some q → Ex (am_X Lg xs) d 198 am_c198_2 [.ref 103, .int x1, .int x2, .int x3] [] (hS S) (none, hS q)) (H : g198c103_31 F k2 x1 x2 x3 s1 s3 S = some q) : Ex (am_X Lg xs) d 198 am_c198_31 [.ref 103, .int x1, .int x2, .int x3] [.int s3, .ref 103, .int s1, .ref 103] (hS S) (none, hS q) := by
  unfold g198c103_31 at H
  obtain ⟨hj, H⟩ := am_ck_el H
  refine ex_iald (k := 32) (v := S.1 103 s3.toNatClampNeg) rfl hj rfl ?_
  obtain ⟨hj, H⟩ := am_ck_el H
  refine ex_iast (k := 32) rfl rfl hj ?_
  generalize ((am_upI S.1 103 s1.toNatClampNeg (S.1 103 s3.toNatClampNeg), S.2) : AmT) = S4 at H ⊢
  have H := am_lt_el H
  refine ex_iinc (L2 := [.ref 103, .int x1, .int x2, .int (x3 + 1)]) (v := (x3 + 1)) rfl (Nat.le_of_ble_eq_true rfl) (congrArg (fun z => x3 + z) (by decide)) rfl ?_
  refine ex_goto (ct := am_c198_2) rfl ?_
  exact hk2 _ _ _ _ _ H
set_option maxHeartbeats 1000000 in
set_option maxRecDepth 20000 in
theorem e198c103_19 {Lg : Nat} {xs : Nat → Int32} {d F : Nat} {k2 : Int32 → Int32 → Int32 → AmT → Option AmT} {x1 : Int32} {x2 : Int32} {x3 : Int32} {s1 : Int32} {S : AmT} {q : AmT} (hd : 0 ≤ d) (hk2 : ∀ (x1 : Int32) (x2 : Int32) (x3 : Int32) (S : AmT) (q : AmT), k2 x1 x2 x3 S = some q → Ex (am_X Lg xs) d 198 am_c198_2 [.ref 103, .int x1, .int x2, .int x3] [] (hS S) (none, hS q)) (H : g198c103_19 F k2 x1 x2 x3 s1 S = some q) : Ex (am_X Lg xs) d 198 am_c198_19 [.ref 103, .int x1, .int x2, .int x3] [.int s1, .ref 103] (hS S) (none, hS q) := by
  unfold g198c103_19 at H
  refine ex_aload_n rfl ?_
  refine ex_iload_n rfl ?_
  by_cases h3 : x2 = 0
  · rw [if_pos h3] at H
    refine ex_if_eq_j (ct := am_c198_30) h3 rfl ?_
    refine ex_iload_n rfl ?_
    exact e198c103_31 hd hk2 H
  · rw [if_neg h3] at H
    refine ex_if_eq_f h3 ?_
    refine ex_iload_n rfl ?_
    refine ex_iload_n rfl ?_
    refine ex_iadd ?_
    refine ex_goto (ct := am_c198_31) rfl ?_
    exact e198c103_31 hd hk2 H
set_option maxHeartbeats 1000000 in
set_option maxRecDepth 20000 in
theorem e198c103_2 {Lg : Nat} {xs : Nat → Int32} {d F : Nat} (hd : 0 ≤ d) : ∀ (n : Nat) (x1 : Int32) (x2 : Int32) (x3 : Int32) (S : AmT) (q : AmT), g198c103_2 F n x1 x2 x3 S = some q → Ex (am_X Lg xs) d 198 am_c198_2 [.ref 103, .int x1, .int x2, .int x3] [] (hS S) (none, hS q) := by
  intro n
  induction n with
  | zero =>
    intro x1 x2 x3 S q H
    cases H
  | succ n ih =>
    intro x1 x2 x3 S q H
    have H : (if x1 ≤ x3 then (some S) else (if x2 = 0 then (g198c103_19 F (fun x1 x2 x3 S => g198c103_2 F n x1 x2 x3 S) x1 x2 x3 (x1 + x3) S) else (g198c103_19 F (fun x1 x2 x3 S => g198c103_2 F n x1 x2 x3 S) x1 x2 x3 x3 S))) = some q := H
    refine ex_iload_n rfl ?_
    refine ex_iload_n rfl ?_
    by_cases h1 : x1 ≤ x3
    · rw [if_pos h1] at H
      refine ex_icmp_ge_j (ct := am_c198_39) h1 rfl ?_
      have H := Option.some.inj H
      subst H
      exact ex_vret (M := 198) rfl
    · rw [if_neg h1] at H
      refine ex_icmp_ge_f h1 ?_
      refine ex_aload_n rfl ?_
      refine ex_iload_n rfl ?_
      by_cases h2 : x2 = 0
      · rw [if_pos h2] at H
        refine ex_if_eq_j (ct := am_c198_16) h2 rfl ?_
        refine ex_iload_n rfl ?_
        refine ex_iload_n rfl ?_
        refine ex_iadd ?_
        exact e198c103_19 hd (fun x1 x2 x3 S q H => ih x1 x2 x3 S q H) H
      · rw [if_neg h2] at H
        refine ex_if_eq_f h2 ?_
        refine ex_iload_n rfl ?_
        refine ex_goto (ct := am_c198_19) rfl ?_
        exact e198c103_19 hd (fun x1 x2 x3 S q H => ih x1 x2 x3 S q H) H
set_option maxHeartbeats 1000000 in
set_option maxRecDepth 20000 in
theorem r198c103 {Lg : Nat} {xs : Nat → Int32} {d F : Nat} {x1 : Int32} {x2 : Int32} {S : AmT} {q : AmT} (hd : 0 ≤ d) (H : f198c103 F x1 x2 S = some q) : Ex (am_X Lg xs) d 198 (am_P 198) (am_ini (am_Mi 198).1 [.ref 103, .int x1, .int x2]) [] (hS S) (none, hS q) := by
  unfold f198c103 at H
  show Ex (am_X Lg xs) _ 198 am_c198_0 [.ref 103, .int x1, .int x2, .long 0] [] (hS S) (none, hS q)
  refine ex_iconst (v := 0) (by decide) ?_
  refine ex_istore_n (L2 := [.ref 103, .int x1, .int x2, .int 0]) (Nat.le_of_ble_eq_true rfl) rfl ?_
  exact e198c103_2 hd _ _ _ _ _ _ H
def g198c104_31 (F : Nat) (k2 : Int32 → Int32 → Int32 → AmT → Option AmT) (x1 : Int32) (x2 : Int32) (x3 : Int32) (s1 : Int32) (s3 : Int32) (S : AmT) : Option AmT := am_ck s3 32 (am_ck s1 32 (am_lt ((am_upI S.1 104 s1.toNatClampNeg (S.1 104 s3.toNatClampNeg), S.2) : AmT) fun S4 => k2 x1 x2 (x3 + 1) S4))
def g198c104_19 (F : Nat) (k2 : Int32 → Int32 → Int32 → AmT → Option AmT) (x1 : Int32) (x2 : Int32) (x3 : Int32) (s1 : Int32) (S : AmT) : Option AmT := if x2 = 0 then (g198c104_31 F k2 x1 x2 x3 s1 x3 S) else (g198c104_31 F k2 x1 x2 x3 s1 (x1 + x3) S)
def g198c104_2 (F : Nat) : Nat → Int32 → Int32 → Int32 → AmT → Option AmT
  | 0, _, _, _, _ => none
  | n + 1, x1, x2, x3, S => if x1 ≤ x3 then (some S) else (if x2 = 0 then (g198c104_19 F (fun x1 x2 x3 S => g198c104_2 F n x1 x2 x3 S) x1 x2 x3 (x1 + x3) S) else (g198c104_19 F (fun x1 x2 x3 S => g198c104_2 F n x1 x2 x3 S) x1 x2 x3 x3 S))
-- X10_keepRow
def f198c104 (F : Nat) (x1 : Int32) (x2 : Int32) (S : AmT) : Option AmT := g198c104_2 F F x1 x2 0 S
set_option maxHeartbeats 1000000 in
set_option maxRecDepth 20000 in
theorem e198c104_31 {Lg : Nat} {xs : Nat → Int32} {d F : Nat} {k2 : Int32 → Int32 → Int32 → AmT → Option AmT} {x1 : Int32} {x2 : Int32} {x3 : Int32} {s1 : Int32} {s3 : Int32} {S : AmT} {q : AmT} (hd : 0 ≤ d) (hk2 : ∀ (x1 : Int32) (x2 : Int32) (x3 : Int32) (S : AmT) (q : AmT), k2 x1 x2 x3 S = some q → Ex (am_X Lg xs) d 198 am_c198_2 [.ref 104, .int x1, .int x2, .int x3] [] (hS S) (none, hS q)) (H : g198c104_31 F k2 x1 x2 x3 s1 s3 S = some q) : Ex (am_X Lg xs) d 198 am_c198_31 [.ref 104, .int x1, .int x2, .int x3] [.int s3, .ref 104, .int s1, .ref 104] (hS S) (none, hS q) := by
  unfold g198c104_31 at H
  obtain ⟨hj, H⟩ := am_ck_el H
  refine ex_iald (k := 32) (v := S.1 104 s3.toNatClampNeg) rfl hj rfl ?_
  obtain ⟨hj, H⟩ := am_ck_el H
  refine ex_iast (k := 32) rfl rfl hj ?_
  generalize ((am_upI S.1 104 s1.toNatClampNeg (S.1 104 s3.toNatClampNeg), S.2) : AmT) = S4 at H ⊢
  have H := am_lt_el H
  refine ex_iinc (L2 := [.ref 104, .int x1, .int x2, .int (x3 + 1)]) (v := (x3 + 1)) rfl (Nat.le_of_ble_eq_true rfl) (congrArg (fun z => x3 + z) (by decide)) rfl ?_
  refine ex_goto (ct := am_c198_2) rfl ?_
  exact hk2 _ _ _ _ _ H
set_option maxHeartbeats 1000000 in
set_option maxRecDepth 20000 in
theorem e198c104_19 {Lg : Nat} {xs : Nat → Int32} {d F : Nat} {k2 : Int32 → Int32 → Int32 → AmT → Option AmT} {x1 : Int32} {x2 : Int32} {x3 : Int32} {s1 : Int32} {S : AmT} {q : AmT} (hd : 0 ≤ d) (hk2 : ∀ (x1 : Int32) (x2 : Int32) (x3 : Int32) (S : AmT) (q : AmT), k2 x1 x2 x3 S = some q → Ex (am_X Lg xs) d 198 am_c198_2 [.ref 104, .int x1, .int x2, .int x3] [] (hS S) (none, hS q)) (H : g198c104_19 F k2 x1 x2 x3 s1 S = some q) : Ex (am_X Lg xs) d 198 am_c198_19 [.ref 104, .int x1, .int x2, .int x3] [.int s1, .ref 104] (hS S) (none, hS q) := by
  unfold g198c104_19 at H
  refine ex_aload_n rfl ?_
  refine ex_iload_n rfl ?_
  by_cases h3 : x2 = 0
  · rw [if_pos h3] at H
    refine ex_if_eq_j (ct := am_c198_30) h3 rfl ?_
    refine ex_iload_n rfl ?_
    exact e198c104_31 hd hk2 H
  · rw [if_neg h3] at H
    refine ex_if_eq_f h3 ?_
    refine ex_iload_n rfl ?_
    refine ex_iload_n rfl ?_
    refine ex_iadd ?_
    refine ex_goto (ct := am_c198_31) rfl ?_
    exact e198c104_31 hd hk2 H
set_option maxHeartbeats 1000000 in
set_option maxRecDepth 20000 in
theorem e198c104_2 {Lg : Nat} {xs : Nat → Int32} {d F : Nat} (hd : 0 ≤ d) : ∀ (n : Nat) (x1 : Int32) (x2 : Int32) (x3 : Int32) (S : AmT) (q : AmT), g198c104_2 F n x1 x2 x3 S = some q → Ex (am_X Lg xs) d 198 am_c198_2 [.ref 104, .int x1, .int x2, .int x3] [] (hS S) (none, hS q) := by
  intro n
  induction n with
  | zero =>
    intro x1 x2 x3 S q H
    cases H
  | succ n ih =>
    intro x1 x2 x3 S q H
    have H : (if x1 ≤ x3 then (some S) else (if x2 = 0 then (g198c104_19 F (fun x1 x2 x3 S => g198c104_2 F n x1 x2 x3 S) x1 x2 x3 (x1 + x3) S) else (g198c104_19 F (fun x1 x2 x3 S => g198c104_2 F n x1 x2 x3 S) x1 x2 x3 x3 S))) = some q := H
    refine ex_iload_n rfl ?_
    refine ex_iload_n rfl ?_
    by_cases h1 : x1 ≤ x3
    · rw [if_pos h1] at H
      refine ex_icmp_ge_j (ct := am_c198_39) h1 rfl ?_
      have H := Option.some.inj H
      subst H
      exact ex_vret (M := 198) rfl
    · rw [if_neg h1] at H
      refine ex_icmp_ge_f h1 ?_
      refine ex_aload_n rfl ?_
      refine ex_iload_n rfl ?_
      by_cases h2 : x2 = 0
      · rw [if_pos h2] at H
        refine ex_if_eq_j (ct := am_c198_16) h2 rfl ?_
        refine ex_iload_n rfl ?_
        refine ex_iload_n rfl ?_
        refine ex_iadd ?_
        exact e198c104_19 hd (fun x1 x2 x3 S q H => ih x1 x2 x3 S q H) H
      · rw [if_neg h2] at H
        refine ex_if_eq_f h2 ?_
        refine ex_iload_n rfl ?_
        refine ex_goto (ct := am_c198_19) rfl ?_
        exact e198c104_19 hd (fun x1 x2 x3 S q H => ih x1 x2 x3 S q H) H
set_option maxHeartbeats 1000000 in
set_option maxRecDepth 20000 in
theorem r198c104 {Lg : Nat} {xs : Nat → Int32} {d F : Nat} {x1 : Int32} {x2 : Int32} {S : AmT} {q : AmT} (hd : 0 ≤ d) (H : f198c104 F x1 x2 S = some q) : Ex (am_X Lg xs) d 198 (am_P 198) (am_ini (am_Mi 198).1 [.ref 104, .int x1, .int x2]) [] (hS S) (none, hS q) := by
  unfold f198c104 at H
  show Ex (am_X Lg xs) _ 198 am_c198_0 [.ref 104, .int x1, .int x2, .long 0] [] (hS S) (none, hS q)
  refine ex_iconst (v := 0) (by decide) ?_
  refine ex_istore_n (L2 := [.ref 104, .int x1, .int x2, .int 0]) (Nat.le_of_ble_eq_true rfl) rfl ?_
  exact e198c104_2 hd _ _ _ _ _ _ H
def g198c105_31 (F : Nat) (k2 : Int32 → Int32 → Int32 → AmT → Option AmT) (x1 : Int32) (x2 : Int32) (x3 : Int32) (s1 : Int32) (s3 : Int32) (S : AmT) : Option AmT := am_ck s3 32 (am_ck s1 32 (am_lt ((am_upI S.1 105 s1.toNatClampNeg (S.1 105 s3.toNatClampNeg), S.2) : AmT) fun S4 => k2 x1 x2 (x3 + 1) S4))
def g198c105_19 (F : Nat) (k2 : Int32 → Int32 → Int32 → AmT → Option AmT) (x1 : Int32) (x2 : Int32) (x3 : Int32) (s1 : Int32) (S : AmT) : Option AmT := if x2 = 0 then (g198c105_31 F k2 x1 x2 x3 s1 x3 S) else (g198c105_31 F k2 x1 x2 x3 s1 (x1 + x3) S)
def g198c105_2 (F : Nat) : Nat → Int32 → Int32 → Int32 → AmT → Option AmT
  | 0, _, _, _, _ => none
  | n + 1, x1, x2, x3, S => if x1 ≤ x3 then (some S) else (if x2 = 0 then (g198c105_19 F (fun x1 x2 x3 S => g198c105_2 F n x1 x2 x3 S) x1 x2 x3 (x1 + x3) S) else (g198c105_19 F (fun x1 x2 x3 S => g198c105_2 F n x1 x2 x3 S) x1 x2 x3 x3 S))
-- X10_keepRow
def f198c105 (F : Nat) (x1 : Int32) (x2 : Int32) (S : AmT) : Option AmT := g198c105_2 F F x1 x2 0 S
set_option maxHeartbeats 1000000 in
set_option maxRecDepth 20000 in
theorem e198c105_31 {Lg : Nat} {xs : Nat → Int32} {d F : Nat} {k2 : Int32 → Int32 → Int32 → AmT → Option AmT} {x1 : Int32} {x2 : Int32} {x3 : Int32} {s1 : Int32} {s3 : Int32} {S : AmT} {q : AmT} (hd : 0 ≤ d) (hk2 : ∀ (x1 : Int32) (x2 : Int32) (x3 : Int32) (S : AmT) (q : AmT), k2 x1 x2 x3 S = some q → Ex (am_X Lg xs) d 198 am_c198_2 [.ref 105, .int x1, .int x2, .int x3] [] (hS S) (none, hS q)) (H : g198c105_31 F k2 x1 x2 x3 s1 s3 S = some q) : Ex (am_X Lg xs) d 198 am_c198_31 [.ref 105, .int x1, .int x2, .int x3] [.int s3, .ref 105, .int s1, .ref 105] (hS S) (none, hS q) := by
  unfold g198c105_31 at H
  obtain ⟨hj, H⟩ := am_ck_el H
  refine ex_iald (k := 32) (v := S.1 105 s3.toNatClampNeg) rfl hj rfl ?_
  obtain ⟨hj, H⟩ := am_ck_el H
  refine ex_iast (k := 32) rfl rfl hj ?_
  generalize ((am_upI S.1 105 s1.toNatClampNeg (S.1 105 s3.toNatClampNeg), S.2) : AmT) = S4 at H ⊢
  have H := am_lt_el H
  refine ex_iinc (L2 := [.ref 105, .int x1, .int x2, .int (x3 + 1)]) (v := (x3 + 1)) rfl (Nat.le_of_ble_eq_true rfl) (congrArg (fun z => x3 + z) (by decide)) rfl ?_
  refine ex_goto (ct := am_c198_2) rfl ?_
  exact hk2 _ _ _ _ _ H
set_option maxHeartbeats 1000000 in
set_option maxRecDepth 20000 in
theorem e198c105_19 {Lg : Nat} {xs : Nat → Int32} {d F : Nat} {k2 : Int32 → Int32 → Int32 → AmT → Option AmT} {x1 : Int32} {x2 : Int32} {x3 : Int32} {s1 : Int32} {S : AmT} {q : AmT} (hd : 0 ≤ d) (hk2 : ∀ (x1 : Int32) (x2 : Int32) (x3 : Int32) (S : AmT) (q : AmT), k2 x1 x2 x3 S = some q → Ex (am_X Lg xs) d 198 am_c198_2 [.ref 105, .int x1, .int x2, .int x3] [] (hS S) (none, hS q)) (H : g198c105_19 F k2 x1 x2 x3 s1 S = some q) : Ex (am_X Lg xs) d 198 am_c198_19 [.ref 105, .int x1, .int x2, .int x3] [.int s1, .ref 105] (hS S) (none, hS q) := by
  unfold g198c105_19 at H
  refine ex_aload_n rfl ?_
  refine ex_iload_n rfl ?_
  by_cases h3 : x2 = 0
  · rw [if_pos h3] at H
    refine ex_if_eq_j (ct := am_c198_30) h3 rfl ?_
    refine ex_iload_n rfl ?_
    exact e198c105_31 hd hk2 H
  · rw [if_neg h3] at H
    refine ex_if_eq_f h3 ?_
    refine ex_iload_n rfl ?_
    refine ex_iload_n rfl ?_
    refine ex_iadd ?_
    refine ex_goto (ct := am_c198_31) rfl ?_
    exact e198c105_31 hd hk2 H
set_option maxHeartbeats 1000000 in
set_option maxRecDepth 20000 in
theorem e198c105_2 {Lg : Nat} {xs : Nat → Int32} {d F : Nat} (hd : 0 ≤ d) : ∀ (n : Nat) (x1 : Int32) (x2 : Int32) (x3 : Int32) (S : AmT) (q : AmT), g198c105_2 F n x1 x2 x3 S = some q → Ex (am_X Lg xs) d 198 am_c198_2 [.ref 105, .int x1, .int x2, .int x3] [] (hS S) (none, hS q) := by
  intro n
  induction n with
  | zero =>
    intro x1 x2 x3 S q H
    cases H
  | succ n ih =>
    intro x1 x2 x3 S q H
    have H : (if x1 ≤ x3 then (some S) else (if x2 = 0 then (g198c105_19 F (fun x1 x2 x3 S => g198c105_2 F n x1 x2 x3 S) x1 x2 x3 (x1 + x3) S) else (g198c105_19 F (fun x1 x2 x3 S => g198c105_2 F n x1 x2 x3 S) x1 x2 x3 x3 S))) = some q := H
    refine ex_iload_n rfl ?_
    refine ex_iload_n rfl ?_
    by_cases h1 : x1 ≤ x3
    · rw [if_pos h1] at H
      refine ex_icmp_ge_j (ct := am_c198_39) h1 rfl ?_
      have H := Option.some.inj H
      subst H
      exact ex_vret (M := 198) rfl
    · rw [if_neg h1] at H
      refine ex_icmp_ge_f h1 ?_
      refine ex_aload_n rfl ?_
      refine ex_iload_n rfl ?_
      by_cases h2 : x2 = 0
      · rw [if_pos h2] at H
        refine ex_if_eq_j (ct := am_c198_16) h2 rfl ?_
        refine ex_iload_n rfl ?_
        refine ex_iload_n rfl ?_
        refine ex_iadd ?_
        exact e198c105_19 hd (fun x1 x2 x3 S q H => ih x1 x2 x3 S q H) H
      · rw [if_neg h2] at H
        refine ex_if_eq_f h2 ?_
        refine ex_iload_n rfl ?_
        refine ex_goto (ct := am_c198_19) rfl ?_
        exact e198c105_19 hd (fun x1 x2 x3 S q H => ih x1 x2 x3 S q H) H
set_option maxHeartbeats 1000000 in
set_option maxRecDepth 20000 in
theorem r198c105 {Lg : Nat} {xs : Nat → Int32} {d F : Nat} {x1 : Int32} {x2 : Int32} {S : AmT} {q : AmT} (hd : 0 ≤ d) (H : f198c105 F x1 x2 S = some q) : Ex (am_X Lg xs) d 198 (am_P 198) (am_ini (am_Mi 198).1 [.ref 105, .int x1, .int x2]) [] (hS S) (none, hS q) := by
  unfold f198c105 at H
  show Ex (am_X Lg xs) _ 198 am_c198_0 [.ref 105, .int x1, .int x2, .long 0] [] (hS S) (none, hS q)
  refine ex_iconst (v := 0) (by decide) ?_
  refine ex_istore_n (L2 := [.ref 105, .int x1, .int x2, .int 0]) (Nat.le_of_ble_eq_true rfl) rfl ?_
  exact e198c105_2 hd _ _ _ _ _ _ H
def g198c106_31 (F : Nat) (k2 : Int32 → Int32 → Int32 → AmT → Option AmT) (x1 : Int32) (x2 : Int32) (x3 : Int32) (s1 : Int32) (s3 : Int32) (S : AmT) : Option AmT := am_ck s3 32 (am_ck s1 32 (am_lt ((am_upI S.1 106 s1.toNatClampNeg (S.1 106 s3.toNatClampNeg), S.2) : AmT) fun S4 => k2 x1 x2 (x3 + 1) S4))
def g198c106_19 (F : Nat) (k2 : Int32 → Int32 → Int32 → AmT → Option AmT) (x1 : Int32) (x2 : Int32) (x3 : Int32) (s1 : Int32) (S : AmT) : Option AmT := if x2 = 0 then (g198c106_31 F k2 x1 x2 x3 s1 x3 S) else (g198c106_31 F k2 x1 x2 x3 s1 (x1 + x3) S)
def g198c106_2 (F : Nat) : Nat → Int32 → Int32 → Int32 → AmT → Option AmT
  | 0, _, _, _, _ => none
  | n + 1, x1, x2, x3, S => if x1 ≤ x3 then (some S) else (if x2 = 0 then (g198c106_19 F (fun x1 x2 x3 S => g198c106_2 F n x1 x2 x3 S) x1 x2 x3 (x1 + x3) S) else (g198c106_19 F (fun x1 x2 x3 S => g198c106_2 F n x1 x2 x3 S) x1 x2 x3 x3 S))
-- X10_keepRow
def f198c106 (F : Nat) (x1 : Int32) (x2 : Int32) (S : AmT) : Option AmT := g198c106_2 F F x1 x2 0 S
set_option maxHeartbeats 1000000 in
set_option maxRecDepth 20000 in
theorem e198c106_31 {Lg : Nat} {xs : Nat → Int32} {d F : Nat} {k2 : Int32 → Int32 → Int32 → AmT → Option AmT} {x1 : Int32} {x2 : Int32} {x3 : Int32} {s1 : Int32} {s3 : Int32} {S : AmT} {q : AmT} (hd : 0 ≤ d) (hk2 : ∀ (x1 : Int32) (x2 : Int32) (x3 : Int32) (S : AmT) (q : AmT), k2 x1 x2 x3 S = some q → Ex (am_X Lg xs) d 198 am_c198_2 [.ref 106, .int x1, .int x2, .int x3] [] (hS S) (none, hS q)) (H : g198c106_31 F k2 x1 x2 x3 s1 s3 S = some q) : Ex (am_X Lg xs) d 198 am_c198_31 [.ref 106, .int x1, .int x2, .int x3] [.int s3, .ref 106, .int s1, .ref 106] (hS S) (none, hS q) := by
  unfold g198c106_31 at H
  obtain ⟨hj, H⟩ := am_ck_el H
  refine ex_iald (k := 32) (v := S.1 106 s3.toNatClampNeg) rfl hj rfl ?_
  obtain ⟨hj, H⟩ := am_ck_el H
  refine ex_iast (k := 32) rfl rfl hj ?_
  generalize ((am_upI S.1 106 s1.toNatClampNeg (S.1 106 s3.toNatClampNeg), S.2) : AmT) = S4 at H ⊢
  have H := am_lt_el H
  refine ex_iinc (L2 := [.ref 106, .int x1, .int x2, .int (x3 + 1)]) (v := (x3 + 1)) rfl (Nat.le_of_ble_eq_true rfl) (congrArg (fun z => x3 + z) (by decide)) rfl ?_
  refine ex_goto (ct := am_c198_2) rfl ?_
  exact hk2 _ _ _ _ _ H
set_option maxHeartbeats 1000000 in
set_option maxRecDepth 20000 in
theorem e198c106_19 {Lg : Nat} {xs : Nat → Int32} {d F : Nat} {k2 : Int32 → Int32 → Int32 → AmT → Option AmT} {x1 : Int32} {x2 : Int32} {x3 : Int32} {s1 : Int32} {S : AmT} {q : AmT} (hd : 0 ≤ d) (hk2 : ∀ (x1 : Int32) (x2 : Int32) (x3 : Int32) (S : AmT) (q : AmT), k2 x1 x2 x3 S = some q → Ex (am_X Lg xs) d 198 am_c198_2 [.ref 106, .int x1, .int x2, .int x3] [] (hS S) (none, hS q)) (H : g198c106_19 F k2 x1 x2 x3 s1 S = some q) : Ex (am_X Lg xs) d 198 am_c198_19 [.ref 106, .int x1, .int x2, .int x3] [.int s1, .ref 106] (hS S) (none, hS q) := by
  unfold g198c106_19 at H
  refine ex_aload_n rfl ?_
  refine ex_iload_n rfl ?_
  by_cases h3 : x2 = 0
  · rw [if_pos h3] at H
    refine ex_if_eq_j (ct := am_c198_30) h3 rfl ?_
    refine ex_iload_n rfl ?_
    exact e198c106_31 hd hk2 H
  · rw [if_neg h3] at H
    refine ex_if_eq_f h3 ?_
    refine ex_iload_n rfl ?_
    refine ex_iload_n rfl ?_
    refine ex_iadd ?_
    refine ex_goto (ct := am_c198_31) rfl ?_
    exact e198c106_31 hd hk2 H
set_option maxHeartbeats 1000000 in
set_option maxRecDepth 20000 in
theorem e198c106_2 {Lg : Nat} {xs : Nat → Int32} {d F : Nat} (hd : 0 ≤ d) : ∀ (n : Nat) (x1 : Int32) (x2 : Int32) (x3 : Int32) (S : AmT) (q : AmT), g198c106_2 F n x1 x2 x3 S = some q → Ex (am_X Lg xs) d 198 am_c198_2 [.ref 106, .int x1, .int x2, .int x3] [] (hS S) (none, hS q) := by
  intro n
  induction n with
  | zero =>
    intro x1 x2 x3 S q H
    cases H
  | succ n ih =>
    intro x1 x2 x3 S q H
    have H : (if x1 ≤ x3 then (some S) else (if x2 = 0 then (g198c106_19 F (fun x1 x2 x3 S => g198c106_2 F n x1 x2 x3 S) x1 x2 x3 (x1 + x3) S) else (g198c106_19 F (fun x1 x2 x3 S => g198c106_2 F n x1 x2 x3 S) x1 x2 x3 x3 S))) = some q := H
    refine ex_iload_n rfl ?_
    refine ex_iload_n rfl ?_
    by_cases h1 : x1 ≤ x3
    · rw [if_pos h1] at H
      refine ex_icmp_ge_j (ct := am_c198_39) h1 rfl ?_
      have H := Option.some.inj H
      subst H
      exact ex_vret (M := 198) rfl
    · rw [if_neg h1] at H
      refine ex_icmp_ge_f h1 ?_
      refine ex_aload_n rfl ?_
      refine ex_iload_n rfl ?_
      by_cases h2 : x2 = 0
      · rw [if_pos h2] at H
        refine ex_if_eq_j (ct := am_c198_16) h2 rfl ?_
        refine ex_iload_n rfl ?_
        refine ex_iload_n rfl ?_
        refine ex_iadd ?_
        exact e198c106_19 hd (fun x1 x2 x3 S q H => ih x1 x2 x3 S q H) H
      · rw [if_neg h2] at H
        refine ex_if_eq_f h2 ?_
        refine ex_iload_n rfl ?_
        refine ex_goto (ct := am_c198_19) rfl ?_
        exact e198c106_19 hd (fun x1 x2 x3 S q H => ih x1 x2 x3 S q H) H
set_option maxHeartbeats 1000000 in
set_option maxRecDepth 20000 in
theorem r198c106 {Lg : Nat} {xs : Nat → Int32} {d F : Nat} {x1 : Int32} {x2 : Int32} {S : AmT} {q : AmT} (hd : 0 ≤ d) (H : f198c106 F x1 x2 S = some q) : Ex (am_X Lg xs) d 198 (am_P 198) (am_ini (am_Mi 198).1 [.ref 106, .int x1, .int x2]) [] (hS S) (none, hS q) := by
  unfold f198c106 at H
  show Ex (am_X Lg xs) _ 198 am_c198_0 [.ref 106, .int x1, .int x2, .long 0] [] (hS S) (none, hS q)
  refine ex_iconst (v := 0) (by decide) ?_
  refine ex_istore_n (L2 := [.ref 106, .int x1, .int x2, .int 0]) (Nat.le_of_ble_eq_true rfl) rfl ?_
  exact e198c106_2 hd _ _ _ _ _ _ H
def g198c107_31 (F : Nat) (k2 : Int32 → Int32 → Int32 → AmT → Option AmT) (x1 : Int32) (x2 : Int32) (x3 : Int32) (s1 : Int32) (s3 : Int32) (S : AmT) : Option AmT := am_ck s3 32 (am_ck s1 32 (am_lt ((am_upI S.1 107 s1.toNatClampNeg (S.1 107 s3.toNatClampNeg), S.2) : AmT) fun S4 => k2 x1 x2 (x3 + 1) S4))
def g198c107_19 (F : Nat) (k2 : Int32 → Int32 → Int32 → AmT → Option AmT) (x1 : Int32) (x2 : Int32) (x3 : Int32) (s1 : Int32) (S : AmT) : Option AmT := if x2 = 0 then (g198c107_31 F k2 x1 x2 x3 s1 x3 S) else (g198c107_31 F k2 x1 x2 x3 s1 (x1 + x3) S)
def g198c107_2 (F : Nat) : Nat → Int32 → Int32 → Int32 → AmT → Option AmT
  | 0, _, _, _, _ => none
  | n + 1, x1, x2, x3, S => if x1 ≤ x3 then (some S) else (if x2 = 0 then (g198c107_19 F (fun x1 x2 x3 S => g198c107_2 F n x1 x2 x3 S) x1 x2 x3 (x1 + x3) S) else (g198c107_19 F (fun x1 x2 x3 S => g198c107_2 F n x1 x2 x3 S) x1 x2 x3 x3 S))
-- X10_keepRow
def f198c107 (F : Nat) (x1 : Int32) (x2 : Int32) (S : AmT) : Option AmT := g198c107_2 F F x1 x2 0 S
set_option maxHeartbeats 1000000 in
set_option maxRecDepth 20000 in
theorem e198c107_31 {Lg : Nat} {xs : Nat → Int32} {d F : Nat} {k2 : Int32 → Int32 → Int32 → AmT → Option AmT} {x1 : Int32} {x2 : Int32} {x3 : Int32} {s1 : Int32} {s3 : Int32} {S : AmT} {q : AmT} (hd : 0 ≤ d) (hk2 : ∀ (x1 : Int32) (x2 : Int32) (x3 : Int32) (S : AmT) (q : AmT), k2 x1 x2 x3 S = some q → Ex (am_X Lg xs) d 198 am_c198_2 [.ref 107, .int x1, .int x2, .int x3] [] (hS S) (none, hS q)) (H : g198c107_31 F k2 x1 x2 x3 s1 s3 S = some q) : Ex (am_X Lg xs) d 198 am_c198_31 [.ref 107, .int x1, .int x2, .int x3] [.int s3, .ref 107, .int s1, .ref 107] (hS S) (none, hS q) := by
  unfold g198c107_31 at H
  obtain ⟨hj, H⟩ := am_ck_el H
  refine ex_iald (k := 32) (v := S.1 107 s3.toNatClampNeg) rfl hj rfl ?_
  obtain ⟨hj, H⟩ := am_ck_el H
  refine ex_iast (k := 32) rfl rfl hj ?_
  generalize ((am_upI S.1 107 s1.toNatClampNeg (S.1 107 s3.toNatClampNeg), S.2) : AmT) = S4 at H ⊢
  have H := am_lt_el H
  refine ex_iinc (L2 := [.ref 107, .int x1, .int x2, .int (x3 + 1)]) (v := (x3 + 1)) rfl (Nat.le_of_ble_eq_true rfl) (congrArg (fun z => x3 + z) (by decide)) rfl ?_
  refine ex_goto (ct := am_c198_2) rfl ?_
  exact hk2 _ _ _ _ _ H
set_option maxHeartbeats 1000000 in
set_option maxRecDepth 20000 in
theorem e198c107_19 {Lg : Nat} {xs : Nat → Int32} {d F : Nat} {k2 : Int32 → Int32 → Int32 → AmT → Option AmT} {x1 : Int32} {x2 : Int32} {x3 : Int32} {s1 : Int32} {S : AmT} {q : AmT} (hd : 0 ≤ d) (hk2 : ∀ (x1 : Int32) (x2 : Int32) (x3 : Int32) (S : AmT) (q : AmT), k2 x1 x2 x3 S = some q → Ex (am_X Lg xs) d 198 am_c198_2 [.ref 107, .int x1, .int x2, .int x3] [] (hS S) (none, hS q)) (H : g198c107_19 F k2 x1 x2 x3 s1 S = some q) : Ex (am_X Lg xs) d 198 am_c198_19 [.ref 107, .int x1, .int x2, .int x3] [.int s1, .ref 107] (hS S) (none, hS q) := by
  unfold g198c107_19 at H
  refine ex_aload_n rfl ?_
  refine ex_iload_n rfl ?_
  by_cases h3 : x2 = 0
  · rw [if_pos h3] at H
    refine ex_if_eq_j (ct := am_c198_30) h3 rfl ?_
    refine ex_iload_n rfl ?_
    exact e198c107_31 hd hk2 H
  · rw [if_neg h3] at H
    refine ex_if_eq_f h3 ?_
    refine ex_iload_n rfl ?_
    refine ex_iload_n rfl ?_
    refine ex_iadd ?_
    refine ex_goto (ct := am_c198_31) rfl ?_
    exact e198c107_31 hd hk2 H
set_option maxHeartbeats 1000000 in
set_option maxRecDepth 20000 in
theorem e198c107_2 {Lg : Nat} {xs : Nat → Int32} {d F : Nat} (hd : 0 ≤ d) : ∀ (n : Nat) (x1 : Int32) (x2 : Int32) (x3 : Int32) (S : AmT) (q : AmT), g198c107_2 F n x1 x2 x3 S = some q → Ex (am_X Lg xs) d 198 am_c198_2 [.ref 107, .int x1, .int x2, .int x3] [] (hS S) (none, hS q) := by
  intro n
  induction n with
  | zero =>
    intro x1 x2 x3 S q H
    cases H
  | succ n ih =>
    intro x1 x2 x3 S q H
    have H : (if x1 ≤ x3 then (some S) else (if x2 = 0 then (g198c107_19 F (fun x1 x2 x3 S => g198c107_2 F n x1 x2 x3 S) x1 x2 x3 (x1 + x3) S) else (g198c107_19 F (fun x1 x2 x3 S => g198c107_2 F n x1 x2 x3 S) x1 x2 x3 x3 S))) = some q := H
    refine ex_iload_n rfl ?_
    refine ex_iload_n rfl ?_
    by_cases h1 : x1 ≤ x3
    · rw [if_pos h1] at H
      refine ex_icmp_ge_j (ct := am_c198_39) h1 rfl ?_
      have H := Option.some.inj H
      subst H
      exact ex_vret (M := 198) rfl
    · rw [if_neg h1] at H
      refine ex_icmp_ge_f h1 ?_
      refine ex_aload_n rfl ?_
      refine ex_iload_n rfl ?_
      by_cases h2 : x2 = 0
      · rw [if_pos h2] at H
        refine ex_if_eq_j (ct := am_c198_16) h2 rfl ?_
        refine ex_iload_n rfl ?_
        refine ex_iload_n rfl ?_
        refine ex_iadd ?_
        exact e198c107_19 hd (fun x1 x2 x3 S q H => ih x1 x2 x3 S q H) H
      · rw [if_neg h2] at H
        refine ex_if_eq_f h2 ?_
        refine ex_iload_n rfl ?_
        refine ex_goto (ct := am_c198_19) rfl ?_
        exact e198c107_19 hd (fun x1 x2 x3 S q H => ih x1 x2 x3 S q H) H
set_option maxHeartbeats 1000000 in
set_option maxRecDepth 20000 in
theorem r198c107 {Lg : Nat} {xs : Nat → Int32} {d F : Nat} {x1 : Int32} {x2 : Int32} {S : AmT} {q : AmT} (hd : 0 ≤ d) (H : f198c107 F x1 x2 S = some q) : Ex (am_X Lg xs) d 198 (am_P 198) (am_ini (am_Mi 198).1 [.ref 107, .int x1, .int x2]) [] (hS S) (none, hS q) := by
  unfold f198c107 at H
  show Ex (am_X Lg xs) _ 198 am_c198_0 [.ref 107, .int x1, .int x2, .long 0] [] (hS S) (none, hS q)
  refine ex_iconst (v := 0) (by decide) ?_
  refine ex_istore_n (L2 := [.ref 107, .int x1, .int x2, .int 0]) (Nat.le_of_ble_eq_true rfl) rfl ?_
  exact e198c107_2 hd _ _ _ _ _ _ H
def g198c108_31 (F : Nat) (k2 : Int32 → Int32 → Int32 → AmT → Option AmT) (x1 : Int32) (x2 : Int32) (x3 : Int32) (s1 : Int32) (s3 : Int32) (S : AmT) : Option AmT := am_ck s3 16 (am_ck s1 16 (am_lt ((am_upI S.1 108 s1.toNatClampNeg (S.1 108 s3.toNatClampNeg), S.2) : AmT) fun S4 => k2 x1 x2 (x3 + 1) S4))
def g198c108_19 (F : Nat) (k2 : Int32 → Int32 → Int32 → AmT → Option AmT) (x1 : Int32) (x2 : Int32) (x3 : Int32) (s1 : Int32) (S : AmT) : Option AmT := if x2 = 0 then (g198c108_31 F k2 x1 x2 x3 s1 x3 S) else (g198c108_31 F k2 x1 x2 x3 s1 (x1 + x3) S)
def g198c108_2 (F : Nat) : Nat → Int32 → Int32 → Int32 → AmT → Option AmT
  | 0, _, _, _, _ => none
  | n + 1, x1, x2, x3, S => if x1 ≤ x3 then (some S) else (if x2 = 0 then (g198c108_19 F (fun x1 x2 x3 S => g198c108_2 F n x1 x2 x3 S) x1 x2 x3 (x1 + x3) S) else (g198c108_19 F (fun x1 x2 x3 S => g198c108_2 F n x1 x2 x3 S) x1 x2 x3 x3 S))
-- X10_keepRow
def f198c108 (F : Nat) (x1 : Int32) (x2 : Int32) (S : AmT) : Option AmT := g198c108_2 F F x1 x2 0 S
set_option maxHeartbeats 1000000 in
set_option maxRecDepth 20000 in
theorem e198c108_31 {Lg : Nat} {xs : Nat → Int32} {d F : Nat} {k2 : Int32 → Int32 → Int32 → AmT → Option AmT} {x1 : Int32} {x2 : Int32} {x3 : Int32} {s1 : Int32} {s3 : Int32} {S : AmT} {q : AmT} (hd : 0 ≤ d) (hk2 : ∀ (x1 : Int32) (x2 : Int32) (x3 : Int32) (S : AmT) (q : AmT), k2 x1 x2 x3 S = some q → Ex (am_X Lg xs) d 198 am_c198_2 [.ref 108, .int x1, .int x2, .int x3] [] (hS S) (none, hS q)) (H : g198c108_31 F k2 x1 x2 x3 s1 s3 S = some q) : Ex (am_X Lg xs) d 198 am_c198_31 [.ref 108, .int x1, .int x2, .int x3] [.int s3, .ref 108, .int s1, .ref 108] (hS S) (none, hS q) := by
  unfold g198c108_31 at H
  obtain ⟨hj, H⟩ := am_ck_el H
  refine ex_iald (k := 16) (v := S.1 108 s3.toNatClampNeg) rfl hj rfl ?_
  obtain ⟨hj, H⟩ := am_ck_el H
  refine ex_iast (k := 16) rfl rfl hj ?_
  generalize ((am_upI S.1 108 s1.toNatClampNeg (S.1 108 s3.toNatClampNeg), S.2) : AmT) = S4 at H ⊢
  have H := am_lt_el H
  refine ex_iinc (L2 := [.ref 108, .int x1, .int x2, .int (x3 + 1)]) (v := (x3 + 1)) rfl (Nat.le_of_ble_eq_true rfl) (congrArg (fun z => x3 + z) (by decide)) rfl ?_
  refine ex_goto (ct := am_c198_2) rfl ?_
  exact hk2 _ _ _ _ _ H
set_option maxHeartbeats 1000000 in
set_option maxRecDepth 20000 in
theorem e198c108_19 {Lg : Nat} {xs : Nat → Int32} {d F : Nat} {k2 : Int32 → Int32 → Int32 → AmT → Option AmT} {x1 : Int32} {x2 : Int32} {x3 : Int32} {s1 : Int32} {S : AmT} {q : AmT} (hd : 0 ≤ d) (hk2 : ∀ (x1 : Int32) (x2 : Int32) (x3 : Int32) (S : AmT) (q : AmT), k2 x1 x2 x3 S = some q → Ex (am_X Lg xs) d 198 am_c198_2 [.ref 108, .int x1, .int x2, .int x3] [] (hS S) (none, hS q)) (H : g198c108_19 F k2 x1 x2 x3 s1 S = some q) : Ex (am_X Lg xs) d 198 am_c198_19 [.ref 108, .int x1, .int x2, .int x3] [.int s1, .ref 108] (hS S) (none, hS q) := by
  unfold g198c108_19 at H
  refine ex_aload_n rfl ?_
  refine ex_iload_n rfl ?_
  by_cases h3 : x2 = 0
  · rw [if_pos h3] at H
    refine ex_if_eq_j (ct := am_c198_30) h3 rfl ?_
    refine ex_iload_n rfl ?_
    exact e198c108_31 hd hk2 H
  · rw [if_neg h3] at H
    refine ex_if_eq_f h3 ?_
    refine ex_iload_n rfl ?_
    refine ex_iload_n rfl ?_
    refine ex_iadd ?_
    refine ex_goto (ct := am_c198_31) rfl ?_
    exact e198c108_31 hd hk2 H
set_option maxHeartbeats 1000000 in
set_option maxRecDepth 20000 in
theorem e198c108_2 {Lg : Nat} {xs : Nat → Int32} {d F : Nat} (hd : 0 ≤ d) : ∀ (n : Nat) (x1 : Int32) (x2 : Int32) (x3 : Int32) (S : AmT) (q : AmT), g198c108_2 F n x1 x2 x3 S = some q → Ex (am_X Lg xs) d 198 am_c198_2 [.ref 108, .int x1, .int x2, .int x3] [] (hS S) (none, hS q) := by
  intro n
  induction n with
  | zero =>
    intro x1 x2 x3 S q H
    cases H
  | succ n ih =>
    intro x1 x2 x3 S q H
    have H : (if x1 ≤ x3 then (some S) else (if x2 = 0 then (g198c108_19 F (fun x1 x2 x3 S => g198c108_2 F n x1 x2 x3 S) x1 x2 x3 (x1 + x3) S) else (g198c108_19 F (fun x1 x2 x3 S => g198c108_2 F n x1 x2 x3 S) x1 x2 x3 x3 S))) = some q := H
    refine ex_iload_n rfl ?_
    refine ex_iload_n rfl ?_
    by_cases h1 : x1 ≤ x3
    · rw [if_pos h1] at H
      refine ex_icmp_ge_j (ct := am_c198_39) h1 rfl ?_
      have H := Option.some.inj H
      subst H
      exact ex_vret (M := 198) rfl
    · rw [if_neg h1] at H
      refine ex_icmp_ge_f h1 ?_
      refine ex_aload_n rfl ?_
      refine ex_iload_n rfl ?_
      by_cases h2 : x2 = 0
      · rw [if_pos h2] at H
        refine ex_if_eq_j (ct := am_c198_16) h2 rfl ?_
        refine ex_iload_n rfl ?_
        refine ex_iload_n rfl ?_
        refine ex_iadd ?_
        exact e198c108_19 hd (fun x1 x2 x3 S q H => ih x1 x2 x3 S q H) H
      · rw [if_neg h2] at H
        refine ex_if_eq_f h2 ?_
        refine ex_iload_n rfl ?_
        refine ex_goto (ct := am_c198_19) rfl ?_
        exact e198c108_19 hd (fun x1 x2 x3 S q H => ih x1 x2 x3 S q H) H
set_option maxHeartbeats 1000000 in
set_option maxRecDepth 20000 in
theorem r198c108 {Lg : Nat} {xs : Nat → Int32} {d F : Nat} {x1 : Int32} {x2 : Int32} {S : AmT} {q : AmT} (hd : 0 ≤ d) (H : f198c108 F x1 x2 S = some q) : Ex (am_X Lg xs) d 198 (am_P 198) (am_ini (am_Mi 198).1 [.ref 108, .int x1, .int x2]) [] (hS S) (none, hS q) := by
  unfold f198c108 at H
  show Ex (am_X Lg xs) _ 198 am_c198_0 [.ref 108, .int x1, .int x2, .long 0] [] (hS S) (none, hS q)
  refine ex_iconst (v := 0) (by decide) ?_
  refine ex_istore_n (L2 := [.ref 108, .int x1, .int x2, .int 0]) (Nat.le_of_ble_eq_true rfl) rfl ?_
  exact e198c108_2 hd _ _ _ _ _ _ H
def g198c109_31 (F : Nat) (k2 : Int32 → Int32 → Int32 → AmT → Option AmT) (x1 : Int32) (x2 : Int32) (x3 : Int32) (s1 : Int32) (s3 : Int32) (S : AmT) : Option AmT := am_ck s3 16 (am_ck s1 16 (am_lt ((am_upI S.1 109 s1.toNatClampNeg (S.1 109 s3.toNatClampNeg), S.2) : AmT) fun S4 => k2 x1 x2 (x3 + 1) S4))
def g198c109_19 (F : Nat) (k2 : Int32 → Int32 → Int32 → AmT → Option AmT) (x1 : Int32) (x2 : Int32) (x3 : Int32) (s1 : Int32) (S : AmT) : Option AmT := if x2 = 0 then (g198c109_31 F k2 x1 x2 x3 s1 x3 S) else (g198c109_31 F k2 x1 x2 x3 s1 (x1 + x3) S)
def g198c109_2 (F : Nat) : Nat → Int32 → Int32 → Int32 → AmT → Option AmT
  | 0, _, _, _, _ => none
  | n + 1, x1, x2, x3, S => if x1 ≤ x3 then (some S) else (if x2 = 0 then (g198c109_19 F (fun x1 x2 x3 S => g198c109_2 F n x1 x2 x3 S) x1 x2 x3 (x1 + x3) S) else (g198c109_19 F (fun x1 x2 x3 S => g198c109_2 F n x1 x2 x3 S) x1 x2 x3 x3 S))
-- X10_keepRow
def f198c109 (F : Nat) (x1 : Int32) (x2 : Int32) (S : AmT) : Option AmT := g198c109_2 F F x1 x2 0 S
set_option maxHeartbeats 1000000 in
set_option maxRecDepth 20000 in
theorem e198c109_31 {Lg : Nat} {xs : Nat → Int32} {d F : Nat} {k2 : Int32 → Int32 → Int32 → AmT → Option AmT} {x1 : Int32} {x2 : Int32} {x3 : Int32} {s1 : Int32} {s3 : Int32} {S : AmT} {q : AmT} (hd : 0 ≤ d) (hk2 : ∀ (x1 : Int32) (x2 : Int32) (x3 : Int32) (S : AmT) (q : AmT), k2 x1 x2 x3 S = some q → Ex (am_X Lg xs) d 198 am_c198_2 [.ref 109, .int x1, .int x2, .int x3] [] (hS S) (none, hS q)) (H : g198c109_31 F k2 x1 x2 x3 s1 s3 S = some q) : Ex (am_X Lg xs) d 198 am_c198_31 [.ref 109, .int x1, .int x2, .int x3] [.int s3, .ref 109, .int s1, .ref 109] (hS S) (none, hS q) := by
  unfold g198c109_31 at H
  obtain ⟨hj, H⟩ := am_ck_el H
  refine ex_iald (k := 16) (v := S.1 109 s3.toNatClampNeg) rfl hj rfl ?_
  obtain ⟨hj, H⟩ := am_ck_el H
  refine ex_iast (k := 16) rfl rfl hj ?_
  generalize ((am_upI S.1 109 s1.toNatClampNeg (S.1 109 s3.toNatClampNeg), S.2) : AmT) = S4 at H ⊢
  have H := am_lt_el H
  refine ex_iinc (L2 := [.ref 109, .int x1, .int x2, .int (x3 + 1)]) (v := (x3 + 1)) rfl (Nat.le_of_ble_eq_true rfl) (congrArg (fun z => x3 + z) (by decide)) rfl ?_
  refine ex_goto (ct := am_c198_2) rfl ?_
  exact hk2 _ _ _ _ _ H
set_option maxHeartbeats 1000000 in
set_option maxRecDepth 20000 in
theorem e198c109_19 {Lg : Nat} {xs : Nat → Int32} {d F : Nat} {k2 : Int32 → Int32 → Int32 → AmT → Option AmT} {x1 : Int32} {x2 : Int32} {x3 : Int32} {s1 : Int32} {S : AmT} {q : AmT} (hd : 0 ≤ d) (hk2 : ∀ (x1 : Int32) (x2 : Int32) (x3 : Int32) (S : AmT) (q : AmT), k2 x1 x2 x3 S = some q → Ex (am_X Lg xs) d 198 am_c198_2 [.ref 109, .int x1, .int x2, .int x3] [] (hS S) (none, hS q)) (H : g198c109_19 F k2 x1 x2 x3 s1 S = some q) : Ex (am_X Lg xs) d 198 am_c198_19 [.ref 109, .int x1, .int x2, .int x3] [.int s1, .ref 109] (hS S) (none, hS q) := by
  unfold g198c109_19 at H
  refine ex_aload_n rfl ?_
  refine ex_iload_n rfl ?_
  by_cases h3 : x2 = 0
  · rw [if_pos h3] at H
    refine ex_if_eq_j (ct := am_c198_30) h3 rfl ?_
    refine ex_iload_n rfl ?_
    exact e198c109_31 hd hk2 H
  · rw [if_neg h3] at H
    refine ex_if_eq_f h3 ?_
    refine ex_iload_n rfl ?_
    refine ex_iload_n rfl ?_
    refine ex_iadd ?_
    refine ex_goto (ct := am_c198_31) rfl ?_
    exact e198c109_31 hd hk2 H
set_option maxHeartbeats 1000000 in
set_option maxRecDepth 20000 in
theorem e198c109_2 {Lg : Nat} {xs : Nat → Int32} {d F : Nat} (hd : 0 ≤ d) : ∀ (n : Nat) (x1 : Int32) (x2 : Int32) (x3 : Int32) (S : AmT) (q : AmT), g198c109_2 F n x1 x2 x3 S = some q → Ex (am_X Lg xs) d 198 am_c198_2 [.ref 109, .int x1, .int x2, .int x3] [] (hS S) (none, hS q) := by
  intro n
  induction n with
  | zero =>
    intro x1 x2 x3 S q H
    cases H
  | succ n ih =>
    intro x1 x2 x3 S q H
    have H : (if x1 ≤ x3 then (some S) else (if x2 = 0 then (g198c109_19 F (fun x1 x2 x3 S => g198c109_2 F n x1 x2 x3 S) x1 x2 x3 (x1 + x3) S) else (g198c109_19 F (fun x1 x2 x3 S => g198c109_2 F n x1 x2 x3 S) x1 x2 x3 x3 S))) = some q := H
    refine ex_iload_n rfl ?_
    refine ex_iload_n rfl ?_
    by_cases h1 : x1 ≤ x3
    · rw [if_pos h1] at H
      refine ex_icmp_ge_j (ct := am_c198_39) h1 rfl ?_
      have H := Option.some.inj H
      subst H
      exact ex_vret (M := 198) rfl
    · rw [if_neg h1] at H
      refine ex_icmp_ge_f h1 ?_
      refine ex_aload_n rfl ?_
      refine ex_iload_n rfl ?_
      by_cases h2 : x2 = 0
      · rw [if_pos h2] at H
        refine ex_if_eq_j (ct := am_c198_16) h2 rfl ?_
        refine ex_iload_n rfl ?_
        refine ex_iload_n rfl ?_
        refine ex_iadd ?_
        exact e198c109_19 hd (fun x1 x2 x3 S q H => ih x1 x2 x3 S q H) H
      · rw [if_neg h2] at H
        refine ex_if_eq_f h2 ?_
        refine ex_iload_n rfl ?_
        refine ex_goto (ct := am_c198_19) rfl ?_
        exact e198c109_19 hd (fun x1 x2 x3 S q H => ih x1 x2 x3 S q H) H
set_option maxHeartbeats 1000000 in
set_option maxRecDepth 20000 in
theorem r198c109 {Lg : Nat} {xs : Nat → Int32} {d F : Nat} {x1 : Int32} {x2 : Int32} {S : AmT} {q : AmT} (hd : 0 ≤ d) (H : f198c109 F x1 x2 S = some q) : Ex (am_X Lg xs) d 198 (am_P 198) (am_ini (am_Mi 198).1 [.ref 109, .int x1, .int x2]) [] (hS S) (none, hS q) := by
  unfold f198c109 at H
  show Ex (am_X Lg xs) _ 198 am_c198_0 [.ref 109, .int x1, .int x2, .long 0] [] (hS S) (none, hS q)
  refine ex_iconst (v := 0) (by decide) ?_
  refine ex_istore_n (L2 := [.ref 109, .int x1, .int x2, .int 0]) (Nat.le_of_ble_eq_true rfl) rfl ?_
  exact e198c109_2 hd _ _ _ _ _ _ H
def g198c110_31 (F : Nat) (k2 : Int32 → Int32 → Int32 → AmT → Option AmT) (x1 : Int32) (x2 : Int32) (x3 : Int32) (s1 : Int32) (s3 : Int32) (S : AmT) : Option AmT := am_ck s3 16 (am_ck s1 16 (am_lt ((am_upI S.1 110 s1.toNatClampNeg (S.1 110 s3.toNatClampNeg), S.2) : AmT) fun S4 => k2 x1 x2 (x3 + 1) S4))
def g198c110_19 (F : Nat) (k2 : Int32 → Int32 → Int32 → AmT → Option AmT) (x1 : Int32) (x2 : Int32) (x3 : Int32) (s1 : Int32) (S : AmT) : Option AmT := if x2 = 0 then (g198c110_31 F k2 x1 x2 x3 s1 x3 S) else (g198c110_31 F k2 x1 x2 x3 s1 (x1 + x3) S)
def g198c110_2 (F : Nat) : Nat → Int32 → Int32 → Int32 → AmT → Option AmT
  | 0, _, _, _, _ => none
  | n + 1, x1, x2, x3, S => if x1 ≤ x3 then (some S) else (if x2 = 0 then (g198c110_19 F (fun x1 x2 x3 S => g198c110_2 F n x1 x2 x3 S) x1 x2 x3 (x1 + x3) S) else (g198c110_19 F (fun x1 x2 x3 S => g198c110_2 F n x1 x2 x3 S) x1 x2 x3 x3 S))
-- X10_keepRow
def f198c110 (F : Nat) (x1 : Int32) (x2 : Int32) (S : AmT) : Option AmT := g198c110_2 F F x1 x2 0 S
set_option maxHeartbeats 1000000 in
set_option maxRecDepth 20000 in
theorem e198c110_31 {Lg : Nat} {xs : Nat → Int32} {d F : Nat} {k2 : Int32 → Int32 → Int32 → AmT → Option AmT} {x1 : Int32} {x2 : Int32} {x3 : Int32} {s1 : Int32} {s3 : Int32} {S : AmT} {q : AmT} (hd : 0 ≤ d) (hk2 : ∀ (x1 : Int32) (x2 : Int32) (x3 : Int32) (S : AmT) (q : AmT), k2 x1 x2 x3 S = some q → Ex (am_X Lg xs) d 198 am_c198_2 [.ref 110, .int x1, .int x2, .int x3] [] (hS S) (none, hS q)) (H : g198c110_31 F k2 x1 x2 x3 s1 s3 S = some q) : Ex (am_X Lg xs) d 198 am_c198_31 [.ref 110, .int x1, .int x2, .int x3] [.int s3, .ref 110, .int s1, .ref 110] (hS S) (none, hS q) := by
  unfold g198c110_31 at H
  obtain ⟨hj, H⟩ := am_ck_el H
  refine ex_iald (k := 16) (v := S.1 110 s3.toNatClampNeg) rfl hj rfl ?_
  obtain ⟨hj, H⟩ := am_ck_el H
  refine ex_iast (k := 16) rfl rfl hj ?_
  generalize ((am_upI S.1 110 s1.toNatClampNeg (S.1 110 s3.toNatClampNeg), S.2) : AmT) = S4 at H ⊢
  have H := am_lt_el H
  refine ex_iinc (L2 := [.ref 110, .int x1, .int x2, .int (x3 + 1)]) (v := (x3 + 1)) rfl (Nat.le_of_ble_eq_true rfl) (congrArg (fun z => x3 + z) (by decide)) rfl ?_
  refine ex_goto (ct := am_c198_2) rfl ?_
  exact hk2 _ _ _ _ _ H
set_option maxHeartbeats 1000000 in
set_option maxRecDepth 20000 in
theorem e198c110_19 {Lg : Nat} {xs : Nat → Int32} {d F : Nat} {k2 : Int32 → Int32 → Int32 → AmT → Option AmT} {x1 : Int32} {x2 : Int32} {x3 : Int32} {s1 : Int32} {S : AmT} {q : AmT} (hd : 0 ≤ d) (hk2 : ∀ (x1 : Int32) (x2 : Int32) (x3 : Int32) (S : AmT) (q : AmT), k2 x1 x2 x3 S = some q → Ex (am_X Lg xs) d 198 am_c198_2 [.ref 110, .int x1, .int x2, .int x3] [] (hS S) (none, hS q)) (H : g198c110_19 F k2 x1 x2 x3 s1 S = some q) : Ex (am_X Lg xs) d 198 am_c198_19 [.ref 110, .int x1, .int x2, .int x3] [.int s1, .ref 110] (hS S) (none, hS q) := by
  unfold g198c110_19 at H
  refine ex_aload_n rfl ?_
  refine ex_iload_n rfl ?_
  by_cases h3 : x2 = 0
  · rw [if_pos h3] at H
    refine ex_if_eq_j (ct := am_c198_30) h3 rfl ?_
    refine ex_iload_n rfl ?_
    exact e198c110_31 hd hk2 H
  · rw [if_neg h3] at H
    refine ex_if_eq_f h3 ?_
    refine ex_iload_n rfl ?_
    refine ex_iload_n rfl ?_
    refine ex_iadd ?_
    refine ex_goto (ct := am_c198_31) rfl ?_
    exact e198c110_31 hd hk2 H
set_option maxHeartbeats 1000000 in
set_option maxRecDepth 20000 in
theorem e198c110_2 {Lg : Nat} {xs : Nat → Int32} {d F : Nat} (hd : 0 ≤ d) : ∀ (n : Nat) (x1 : Int32) (x2 : Int32) (x3 : Int32) (S : AmT) (q : AmT), g198c110_2 F n x1 x2 x3 S = some q → Ex (am_X Lg xs) d 198 am_c198_2 [.ref 110, .int x1, .int x2, .int x3] [] (hS S) (none, hS q) := by
  intro n
  induction n with
  | zero =>
    intro x1 x2 x3 S q H
    cases H
  | succ n ih =>
    intro x1 x2 x3 S q H
    have H : (if x1 ≤ x3 then (some S) else (if x2 = 0 then (g198c110_19 F (fun x1 x2 x3 S => g198c110_2 F n x1 x2 x3 S) x1 x2 x3 (x1 + x3) S) else (g198c110_19 F (fun x1 x2 x3 S => g198c110_2 F n x1 x2 x3 S) x1 x2 x3 x3 S))) = some q := H
    refine ex_iload_n rfl ?_
    refine ex_iload_n rfl ?_
    by_cases h1 : x1 ≤ x3
    · rw [if_pos h1] at H
      refine ex_icmp_ge_j (ct := am_c198_39) h1 rfl ?_
      have H := Option.some.inj H
      subst H
      exact ex_vret (M := 198) rfl
    · rw [if_neg h1] at H
      refine ex_icmp_ge_f h1 ?_
      refine ex_aload_n rfl ?_
      refine ex_iload_n rfl ?_
      by_cases h2 : x2 = 0
      · rw [if_pos h2] at H
        refine ex_if_eq_j (ct := am_c198_16) h2 rfl ?_
        refine ex_iload_n rfl ?_
        refine ex_iload_n rfl ?_
        refine ex_iadd ?_
        exact e198c110_19 hd (fun x1 x2 x3 S q H => ih x1 x2 x3 S q H) H
      · rw [if_neg h2] at H
        refine ex_if_eq_f h2 ?_
        refine ex_iload_n rfl ?_
        refine ex_goto (ct := am_c198_19) rfl ?_
        exact e198c110_19 hd (fun x1 x2 x3 S q H => ih x1 x2 x3 S q H) H
set_option maxHeartbeats 1000000 in
set_option maxRecDepth 20000 in
theorem r198c110 {Lg : Nat} {xs : Nat → Int32} {d F : Nat} {x1 : Int32} {x2 : Int32} {S : AmT} {q : AmT} (hd : 0 ≤ d) (H : f198c110 F x1 x2 S = some q) : Ex (am_X Lg xs) d 198 (am_P 198) (am_ini (am_Mi 198).1 [.ref 110, .int x1, .int x2]) [] (hS S) (none, hS q) := by
  unfold f198c110 at H
  show Ex (am_X Lg xs) _ 198 am_c198_0 [.ref 110, .int x1, .int x2, .long 0] [] (hS S) (none, hS q)
  refine ex_iconst (v := 0) (by decide) ?_
  refine ex_istore_n (L2 := [.ref 110, .int x1, .int x2, .int 0]) (Nat.le_of_ble_eq_true rfl) rfl ?_
  exact e198c110_2 hd _ _ _ _ _ _ H
def g198c111_31 (F : Nat) (k2 : Int32 → Int32 → Int32 → AmT → Option AmT) (x1 : Int32) (x2 : Int32) (x3 : Int32) (s1 : Int32) (s3 : Int32) (S : AmT) : Option AmT := am_ck s3 16 (am_ck s1 16 (am_lt ((am_upI S.1 111 s1.toNatClampNeg (S.1 111 s3.toNatClampNeg), S.2) : AmT) fun S4 => k2 x1 x2 (x3 + 1) S4))
def g198c111_19 (F : Nat) (k2 : Int32 → Int32 → Int32 → AmT → Option AmT) (x1 : Int32) (x2 : Int32) (x3 : Int32) (s1 : Int32) (S : AmT) : Option AmT := if x2 = 0 then (g198c111_31 F k2 x1 x2 x3 s1 x3 S) else (g198c111_31 F k2 x1 x2 x3 s1 (x1 + x3) S)
def g198c111_2 (F : Nat) : Nat → Int32 → Int32 → Int32 → AmT → Option AmT
  | 0, _, _, _, _ => none
  | n + 1, x1, x2, x3, S => if x1 ≤ x3 then (some S) else (if x2 = 0 then (g198c111_19 F (fun x1 x2 x3 S => g198c111_2 F n x1 x2 x3 S) x1 x2 x3 (x1 + x3) S) else (g198c111_19 F (fun x1 x2 x3 S => g198c111_2 F n x1 x2 x3 S) x1 x2 x3 x3 S))
-- X10_keepRow
def f198c111 (F : Nat) (x1 : Int32) (x2 : Int32) (S : AmT) : Option AmT := g198c111_2 F F x1 x2 0 S
set_option maxHeartbeats 1000000 in
set_option maxRecDepth 20000 in
theorem e198c111_31 {Lg : Nat} {xs : Nat → Int32} {d F : Nat} {k2 : Int32 → Int32 → Int32 → AmT → Option AmT} {x1 : Int32} {x2 : Int32} {x3 : Int32} {s1 : Int32} {s3 : Int32} {S : AmT} {q : AmT} (hd : 0 ≤ d) (hk2 : ∀ (x1 : Int32) (x2 : Int32) (x3 : Int32) (S : AmT) (q : AmT), k2 x1 x2 x3 S = some q → Ex (am_X Lg xs) d 198 am_c198_2 [.ref 111, .int x1, .int x2, .int x3] [] (hS S) (none, hS q)) (H : g198c111_31 F k2 x1 x2 x3 s1 s3 S = some q) : Ex (am_X Lg xs) d 198 am_c198_31 [.ref 111, .int x1, .int x2, .int x3] [.int s3, .ref 111, .int s1, .ref 111] (hS S) (none, hS q) := by
  unfold g198c111_31 at H
  obtain ⟨hj, H⟩ := am_ck_el H
  refine ex_iald (k := 16) (v := S.1 111 s3.toNatClampNeg) rfl hj rfl ?_
  obtain ⟨hj, H⟩ := am_ck_el H
  refine ex_iast (k := 16) rfl rfl hj ?_
  generalize ((am_upI S.1 111 s1.toNatClampNeg (S.1 111 s3.toNatClampNeg), S.2) : AmT) = S4 at H ⊢
  have H := am_lt_el H
  refine ex_iinc (L2 := [.ref 111, .int x1, .int x2, .int (x3 + 1)]) (v := (x3 + 1)) rfl (Nat.le_of_ble_eq_true rfl) (congrArg (fun z => x3 + z) (by decide)) rfl ?_
  refine ex_goto (ct := am_c198_2) rfl ?_
  exact hk2 _ _ _ _ _ H
set_option maxHeartbeats 1000000 in
set_option maxRecDepth 20000 in
theorem e198c111_19 {Lg : Nat} {xs : Nat → Int32} {d F : Nat} {k2 : Int32 → Int32 → Int32 → AmT → Option AmT} {x1 : Int32} {x2 : Int32} {x3 : Int32} {s1 : Int32} {S : AmT} {q : AmT} (hd : 0 ≤ d) (hk2 : ∀ (x1 : Int32) (x2 : Int32) (x3 : Int32) (S : AmT) (q : AmT), k2 x1 x2 x3 S = some q → Ex (am_X Lg xs) d 198 am_c198_2 [.ref 111, .int x1, .int x2, .int x3] [] (hS S) (none, hS q)) (H : g198c111_19 F k2 x1 x2 x3 s1 S = some q) : Ex (am_X Lg xs) d 198 am_c198_19 [.ref 111, .int x1, .int x2, .int x3] [.int s1, .ref 111] (hS S) (none, hS q) := by
  unfold g198c111_19 at H
  refine ex_aload_n rfl ?_
  refine ex_iload_n rfl ?_
  by_cases h3 : x2 = 0
  · rw [if_pos h3] at H
    refine ex_if_eq_j (ct := am_c198_30) h3 rfl ?_
    refine ex_iload_n rfl ?_
    exact e198c111_31 hd hk2 H
  · rw [if_neg h3] at H
    refine ex_if_eq_f h3 ?_
    refine ex_iload_n rfl ?_
    refine ex_iload_n rfl ?_
    refine ex_iadd ?_
    refine ex_goto (ct := am_c198_31) rfl ?_
    exact e198c111_31 hd hk2 H
set_option maxHeartbeats 1000000 in
set_option maxRecDepth 20000 in
theorem e198c111_2 {Lg : Nat} {xs : Nat → Int32} {d F : Nat} (hd : 0 ≤ d) : ∀ (n : Nat) (x1 : Int32) (x2 : Int32) (x3 : Int32) (S : AmT) (q : AmT), g198c111_2 F n x1 x2 x3 S = some q → Ex (am_X Lg xs) d 198 am_c198_2 [.ref 111, .int x1, .int x2, .int x3] [] (hS S) (none, hS q) := by
  intro n
  induction n with
  | zero =>
    intro x1 x2 x3 S q H
    cases H
  | succ n ih =>
    intro x1 x2 x3 S q H
    have H : (if x1 ≤ x3 then (some S) else (if x2 = 0 then (g198c111_19 F (fun x1 x2 x3 S => g198c111_2 F n x1 x2 x3 S) x1 x2 x3 (x1 + x3) S) else (g198c111_19 F (fun x1 x2 x3 S => g198c111_2 F n x1 x2 x3 S) x1 x2 x3 x3 S))) = some q := H
    refine ex_iload_n rfl ?_
    refine ex_iload_n rfl ?_
    by_cases h1 : x1 ≤ x3
    · rw [if_pos h1] at H
      refine ex_icmp_ge_j (ct := am_c198_39) h1 rfl ?_
      have H := Option.some.inj H
      subst H
      exact ex_vret (M := 198) rfl
    · rw [if_neg h1] at H
      refine ex_icmp_ge_f h1 ?_
      refine ex_aload_n rfl ?_
      refine ex_iload_n rfl ?_
      by_cases h2 : x2 = 0
      · rw [if_pos h2] at H
        refine ex_if_eq_j (ct := am_c198_16) h2 rfl ?_
        refine ex_iload_n rfl ?_
        refine ex_iload_n rfl ?_
        refine ex_iadd ?_
        exact e198c111_19 hd (fun x1 x2 x3 S q H => ih x1 x2 x3 S q H) H
      · rw [if_neg h2] at H
        refine ex_if_eq_f h2 ?_
        refine ex_iload_n rfl ?_
        refine ex_goto (ct := am_c198_19) rfl ?_
        exact e198c111_19 hd (fun x1 x2 x3 S q H => ih x1 x2 x3 S q H) H
set_option maxHeartbeats 1000000 in
set_option maxRecDepth 20000 in
theorem r198c111 {Lg : Nat} {xs : Nat → Int32} {d F : Nat} {x1 : Int32} {x2 : Int32} {S : AmT} {q : AmT} (hd : 0 ≤ d) (H : f198c111 F x1 x2 S = some q) : Ex (am_X Lg xs) d 198 (am_P 198) (am_ini (am_Mi 198).1 [.ref 111, .int x1, .int x2]) [] (hS S) (none, hS q) := by
  unfold f198c111 at H
  show Ex (am_X Lg xs) _ 198 am_c198_0 [.ref 111, .int x1, .int x2, .long 0] [] (hS S) (none, hS q)
  refine ex_iconst (v := 0) (by decide) ?_
  refine ex_istore_n (L2 := [.ref 111, .int x1, .int x2, .int 0]) (Nat.le_of_ble_eq_true rfl) rfl ?_
  exact e198c111_2 hd _ _ _ _ _ _ H
def g198c112_31 (F : Nat) (k2 : Int32 → Int32 → Int32 → AmT → Option AmT) (x1 : Int32) (x2 : Int32) (x3 : Int32) (s1 : Int32) (s3 : Int32) (S : AmT) : Option AmT := am_ck s3 16 (am_ck s1 16 (am_lt ((am_upI S.1 112 s1.toNatClampNeg (S.1 112 s3.toNatClampNeg), S.2) : AmT) fun S4 => k2 x1 x2 (x3 + 1) S4))
def g198c112_19 (F : Nat) (k2 : Int32 → Int32 → Int32 → AmT → Option AmT) (x1 : Int32) (x2 : Int32) (x3 : Int32) (s1 : Int32) (S : AmT) : Option AmT := if x2 = 0 then (g198c112_31 F k2 x1 x2 x3 s1 x3 S) else (g198c112_31 F k2 x1 x2 x3 s1 (x1 + x3) S)
def g198c112_2 (F : Nat) : Nat → Int32 → Int32 → Int32 → AmT → Option AmT
  | 0, _, _, _, _ => none
  | n + 1, x1, x2, x3, S => if x1 ≤ x3 then (some S) else (if x2 = 0 then (g198c112_19 F (fun x1 x2 x3 S => g198c112_2 F n x1 x2 x3 S) x1 x2 x3 (x1 + x3) S) else (g198c112_19 F (fun x1 x2 x3 S => g198c112_2 F n x1 x2 x3 S) x1 x2 x3 x3 S))
-- X10_keepRow
def f198c112 (F : Nat) (x1 : Int32) (x2 : Int32) (S : AmT) : Option AmT := g198c112_2 F F x1 x2 0 S
set_option maxHeartbeats 1000000 in
set_option maxRecDepth 20000 in
theorem e198c112_31 {Lg : Nat} {xs : Nat → Int32} {d F : Nat} {k2 : Int32 → Int32 → Int32 → AmT → Option AmT} {x1 : Int32} {x2 : Int32} {x3 : Int32} {s1 : Int32} {s3 : Int32} {S : AmT} {q : AmT} (hd : 0 ≤ d) (hk2 : ∀ (x1 : Int32) (x2 : Int32) (x3 : Int32) (S : AmT) (q : AmT), k2 x1 x2 x3 S = some q → Ex (am_X Lg xs) d 198 am_c198_2 [.ref 112, .int x1, .int x2, .int x3] [] (hS S) (none, hS q)) (H : g198c112_31 F k2 x1 x2 x3 s1 s3 S = some q) : Ex (am_X Lg xs) d 198 am_c198_31 [.ref 112, .int x1, .int x2, .int x3] [.int s3, .ref 112, .int s1, .ref 112] (hS S) (none, hS q) := by
  unfold g198c112_31 at H
  obtain ⟨hj, H⟩ := am_ck_el H
  refine ex_iald (k := 16) (v := S.1 112 s3.toNatClampNeg) rfl hj rfl ?_
  obtain ⟨hj, H⟩ := am_ck_el H
  refine ex_iast (k := 16) rfl rfl hj ?_
  generalize ((am_upI S.1 112 s1.toNatClampNeg (S.1 112 s3.toNatClampNeg), S.2) : AmT) = S4 at H ⊢
  have H := am_lt_el H
  refine ex_iinc (L2 := [.ref 112, .int x1, .int x2, .int (x3 + 1)]) (v := (x3 + 1)) rfl (Nat.le_of_ble_eq_true rfl) (congrArg (fun z => x3 + z) (by decide)) rfl ?_
  refine ex_goto (ct := am_c198_2) rfl ?_
  exact hk2 _ _ _ _ _ H
set_option maxHeartbeats 1000000 in
set_option maxRecDepth 20000 in
theorem e198c112_19 {Lg : Nat} {xs : Nat → Int32} {d F : Nat} {k2 : Int32 → Int32 → Int32 → AmT → Option AmT} {x1 : Int32} {x2 : Int32} {x3 : Int32} {s1 : Int32} {S : AmT} {q : AmT} (hd : 0 ≤ d) (hk2 : ∀ (x1 : Int32) (x2 : Int32) (x3 : Int32) (S : AmT) (q : AmT), k2 x1 x2 x3 S = some q → Ex (am_X Lg xs) d 198 am_c198_2 [.ref 112, .int x1, .int x2, .int x3] [] (hS S) (none, hS q)) (H : g198c112_19 F k2 x1 x2 x3 s1 S = some q) : Ex (am_X Lg xs) d 198 am_c198_19 [.ref 112, .int x1, .int x2, .int x3] [.int s1, .ref 112] (hS S) (none, hS q) := by
  unfold g198c112_19 at H
  refine ex_aload_n rfl ?_
  refine ex_iload_n rfl ?_
  by_cases h3 : x2 = 0
  · rw [if_pos h3] at H
    refine ex_if_eq_j (ct := am_c198_30) h3 rfl ?_
    refine ex_iload_n rfl ?_
    exact e198c112_31 hd hk2 H
  · rw [if_neg h3] at H
    refine ex_if_eq_f h3 ?_
    refine ex_iload_n rfl ?_
    refine ex_iload_n rfl ?_
    refine ex_iadd ?_
    refine ex_goto (ct := am_c198_31) rfl ?_
    exact e198c112_31 hd hk2 H
set_option maxHeartbeats 1000000 in
set_option maxRecDepth 20000 in
theorem e198c112_2 {Lg : Nat} {xs : Nat → Int32} {d F : Nat} (hd : 0 ≤ d) : ∀ (n : Nat) (x1 : Int32) (x2 : Int32) (x3 : Int32) (S : AmT) (q : AmT), g198c112_2 F n x1 x2 x3 S = some q → Ex (am_X Lg xs) d 198 am_c198_2 [.ref 112, .int x1, .int x2, .int x3] [] (hS S) (none, hS q) := by
  intro n
  induction n with
  | zero =>
    intro x1 x2 x3 S q H
    cases H
  | succ n ih =>
    intro x1 x2 x3 S q H
    have H : (if x1 ≤ x3 then (some S) else (if x2 = 0 then (g198c112_19 F (fun x1 x2 x3 S => g198c112_2 F n x1 x2 x3 S) x1 x2 x3 (x1 + x3) S) else (g198c112_19 F (fun x1 x2 x3 S => g198c112_2 F n x1 x2 x3 S) x1 x2 x3 x3 S))) = some q := H
    refine ex_iload_n rfl ?_
    refine ex_iload_n rfl ?_
    by_cases h1 : x1 ≤ x3
    · rw [if_pos h1] at H
      refine ex_icmp_ge_j (ct := am_c198_39) h1 rfl ?_
      have H := Option.some.inj H
      subst H
      exact ex_vret (M := 198) rfl
    · rw [if_neg h1] at H
      refine ex_icmp_ge_f h1 ?_
      refine ex_aload_n rfl ?_
      refine ex_iload_n rfl ?_
      by_cases h2 : x2 = 0
      · rw [if_pos h2] at H
        refine ex_if_eq_j (ct := am_c198_16) h2 rfl ?_
        refine ex_iload_n rfl ?_
        refine ex_iload_n rfl ?_
        refine ex_iadd ?_
        exact e198c112_19 hd (fun x1 x2 x3 S q H => ih x1 x2 x3 S q H) H
      · rw [if_neg h2] at H
        refine ex_if_eq_f h2 ?_
        refine ex_iload_n rfl ?_
        refine ex_goto (ct := am_c198_19) rfl ?_
        exact e198c112_19 hd (fun x1 x2 x3 S q H => ih x1 x2 x3 S q H) H
set_option maxHeartbeats 1000000 in
set_option maxRecDepth 20000 in
theorem r198c112 {Lg : Nat} {xs : Nat → Int32} {d F : Nat} {x1 : Int32} {x2 : Int32} {S : AmT} {q : AmT} (hd : 0 ≤ d) (H : f198c112 F x1 x2 S = some q) : Ex (am_X Lg xs) d 198 (am_P 198) (am_ini (am_Mi 198).1 [.ref 112, .int x1, .int x2]) [] (hS S) (none, hS q) := by
  unfold f198c112 at H
  show Ex (am_X Lg xs) _ 198 am_c198_0 [.ref 112, .int x1, .int x2, .long 0] [] (hS S) (none, hS q)
  refine ex_iconst (v := 0) (by decide) ?_
  refine ex_istore_n (L2 := [.ref 112, .int x1, .int x2, .int 0]) (Nat.le_of_ble_eq_true rfl) rfl ?_
  exact e198c112_2 hd _ _ _ _ _ _ H
