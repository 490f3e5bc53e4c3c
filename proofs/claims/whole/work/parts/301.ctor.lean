/-! the constructors, call by call (printed by wip/gen/gen30.py) -/
set_option maxRecDepth 20000 in
theorem z0 {X : AmX} {d : Nat} (hd : 1 ≤ d) : Ex X d 57 (am_P 57) (am_ini (am_Mi 57).1 [.ref 1]) [] (hT 2 0 0) (none, (hT 5 3 2)) := by
  obtain ⟨d, rfl⟩ : ∃ d2, d = d2 + 1 := ⟨d - 1, by omega⟩
  show Ex X _ 57 am_c57_0 [.ref 1] [] (hT 2 0 0) _
  refine ex_aload_n rfl ?_
  refine ex_oinit (Nat.le_of_ble_eq_true rfl) (by omega) ?_
  refine ex_aload_n rfl ?_
  refine ex_sipush (v := 640) (by decide) ?_
  refine ht_newQ (k := 2) (by decide) (by decide +kernel) (by decide +kernel) (by decide +kernel) ?_
  refine ht_putR (o := 1) (v := 2) rfl rfl (by decide +kernel) (by decide +kernel) ?_
  refine ex_aload_n rfl ?_
  refine ex_sipush (v := 640) (by decide) ?_
  refine ht_newI (k := 3) (by decide) (by decide +kernel) (by decide +kernel) (by decide +kernel) ?_
  refine ht_putR (o := 1) (v := 3) rfl rfl (by decide +kernel) (by decide +kernel) ?_
  refine ex_aload_n rfl ?_
  refine ex_sipush (v := 640) (by decide) ?_
  refine ht_newI (k := 4) (by decide) (by decide +kernel) (by decide +kernel) (by decide +kernel) ?_
  refine ht_putR (o := 1) (v := 4) rfl rfl (by decide +kernel) (by decide +kernel) ?_
  refine ex_aload_n rfl ?_
  refine ex_iconst (v := 0) (by decide) ?_
  refine ht_putI (o := 1) (x := 0) rfl (by decide) (by decide) (by decide +kernel) ?_
  refine ex_aload_n rfl ?_
  refine ex_iconst (v := 0) (by decide) ?_
  refine ht_putI (o := 1) (x := 0) rfl (by decide) (by decide) (by decide +kernel) ?_
  exact ex_vret (M := 57) rfl
set_option maxRecDepth 20000 in
theorem z1 {X : AmX} {d : Nat} (hd : 1 ≤ d) : Ex X d 128 (am_P 128) (am_ini (am_Mi 128).1 [.ref 5]) [] (hT 6 4 2) (none, (hT 7 5 9)) := by
  obtain ⟨d, rfl⟩ : ∃ d2, d = d2 + 1 := ⟨d - 1, by omega⟩
  show Ex X _ 128 am_c128_0 [.ref 5] [] (hT 6 4 2) _
  refine ex_aload_n rfl ?_
  refine ex_oinit (Nat.le_of_ble_eq_true rfl) (by omega) ?_
  refine ex_aload_n rfl ?_
  refine ex_bipush (v := 40) (by decide) ?_
  refine ht_newI (k := 6) (by decide) (by decide +kernel) (by decide +kernel) (by decide +kernel) ?_
  refine ht_putR (o := 5) (v := 6) rfl rfl (by decide +kernel) (by decide +kernel) ?_
  refine ex_aload_n rfl ?_
  refine ex_iconst (v := 0) (by decide) ?_
  refine ht_putI (o := 5) (x := 0) rfl (by decide) (by decide) (by decide +kernel) ?_
  refine ex_aload_n rfl ?_
  refine ex_iconst (v := 0) (by decide) ?_
  refine ht_putI (o := 5) (x := 0) rfl (by decide) (by decide) (by decide +kernel) ?_
  refine ex_aload_n rfl ?_
  refine ex_iconst (v := 0) (by decide) ?_
  refine ht_putI (o := 5) (x := 0) rfl (by decide) (by decide) (by decide +kernel) ?_
  refine ex_aload_n rfl ?_
  refine ex_iconst (v := 0) (by decide) ?_
  refine ht_putI (o := 5) (x := 0) rfl (by decide) (by decide) (by decide +kernel) ?_
  refine ex_aload_n rfl ?_
  refine ex_iconst (v := 0) (by decide) ?_
  refine ht_putI (o := 5) (x := 0) rfl (by decide) (by decide) (by decide +kernel) ?_
  refine ex_aload_n rfl ?_
  refine ex_iconst (v := 0) (by decide) ?_
  refine ht_putI (o := 5) (x := 0) rfl (by decide) (by decide) (by decide +kernel) ?_
  refine ex_aload_n rfl ?_
  refine ex_iconst (v := 0) (by decide) ?_
  refine ht_putI (o := 5) (x := 0) rfl (by decide) (by decide) (by decide +kernel) ?_
  exact ex_vret (M := 128) rfl
set_option maxRecDepth 20000 in
theorem z2 {X : AmX} {d : Nat} (hd : 0 ≤ d) : Ex X d 296 (am_P 296) (am_ini (am_Mi 296).1 [.int 1, .int 0]) [] (hT 9 7 9) (some 1, (hT 9 7 9)) := by
  show Ex X _ 296 am_c296_0 [.int 1, .int 0] [] (hT 9 7 9) _
  refine ex_iload_n rfl ?_
  refine ex_iload_n rfl ?_
  refine ex_icmp_lt_f (by decide) ?_
  refine ex_iload_n rfl ?_
  refine ex_goto (ct := am_c296_10) rfl ?_
  exact ex_iret (M := 296) (Or.inl rfl)
set_option maxRecDepth 20000 in
theorem z3 {X : AmX} {d : Nat} (hd : 1 ≤ d) : Ex X d 61 (am_P 61) (am_ini (am_Mi 61).1 [.ref 8, .ref 1, .int 1]) [] (hT 9 6 9) (none, (hT 10 8 9)) := by
  obtain ⟨d, rfl⟩ : ∃ d2, d = d2 + 1 := ⟨d - 1, by omega⟩
  show Ex X _ 61 am_c61_0 [.ref 8, .ref 1, .int 1] [] (hT 9 6 9) _
  refine ex_aload_n rfl ?_
  refine ex_oinit (Nat.le_of_ble_eq_true rfl) (by omega) ?_
  refine ex_aload_n rfl ?_
  refine ex_aload_n rfl ?_
  refine ht_putR (o := 8) (v := 1) rfl rfl (by decide +kernel) (by decide +kernel) ?_
  refine ex_aload_n rfl ?_
  refine ex_iload_n rfl ?_
  refine ex_iconst (v := 0) (by decide) ?_
  refine ex_callS rfl rfl (Nat.le_of_ble_eq_true rfl) (Nat.le_of_ble_eq_true rfl) (z2 (by omega)) rfl ?_
  refine ht_newI (k := 9) (by decide) (by decide +kernel) (by decide +kernel) (by decide +kernel) ?_
  refine ht_putR (o := 8) (v := 9) rfl rfl (by decide +kernel) (by decide +kernel) ?_
  exact ex_vret (M := 61) rfl
set_option maxRecDepth 20000 in
theorem z4 {X : AmX} {d : Nat} (hd : 0 ≤ d) : Ex X d 296 (am_P 296) (am_ini (am_Mi 296).1 [.int 3, .int 0]) [] (hT 11 10 9) (some 3, (hT 11 10 9)) := by
  show Ex X _ 296 am_c296_0 [.int 3, .int 0] [] (hT 11 10 9) _
  refine ex_iload_n rfl ?_
  refine ex_iload_n rfl ?_
  refine ex_icmp_lt_f (by decide) ?_
  refine ex_iload_n rfl ?_
  refine ex_goto (ct := am_c296_10) rfl ?_
  exact ex_iret (M := 296) (Or.inl rfl)
set_option maxRecDepth 20000 in
theorem z5 {X : AmX} {d : Nat} (hd : 1 ≤ d) : Ex X d 61 (am_P 61) (am_ini (am_Mi 61).1 [.ref 10, .ref 1, .int 3]) [] (hT 11 9 9) (none, (hT 12 11 9)) := by
  obtain ⟨d, rfl⟩ : ∃ d2, d = d2 + 1 := ⟨d - 1, by omega⟩
  show Ex X _ 61 am_c61_0 [.ref 10, .ref 1, .int 3] [] (hT 11 9 9) _
  refine ex_aload_n rfl ?_
  refine ex_oinit (Nat.le_of_ble_eq_true rfl) (by omega) ?_
  refine ex_aload_n rfl ?_
  refine ex_aload_n rfl ?_
  refine ht_putR (o := 10) (v := 1) rfl rfl (by decide +kernel) (by decide +kernel) ?_
  refine ex_aload_n rfl ?_
  refine ex_iload_n rfl ?_
  refine ex_iconst (v := 0) (by decide) ?_
  refine ex_callS rfl rfl (Nat.le_of_ble_eq_true rfl) (Nat.le_of_ble_eq_true rfl) (z4 (by omega)) rfl ?_
  refine ht_newI (k := 11) (by decide) (by decide +kernel) (by decide +kernel) (by decide +kernel) ?_
  refine ht_putR (o := 10) (v := 11) rfl rfl (by decide +kernel) (by decide +kernel) ?_
  exact ex_vret (M := 61) rfl
set_option maxRecDepth 20000 in
theorem z6 {X : AmX} {d : Nat} (hd : 0 ≤ d) : Ex X d 296 (am_P 296) (am_ini (am_Mi 296).1 [.int 3, .int 0]) [] (hT 13 13 9) (some 3, (hT 13 13 9)) := by
  show Ex X _ 296 am_c296_0 [.int 3, .int 0] [] (hT 13 13 9) _
  refine ex_iload_n rfl ?_
  refine ex_iload_n rfl ?_
  refine ex_icmp_lt_f (by decide) ?_
  refine ex_iload_n rfl ?_
  refine ex_goto (ct := am_c296_10) rfl ?_
  exact ex_iret (M := 296) (Or.inl rfl)
set_option maxRecDepth 20000 in
theorem z7 {X : AmX} {d : Nat} (hd : 1 ≤ d) : Ex X d 61 (am_P 61) (am_ini (am_Mi 61).1 [.ref 12, .ref 1, .int 3]) [] (hT 13 12 9) (none, (hT 14 14 9)) := by
  obtain ⟨d, rfl⟩ : ∃ d2, d = d2 + 1 := ⟨d - 1, by omega⟩
  show Ex X _ 61 am_c61_0 [.ref 12, .ref 1, .int 3] [] (hT 13 12 9) _
  refine ex_aload_n rfl ?_
  refine ex_oinit (Nat.le_of_ble_eq_true rfl) (by omega) ?_
  refine ex_aload_n rfl ?_
  refine ex_aload_n rfl ?_
  refine ht_putR (o := 12) (v := 1) rfl rfl (by decide +kernel) (by decide +kernel) ?_
  refine ex_aload_n rfl ?_
  refine ex_iload_n rfl ?_
  refine ex_iconst (v := 0) (by decide) ?_
  refine ex_callS rfl rfl (Nat.le_of_ble_eq_true rfl) (Nat.le_of_ble_eq_true rfl) (z6 (by omega)) rfl ?_
  refine ht_newI (k := 13) (by decide) (by decide +kernel) (by decide +kernel) (by decide +kernel) ?_
  refine ht_putR (o := 12) (v := 13) rfl rfl (by decide +kernel) (by decide +kernel) ?_
  exact ex_vret (M := 61) rfl
set_option maxRecDepth 20000 in
theorem z8 {X : AmX} {d : Nat} (hd : 0 ≤ d) : Ex X d 296 (am_P 296) (am_ini (am_Mi 296).1 [.int 3, .int 0]) [] (hT 15 16 9) (some 3, (hT 15 16 9)) := by
  show Ex X _ 296 am_c296_0 [.int 3, .int 0] [] (hT 15 16 9) _
  refine ex_iload_n rfl ?_
  refine ex_iload_n rfl ?_
  refine ex_icmp_lt_f (by decide) ?_
  refine ex_iload_n rfl ?_
  refine ex_goto (ct := am_c296_10) rfl ?_
  exact ex_iret (M := 296) (Or.inl rfl)
set_option maxRecDepth 20000 in
theorem z9 {X : AmX} {d : Nat} (hd : 1 ≤ d) : Ex X d 61 (am_P 61) (am_ini (am_Mi 61).1 [.ref 14, .ref 1, .int 3]) [] (hT 15 15 9) (none, (hT 16 17 9)) := by
  obtain ⟨d, rfl⟩ : ∃ d2, d = d2 + 1 := ⟨d - 1, by omega⟩
  show Ex X _ 61 am_c61_0 [.ref 14, .ref 1, .int 3] [] (hT 15 15 9) _
  refine ex_aload_n rfl ?_
  refine ex_oinit (Nat.le_of_ble_eq_true rfl) (by omega) ?_
  refine ex_aload_n rfl ?_
  refine ex_aload_n rfl ?_
  refine ht_putR (o := 14) (v := 1) rfl rfl (by decide +kernel) (by decide +kernel) ?_
  refine ex_aload_n rfl ?_
  refine ex_iload_n rfl ?_
  refine ex_iconst (v := 0) (by decide) ?_
  refine ex_callS rfl rfl (Nat.le_of_ble_eq_true rfl) (Nat.le_of_ble_eq_true rfl) (z8 (by omega)) rfl ?_
  refine ht_newI (k := 15) (by decide) (by decide +kernel) (by decide +kernel) (by decide +kernel) ?_
  refine ht_putR (o := 14) (v := 15) rfl rfl (by decide +kernel) (by decide +kernel) ?_
  exact ex_vret (M := 61) rfl
set_option maxRecDepth 20000 in
theorem z10 {X : AmX} {d : Nat} (hd : 0 ≤ d) : Ex X d 296 (am_P 296) (am_ini (am_Mi 296).1 [.int 72, .int 0]) [] (hT 17 19 9) (some 72, (hT 17 19 9)) := by
  show Ex X _ 296 am_c296_0 [.int 72, .int 0] [] (hT 17 19 9) _
  refine ex_iload_n rfl ?_
  refine ex_iload_n rfl ?_
  refine ex_icmp_lt_f (by decide) ?_
  refine ex_iload_n rfl ?_
  refine ex_goto (ct := am_c296_10) rfl ?_
  exact ex_iret (M := 296) (Or.inl rfl)
set_option maxRecDepth 20000 in
theorem z11 {X : AmX} {d : Nat} (hd : 1 ≤ d) : Ex X d 61 (am_P 61) (am_ini (am_Mi 61).1 [.ref 16, .ref 1, .int 72]) [] (hT 17 18 9) (none, (hT 18 20 9)) := by
  obtain ⟨d, rfl⟩ : ∃ d2, d = d2 + 1 := ⟨d - 1, by omega⟩
  show Ex X _ 61 am_c61_0 [.ref 16, .ref 1, .int 72] [] (hT 17 18 9) _
  refine ex_aload_n rfl ?_
  refine ex_oinit (Nat.le_of_ble_eq_true rfl) (by omega) ?_
  refine ex_aload_n rfl ?_
  refine ex_aload_n rfl ?_
  refine ht_putR (o := 16) (v := 1) rfl rfl (by decide +kernel) (by decide +kernel) ?_
  refine ex_aload_n rfl ?_
  refine ex_iload_n rfl ?_
  refine ex_iconst (v := 0) (by decide) ?_
  refine ex_callS rfl rfl (Nat.le_of_ble_eq_true rfl) (Nat.le_of_ble_eq_true rfl) (z10 (by omega)) rfl ?_
  refine ht_newI (k := 17) (by decide) (by decide +kernel) (by decide +kernel) (by decide +kernel) ?_
  refine ht_putR (o := 16) (v := 17) rfl rfl (by decide +kernel) (by decide +kernel) ?_
  exact ex_vret (M := 61) rfl
set_option maxRecDepth 20000 in
theorem z12 {X : AmX} {d : Nat} (hd : 0 ≤ d) : Ex X d 296 (am_P 296) (am_ini (am_Mi 296).1 [.int 576, .int 0]) [] (hT 19 22 9) (some 576, (hT 19 22 9)) := by
  show Ex X _ 296 am_c296_0 [.int 576, .int 0] [] (hT 19 22 9) _
  refine ex_iload_n rfl ?_
  refine ex_iload_n rfl ?_
  refine ex_icmp_lt_f (by decide) ?_
  refine ex_iload_n rfl ?_
  refine ex_goto (ct := am_c296_10) rfl ?_
  exact ex_iret (M := 296) (Or.inl rfl)
set_option maxRecDepth 20000 in
theorem z13 {X : AmX} {d : Nat} (hd : 1 ≤ d) : Ex X d 61 (am_P 61) (am_ini (am_Mi 61).1 [.ref 18, .ref 1, .int 576]) [] (hT 19 21 9) (none, (hT 20 23 9)) := by
  obtain ⟨d, rfl⟩ : ∃ d2, d = d2 + 1 := ⟨d - 1, by omega⟩
  show Ex X _ 61 am_c61_0 [.ref 18, .ref 1, .int 576] [] (hT 19 21 9) _
  refine ex_aload_n rfl ?_
  refine ex_oinit (Nat.le_of_ble_eq_true rfl) (by omega) ?_
  refine ex_aload_n rfl ?_
  refine ex_aload_n rfl ?_
  refine ht_putR (o := 18) (v := 1) rfl rfl (by decide +kernel) (by decide +kernel) ?_
  refine ex_aload_n rfl ?_
  refine ex_iload_n rfl ?_
  refine ex_iconst (v := 0) (by decide) ?_
  refine ex_callS rfl rfl (Nat.le_of_ble_eq_true rfl) (Nat.le_of_ble_eq_true rfl) (z12 (by omega)) rfl ?_
  refine ht_newI (k := 19) (by decide) (by decide +kernel) (by decide +kernel) (by decide +kernel) ?_
  refine ht_putR (o := 18) (v := 19) rfl rfl (by decide +kernel) (by decide +kernel) ?_
  exact ex_vret (M := 61) rfl
set_option maxRecDepth 20000 in
theorem z14 {X : AmX} {d : Nat} (hd : 0 ≤ d) : Ex X d 296 (am_P 296) (am_ini (am_Mi 296).1 [.int 5760, .int 0]) [] (hT 21 25 9) (some 5760, (hT 21 25 9)) := by
  show Ex X _ 296 am_c296_0 [.int 5760, .int 0] [] (hT 21 25 9) _
  refine ex_iload_n rfl ?_
  refine ex_iload_n rfl ?_
  refine ex_icmp_lt_f (by decide) ?_
  refine ex_iload_n rfl ?_
  refine ex_goto (ct := am_c296_10) rfl ?_
  exact ex_iret (M := 296) (Or.inl rfl)
set_option maxRecDepth 20000 in
theorem z15 {X : AmX} {d : Nat} (hd : 1 ≤ d) : Ex X d 61 (am_P 61) (am_ini (am_Mi 61).1 [.ref 20, .ref 1, .int 5760]) [] (hT 21 24 9) (none, (hT 22 26 9)) := by
  obtain ⟨d, rfl⟩ : ∃ d2, d = d2 + 1 := ⟨d - 1, by omega⟩
  show Ex X _ 61 am_c61_0 [.ref 20, .ref 1, .int 5760] [] (hT 21 24 9) _
  refine ex_aload_n rfl ?_
  refine ex_oinit (Nat.le_of_ble_eq_true rfl) (by omega) ?_
  refine ex_aload_n rfl ?_
  refine ex_aload_n rfl ?_
  refine ht_putR (o := 20) (v := 1) rfl rfl (by decide +kernel) (by decide +kernel) ?_
  refine ex_aload_n rfl ?_
  refine ex_iload_n rfl ?_
  refine ex_iconst (v := 0) (by decide) ?_
  refine ex_callS rfl rfl (Nat.le_of_ble_eq_true rfl) (Nat.le_of_ble_eq_true rfl) (z14 (by omega)) rfl ?_
  refine ht_newI (k := 21) (by decide) (by decide +kernel) (by decide +kernel) (by decide +kernel) ?_
  refine ht_putR (o := 20) (v := 21) rfl rfl (by decide +kernel) (by decide +kernel) ?_
  exact ex_vret (M := 61) rfl
set_option maxRecDepth 20000 in
theorem z16 {X : AmX} {d : Nat} (hd : 2 ≤ d) : Ex X d 32 (am_P 32) (am_ini (am_Mi 32).1 [.ref 7, .ref 1]) [] (hT 8 6 9) (none, (hT 22 27 9)) := by
  obtain ⟨d, rfl⟩ : ∃ d2, d = d2 + 1 := ⟨d - 1, by omega⟩
  show Ex X _ 32 am_c32_0 [.ref 7, .ref 1, .long 0] [] (hT 8 6 9) _
  refine ex_aload_n rfl ?_
  refine ex_oinit (Nat.le_of_ble_eq_true rfl) (by omega) ?_
  refine ex_bipush (v := 72) (by decide) ?_
  refine ex_istore_n (L2 := [.ref 7, .ref 1, .int 72]) (Nat.le_of_ble_eq_true rfl) rfl ?_
  refine ex_aload_n rfl ?_
  refine ht_new (k := 8) (by decide +kernel) (by decide +kernel) (by decide +kernel) ?_
  refine ex_dupr ?_
  refine ex_aload_n rfl ?_
  refine ex_iconst (v := 1) (by decide) ?_
  refine ex_callI (by decide) rfl rfl (Nat.le_of_ble_eq_true rfl) (Nat.le_of_ble_eq_true rfl) rfl (z3 (by omega)) rfl ?_
  refine ht_putR (o := 7) (v := 8) rfl rfl (by decide +kernel) (by decide +kernel) ?_
  refine ex_aload_n rfl ?_
  refine ht_new (k := 10) (by decide +kernel) (by decide +kernel) (by decide +kernel) ?_
  refine ex_dupr ?_
  refine ex_aload_n rfl ?_
  refine ex_iconst (v := 3) (by decide) ?_
  refine ex_callI (by decide) rfl rfl (Nat.le_of_ble_eq_true rfl) (Nat.le_of_ble_eq_true rfl) rfl (z5 (by omega)) rfl ?_
  refine ht_putR (o := 7) (v := 10) rfl rfl (by decide +kernel) (by decide +kernel) ?_
  refine ex_aload_n rfl ?_
  refine ht_new (k := 12) (by decide +kernel) (by decide +kernel) (by decide +kernel) ?_
  refine ex_dupr ?_
  refine ex_aload_n rfl ?_
  refine ex_iconst (v := 3) (by decide) ?_
  refine ex_callI (by decide) rfl rfl (Nat.le_of_ble_eq_true rfl) (Nat.le_of_ble_eq_true rfl) rfl (z7 (by omega)) rfl ?_
  refine ht_putR (o := 7) (v := 12) rfl rfl (by decide +kernel) (by decide +kernel) ?_
  refine ex_aload_n rfl ?_
  refine ht_new (k := 14) (by decide +kernel) (by decide +kernel) (by decide +kernel) ?_
  refine ex_dupr ?_
  refine ex_aload_n rfl ?_
  refine ex_iconst (v := 3) (by decide) ?_
  refine ex_callI (by decide) rfl rfl (Nat.le_of_ble_eq_true rfl) (Nat.le_of_ble_eq_true rfl) rfl (z9 (by omega)) rfl ?_
  refine ht_putR (o := 7) (v := 14) rfl rfl (by decide +kernel) (by decide +kernel) ?_
  refine ex_aload_n rfl ?_
  refine ht_new (k := 16) (by decide +kernel) (by decide +kernel) (by decide +kernel) ?_
  refine ex_dupr ?_
  refine ex_aload_n rfl ?_
  refine ex_iload_n rfl ?_
  refine ex_callI (by decide) rfl rfl (Nat.le_of_ble_eq_true rfl) (Nat.le_of_ble_eq_true rfl) rfl (z11 (by omega)) rfl ?_
  refine ht_putR (o := 7) (v := 16) rfl rfl (by decide +kernel) (by decide +kernel) ?_
  refine ex_aload_n rfl ?_
  refine ht_new (k := 18) (by decide +kernel) (by decide +kernel) (by decide +kernel) ?_
  refine ex_dupr ?_
  refine ex_aload_n rfl ?_
  refine ex_iload_n rfl ?_
  refine ex_bipush (v := 8) (by decide) ?_
  refine ex_imulE (v := 576) (by decide) ?_
  refine ex_callI (by decide) rfl rfl (Nat.le_of_ble_eq_true rfl) (Nat.le_of_ble_eq_true rfl) rfl (z13 (by omega)) rfl ?_
  refine ht_putR (o := 7) (v := 18) rfl rfl (by decide +kernel) (by decide +kernel) ?_
  refine ex_aload_n rfl ?_
  refine ht_new (k := 20) (by decide +kernel) (by decide +kernel) (by decide +kernel) ?_
  refine ex_dupr ?_
  refine ex_aload_n rfl ?_
  refine ex_iload_n rfl ?_
  refine ex_bipush (v := 8) (by decide) ?_
  refine ex_imulE (v := 576) (by decide) ?_
  refine ex_bipush (v := 10) (by decide) ?_
  refine ex_imulE (v := 5760) (by decide) ?_
  refine ex_callI (by decide) rfl rfl (Nat.le_of_ble_eq_true rfl) (Nat.le_of_ble_eq_true rfl) rfl (z15 (by omega)) rfl ?_
  refine ht_putR (o := 7) (v := 20) rfl rfl (by decide +kernel) (by decide +kernel) ?_
  exact ex_vret (M := 32) rfl
set_option maxRecDepth 20000 in
theorem z17 {X : AmX} {d : Nat} (hd : 1 ≤ d) : Ex X d 65 (am_P 65) (am_ini (am_Mi 65).1 [.ref 24, .ref 5]) [] (hT 25 30 9) (none, (hT 30 36 9)) := by
  obtain ⟨d, rfl⟩ : ∃ d2, d = d2 + 1 := ⟨d - 1, by omega⟩
  show Ex X _ 65 am_c65_0 [.ref 24, .ref 5] [] (hT 25 30 9) _
  refine ex_aload_n rfl ?_
  refine ex_oinit (Nat.le_of_ble_eq_true rfl) (by omega) ?_
  refine ex_aload_n rfl ?_
  refine ex_iconst (v := 2) (by decide) ?_
  refine ht_newI (k := 25) (by decide) (by decide +kernel) (by decide +kernel) (by decide +kernel) ?_
  refine ht_putR (o := 24) (v := 25) rfl rfl (by decide +kernel) (by decide +kernel) ?_
  refine ex_aload_n rfl ?_
  refine ex_iconst (v := 2) (by decide) ?_
  refine ht_newI (k := 26) (by decide) (by decide +kernel) (by decide +kernel) (by decide +kernel) ?_
  refine ht_putR (o := 24) (v := 26) rfl rfl (by decide +kernel) (by decide +kernel) ?_
  refine ex_aload_n rfl ?_
  refine ex_bipush (v := 64) (by decide) ?_
  refine ht_newI (k := 27) (by decide) (by decide +kernel) (by decide +kernel) (by decide +kernel) ?_
  refine ht_putR (o := 24) (v := 27) rfl rfl (by decide +kernel) (by decide +kernel) ?_
  refine ex_aload_n rfl ?_
  refine ex_bipush (v := 64) (by decide) ?_
  refine ht_newI (k := 28) (by decide) (by decide +kernel) (by decide +kernel) (by decide +kernel) ?_
  refine ht_putR (o := 24) (v := 28) rfl rfl (by decide +kernel) (by decide +kernel) ?_
  refine ex_aload_n rfl ?_
  refine ex_bipush (v := 64) (by decide) ?_
  refine ht_newI (k := 29) (by decide) (by decide +kernel) (by decide +kernel) (by decide +kernel) ?_
  refine ht_putR (o := 24) (v := 29) rfl rfl (by decide +kernel) (by decide +kernel) ?_
  refine ex_aload_n rfl ?_
  refine ex_aload_n rfl ?_
  refine ht_putR (o := 24) (v := 5) rfl rfl (by decide +kernel) (by decide +kernel) ?_
  exact ex_vret (M := 65) rfl
set_option maxRecDepth 20000 in
theorem z18 {X : AmX} {d : Nat} (hd : 0 ≤ d) : Ex X d 296 (am_P 296) (am_ini (am_Mi 296).1 [.int 1, .int 0]) [] (hT 31 38 9) (some 1, (hT 31 38 9)) := by
  show Ex X _ 296 am_c296_0 [.int 1, .int 0] [] (hT 31 38 9) _
  refine ex_iload_n rfl ?_
  refine ex_iload_n rfl ?_
  refine ex_icmp_lt_f (by decide) ?_
  refine ex_iload_n rfl ?_
  refine ex_goto (ct := am_c296_10) rfl ?_
  exact ex_iret (M := 296) (Or.inl rfl)
set_option maxRecDepth 20000 in
theorem z19 {X : AmX} {d : Nat} (hd : 1 ≤ d) : Ex X d 61 (am_P 61) (am_ini (am_Mi 61).1 [.ref 30, .ref 1, .int 1]) [] (hT 31 37 9) (none, (hT 32 39 9)) := by
  obtain ⟨d, rfl⟩ : ∃ d2, d = d2 + 1 := ⟨d - 1, by omega⟩
  show Ex X _ 61 am_c61_0 [.ref 30, .ref 1, .int 1] [] (hT 31 37 9) _
  refine ex_aload_n rfl ?_
  refine ex_oinit (Nat.le_of_ble_eq_true rfl) (by omega) ?_
  refine ex_aload_n rfl ?_
  refine ex_aload_n rfl ?_
  refine ht_putR (o := 30) (v := 1) rfl rfl (by decide +kernel) (by decide +kernel) ?_
  refine ex_aload_n rfl ?_
  refine ex_iload_n rfl ?_
  refine ex_iconst (v := 0) (by decide) ?_
  refine ex_callS rfl rfl (Nat.le_of_ble_eq_true rfl) (Nat.le_of_ble_eq_true rfl) (z18 (by omega)) rfl ?_
  refine ht_newI (k := 31) (by decide) (by decide +kernel) (by decide +kernel) (by decide +kernel) ?_
  refine ht_putR (o := 30) (v := 31) rfl rfl (by decide +kernel) (by decide +kernel) ?_
  exact ex_vret (M := 61) rfl
set_option maxRecDepth 20000 in
theorem z20 {X : AmX} {d : Nat} (hd : 0 ≤ d) : Ex X d 296 (am_P 296) (am_ini (am_Mi 296).1 [.int 16, .int 0]) [] (hT 33 41 9) (some 16, (hT 33 41 9)) := by
  show Ex X _ 296 am_c296_0 [.int 16, .int 0] [] (hT 33 41 9) _
  refine ex_iload_n rfl ?_
  refine ex_iload_n rfl ?_
  refine ex_icmp_lt_f (by decide) ?_
  refine ex_iload_n rfl ?_
  refine ex_goto (ct := am_c296_10) rfl ?_
  exact ex_iret (M := 296) (Or.inl rfl)
set_option maxRecDepth 20000 in
theorem z21 {X : AmX} {d : Nat} (hd : 1 ≤ d) : Ex X d 61 (am_P 61) (am_ini (am_Mi 61).1 [.ref 32, .ref 1, .int 16]) [] (hT 33 40 9) (none, (hT 34 42 9)) := by
  obtain ⟨d, rfl⟩ : ∃ d2, d = d2 + 1 := ⟨d - 1, by omega⟩
  show Ex X _ 61 am_c61_0 [.ref 32, .ref 1, .int 16] [] (hT 33 40 9) _
  refine ex_aload_n rfl ?_
  refine ex_oinit (Nat.le_of_ble_eq_true rfl) (by omega) ?_
  refine ex_aload_n rfl ?_
  refine ex_aload_n rfl ?_
  refine ht_putR (o := 32) (v := 1) rfl rfl (by decide +kernel) (by decide +kernel) ?_
  refine ex_aload_n rfl ?_
  refine ex_iload_n rfl ?_
  refine ex_iconst (v := 0) (by decide) ?_
  refine ex_callS rfl rfl (Nat.le_of_ble_eq_true rfl) (Nat.le_of_ble_eq_true rfl) (z20 (by omega)) rfl ?_
  refine ht_newI (k := 33) (by decide) (by decide +kernel) (by decide +kernel) (by decide +kernel) ?_
  refine ht_putR (o := 32) (v := 33) rfl rfl (by decide +kernel) (by decide +kernel) ?_
  exact ex_vret (M := 61) rfl
set_option maxRecDepth 20000 in
theorem z22 {X : AmX} {d : Nat} (hd : 0 ≤ d) : Ex X d 296 (am_P 296) (am_ini (am_Mi 296).1 [.int 16, .int 0]) [] (hT 35 44 9) (some 16, (hT 35 44 9)) := by
  show Ex X _ 296 am_c296_0 [.int 16, .int 0] [] (hT 35 44 9) _
  refine ex_iload_n rfl ?_
  refine ex_iload_n rfl ?_
  refine ex_icmp_lt_f (by decide) ?_
  refine ex_iload_n rfl ?_
  refine ex_goto (ct := am_c296_10) rfl ?_
  exact ex_iret (M := 296) (Or.inl rfl)
set_option maxRecDepth 20000 in
theorem z23 {X : AmX} {d : Nat} (hd : 1 ≤ d) : Ex X d 61 (am_P 61) (am_ini (am_Mi 61).1 [.ref 34, .ref 1, .int 16]) [] (hT 35 43 9) (none, (hT 36 45 9)) := by
  obtain ⟨d, rfl⟩ : ∃ d2, d = d2 + 1 := ⟨d - 1, by omega⟩
  show Ex X _ 61 am_c61_0 [.ref 34, .ref 1, .int 16] [] (hT 35 43 9) _
  refine ex_aload_n rfl ?_
  refine ex_oinit (Nat.le_of_ble_eq_true rfl) (by omega) ?_
  refine ex_aload_n rfl ?_
  refine ex_aload_n rfl ?_
  refine ht_putR (o := 34) (v := 1) rfl rfl (by decide +kernel) (by decide +kernel) ?_
  refine ex_aload_n rfl ?_
  refine ex_iload_n rfl ?_
  refine ex_iconst (v := 0) (by decide) ?_
  refine ex_callS rfl rfl (Nat.le_of_ble_eq_true rfl) (Nat.le_of_ble_eq_true rfl) (z22 (by omega)) rfl ?_
  refine ht_newI (k := 35) (by decide) (by decide +kernel) (by decide +kernel) (by decide +kernel) ?_
  refine ht_putR (o := 34) (v := 35) rfl rfl (by decide +kernel) (by decide +kernel) ?_
  exact ex_vret (M := 61) rfl
set_option maxRecDepth 20000 in
theorem z24 {X : AmX} {d : Nat} (hd : 0 ≤ d) : Ex X d 296 (am_P 296) (am_ini (am_Mi 296).1 [.int 16, .int 0]) [] (hT 37 47 9) (some 16, (hT 37 47 9)) := by
  show Ex X _ 296 am_c296_0 [.int 16, .int 0] [] (hT 37 47 9) _
  refine ex_iload_n rfl ?_
  refine ex_iload_n rfl ?_
  refine ex_icmp_lt_f (by decide) ?_
  refine ex_iload_n rfl ?_
  refine ex_goto (ct := am_c296_10) rfl ?_
  exact ex_iret (M := 296) (Or.inl rfl)
set_option maxRecDepth 20000 in
theorem z25 {X : AmX} {d : Nat} (hd : 1 ≤ d) : Ex X d 61 (am_P 61) (am_ini (am_Mi 61).1 [.ref 36, .ref 1, .int 16]) [] (hT 37 46 9) (none, (hT 38 48 9)) := by
  obtain ⟨d, rfl⟩ : ∃ d2, d = d2 + 1 := ⟨d - 1, by omega⟩
  show Ex X _ 61 am_c61_0 [.ref 36, .ref 1, .int 16] [] (hT 37 46 9) _
  refine ex_aload_n rfl ?_
  refine ex_oinit (Nat.le_of_ble_eq_true rfl) (by omega) ?_
  refine ex_aload_n rfl ?_
  refine ex_aload_n rfl ?_
  refine ht_putR (o := 36) (v := 1) rfl rfl (by decide +kernel) (by decide +kernel) ?_
  refine ex_aload_n rfl ?_
  refine ex_iload_n rfl ?_
  refine ex_iconst (v := 0) (by decide) ?_
  refine ex_callS rfl rfl (Nat.le_of_ble_eq_true rfl) (Nat.le_of_ble_eq_true rfl) (z24 (by omega)) rfl ?_
  refine ht_newI (k := 37) (by decide) (by decide +kernel) (by decide +kernel) (by decide +kernel) ?_
  refine ht_putR (o := 36) (v := 37) rfl rfl (by decide +kernel) (by decide +kernel) ?_
  exact ex_vret (M := 61) rfl
set_option maxRecDepth 20000 in
theorem z26 {X : AmX} {d : Nat} (hd : 0 ≤ d) : Ex X d 296 (am_P 296) (am_ini (am_Mi 296).1 [.int 16, .int 0]) [] (hT 39 50 9) (some 16, (hT 39 50 9)) := by
  show Ex X _ 296 am_c296_0 [.int 16, .int 0] [] (hT 39 50 9) _
  refine ex_iload_n rfl ?_
  refine ex_iload_n rfl ?_
  refine ex_icmp_lt_f (by decide) ?_
  refine ex_iload_n rfl ?_
  refine ex_goto (ct := am_c296_10) rfl ?_
  exact ex_iret (M := 296) (Or.inl rfl)
set_option maxRecDepth 20000 in
theorem z27 {X : AmX} {d : Nat} (hd : 1 ≤ d) : Ex X d 61 (am_P 61) (am_ini (am_Mi 61).1 [.ref 38, .ref 1, .int 16]) [] (hT 39 49 9) (none, (hT 40 51 9)) := by
  obtain ⟨d, rfl⟩ : ∃ d2, d = d2 + 1 := ⟨d - 1, by omega⟩
  show Ex X _ 61 am_c61_0 [.ref 38, .ref 1, .int 16] [] (hT 39 49 9) _
  refine ex_aload_n rfl ?_
  refine ex_oinit (Nat.le_of_ble_eq_true rfl) (by omega) ?_
  refine ex_aload_n rfl ?_
  refine ex_aload_n rfl ?_
  refine ht_putR (o := 38) (v := 1) rfl rfl (by decide +kernel) (by decide +kernel) ?_
  refine ex_aload_n rfl ?_
  refine ex_iload_n rfl ?_
  refine ex_iconst (v := 0) (by decide) ?_
  refine ex_callS rfl rfl (Nat.le_of_ble_eq_true rfl) (Nat.le_of_ble_eq_true rfl) (z26 (by omega)) rfl ?_
  refine ht_newI (k := 39) (by decide) (by decide +kernel) (by decide +kernel) (by decide +kernel) ?_
  refine ht_putR (o := 38) (v := 39) rfl rfl (by decide +kernel) (by decide +kernel) ?_
  exact ex_vret (M := 61) rfl
set_option maxRecDepth 20000 in
theorem z28 {X : AmX} {d : Nat} (hd : 0 ≤ d) : Ex X d 296 (am_P 296) (am_ini (am_Mi 296).1 [.int 16, .int 0]) [] (hT 41 53 9) (some 16, (hT 41 53 9)) := by
  show Ex X _ 296 am_c296_0 [.int 16, .int 0] [] (hT 41 53 9) _
  refine ex_iload_n rfl ?_
  refine ex_iload_n rfl ?_
  refine ex_icmp_lt_f (by decide) ?_
  refine ex_iload_n rfl ?_
  refine ex_goto (ct := am_c296_10) rfl ?_
  exact ex_iret (M := 296) (Or.inl rfl)
set_option maxRecDepth 20000 in
theorem z29 {X : AmX} {d : Nat} (hd : 1 ≤ d) : Ex X d 61 (am_P 61) (am_ini (am_Mi 61).1 [.ref 40, .ref 1, .int 16]) [] (hT 41 52 9) (none, (hT 42 54 9)) := by
  obtain ⟨d, rfl⟩ : ∃ d2, d = d2 + 1 := ⟨d - 1, by omega⟩
  show Ex X _ 61 am_c61_0 [.ref 40, .ref 1, .int 16] [] (hT 41 52 9) _
  refine ex_aload_n rfl ?_
  refine ex_oinit (Nat.le_of_ble_eq_true rfl) (by omega) ?_
  refine ex_aload_n rfl ?_
  refine ex_aload_n rfl ?_
  refine ht_putR (o := 40) (v := 1) rfl rfl (by decide +kernel) (by decide +kernel) ?_
  refine ex_aload_n rfl ?_
  refine ex_iload_n rfl ?_
  refine ex_iconst (v := 0) (by decide) ?_
  refine ex_callS rfl rfl (Nat.le_of_ble_eq_true rfl) (Nat.le_of_ble_eq_true rfl) (z28 (by omega)) rfl ?_
  refine ht_newI (k := 41) (by decide) (by decide +kernel) (by decide +kernel) (by decide +kernel) ?_
  refine ht_putR (o := 40) (v := 41) rfl rfl (by decide +kernel) (by decide +kernel) ?_
  exact ex_vret (M := 61) rfl
set_option maxRecDepth 20000 in
theorem z30 {X : AmX} {d : Nat} (hd : 0 ≤ d) : Ex X d 296 (am_P 296) (am_ini (am_Mi 296).1 [.int 16, .int 0]) [] (hT 43 56 9) (some 16, (hT 43 56 9)) := by
  show Ex X _ 296 am_c296_0 [.int 16, .int 0] [] (hT 43 56 9) _
  refine ex_iload_n rfl ?_
  refine ex_iload_n rfl ?_
  refine ex_icmp_lt_f (by decide) ?_
  refine ex_iload_n rfl ?_
  refine ex_goto (ct := am_c296_10) rfl ?_
  exact ex_iret (M := 296) (Or.inl rfl)
set_option maxRecDepth 20000 in
theorem z31 {X : AmX} {d : Nat} (hd : 1 ≤ d) : Ex X d 61 (am_P 61) (am_ini (am_Mi 61).1 [.ref 42, .ref 1, .int 16]) [] (hT 43 55 9) (none, (hT 44 57 9)) := by
  obtain ⟨d, rfl⟩ : ∃ d2, d = d2 + 1 := ⟨d - 1, by omega⟩
  show Ex X _ 61 am_c61_0 [.ref 42, .ref 1, .int 16] [] (hT 43 55 9) _
  refine ex_aload_n rfl ?_
  refine ex_oinit (Nat.le_of_ble_eq_true rfl) (by omega) ?_
  refine ex_aload_n rfl ?_
  refine ex_aload_n rfl ?_
  refine ht_putR (o := 42) (v := 1) rfl rfl (by decide +kernel) (by decide +kernel) ?_
  refine ex_aload_n rfl ?_
  refine ex_iload_n rfl ?_
  refine ex_iconst (v := 0) (by decide) ?_
  refine ex_callS rfl rfl (Nat.le_of_ble_eq_true rfl) (Nat.le_of_ble_eq_true rfl) (z30 (by omega)) rfl ?_
  refine ht_newI (k := 43) (by decide) (by decide +kernel) (by decide +kernel) (by decide +kernel) ?_
  refine ht_putR (o := 42) (v := 43) rfl rfl (by decide +kernel) (by decide +kernel) ?_
  exact ex_vret (M := 61) rfl
set_option maxRecDepth 20000 in
theorem z32 {X : AmX} {d : Nat} (hd : 0 ≤ d) : Ex X d 296 (am_P 296) (am_ini (am_Mi 296).1 [.int 16, .int 0]) [] (hT 45 59 9) (some 16, (hT 45 59 9)) := by
  show Ex X _ 296 am_c296_0 [.int 16, .int 0] [] (hT 45 59 9) _
  refine ex_iload_n rfl ?_
  refine ex_iload_n rfl ?_
  refine ex_icmp_lt_f (by decide) ?_
  refine ex_iload_n rfl ?_
  refine ex_goto (ct := am_c296_10) rfl ?_
  exact ex_iret (M := 296) (Or.inl rfl)
set_option maxRecDepth 20000 in
theorem z33 {X : AmX} {d : Nat} (hd : 1 ≤ d) : Ex X d 61 (am_P 61) (am_ini (am_Mi 61).1 [.ref 44, .ref 1, .int 16]) [] (hT 45 58 9) (none, (hT 46 60 9)) := by
  obtain ⟨d, rfl⟩ : ∃ d2, d = d2 + 1 := ⟨d - 1, by omega⟩
  show Ex X _ 61 am_c61_0 [.ref 44, .ref 1, .int 16] [] (hT 45 58 9) _
  refine ex_aload_n rfl ?_
  refine ex_oinit (Nat.le_of_ble_eq_true rfl) (by omega) ?_
  refine ex_aload_n rfl ?_
  refine ex_aload_n rfl ?_
  refine ht_putR (o := 44) (v := 1) rfl rfl (by decide +kernel) (by decide +kernel) ?_
  refine ex_aload_n rfl ?_
  refine ex_iload_n rfl ?_
  refine ex_iconst (v := 0) (by decide) ?_
  refine ex_callS rfl rfl (Nat.le_of_ble_eq_true rfl) (Nat.le_of_ble_eq_true rfl) (z32 (by omega)) rfl ?_
  refine ht_newI (k := 45) (by decide) (by decide +kernel) (by decide +kernel) (by decide +kernel) ?_
  refine ht_putR (o := 44) (v := 45) rfl rfl (by decide +kernel) (by decide +kernel) ?_
  exact ex_vret (M := 61) rfl
set_option maxRecDepth 20000 in
theorem z34 {X : AmX} {d : Nat} (hd : 2 ≤ d) : Ex X d 19 (am_P 19) (am_ini (am_Mi 19).1 [.ref 22, .ref 1, .ref 5]) [] (hT 23 28 9) (none, (hT 46 61 9)) := by
  obtain ⟨d, rfl⟩ : ∃ d2, d = d2 + 1 := ⟨d - 1, by omega⟩
  show Ex X _ 19 am_c19_0 [.ref 22, .ref 1, .ref 5] [] (hT 23 28 9) _
  refine ex_aload_n rfl ?_
  refine ex_oinit (Nat.le_of_ble_eq_true rfl) (by omega) ?_
  refine ex_aload_n rfl ?_
  refine ex_sipush (v := 512) (by decide) ?_
  refine ht_newI (k := 23) (by decide) (by decide +kernel) (by decide +kernel) (by decide +kernel) ?_
  refine ht_putR (o := 22) (v := 23) rfl rfl (by decide +kernel) (by decide +kernel) ?_
  refine ex_aload_n rfl ?_
  refine ex_aload_n rfl ?_
  refine ht_putR (o := 22) (v := 5) rfl rfl (by decide +kernel) (by decide +kernel) ?_
  refine ex_aload_n rfl ?_
  refine ht_new (k := 24) (by decide +kernel) (by decide +kernel) (by decide +kernel) ?_
  refine ex_dupr ?_
  refine ex_aload_n rfl ?_
  refine ex_callI (by decide) rfl rfl (Nat.le_of_ble_eq_true rfl) (Nat.le_of_ble_eq_true rfl) rfl (z17 (by omega)) rfl ?_
  refine ht_putR (o := 22) (v := 24) rfl rfl (by decide +kernel) (by decide +kernel) ?_
  refine ex_aload_n rfl ?_
  refine ht_new (k := 30) (by decide +kernel) (by decide +kernel) (by decide +kernel) ?_
  refine ex_dupr ?_
  refine ex_aload_n rfl ?_
  refine ex_iconst (v := 1) (by decide) ?_
  refine ex_callI (by decide) rfl rfl (Nat.le_of_ble_eq_true rfl) (Nat.le_of_ble_eq_true rfl) rfl (z19 (by omega)) rfl ?_
  refine ht_putR (o := 22) (v := 30) rfl rfl (by decide +kernel) (by decide +kernel) ?_
  refine ex_aload_n rfl ?_
  refine ht_new (k := 32) (by decide +kernel) (by decide +kernel) (by decide +kernel) ?_
  refine ex_dupr ?_
  refine ex_aload_n rfl ?_
  refine ex_bipush (v := 16) (by decide) ?_
  refine ex_callI (by decide) rfl rfl (Nat.le_of_ble_eq_true rfl) (Nat.le_of_ble_eq_true rfl) rfl (z21 (by omega)) rfl ?_
  refine ht_putR (o := 22) (v := 32) rfl rfl (by decide +kernel) (by decide +kernel) ?_
  refine ex_aload_n rfl ?_
  refine ht_new (k := 34) (by decide +kernel) (by decide +kernel) (by decide +kernel) ?_
  refine ex_dupr ?_
  refine ex_aload_n rfl ?_
  refine ex_bipush (v := 16) (by decide) ?_
  refine ex_callI (by decide) rfl rfl (Nat.le_of_ble_eq_true rfl) (Nat.le_of_ble_eq_true rfl) rfl (z23 (by omega)) rfl ?_
  refine ht_putR (o := 22) (v := 34) rfl rfl (by decide +kernel) (by decide +kernel) ?_
  refine ex_aload_n rfl ?_
  refine ht_new (k := 36) (by decide +kernel) (by decide +kernel) (by decide +kernel) ?_
  refine ex_dupr ?_
  refine ex_aload_n rfl ?_
  refine ex_bipush (v := 16) (by decide) ?_
  refine ex_callI (by decide) rfl rfl (Nat.le_of_ble_eq_true rfl) (Nat.le_of_ble_eq_true rfl) rfl (z25 (by omega)) rfl ?_
  refine ht_putR (o := 22) (v := 36) rfl rfl (by decide +kernel) (by decide +kernel) ?_
  refine ex_aload_n rfl ?_
  refine ht_new (k := 38) (by decide +kernel) (by decide +kernel) (by decide +kernel) ?_
  refine ex_dupr ?_
  refine ex_aload_n rfl ?_
  refine ex_bipush (v := 16) (by decide) ?_
  refine ex_callI (by decide) rfl rfl (Nat.le_of_ble_eq_true rfl) (Nat.le_of_ble_eq_true rfl) rfl (z27 (by omega)) rfl ?_
  refine ht_putR (o := 22) (v := 38) rfl rfl (by decide +kernel) (by decide +kernel) ?_
  refine ex_aload_n rfl ?_
  refine ht_new (k := 40) (by decide +kernel) (by decide +kernel) (by decide +kernel) ?_
  refine ex_dupr ?_
  refine ex_aload_n rfl ?_
  refine ex_bipush (v := 16) (by decide) ?_
  refine ex_callI (by decide) rfl rfl (Nat.le_of_ble_eq_true rfl) (Nat.le_of_ble_eq_true rfl) rfl (z29 (by omega)) rfl ?_
  refine ht_putR (o := 22) (v := 40) rfl rfl (by decide +kernel) (by decide +kernel) ?_
  refine ex_aload_n rfl ?_
  refine ht_new (k := 42) (by decide +kernel) (by decide +kernel) (by decide +kernel) ?_
  refine ex_dupr ?_
  refine ex_aload_n rfl ?_
  refine ex_bipush (v := 16) (by decide) ?_
  refine ex_callI (by decide) rfl rfl (Nat.le_of_ble_eq_true rfl) (Nat.le_of_ble_eq_true rfl) rfl (z31 (by omega)) rfl ?_
  refine ht_putR (o := 22) (v := 42) rfl rfl (by decide +kernel) (by decide +kernel) ?_
  refine ex_aload_n rfl ?_
  refine ht_new (k := 44) (by decide +kernel) (by decide +kernel) (by decide +kernel) ?_
  refine ex_dupr ?_
  refine ex_aload_n rfl ?_
  refine ex_bipush (v := 16) (by decide) ?_
  refine ex_callI (by decide) rfl rfl (Nat.le_of_ble_eq_true rfl) (Nat.le_of_ble_eq_true rfl) rfl (z33 (by omega)) rfl ?_
  refine ht_putR (o := 22) (v := 44) rfl rfl (by decide +kernel) (by decide +kernel) ?_
  exact ex_vret (M := 19) rfl
set_option maxRecDepth 20000 in
theorem z35 {X : AmX} {d : Nat} (hd : 0 ≤ d) : Ex X d 296 (am_P 296) (am_ini (am_Mi 296).1 [.int 1, .int 0]) [] (hT 48 65 9) (some 1, (hT 48 65 9)) := by
  show Ex X _ 296 am_c296_0 [.int 1, .int 0] [] (hT 48 65 9) _
  refine ex_iload_n rfl ?_
  refine ex_iload_n rfl ?_
  refine ex_icmp_lt_f (by decide) ?_
  refine ex_iload_n rfl ?_
  refine ex_goto (ct := am_c296_10) rfl ?_
  exact ex_iret (M := 296) (Or.inl rfl)
set_option maxRecDepth 20000 in
theorem z36 {X : AmX} {d : Nat} (hd : 1 ≤ d) : Ex X d 61 (am_P 61) (am_ini (am_Mi 61).1 [.ref 47, .ref 1, .int 1]) [] (hT 48 64 9) (none, (hT 49 66 9)) := by
  obtain ⟨d, rfl⟩ : ∃ d2, d = d2 + 1 := ⟨d - 1, by omega⟩
  show Ex X _ 61 am_c61_0 [.ref 47, .ref 1, .int 1] [] (hT 48 64 9) _
  refine ex_aload_n rfl ?_
  refine ex_oinit (Nat.le_of_ble_eq_true rfl) (by omega) ?_
  refine ex_aload_n rfl ?_
  refine ex_aload_n rfl ?_
  refine ht_putR (o := 47) (v := 1) rfl rfl (by decide +kernel) (by decide +kernel) ?_
  refine ex_aload_n rfl ?_
  refine ex_iload_n rfl ?_
  refine ex_iconst (v := 0) (by decide) ?_
  refine ex_callS rfl rfl (Nat.le_of_ble_eq_true rfl) (Nat.le_of_ble_eq_true rfl) (z35 (by omega)) rfl ?_
  refine ht_newI (k := 48) (by decide) (by decide +kernel) (by decide +kernel) (by decide +kernel) ?_
  refine ht_putR (o := 47) (v := 48) rfl rfl (by decide +kernel) (by decide +kernel) ?_
  exact ex_vret (M := 61) rfl
set_option maxRecDepth 20000 in
theorem z37 {X : AmX} {d : Nat} (hd : 0 ≤ d) : Ex X d 296 (am_P 296) (am_ini (am_Mi 296).1 [.int 8, .int 0]) [] (hT 50 68 9) (some 8, (hT 50 68 9)) := by
  show Ex X _ 296 am_c296_0 [.int 8, .int 0] [] (hT 50 68 9) _
  refine ex_iload_n rfl ?_
  refine ex_iload_n rfl ?_
  refine ex_icmp_lt_f (by decide) ?_
  refine ex_iload_n rfl ?_
  refine ex_goto (ct := am_c296_10) rfl ?_
  exact ex_iret (M := 296) (Or.inl rfl)
set_option maxRecDepth 20000 in
theorem z38 {X : AmX} {d : Nat} (hd : 1 ≤ d) : Ex X d 61 (am_P 61) (am_ini (am_Mi 61).1 [.ref 49, .ref 1, .int 8]) [] (hT 50 67 9) (none, (hT 51 69 9)) := by
  obtain ⟨d, rfl⟩ : ∃ d2, d = d2 + 1 := ⟨d - 1, by omega⟩
  show Ex X _ 61 am_c61_0 [.ref 49, .ref 1, .int 8] [] (hT 50 67 9) _
  refine ex_aload_n rfl ?_
  refine ex_oinit (Nat.le_of_ble_eq_true rfl) (by omega) ?_
  refine ex_aload_n rfl ?_
  refine ex_aload_n rfl ?_
  refine ht_putR (o := 49) (v := 1) rfl rfl (by decide +kernel) (by decide +kernel) ?_
  refine ex_aload_n rfl ?_
  refine ex_iload_n rfl ?_
  refine ex_iconst (v := 0) (by decide) ?_
  refine ex_callS rfl rfl (Nat.le_of_ble_eq_true rfl) (Nat.le_of_ble_eq_true rfl) (z37 (by omega)) rfl ?_
  refine ht_newI (k := 50) (by decide) (by decide +kernel) (by decide +kernel) (by decide +kernel) ?_
  refine ht_putR (o := 49) (v := 50) rfl rfl (by decide +kernel) (by decide +kernel) ?_
  exact ex_vret (M := 61) rfl
set_option maxRecDepth 20000 in
theorem z39 {X : AmX} {d : Nat} (hd : 0 ≤ d) : Ex X d 296 (am_P 296) (am_ini (am_Mi 296).1 [.int 8, .int 0]) [] (hT 52 71 9) (some 8, (hT 52 71 9)) := by
  show Ex X _ 296 am_c296_0 [.int 8, .int 0] [] (hT 52 71 9) _
  refine ex_iload_n rfl ?_
  refine ex_iload_n rfl ?_
  refine ex_icmp_lt_f (by decide) ?_
  refine ex_iload_n rfl ?_
  refine ex_goto (ct := am_c296_10) rfl ?_
  exact ex_iret (M := 296) (Or.inl rfl)
set_option maxRecDepth 20000 in
theorem z40 {X : AmX} {d : Nat} (hd : 1 ≤ d) : Ex X d 61 (am_P 61) (am_ini (am_Mi 61).1 [.ref 51, .ref 1, .int 8]) [] (hT 52 70 9) (none, (hT 53 72 9)) := by
  obtain ⟨d, rfl⟩ : ∃ d2, d = d2 + 1 := ⟨d - 1, by omega⟩
  show Ex X _ 61 am_c61_0 [.ref 51, .ref 1, .int 8] [] (hT 52 70 9) _
  refine ex_aload_n rfl ?_
  refine ex_oinit (Nat.le_of_ble_eq_true rfl) (by omega) ?_
  refine ex_aload_n rfl ?_
  refine ex_aload_n rfl ?_
  refine ht_putR (o := 51) (v := 1) rfl rfl (by decide +kernel) (by decide +kernel) ?_
  refine ex_aload_n rfl ?_
  refine ex_iload_n rfl ?_
  refine ex_iconst (v := 0) (by decide) ?_
  refine ex_callS rfl rfl (Nat.le_of_ble_eq_true rfl) (Nat.le_of_ble_eq_true rfl) (z39 (by omega)) rfl ?_
  refine ht_newI (k := 52) (by decide) (by decide +kernel) (by decide +kernel) (by decide +kernel) ?_
  refine ht_putR (o := 51) (v := 52) rfl rfl (by decide +kernel) (by decide +kernel) ?_
  exact ex_vret (M := 61) rfl
set_option maxRecDepth 20000 in
theorem z41 {X : AmX} {d : Nat} (hd : 0 ≤ d) : Ex X d 296 (am_P 296) (am_ini (am_Mi 296).1 [.int 8, .int 0]) [] (hT 54 74 9) (some 8, (hT 54 74 9)) := by
  show Ex X _ 296 am_c296_0 [.int 8, .int 0] [] (hT 54 74 9) _
  refine ex_iload_n rfl ?_
  refine ex_iload_n rfl ?_
  refine ex_icmp_lt_f (by decide) ?_
  refine ex_iload_n rfl ?_
  refine ex_goto (ct := am_c296_10) rfl ?_
  exact ex_iret (M := 296) (Or.inl rfl)
set_option maxRecDepth 20000 in
theorem z42 {X : AmX} {d : Nat} (hd : 1 ≤ d) : Ex X d 61 (am_P 61) (am_ini (am_Mi 61).1 [.ref 53, .ref 1, .int 8]) [] (hT 54 73 9) (none, (hT 55 75 9)) := by
  obtain ⟨d, rfl⟩ : ∃ d2, d = d2 + 1 := ⟨d - 1, by omega⟩
  show Ex X _ 61 am_c61_0 [.ref 53, .ref 1, .int 8] [] (hT 54 73 9) _
  refine ex_aload_n rfl ?_
  refine ex_oinit (Nat.le_of_ble_eq_true rfl) (by omega) ?_
  refine ex_aload_n rfl ?_
  refine ex_aload_n rfl ?_
  refine ht_putR (o := 53) (v := 1) rfl rfl (by decide +kernel) (by decide +kernel) ?_
  refine ex_aload_n rfl ?_
  refine ex_iload_n rfl ?_
  refine ex_iconst (v := 0) (by decide) ?_
  refine ex_callS rfl rfl (Nat.le_of_ble_eq_true rfl) (Nat.le_of_ble_eq_true rfl) (z41 (by omega)) rfl ?_
  refine ht_newI (k := 54) (by decide) (by decide +kernel) (by decide +kernel) (by decide +kernel) ?_
  refine ht_putR (o := 53) (v := 54) rfl rfl (by decide +kernel) (by decide +kernel) ?_
  exact ex_vret (M := 61) rfl
set_option maxRecDepth 20000 in
theorem z43 {X : AmX} {d : Nat} (hd : 0 ≤ d) : Ex X d 296 (am_P 296) (am_ini (am_Mi 296).1 [.int 128, .int 0]) [] (hT 56 77 9) (some 128, (hT 56 77 9)) := by
  show Ex X _ 296 am_c296_0 [.int 128, .int 0] [] (hT 56 77 9) _
  refine ex_iload_n rfl ?_
  refine ex_iload_n rfl ?_
  refine ex_icmp_lt_f (by decide) ?_
  refine ex_iload_n rfl ?_
  refine ex_goto (ct := am_c296_10) rfl ?_
  exact ex_iret (M := 296) (Or.inl rfl)
set_option maxRecDepth 20000 in
theorem z44 {X : AmX} {d : Nat} (hd : 1 ≤ d) : Ex X d 61 (am_P 61) (am_ini (am_Mi 61).1 [.ref 55, .ref 1, .int 128]) [] (hT 56 76 9) (none, (hT 57 78 9)) := by
  obtain ⟨d, rfl⟩ : ∃ d2, d = d2 + 1 := ⟨d - 1, by omega⟩
  show Ex X _ 61 am_c61_0 [.ref 55, .ref 1, .int 128] [] (hT 56 76 9) _
  refine ex_aload_n rfl ?_
  refine ex_oinit (Nat.le_of_ble_eq_true rfl) (by omega) ?_
  refine ex_aload_n rfl ?_
  refine ex_aload_n rfl ?_
  refine ht_putR (o := 55) (v := 1) rfl rfl (by decide +kernel) (by decide +kernel) ?_
  refine ex_aload_n rfl ?_
  refine ex_iload_n rfl ?_
  refine ex_iconst (v := 0) (by decide) ?_
  refine ex_callS rfl rfl (Nat.le_of_ble_eq_true rfl) (Nat.le_of_ble_eq_true rfl) (z43 (by omega)) rfl ?_
  refine ht_newI (k := 56) (by decide) (by decide +kernel) (by decide +kernel) (by decide +kernel) ?_
  refine ht_putR (o := 55) (v := 56) rfl rfl (by decide +kernel) (by decide +kernel) ?_
  exact ex_vret (M := 61) rfl
set_option maxRecDepth 20000 in
theorem z45 {X : AmX} {d : Nat} (hd : 0 ≤ d) : Ex X d 296 (am_P 296) (am_ini (am_Mi 296).1 [.int 1024, .int 0]) [] (hT 58 80 9) (some 1024, (hT 58 80 9)) := by
  show Ex X _ 296 am_c296_0 [.int 1024, .int 0] [] (hT 58 80 9) _
  refine ex_iload_n rfl ?_
  refine ex_iload_n rfl ?_
  refine ex_icmp_lt_f (by decide) ?_
  refine ex_iload_n rfl ?_
  refine ex_goto (ct := am_c296_10) rfl ?_
  exact ex_iret (M := 296) (Or.inl rfl)
set_option maxRecDepth 20000 in
theorem z46 {X : AmX} {d : Nat} (hd : 1 ≤ d) : Ex X d 61 (am_P 61) (am_ini (am_Mi 61).1 [.ref 57, .ref 1, .int 1024]) [] (hT 58 79 9) (none, (hT 59 81 9)) := by
  obtain ⟨d, rfl⟩ : ∃ d2, d = d2 + 1 := ⟨d - 1, by omega⟩
  show Ex X _ 61 am_c61_0 [.ref 57, .ref 1, .int 1024] [] (hT 58 79 9) _
  refine ex_aload_n rfl ?_
  refine ex_oinit (Nat.le_of_ble_eq_true rfl) (by omega) ?_
  refine ex_aload_n rfl ?_
  refine ex_aload_n rfl ?_
  refine ht_putR (o := 57) (v := 1) rfl rfl (by decide +kernel) (by decide +kernel) ?_
  refine ex_aload_n rfl ?_
  refine ex_iload_n rfl ?_
  refine ex_iconst (v := 0) (by decide) ?_
  refine ex_callS rfl rfl (Nat.le_of_ble_eq_true rfl) (Nat.le_of_ble_eq_true rfl) (z45 (by omega)) rfl ?_
  refine ht_newI (k := 58) (by decide) (by decide +kernel) (by decide +kernel) (by decide +kernel) ?_
  refine ht_putR (o := 57) (v := 58) rfl rfl (by decide +kernel) (by decide +kernel) ?_
  exact ex_vret (M := 61) rfl
set_option maxRecDepth 20000 in
theorem z47 {X : AmX} {d : Nat} (hd : 0 ≤ d) : Ex X d 296 (am_P 296) (am_ini (am_Mi 296).1 [.int 8, .int 0]) [] (hT 60 83 9) (some 8, (hT 60 83 9)) := by
  show Ex X _ 296 am_c296_0 [.int 8, .int 0] [] (hT 60 83 9) _
  refine ex_iload_n rfl ?_
  refine ex_iload_n rfl ?_
  refine ex_icmp_lt_f (by decide) ?_
  refine ex_iload_n rfl ?_
  refine ex_goto (ct := am_c296_10) rfl ?_
  exact ex_iret (M := 296) (Or.inl rfl)
set_option maxRecDepth 20000 in
theorem z48 {X : AmX} {d : Nat} (hd : 1 ≤ d) : Ex X d 61 (am_P 61) (am_ini (am_Mi 61).1 [.ref 59, .ref 1, .int 8]) [] (hT 60 82 9) (none, (hT 61 84 9)) := by
  obtain ⟨d, rfl⟩ : ∃ d2, d = d2 + 1 := ⟨d - 1, by omega⟩
  show Ex X _ 61 am_c61_0 [.ref 59, .ref 1, .int 8] [] (hT 60 82 9) _
  refine ex_aload_n rfl ?_
  refine ex_oinit (Nat.le_of_ble_eq_true rfl) (by omega) ?_
  refine ex_aload_n rfl ?_
  refine ex_aload_n rfl ?_
  refine ht_putR (o := 59) (v := 1) rfl rfl (by decide +kernel) (by decide +kernel) ?_
  refine ex_aload_n rfl ?_
  refine ex_iload_n rfl ?_
  refine ex_iconst (v := 0) (by decide) ?_
  refine ex_callS rfl rfl (Nat.le_of_ble_eq_true rfl) (Nat.le_of_ble_eq_true rfl) (z47 (by omega)) rfl ?_
  refine ht_newI (k := 60) (by decide) (by decide +kernel) (by decide +kernel) (by decide +kernel) ?_
  refine ht_putR (o := 59) (v := 60) rfl rfl (by decide +kernel) (by decide +kernel) ?_
  exact ex_vret (M := 61) rfl
set_option maxRecDepth 20000 in
theorem z49 {X : AmX} {d : Nat} (hd : 0 ≤ d) : Ex X d 296 (am_P 296) (am_ini (am_Mi 296).1 [.int 8, .int 0]) [] (hT 62 86 9) (some 8, (hT 62 86 9)) := by
  show Ex X _ 296 am_c296_0 [.int 8, .int 0] [] (hT 62 86 9) _
  refine ex_iload_n rfl ?_
  refine ex_iload_n rfl ?_
  refine ex_icmp_lt_f (by decide) ?_
  refine ex_iload_n rfl ?_
  refine ex_goto (ct := am_c296_10) rfl ?_
  exact ex_iret (M := 296) (Or.inl rfl)
set_option maxRecDepth 20000 in
theorem z50 {X : AmX} {d : Nat} (hd : 1 ≤ d) : Ex X d 61 (am_P 61) (am_ini (am_Mi 61).1 [.ref 61, .ref 1, .int 8]) [] (hT 62 85 9) (none, (hT 63 87 9)) := by
  obtain ⟨d, rfl⟩ : ∃ d2, d = d2 + 1 := ⟨d - 1, by omega⟩
  show Ex X _ 61 am_c61_0 [.ref 61, .ref 1, .int 8] [] (hT 62 85 9) _
  refine ex_aload_n rfl ?_
  refine ex_oinit (Nat.le_of_ble_eq_true rfl) (by omega) ?_
  refine ex_aload_n rfl ?_
  refine ex_aload_n rfl ?_
  refine ht_putR (o := 61) (v := 1) rfl rfl (by decide +kernel) (by decide +kernel) ?_
  refine ex_aload_n rfl ?_
  refine ex_iload_n rfl ?_
  refine ex_iconst (v := 0) (by decide) ?_
  refine ex_callS rfl rfl (Nat.le_of_ble_eq_true rfl) (Nat.le_of_ble_eq_true rfl) (z49 (by omega)) rfl ?_
  refine ht_newI (k := 62) (by decide) (by decide +kernel) (by decide +kernel) (by decide +kernel) ?_
  refine ht_putR (o := 61) (v := 62) rfl rfl (by decide +kernel) (by decide +kernel) ?_
  exact ex_vret (M := 61) rfl
set_option maxRecDepth 20000 in
theorem z51 {X : AmX} {d : Nat} (hd : 0 ≤ d) : Ex X d 296 (am_P 296) (am_ini (am_Mi 296).1 [.int 8, .int 0]) [] (hT 64 89 9) (some 8, (hT 64 89 9)) := by
  show Ex X _ 296 am_c296_0 [.int 8, .int 0] [] (hT 64 89 9) _
  refine ex_iload_n rfl ?_
  refine ex_iload_n rfl ?_
  refine ex_icmp_lt_f (by decide) ?_
  refine ex_iload_n rfl ?_
  refine ex_goto (ct := am_c296_10) rfl ?_
  exact ex_iret (M := 296) (Or.inl rfl)
set_option maxRecDepth 20000 in
theorem z52 {X : AmX} {d : Nat} (hd : 1 ≤ d) : Ex X d 61 (am_P 61) (am_ini (am_Mi 61).1 [.ref 63, .ref 1, .int 8]) [] (hT 64 88 9) (none, (hT 65 90 9)) := by
  obtain ⟨d, rfl⟩ : ∃ d2, d = d2 + 1 := ⟨d - 1, by omega⟩
  show Ex X _ 61 am_c61_0 [.ref 63, .ref 1, .int 8] [] (hT 64 88 9) _
  refine ex_aload_n rfl ?_
  refine ex_oinit (Nat.le_of_ble_eq_true rfl) (by omega) ?_
  refine ex_aload_n rfl ?_
  refine ex_aload_n rfl ?_
  refine ht_putR (o := 63) (v := 1) rfl rfl (by decide +kernel) (by decide +kernel) ?_
  refine ex_aload_n rfl ?_
  refine ex_iload_n rfl ?_
  refine ex_iconst (v := 0) (by decide) ?_
  refine ex_callS rfl rfl (Nat.le_of_ble_eq_true rfl) (Nat.le_of_ble_eq_true rfl) (z51 (by omega)) rfl ?_
  refine ht_newI (k := 64) (by decide) (by decide +kernel) (by decide +kernel) (by decide +kernel) ?_
  refine ht_putR (o := 63) (v := 64) rfl rfl (by decide +kernel) (by decide +kernel) ?_
  exact ex_vret (M := 61) rfl
set_option maxRecDepth 20000 in
theorem z53 {X : AmX} {d : Nat} (hd : 0 ≤ d) : Ex X d 296 (am_P 296) (am_ini (am_Mi 296).1 [.int 8, .int 0]) [] (hT 66 92 9) (some 8, (hT 66 92 9)) := by
  show Ex X _ 296 am_c296_0 [.int 8, .int 0] [] (hT 66 92 9) _
  refine ex_iload_n rfl ?_
  refine ex_iload_n rfl ?_
  refine ex_icmp_lt_f (by decide) ?_
  refine ex_iload_n rfl ?_
  refine ex_goto (ct := am_c296_10) rfl ?_
  exact ex_iret (M := 296) (Or.inl rfl)
set_option maxRecDepth 20000 in
theorem z54 {X : AmX} {d : Nat} (hd : 1 ≤ d) : Ex X d 61 (am_P 61) (am_ini (am_Mi 61).1 [.ref 65, .ref 1, .int 8]) [] (hT 66 91 9) (none, (hT 67 93 9)) := by
  obtain ⟨d, rfl⟩ : ∃ d2, d = d2 + 1 := ⟨d - 1, by omega⟩
  show Ex X _ 61 am_c61_0 [.ref 65, .ref 1, .int 8] [] (hT 66 91 9) _
  refine ex_aload_n rfl ?_
  refine ex_oinit (Nat.le_of_ble_eq_true rfl) (by omega) ?_
  refine ex_aload_n rfl ?_
  refine ex_aload_n rfl ?_
  refine ht_putR (o := 65) (v := 1) rfl rfl (by decide +kernel) (by decide +kernel) ?_
  refine ex_aload_n rfl ?_
  refine ex_iload_n rfl ?_
  refine ex_iconst (v := 0) (by decide) ?_
  refine ex_callS rfl rfl (Nat.le_of_ble_eq_true rfl) (Nat.le_of_ble_eq_true rfl) (z53 (by omega)) rfl ?_
  refine ht_newI (k := 66) (by decide) (by decide +kernel) (by decide +kernel) (by decide +kernel) ?_
  refine ht_putR (o := 65) (v := 66) rfl rfl (by decide +kernel) (by decide +kernel) ?_
  exact ex_vret (M := 61) rfl
set_option maxRecDepth 20000 in
theorem z55 {X : AmX} {d : Nat} (hd : 0 ≤ d) : Ex X d 296 (am_P 296) (am_ini (am_Mi 296).1 [.int 8, .int 0]) [] (hT 68 95 9) (some 8, (hT 68 95 9)) := by
  show Ex X _ 296 am_c296_0 [.int 8, .int 0] [] (hT 68 95 9) _
  refine ex_iload_n rfl ?_
  refine ex_iload_n rfl ?_
  refine ex_icmp_lt_f (by decide) ?_
  refine ex_iload_n rfl ?_
  refine ex_goto (ct := am_c296_10) rfl ?_
  exact ex_iret (M := 296) (Or.inl rfl)
set_option maxRecDepth 20000 in
theorem z56 {X : AmX} {d : Nat} (hd : 1 ≤ d) : Ex X d 61 (am_P 61) (am_ini (am_Mi 61).1 [.ref 67, .ref 1, .int 8]) [] (hT 68 94 9) (none, (hT 69 96 9)) := by
  obtain ⟨d, rfl⟩ : ∃ d2, d = d2 + 1 := ⟨d - 1, by omega⟩
  show Ex X _ 61 am_c61_0 [.ref 67, .ref 1, .int 8] [] (hT 68 94 9) _
  refine ex_aload_n rfl ?_
  refine ex_oinit (Nat.le_of_ble_eq_true rfl) (by omega) ?_
  refine ex_aload_n rfl ?_
  refine ex_aload_n rfl ?_
  refine ht_putR (o := 67) (v := 1) rfl rfl (by decide +kernel) (by decide +kernel) ?_
  refine ex_aload_n rfl ?_
  refine ex_iload_n rfl ?_
  refine ex_iconst (v := 0) (by decide) ?_
  refine ex_callS rfl rfl (Nat.le_of_ble_eq_true rfl) (Nat.le_of_ble_eq_true rfl) (z55 (by omega)) rfl ?_
  refine ht_newI (k := 68) (by decide) (by decide +kernel) (by decide +kernel) (by decide +kernel) ?_
  refine ht_putR (o := 67) (v := 68) rfl rfl (by decide +kernel) (by decide +kernel) ?_
  exact ex_vret (M := 61) rfl
set_option maxRecDepth 20000 in
theorem z57 {X : AmX} {d : Nat} (hd : 2 ≤ d) : Ex X d 93 (am_P 93) (am_ini (am_Mi 93).1 [.ref 46, .ref 1, .ref 7, .ref 22]) [] (hT 47 62 9) (none, (hT 69 97 9)) := by
  obtain ⟨d, rfl⟩ : ∃ d2, d = d2 + 1 := ⟨d - 1, by omega⟩
  show Ex X _ 93 am_c93_0 [.ref 46, .ref 1, .ref 7, .ref 22] [] (hT 47 62 9) _
  refine ex_aload_n rfl ?_
  refine ex_oinit (Nat.le_of_ble_eq_true rfl) (by omega) ?_
  refine ex_aload_n rfl ?_
  refine ex_aload_n rfl ?_
  refine ht_putR (o := 46) (v := 7) rfl rfl (by decide +kernel) (by decide +kernel) ?_
  refine ex_aload_n rfl ?_
  refine ex_aload_n rfl ?_
  refine ht_putR (o := 46) (v := 22) rfl rfl (by decide +kernel) (by decide +kernel) ?_
  refine ex_aload_n rfl ?_
  refine ht_new (k := 47) (by decide +kernel) (by decide +kernel) (by decide +kernel) ?_
  refine ex_dupr ?_
  refine ex_aload_n rfl ?_
  refine ex_iconst (v := 1) (by decide) ?_
  refine ex_callI (by decide) rfl rfl (Nat.le_of_ble_eq_true rfl) (Nat.le_of_ble_eq_true rfl) rfl (z36 (by omega)) rfl ?_
  refine ht_putR (o := 46) (v := 47) rfl rfl (by decide +kernel) (by decide +kernel) ?_
  refine ex_aload_n rfl ?_
  refine ht_new (k := 49) (by decide +kernel) (by decide +kernel) (by decide +kernel) ?_
  refine ex_dupr ?_
  refine ex_aload_n rfl ?_
  refine ex_bipush (v := 8) (by decide) ?_
  refine ex_callI (by decide) rfl rfl (Nat.le_of_ble_eq_true rfl) (Nat.le_of_ble_eq_true rfl) rfl (z38 (by omega)) rfl ?_
  refine ht_putR (o := 46) (v := 49) rfl rfl (by decide +kernel) (by decide +kernel) ?_
  refine ex_aload_n rfl ?_
  refine ht_new (k := 51) (by decide +kernel) (by decide +kernel) (by decide +kernel) ?_
  refine ex_dupr ?_
  refine ex_aload_n rfl ?_
  refine ex_bipush (v := 8) (by decide) ?_
  refine ex_callI (by decide) rfl rfl (Nat.le_of_ble_eq_true rfl) (Nat.le_of_ble_eq_true rfl) rfl (z40 (by omega)) rfl ?_
  refine ht_putR (o := 46) (v := 51) rfl rfl (by decide +kernel) (by decide +kernel) ?_
  refine ex_aload_n rfl ?_
  refine ht_new (k := 53) (by decide +kernel) (by decide +kernel) (by decide +kernel) ?_
  refine ex_dupr ?_
  refine ex_aload_n rfl ?_
  refine ex_bipush (v := 8) (by decide) ?_
  refine ex_callI (by decide) rfl rfl (Nat.le_of_ble_eq_true rfl) (Nat.le_of_ble_eq_true rfl) rfl (z42 (by omega)) rfl ?_
  refine ht_putR (o := 46) (v := 53) rfl rfl (by decide +kernel) (by decide +kernel) ?_
  refine ex_aload_n rfl ?_
  refine ht_new (k := 55) (by decide +kernel) (by decide +kernel) (by decide +kernel) ?_
  refine ex_dupr ?_
  refine ex_aload_n rfl ?_
  refine ex_sipush (v := 128) (by decide) ?_
  refine ex_callI (by decide) rfl rfl (Nat.le_of_ble_eq_true rfl) (Nat.le_of_ble_eq_true rfl) rfl (z44 (by omega)) rfl ?_
  refine ht_putR (o := 46) (v := 55) rfl rfl (by decide +kernel) (by decide +kernel) ?_
  refine ex_aload_n rfl ?_
  refine ht_new (k := 57) (by decide +kernel) (by decide +kernel) (by decide +kernel) ?_
  refine ex_dupr ?_
  refine ex_aload_n rfl ?_
  refine ex_sipush (v := 1024) (by decide) ?_
  refine ex_callI (by decide) rfl rfl (Nat.le_of_ble_eq_true rfl) (Nat.le_of_ble_eq_true rfl) rfl (z46 (by omega)) rfl ?_
  refine ht_putR (o := 46) (v := 57) rfl rfl (by decide +kernel) (by decide +kernel) ?_
  refine ex_aload_n rfl ?_
  refine ht_new (k := 59) (by decide +kernel) (by decide +kernel) (by decide +kernel) ?_
  refine ex_dupr ?_
  refine ex_aload_n rfl ?_
  refine ex_bipush (v := 8) (by decide) ?_
  refine ex_callI (by decide) rfl rfl (Nat.le_of_ble_eq_true rfl) (Nat.le_of_ble_eq_true rfl) rfl (z48 (by omega)) rfl ?_
  refine ht_putR (o := 46) (v := 59) rfl rfl (by decide +kernel) (by decide +kernel) ?_
  refine ex_aload_n rfl ?_
  refine ht_new (k := 61) (by decide +kernel) (by decide +kernel) (by decide +kernel) ?_
  refine ex_dupr ?_
  refine ex_aload_n rfl ?_
  refine ex_bipush (v := 8) (by decide) ?_
  refine ex_callI (by decide) rfl rfl (Nat.le_of_ble_eq_true rfl) (Nat.le_of_ble_eq_true rfl) rfl (z50 (by omega)) rfl ?_
  refine ht_putR (o := 46) (v := 61) rfl rfl (by decide +kernel) (by decide +kernel) ?_
  refine ex_aload_n rfl ?_
  refine ht_new (k := 63) (by decide +kernel) (by decide +kernel) (by decide +kernel) ?_
  refine ex_dupr ?_
  refine ex_aload_n rfl ?_
  refine ex_bipush (v := 8) (by decide) ?_
  refine ex_callI (by decide) rfl rfl (Nat.le_of_ble_eq_true rfl) (Nat.le_of_ble_eq_true rfl) rfl (z52 (by omega)) rfl ?_
  refine ht_putR (o := 46) (v := 63) rfl rfl (by decide +kernel) (by decide +kernel) ?_
  refine ex_aload_n rfl ?_
  refine ht_new (k := 65) (by decide +kernel) (by decide +kernel) (by decide +kernel) ?_
  refine ex_dupr ?_
  refine ex_aload_n rfl ?_
  refine ex_bipush (v := 8) (by decide) ?_
  refine ex_callI (by decide) rfl rfl (Nat.le_of_ble_eq_true rfl) (Nat.le_of_ble_eq_true rfl) rfl (z54 (by omega)) rfl ?_
  refine ht_putR (o := 46) (v := 65) rfl rfl (by decide +kernel) (by decide +kernel) ?_
  refine ex_aload_n rfl ?_
  refine ht_new (k := 67) (by decide +kernel) (by decide +kernel) (by decide +kernel) ?_
  refine ex_dupr ?_
  refine ex_aload_n rfl ?_
  refine ex_bipush (v := 8) (by decide) ?_
  refine ex_callI (by decide) rfl rfl (Nat.le_of_ble_eq_true rfl) (Nat.le_of_ble_eq_true rfl) rfl (z56 (by omega)) rfl ?_
  refine ht_putR (o := 46) (v := 67) rfl rfl (by decide +kernel) (by decide +kernel) ?_
  exact ex_vret (M := 93) rfl
set_option maxRecDepth 20000 in
theorem z58 {X : AmX} {d : Nat} (hd : 0 ≤ d) : Ex X d 296 (am_P 296) (am_ini (am_Mi 296).1 [.int 1, .int 0]) [] (hT 71 101 9) (some 1, (hT 71 101 9)) := by
  show Ex X _ 296 am_c296_0 [.int 1, .int 0] [] (hT 71 101 9) _
  refine ex_iload_n rfl ?_
  refine ex_iload_n rfl ?_
  refine ex_icmp_lt_f (by decide) ?_
  refine ex_iload_n rfl ?_
  refine ex_goto (ct := am_c296_10) rfl ?_
  exact ex_iret (M := 296) (Or.inl rfl)
set_option maxRecDepth 20000 in
theorem z59 {X : AmX} {d : Nat} (hd : 1 ≤ d) : Ex X d 61 (am_P 61) (am_ini (am_Mi 61).1 [.ref 70, .ref 1, .int 1]) [] (hT 71 100 9) (none, (hT 72 102 9)) := by
  obtain ⟨d, rfl⟩ : ∃ d2, d = d2 + 1 := ⟨d - 1, by omega⟩
  show Ex X _ 61 am_c61_0 [.ref 70, .ref 1, .int 1] [] (hT 71 100 9) _
  refine ex_aload_n rfl ?_
  refine ex_oinit (Nat.le_of_ble_eq_true rfl) (by omega) ?_
  refine ex_aload_n rfl ?_
  refine ex_aload_n rfl ?_
  refine ht_putR (o := 70) (v := 1) rfl rfl (by decide +kernel) (by decide +kernel) ?_
  refine ex_aload_n rfl ?_
  refine ex_iload_n rfl ?_
  refine ex_iconst (v := 0) (by decide) ?_
  refine ex_callS rfl rfl (Nat.le_of_ble_eq_true rfl) (Nat.le_of_ble_eq_true rfl) (z58 (by omega)) rfl ?_
  refine ht_newI (k := 71) (by decide) (by decide +kernel) (by decide +kernel) (by decide +kernel) ?_
  refine ht_putR (o := 70) (v := 71) rfl rfl (by decide +kernel) (by decide +kernel) ?_
  exact ex_vret (M := 61) rfl
set_option maxRecDepth 20000 in
theorem z60 {X : AmX} {d : Nat} (hd : 0 ≤ d) : Ex X d 296 (am_P 296) (am_ini (am_Mi 296).1 [.int 4, .int 0]) [] (hT 73 104 9) (some 4, (hT 73 104 9)) := by
  show Ex X _ 296 am_c296_0 [.int 4, .int 0] [] (hT 73 104 9) _
  refine ex_iload_n rfl ?_
  refine ex_iload_n rfl ?_
  refine ex_icmp_lt_f (by decide) ?_
  refine ex_iload_n rfl ?_
  refine ex_goto (ct := am_c296_10) rfl ?_
  exact ex_iret (M := 296) (Or.inl rfl)
set_option maxRecDepth 20000 in
theorem z61 {X : AmX} {d : Nat} (hd : 1 ≤ d) : Ex X d 61 (am_P 61) (am_ini (am_Mi 61).1 [.ref 72, .ref 1, .int 4]) [] (hT 73 103 9) (none, (hT 74 105 9)) := by
  obtain ⟨d, rfl⟩ : ∃ d2, d = d2 + 1 := ⟨d - 1, by omega⟩
  show Ex X _ 61 am_c61_0 [.ref 72, .ref 1, .int 4] [] (hT 73 103 9) _
  refine ex_aload_n rfl ?_
  refine ex_oinit (Nat.le_of_ble_eq_true rfl) (by omega) ?_
  refine ex_aload_n rfl ?_
  refine ex_aload_n rfl ?_
  refine ht_putR (o := 72) (v := 1) rfl rfl (by decide +kernel) (by decide +kernel) ?_
  refine ex_aload_n rfl ?_
  refine ex_iload_n rfl ?_
  refine ex_iconst (v := 0) (by decide) ?_
  refine ex_callS rfl rfl (Nat.le_of_ble_eq_true rfl) (Nat.le_of_ble_eq_true rfl) (z60 (by omega)) rfl ?_
  refine ht_newI (k := 73) (by decide) (by decide +kernel) (by decide +kernel) (by decide +kernel) ?_
  refine ht_putR (o := 72) (v := 73) rfl rfl (by decide +kernel) (by decide +kernel) ?_
  exact ex_vret (M := 61) rfl
set_option maxRecDepth 20000 in
theorem z62 {X : AmX} {d : Nat} (hd : 0 ≤ d) : Ex X d 296 (am_P 296) (am_ini (am_Mi 296).1 [.int 4, .int 0]) [] (hT 75 107 9) (some 4, (hT 75 107 9)) := by
  show Ex X _ 296 am_c296_0 [.int 4, .int 0] [] (hT 75 107 9) _
  refine ex_iload_n rfl ?_
  refine ex_iload_n rfl ?_
  refine ex_icmp_lt_f (by decide) ?_
  refine ex_iload_n rfl ?_
  refine ex_goto (ct := am_c296_10) rfl ?_
  exact ex_iret (M := 296) (Or.inl rfl)
set_option maxRecDepth 20000 in
theorem z63 {X : AmX} {d : Nat} (hd : 1 ≤ d) : Ex X d 61 (am_P 61) (am_ini (am_Mi 61).1 [.ref 74, .ref 1, .int 4]) [] (hT 75 106 9) (none, (hT 76 108 9)) := by
  obtain ⟨d, rfl⟩ : ∃ d2, d = d2 + 1 := ⟨d - 1, by omega⟩
  show Ex X _ 61 am_c61_0 [.ref 74, .ref 1, .int 4] [] (hT 75 106 9) _
  refine ex_aload_n rfl ?_
  refine ex_oinit (Nat.le_of_ble_eq_true rfl) (by omega) ?_
  refine ex_aload_n rfl ?_
  refine ex_aload_n rfl ?_
  refine ht_putR (o := 74) (v := 1) rfl rfl (by decide +kernel) (by decide +kernel) ?_
  refine ex_aload_n rfl ?_
  refine ex_iload_n rfl ?_
  refine ex_iconst (v := 0) (by decide) ?_
  refine ex_callS rfl rfl (Nat.le_of_ble_eq_true rfl) (Nat.le_of_ble_eq_true rfl) (z62 (by omega)) rfl ?_
  refine ht_newI (k := 75) (by decide) (by decide +kernel) (by decide +kernel) (by decide +kernel) ?_
  refine ht_putR (o := 74) (v := 75) rfl rfl (by decide +kernel) (by decide +kernel) ?_
  exact ex_vret (M := 61) rfl
set_option maxRecDepth 20000 in
theorem z64 {X : AmX} {d : Nat} (hd : 0 ≤ d) : Ex X d 296 (am_P 296) (am_ini (am_Mi 296).1 [.int 16, .int 0]) [] (hT 77 110 9) (some 16, (hT 77 110 9)) := by
  show Ex X _ 296 am_c296_0 [.int 16, .int 0] [] (hT 77 110 9) _
  refine ex_iload_n rfl ?_
  refine ex_iload_n rfl ?_
  refine ex_icmp_lt_f (by decide) ?_
  refine ex_iload_n rfl ?_
  refine ex_goto (ct := am_c296_10) rfl ?_
  exact ex_iret (M := 296) (Or.inl rfl)
set_option maxRecDepth 20000 in
theorem z65 {X : AmX} {d : Nat} (hd : 1 ≤ d) : Ex X d 61 (am_P 61) (am_ini (am_Mi 61).1 [.ref 76, .ref 1, .int 16]) [] (hT 77 109 9) (none, (hT 78 111 9)) := by
  obtain ⟨d, rfl⟩ : ∃ d2, d = d2 + 1 := ⟨d - 1, by omega⟩
  show Ex X _ 61 am_c61_0 [.ref 76, .ref 1, .int 16] [] (hT 77 109 9) _
  refine ex_aload_n rfl ?_
  refine ex_oinit (Nat.le_of_ble_eq_true rfl) (by omega) ?_
  refine ex_aload_n rfl ?_
  refine ex_aload_n rfl ?_
  refine ht_putR (o := 76) (v := 1) rfl rfl (by decide +kernel) (by decide +kernel) ?_
  refine ex_aload_n rfl ?_
  refine ex_iload_n rfl ?_
  refine ex_iconst (v := 0) (by decide) ?_
  refine ex_callS rfl rfl (Nat.le_of_ble_eq_true rfl) (Nat.le_of_ble_eq_true rfl) (z64 (by omega)) rfl ?_
  refine ht_newI (k := 77) (by decide) (by decide +kernel) (by decide +kernel) (by decide +kernel) ?_
  refine ht_putR (o := 76) (v := 77) rfl rfl (by decide +kernel) (by decide +kernel) ?_
  exact ex_vret (M := 61) rfl
set_option maxRecDepth 20000 in
theorem z66 {X : AmX} {d : Nat} (hd : 0 ≤ d) : Ex X d 296 (am_P 296) (am_ini (am_Mi 296).1 [.int 4, .int 0]) [] (hT 79 113 9) (some 4, (hT 79 113 9)) := by
  show Ex X _ 296 am_c296_0 [.int 4, .int 0] [] (hT 79 113 9) _
  refine ex_iload_n rfl ?_
  refine ex_iload_n rfl ?_
  refine ex_icmp_lt_f (by decide) ?_
  refine ex_iload_n rfl ?_
  refine ex_goto (ct := am_c296_10) rfl ?_
  exact ex_iret (M := 296) (Or.inl rfl)
set_option maxRecDepth 20000 in
theorem z67 {X : AmX} {d : Nat} (hd : 1 ≤ d) : Ex X d 61 (am_P 61) (am_ini (am_Mi 61).1 [.ref 78, .ref 1, .int 4]) [] (hT 79 112 9) (none, (hT 80 114 9)) := by
  obtain ⟨d, rfl⟩ : ∃ d2, d = d2 + 1 := ⟨d - 1, by omega⟩
  show Ex X _ 61 am_c61_0 [.ref 78, .ref 1, .int 4] [] (hT 79 112 9) _
  refine ex_aload_n rfl ?_
  refine ex_oinit (Nat.le_of_ble_eq_true rfl) (by omega) ?_
  refine ex_aload_n rfl ?_
  refine ex_aload_n rfl ?_
  refine ht_putR (o := 78) (v := 1) rfl rfl (by decide +kernel) (by decide +kernel) ?_
  refine ex_aload_n rfl ?_
  refine ex_iload_n rfl ?_
  refine ex_iconst (v := 0) (by decide) ?_
  refine ex_callS rfl rfl (Nat.le_of_ble_eq_true rfl) (Nat.le_of_ble_eq_true rfl) (z66 (by omega)) rfl ?_
  refine ht_newI (k := 79) (by decide) (by decide +kernel) (by decide +kernel) (by decide +kernel) ?_
  refine ht_putR (o := 78) (v := 79) rfl rfl (by decide +kernel) (by decide +kernel) ?_
  exact ex_vret (M := 61) rfl
set_option maxRecDepth 20000 in
theorem z68 {X : AmX} {d : Nat} (hd : 0 ≤ d) : Ex X d 296 (am_P 296) (am_ini (am_Mi 296).1 [.int 1, .int 0]) [] (hT 81 116 9) (some 1, (hT 81 116 9)) := by
  show Ex X _ 296 am_c296_0 [.int 1, .int 0] [] (hT 81 116 9) _
  refine ex_iload_n rfl ?_
  refine ex_iload_n rfl ?_
  refine ex_icmp_lt_f (by decide) ?_
  refine ex_iload_n rfl ?_
  refine ex_goto (ct := am_c296_10) rfl ?_
  exact ex_iret (M := 296) (Or.inl rfl)
set_option maxRecDepth 20000 in
theorem z69 {X : AmX} {d : Nat} (hd : 1 ≤ d) : Ex X d 61 (am_P 61) (am_ini (am_Mi 61).1 [.ref 80, .ref 1, .int 1]) [] (hT 81 115 9) (none, (hT 82 117 9)) := by
  obtain ⟨d, rfl⟩ : ∃ d2, d = d2 + 1 := ⟨d - 1, by omega⟩
  show Ex X _ 61 am_c61_0 [.ref 80, .ref 1, .int 1] [] (hT 81 115 9) _
  refine ex_aload_n rfl ?_
  refine ex_oinit (Nat.le_of_ble_eq_true rfl) (by omega) ?_
  refine ex_aload_n rfl ?_
  refine ex_aload_n rfl ?_
  refine ht_putR (o := 80) (v := 1) rfl rfl (by decide +kernel) (by decide +kernel) ?_
  refine ex_aload_n rfl ?_
  refine ex_iload_n rfl ?_
  refine ex_iconst (v := 0) (by decide) ?_
  refine ex_callS rfl rfl (Nat.le_of_ble_eq_true rfl) (Nat.le_of_ble_eq_true rfl) (z68 (by omega)) rfl ?_
  refine ht_newI (k := 81) (by decide) (by decide +kernel) (by decide +kernel) (by decide +kernel) ?_
  refine ht_putR (o := 80) (v := 81) rfl rfl (by decide +kernel) (by decide +kernel) ?_
  exact ex_vret (M := 61) rfl
set_option maxRecDepth 20000 in
theorem z70 {X : AmX} {d : Nat} (hd : 0 ≤ d) : Ex X d 296 (am_P 296) (am_ini (am_Mi 296).1 [.int 4, .int 0]) [] (hT 83 119 9) (some 4, (hT 83 119 9)) := by
  show Ex X _ 296 am_c296_0 [.int 4, .int 0] [] (hT 83 119 9) _
  refine ex_iload_n rfl ?_
  refine ex_iload_n rfl ?_
  refine ex_icmp_lt_f (by decide) ?_
  refine ex_iload_n rfl ?_
  refine ex_goto (ct := am_c296_10) rfl ?_
  exact ex_iret (M := 296) (Or.inl rfl)
set_option maxRecDepth 20000 in
theorem z71 {X : AmX} {d : Nat} (hd : 1 ≤ d) : Ex X d 61 (am_P 61) (am_ini (am_Mi 61).1 [.ref 82, .ref 1, .int 4]) [] (hT 83 118 9) (none, (hT 84 120 9)) := by
  obtain ⟨d, rfl⟩ : ∃ d2, d = d2 + 1 := ⟨d - 1, by omega⟩
  show Ex X _ 61 am_c61_0 [.ref 82, .ref 1, .int 4] [] (hT 83 118 9) _
  refine ex_aload_n rfl ?_
  refine ex_oinit (Nat.le_of_ble_eq_true rfl) (by omega) ?_
  refine ex_aload_n rfl ?_
  refine ex_aload_n rfl ?_
  refine ht_putR (o := 82) (v := 1) rfl rfl (by decide +kernel) (by decide +kernel) ?_
  refine ex_aload_n rfl ?_
  refine ex_iload_n rfl ?_
  refine ex_iconst (v := 0) (by decide) ?_
  refine ex_callS rfl rfl (Nat.le_of_ble_eq_true rfl) (Nat.le_of_ble_eq_true rfl) (z70 (by omega)) rfl ?_
  refine ht_newI (k := 83) (by decide) (by decide +kernel) (by decide +kernel) (by decide +kernel) ?_
  refine ht_putR (o := 82) (v := 83) rfl rfl (by decide +kernel) (by decide +kernel) ?_
  exact ex_vret (M := 61) rfl
set_option maxRecDepth 20000 in
theorem z72 {X : AmX} {d : Nat} (hd : 0 ≤ d) : Ex X d 296 (am_P 296) (am_ini (am_Mi 296).1 [.int 1, .int 0]) [] (hT 85 122 9) (some 1, (hT 85 122 9)) := by
  show Ex X _ 296 am_c296_0 [.int 1, .int 0] [] (hT 85 122 9) _
  refine ex_iload_n rfl ?_
  refine ex_iload_n rfl ?_
  refine ex_icmp_lt_f (by decide) ?_
  refine ex_iload_n rfl ?_
  refine ex_goto (ct := am_c296_10) rfl ?_
  exact ex_iret (M := 296) (Or.inl rfl)
set_option maxRecDepth 20000 in
theorem z73 {X : AmX} {d : Nat} (hd : 1 ≤ d) : Ex X d 61 (am_P 61) (am_ini (am_Mi 61).1 [.ref 84, .ref 1, .int 1]) [] (hT 85 121 9) (none, (hT 86 123 9)) := by
  obtain ⟨d, rfl⟩ : ∃ d2, d = d2 + 1 := ⟨d - 1, by omega⟩
  show Ex X _ 61 am_c61_0 [.ref 84, .ref 1, .int 1] [] (hT 85 121 9) _
  refine ex_aload_n rfl ?_
  refine ex_oinit (Nat.le_of_ble_eq_true rfl) (by omega) ?_
  refine ex_aload_n rfl ?_
  refine ex_aload_n rfl ?_
  refine ht_putR (o := 84) (v := 1) rfl rfl (by decide +kernel) (by decide +kernel) ?_
  refine ex_aload_n rfl ?_
  refine ex_iload_n rfl ?_
  refine ex_iconst (v := 0) (by decide) ?_
  refine ex_callS rfl rfl (Nat.le_of_ble_eq_true rfl) (Nat.le_of_ble_eq_true rfl) (z72 (by omega)) rfl ?_
  refine ht_newI (k := 85) (by decide) (by decide +kernel) (by decide +kernel) (by decide +kernel) ?_
  refine ht_putR (o := 84) (v := 85) rfl rfl (by decide +kernel) (by decide +kernel) ?_
  exact ex_vret (M := 61) rfl
set_option maxRecDepth 20000 in
theorem z74 {X : AmX} {d : Nat} (hd : 0 ≤ d) : Ex X d 64 (am_P 64) (am_ini (am_Mi 64).1 [.ref 84, .int 0, .int (-1)]) [] (hT 86 124 9) (none, (hT 86 124 10)) := by
  show Ex X _ 64 am_c64_0 [.ref 84, .int 0, .int (-1)] [] (hT 86 124 9) _
  refine ex_iload_n rfl ?_
  refine ex_if_lt_f (by decide) ?_
  refine ex_iload_n rfl ?_
  refine ex_aload_n rfl ?_
  refine ex_getR (w := 85) rfl rfl (by decide +kernel) ?_
  refine ex_alen (k := 1) (v := 1) rfl (by decide) ?_
  refine ex_icmp_ge_f (by decide) ?_
  refine ex_aload_n rfl ?_
  refine ex_getR (w := 85) rfl rfl (by decide +kernel) ?_
  refine ex_iload_n rfl ?_
  refine ex_iload_n rfl ?_
  refine ht_iast (o := 85) (k0 := 1) (by decide +kernel) rfl (by decide) (by decide +kernel) ?_
  exact ex_vret (M := 64) rfl
set_option maxRecDepth 20000 in
theorem z75 {X : AmX} {d : Nat} (hd : 2 ≤ d) : Ex X d 0 (am_P 0) (am_ini (am_Mi 0).1 [.ref 69, .ref 1, .ref 22, .ref 46]) [] (hT 70 98 9) (none, (hT 86 124 10)) := by
  obtain ⟨d, rfl⟩ : ∃ d2, d = d2 + 1 := ⟨d - 1, by omega⟩
  show Ex X _ 0 am_c0_0 [.ref 69, .ref 1, .ref 22, .ref 46] [] (hT 70 98 9) _
  refine ex_aload_n rfl ?_
  refine ex_oinit (Nat.le_of_ble_eq_true rfl) (by omega) ?_
  refine ex_aload_n rfl ?_
  refine ex_aload_n rfl ?_
  refine ht_putR (o := 69) (v := 22) rfl rfl (by decide +kernel) (by decide +kernel) ?_
  refine ex_aload_n rfl ?_
  refine ex_aload_n rfl ?_
  refine ht_putR (o := 69) (v := 46) rfl rfl (by decide +kernel) (by decide +kernel) ?_
  refine ex_aload_n rfl ?_
  refine ht_new (k := 70) (by decide +kernel) (by decide +kernel) (by decide +kernel) ?_
  refine ex_dupr ?_
  refine ex_aload_n rfl ?_
  refine ex_iconst (v := 1) (by decide) ?_
  refine ex_callI (by decide) rfl rfl (Nat.le_of_ble_eq_true rfl) (Nat.le_of_ble_eq_true rfl) rfl (z59 (by omega)) rfl ?_
  refine ht_putR (o := 69) (v := 70) rfl rfl (by decide +kernel) (by decide +kernel) ?_
  refine ex_aload_n rfl ?_
  refine ht_new (k := 72) (by decide +kernel) (by decide +kernel) (by decide +kernel) ?_
  refine ex_dupr ?_
  refine ex_aload_n rfl ?_
  refine ex_iconst (v := 4) (by decide) ?_
  refine ex_callI (by decide) rfl rfl (Nat.le_of_ble_eq_true rfl) (Nat.le_of_ble_eq_true rfl) rfl (z61 (by omega)) rfl ?_
  refine ht_putR (o := 69) (v := 72) rfl rfl (by decide +kernel) (by decide +kernel) ?_
  refine ex_aload_n rfl ?_
  refine ht_new (k := 74) (by decide +kernel) (by decide +kernel) (by decide +kernel) ?_
  refine ex_dupr ?_
  refine ex_aload_n rfl ?_
  refine ex_iconst (v := 4) (by decide) ?_
  refine ex_callI (by decide) rfl rfl (Nat.le_of_ble_eq_true rfl) (Nat.le_of_ble_eq_true rfl) rfl (z63 (by omega)) rfl ?_
  refine ht_putR (o := 69) (v := 74) rfl rfl (by decide +kernel) (by decide +kernel) ?_
  refine ex_aload_n rfl ?_
  refine ht_new (k := 76) (by decide +kernel) (by decide +kernel) (by decide +kernel) ?_
  refine ex_dupr ?_
  refine ex_aload_n rfl ?_
  refine ex_bipush (v := 16) (by decide) ?_
  refine ex_callI (by decide) rfl rfl (Nat.le_of_ble_eq_true rfl) (Nat.le_of_ble_eq_true rfl) rfl (z65 (by omega)) rfl ?_
  refine ht_putR (o := 69) (v := 76) rfl rfl (by decide +kernel) (by decide +kernel) ?_
  refine ex_aload_n rfl ?_
  refine ht_new (k := 78) (by decide +kernel) (by decide +kernel) (by decide +kernel) ?_
  refine ex_dupr ?_
  refine ex_aload_n rfl ?_
  refine ex_iconst (v := 4) (by decide) ?_
  refine ex_callI (by decide) rfl rfl (Nat.le_of_ble_eq_true rfl) (Nat.le_of_ble_eq_true rfl) rfl (z67 (by omega)) rfl ?_
  refine ht_putR (o := 69) (v := 78) rfl rfl (by decide +kernel) (by decide +kernel) ?_
  refine ex_aload_n rfl ?_
  refine ht_new (k := 80) (by decide +kernel) (by decide +kernel) (by decide +kernel) ?_
  refine ex_dupr ?_
  refine ex_aload_n rfl ?_
  refine ex_iconst (v := 1) (by decide) ?_
  refine ex_callI (by decide) rfl rfl (Nat.le_of_ble_eq_true rfl) (Nat.le_of_ble_eq_true rfl) rfl (z69 (by omega)) rfl ?_
  refine ht_putR (o := 69) (v := 80) rfl rfl (by decide +kernel) (by decide +kernel) ?_
  refine ex_aload_n rfl ?_
  refine ht_new (k := 82) (by decide +kernel) (by decide +kernel) (by decide +kernel) ?_
  refine ex_dupr ?_
  refine ex_aload_n rfl ?_
  refine ex_iconst (v := 4) (by decide) ?_
  refine ex_callI (by decide) rfl rfl (Nat.le_of_ble_eq_true rfl) (Nat.le_of_ble_eq_true rfl) rfl (z71 (by omega)) rfl ?_
  refine ht_putR (o := 69) (v := 82) rfl rfl (by decide +kernel) (by decide +kernel) ?_
  refine ex_aload_n rfl ?_
  refine ht_new (k := 84) (by decide +kernel) (by decide +kernel) (by decide +kernel) ?_
  refine ex_dupr ?_
  refine ex_aload_n rfl ?_
  refine ex_iconst (v := 1) (by decide) ?_
  refine ex_callI (by decide) rfl rfl (Nat.le_of_ble_eq_true rfl) (Nat.le_of_ble_eq_true rfl) rfl (z73 (by omega)) rfl ?_
  refine ht_putR (o := 69) (v := 84) rfl rfl (by decide +kernel) (by decide +kernel) ?_
  refine ex_aload_n rfl ?_
  refine ex_getR (w := 84) rfl rfl (by decide +kernel) ?_
  refine ex_iconst (v := 0) (by decide) ?_
  refine ex_iconst (v := (-1)) (by decide) ?_
  refine ex_callV rfl rfl (Nat.le_of_ble_eq_true rfl) (Nat.le_of_ble_eq_true rfl) (by decide +kernel) (z74 (by omega)) rfl ?_
  exact ex_vret (M := 0) rfl
set_option maxRecDepth 20000 in
theorem z76 {X : AmX} {d : Nat} (hd : 0 ≤ d) : Ex X d 296 (am_P 296) (am_ini (am_Mi 296).1 [.int 5, .int 0]) [] (hT 88 129 10) (some 5, (hT 88 129 10)) := by
  show Ex X _ 296 am_c296_0 [.int 5, .int 0] [] (hT 88 129 10) _
  refine ex_iload_n rfl ?_
  refine ex_iload_n rfl ?_
  refine ex_icmp_lt_f (by decide) ?_
  refine ex_iload_n rfl ?_
  refine ex_goto (ct := am_c296_10) rfl ?_
  exact ex_iret (M := 296) (Or.inl rfl)
set_option maxRecDepth 20000 in
theorem z77 {X : AmX} {d : Nat} (hd : 1 ≤ d) : Ex X d 61 (am_P 61) (am_ini (am_Mi 61).1 [.ref 87, .ref 1, .int 5]) [] (hT 88 128 10) (none, (hT 89 130 10)) := by
  obtain ⟨d, rfl⟩ : ∃ d2, d = d2 + 1 := ⟨d - 1, by omega⟩
  show Ex X _ 61 am_c61_0 [.ref 87, .ref 1, .int 5] [] (hT 88 128 10) _
  refine ex_aload_n rfl ?_
  refine ex_oinit (Nat.le_of_ble_eq_true rfl) (by omega) ?_
  refine ex_aload_n rfl ?_
  refine ex_aload_n rfl ?_
  refine ht_putR (o := 87) (v := 1) rfl rfl (by decide +kernel) (by decide +kernel) ?_
  refine ex_aload_n rfl ?_
  refine ex_iload_n rfl ?_
  refine ex_iconst (v := 0) (by decide) ?_
  refine ex_callS rfl rfl (Nat.le_of_ble_eq_true rfl) (Nat.le_of_ble_eq_true rfl) (z76 (by omega)) rfl ?_
  refine ht_newI (k := 88) (by decide) (by decide +kernel) (by decide +kernel) (by decide +kernel) ?_
  refine ht_putR (o := 87) (v := 88) rfl rfl (by decide +kernel) (by decide +kernel) ?_
  exact ex_vret (M := 61) rfl
set_option maxRecDepth 20000 in
theorem z78 {X : AmX} {d : Nat} (hd : 0 ≤ d) : Ex X d 296 (am_P 296) (am_ini (am_Mi 296).1 [.int 1, .int 0]) [] (hT 90 132 10) (some 1, (hT 90 132 10)) := by
  show Ex X _ 296 am_c296_0 [.int 1, .int 0] [] (hT 90 132 10) _
  refine ex_iload_n rfl ?_
  refine ex_iload_n rfl ?_
  refine ex_icmp_lt_f (by decide) ?_
  refine ex_iload_n rfl ?_
  refine ex_goto (ct := am_c296_10) rfl ?_
  exact ex_iret (M := 296) (Or.inl rfl)
set_option maxRecDepth 20000 in
theorem z79 {X : AmX} {d : Nat} (hd : 1 ≤ d) : Ex X d 61 (am_P 61) (am_ini (am_Mi 61).1 [.ref 89, .ref 1, .int 1]) [] (hT 90 131 10) (none, (hT 91 133 10)) := by
  obtain ⟨d, rfl⟩ : ∃ d2, d = d2 + 1 := ⟨d - 1, by omega⟩
  show Ex X _ 61 am_c61_0 [.ref 89, .ref 1, .int 1] [] (hT 90 131 10) _
  refine ex_aload_n rfl ?_
  refine ex_oinit (Nat.le_of_ble_eq_true rfl) (by omega) ?_
  refine ex_aload_n rfl ?_
  refine ex_aload_n rfl ?_
  refine ht_putR (o := 89) (v := 1) rfl rfl (by decide +kernel) (by decide +kernel) ?_
  refine ex_aload_n rfl ?_
  refine ex_iload_n rfl ?_
  refine ex_iconst (v := 0) (by decide) ?_
  refine ex_callS rfl rfl (Nat.le_of_ble_eq_true rfl) (Nat.le_of_ble_eq_true rfl) (z78 (by omega)) rfl ?_
  refine ht_newI (k := 90) (by decide) (by decide +kernel) (by decide +kernel) (by decide +kernel) ?_
  refine ht_putR (o := 89) (v := 90) rfl rfl (by decide +kernel) (by decide +kernel) ?_
  exact ex_vret (M := 61) rfl
set_option maxRecDepth 20000 in
theorem z80 {X : AmX} {d : Nat} (hd : 0 ≤ d) : Ex X d 296 (am_P 296) (am_ini (am_Mi 296).1 [.int 1, .int 0]) [] (hT 92 135 10) (some 1, (hT 92 135 10)) := by
  show Ex X _ 296 am_c296_0 [.int 1, .int 0] [] (hT 92 135 10) _
  refine ex_iload_n rfl ?_
  refine ex_iload_n rfl ?_
  refine ex_icmp_lt_f (by decide) ?_
  refine ex_iload_n rfl ?_
  refine ex_goto (ct := am_c296_10) rfl ?_
  exact ex_iret (M := 296) (Or.inl rfl)
set_option maxRecDepth 20000 in
theorem z81 {X : AmX} {d : Nat} (hd : 1 ≤ d) : Ex X d 61 (am_P 61) (am_ini (am_Mi 61).1 [.ref 91, .ref 1, .int 1]) [] (hT 92 134 10) (none, (hT 93 136 10)) := by
  obtain ⟨d, rfl⟩ : ∃ d2, d = d2 + 1 := ⟨d - 1, by omega⟩
  show Ex X _ 61 am_c61_0 [.ref 91, .ref 1, .int 1] [] (hT 92 134 10) _
  refine ex_aload_n rfl ?_
  refine ex_oinit (Nat.le_of_ble_eq_true rfl) (by omega) ?_
  refine ex_aload_n rfl ?_
  refine ex_aload_n rfl ?_
  refine ht_putR (o := 91) (v := 1) rfl rfl (by decide +kernel) (by decide +kernel) ?_
  refine ex_aload_n rfl ?_
  refine ex_iload_n rfl ?_
  refine ex_iconst (v := 0) (by decide) ?_
  refine ex_callS rfl rfl (Nat.le_of_ble_eq_true rfl) (Nat.le_of_ble_eq_true rfl) (z80 (by omega)) rfl ?_
  refine ht_newI (k := 92) (by decide) (by decide +kernel) (by decide +kernel) (by decide +kernel) ?_
  refine ht_putR (o := 91) (v := 92) rfl rfl (by decide +kernel) (by decide +kernel) ?_
  exact ex_vret (M := 61) rfl
set_option maxRecDepth 20000 in
theorem z82 {X : AmX} {d : Nat} (hd : 0 ≤ d) : Ex X d 296 (am_P 296) (am_ini (am_Mi 296).1 [.int 1, .int 0]) [] (hT 94 138 10) (some 1, (hT 94 138 10)) := by
  show Ex X _ 296 am_c296_0 [.int 1, .int 0] [] (hT 94 138 10) _
  refine ex_iload_n rfl ?_
  refine ex_iload_n rfl ?_
  refine ex_icmp_lt_f (by decide) ?_
  refine ex_iload_n rfl ?_
  refine ex_goto (ct := am_c296_10) rfl ?_
  exact ex_iret (M := 296) (Or.inl rfl)
set_option maxRecDepth 20000 in
theorem z83 {X : AmX} {d : Nat} (hd : 1 ≤ d) : Ex X d 61 (am_P 61) (am_ini (am_Mi 61).1 [.ref 93, .ref 1, .int 1]) [] (hT 94 137 10) (none, (hT 95 139 10)) := by
  obtain ⟨d, rfl⟩ : ∃ d2, d = d2 + 1 := ⟨d - 1, by omega⟩
  show Ex X _ 61 am_c61_0 [.ref 93, .ref 1, .int 1] [] (hT 94 137 10) _
  refine ex_aload_n rfl ?_
  refine ex_oinit (Nat.le_of_ble_eq_true rfl) (by omega) ?_
  refine ex_aload_n rfl ?_
  refine ex_aload_n rfl ?_
  refine ht_putR (o := 93) (v := 1) rfl rfl (by decide +kernel) (by decide +kernel) ?_
  refine ex_aload_n rfl ?_
  refine ex_iload_n rfl ?_
  refine ex_iconst (v := 0) (by decide) ?_
  refine ex_callS rfl rfl (Nat.le_of_ble_eq_true rfl) (Nat.le_of_ble_eq_true rfl) (z82 (by omega)) rfl ?_
  refine ht_newI (k := 94) (by decide) (by decide +kernel) (by decide +kernel) (by decide +kernel) ?_
  refine ht_putR (o := 93) (v := 94) rfl rfl (by decide +kernel) (by decide +kernel) ?_
  exact ex_vret (M := 61) rfl
set_option maxRecDepth 20000 in
theorem z84 {X : AmX} {d : Nat} (hd : 0 ≤ d) : Ex X d 64 (am_P 64) (am_ini (am_Mi 64).1 [.ref 93, .int 0, .int 3]) [] (hT 95 140 10) (none, (hT 95 140 11)) := by
  show Ex X _ 64 am_c64_0 [.ref 93, .int 0, .int 3] [] (hT 95 140 10) _
  refine ex_iload_n rfl ?_
  refine ex_if_lt_f (by decide) ?_
  refine ex_iload_n rfl ?_
  refine ex_aload_n rfl ?_
  refine ex_getR (w := 94) rfl rfl (by decide +kernel) ?_
  refine ex_alen (k := 1) (v := 1) rfl (by decide) ?_
  refine ex_icmp_ge_f (by decide) ?_
  refine ex_aload_n rfl ?_
  refine ex_getR (w := 94) rfl rfl (by decide +kernel) ?_
  refine ex_iload_n rfl ?_
  refine ex_iload_n rfl ?_
  refine ht_iast (o := 94) (k0 := 1) (by decide +kernel) rfl (by decide) (by decide +kernel) ?_
  exact ex_vret (M := 64) rfl
set_option maxRecDepth 20000 in
theorem z85 {X : AmX} {d : Nat} (hd : 2 ≤ d) : Ex X d 80 (am_P 80) (am_ini (am_Mi 80).1 [.ref 86, .ref 1, .ref 5, .ref 22, .ref 46]) [] (hT 87 125 10) (none, (hT 95 140 11)) := by
  obtain ⟨d, rfl⟩ : ∃ d2, d = d2 + 1 := ⟨d - 1, by omega⟩
  show Ex X _ 80 am_c80_0 [.ref 86, .ref 1, .ref 5, .ref 22, .ref 46] [] (hT 87 125 10) _
  refine ex_aload_n rfl ?_
  refine ex_oinit (Nat.le_of_ble_eq_true rfl) (by omega) ?_
  refine ex_aload_n rfl ?_
  refine ex_aload_n rfl ?_
  refine ht_putR (o := 86) (v := 5) rfl rfl (by decide +kernel) (by decide +kernel) ?_
  refine ex_aload_n rfl ?_
  refine ex_aload_n rfl ?_
  refine ht_putR (o := 86) (v := 22) rfl rfl (by decide +kernel) (by decide +kernel) ?_
  refine ex_aload_n rfl ?_
  refine ex_aload rfl ?_
  refine ht_putR (o := 86) (v := 46) rfl rfl (by decide +kernel) (by decide +kernel) ?_
  refine ex_aload_n rfl ?_
  refine ht_new (k := 87) (by decide +kernel) (by decide +kernel) (by decide +kernel) ?_
  refine ex_dupr ?_
  refine ex_aload_n rfl ?_
  refine ex_iconst (v := 5) (by decide) ?_
  refine ex_callI (by decide) rfl rfl (Nat.le_of_ble_eq_true rfl) (Nat.le_of_ble_eq_true rfl) rfl (z77 (by omega)) rfl ?_
  refine ht_putR (o := 86) (v := 87) rfl rfl (by decide +kernel) (by decide +kernel) ?_
  refine ex_aload_n rfl ?_
  refine ht_new (k := 89) (by decide +kernel) (by decide +kernel) (by decide +kernel) ?_
  refine ex_dupr ?_
  refine ex_aload_n rfl ?_
  refine ex_iconst (v := 1) (by decide) ?_
  refine ex_callI (by decide) rfl rfl (Nat.le_of_ble_eq_true rfl) (Nat.le_of_ble_eq_true rfl) rfl (z79 (by omega)) rfl ?_
  refine ht_putR (o := 86) (v := 89) rfl rfl (by decide +kernel) (by decide +kernel) ?_
  refine ex_aload_n rfl ?_
  refine ht_new (k := 91) (by decide +kernel) (by decide +kernel) (by decide +kernel) ?_
  refine ex_dupr ?_
  refine ex_aload_n rfl ?_
  refine ex_iconst (v := 1) (by decide) ?_
  refine ex_callI (by decide) rfl rfl (Nat.le_of_ble_eq_true rfl) (Nat.le_of_ble_eq_true rfl) rfl (z81 (by omega)) rfl ?_
  refine ht_putR (o := 86) (v := 91) rfl rfl (by decide +kernel) (by decide +kernel) ?_
  refine ex_aload_n rfl ?_
  refine ht_new (k := 93) (by decide +kernel) (by decide +kernel) (by decide +kernel) ?_
  refine ex_dupr ?_
  refine ex_aload_n rfl ?_
  refine ex_iconst (v := 1) (by decide) ?_
  refine ex_callI (by decide) rfl rfl (Nat.le_of_ble_eq_true rfl) (Nat.le_of_ble_eq_true rfl) rfl (z83 (by omega)) rfl ?_
  refine ht_putR (o := 86) (v := 93) rfl rfl (by decide +kernel) (by decide +kernel) ?_
  refine ex_aload_n rfl ?_
  refine ex_getR (w := 93) rfl rfl (by decide +kernel) ?_
  refine ex_iconst (v := 0) (by decide) ?_
  refine ex_iconst (v := 3) (by decide) ?_
  refine ex_callV rfl rfl (Nat.le_of_ble_eq_true rfl) (Nat.le_of_ble_eq_true rfl) (by decide +kernel) (z84 (by omega)) rfl ?_
  exact ex_vret (M := 80) rfl
set_option maxRecDepth 20000 in
theorem z86 {X : AmX} {d : Nat} (hd : 3 ≤ d) : Ex X d 140 (am_P 140) (am_ini (am_Mi 140).1 [.ref 0]) [] (hT 1 0 0) (none, (hT 95 141 11)) := by
  obtain ⟨d, rfl⟩ : ∃ d2, d = d2 + 1 := ⟨d - 1, by omega⟩
  show Ex X _ 140 am_c140_0 [.ref 0] [] (hT 1 0 0) _
  refine ex_aload_n rfl ?_
  refine ex_oinit (Nat.le_of_ble_eq_true rfl) (by omega) ?_
  refine ex_aload_n rfl ?_
  refine ht_new (k := 1) (by decide +kernel) (by decide +kernel) (by decide +kernel) ?_
  refine ex_dupr ?_
  refine ex_callI (by decide) rfl rfl (Nat.le_of_ble_eq_true rfl) (Nat.le_of_ble_eq_true rfl) rfl (z0 (by omega)) rfl ?_
  refine ht_putR (o := 0) (v := 1) rfl rfl (by decide +kernel) (by decide +kernel) ?_
  refine ex_aload_n rfl ?_
  refine ht_new (k := 5) (by decide +kernel) (by decide +kernel) (by decide +kernel) ?_
  refine ex_dupr ?_
  refine ex_callI (by decide) rfl rfl (Nat.le_of_ble_eq_true rfl) (Nat.le_of_ble_eq_true rfl) rfl (z1 (by omega)) rfl ?_
  refine ht_putR (o := 0) (v := 5) rfl rfl (by decide +kernel) (by decide +kernel) ?_
  refine ex_aload_n rfl ?_
  refine ht_new (k := 7) (by decide +kernel) (by decide +kernel) (by decide +kernel) ?_
  refine ex_dupr ?_
  refine ex_aload_n rfl ?_
  refine ex_getR (w := 1) rfl rfl (by decide +kernel) ?_
  refine ex_callI (by decide) rfl rfl (Nat.le_of_ble_eq_true rfl) (Nat.le_of_ble_eq_true rfl) rfl (z16 (by omega)) rfl ?_
  refine ht_putR (o := 0) (v := 7) rfl rfl (by decide +kernel) (by decide +kernel) ?_
  refine ex_aload_n rfl ?_
  refine ht_new (k := 22) (by decide +kernel) (by decide +kernel) (by decide +kernel) ?_
  refine ex_dupr ?_
  refine ex_aload_n rfl ?_
  refine ex_getR (w := 1) rfl rfl (by decide +kernel) ?_
  refine ex_aload_n rfl ?_
  refine ex_getR (w := 5) rfl rfl (by decide +kernel) ?_
  refine ex_callI (by decide) rfl rfl (Nat.le_of_ble_eq_true rfl) (Nat.le_of_ble_eq_true rfl) rfl (z34 (by omega)) rfl ?_
  refine ht_putR (o := 0) (v := 22) rfl rfl (by decide +kernel) (by decide +kernel) ?_
  refine ex_aload_n rfl ?_
  refine ht_new (k := 46) (by decide +kernel) (by decide +kernel) (by decide +kernel) ?_
  refine ex_dupr ?_
  refine ex_aload_n rfl ?_
  refine ex_getR (w := 1) rfl rfl (by decide +kernel) ?_
  refine ex_aload_n rfl ?_
  refine ex_getR (w := 7) rfl rfl (by decide +kernel) ?_
  refine ex_aload_n rfl ?_
  refine ex_getR (w := 22) rfl rfl (by decide +kernel) ?_
  refine ex_callI (by decide) rfl rfl (Nat.le_of_ble_eq_true rfl) (Nat.le_of_ble_eq_true rfl) rfl (z57 (by omega)) rfl ?_
  refine ht_putR (o := 0) (v := 46) rfl rfl (by decide +kernel) (by decide +kernel) ?_
  refine ex_aload_n rfl ?_
  refine ht_new (k := 69) (by decide +kernel) (by decide +kernel) (by decide +kernel) ?_
  refine ex_dupr ?_
  refine ex_aload_n rfl ?_
  refine ex_getR (w := 1) rfl rfl (by decide +kernel) ?_
  refine ex_aload_n rfl ?_
  refine ex_getR (w := 22) rfl rfl (by decide +kernel) ?_
  refine ex_aload_n rfl ?_
  refine ex_getR (w := 46) rfl rfl (by decide +kernel) ?_
  refine ex_callI (by decide) rfl rfl (Nat.le_of_ble_eq_true rfl) (Nat.le_of_ble_eq_true rfl) rfl (z75 (by omega)) rfl ?_
  refine ht_putR (o := 0) (v := 69) rfl rfl (by decide +kernel) (by decide +kernel) ?_
  refine ex_aload_n rfl ?_
  refine ht_new (k := 86) (by decide +kernel) (by decide +kernel) (by decide +kernel) ?_
  refine ex_dupr ?_
  refine ex_aload_n rfl ?_
  refine ex_getR (w := 1) rfl rfl (by decide +kernel) ?_
  refine ex_aload_n rfl ?_
  refine ex_getR (w := 5) rfl rfl (by decide +kernel) ?_
  refine ex_aload_n rfl ?_
  refine ex_getR (w := 22) rfl rfl (by decide +kernel) ?_
  refine ex_aload_n rfl ?_
  refine ex_getR (w := 46) rfl rfl (by decide +kernel) ?_
  refine ex_callI (by decide) rfl rfl (Nat.le_of_ble_eq_true rfl) (Nat.le_of_ble_eq_true rfl) rfl (z85 (by omega)) rfl ?_
  refine ht_putR (o := 0) (v := 86) rfl rfl (by decide +kernel) (by decide +kernel) ?_
  exact ex_vret (M := 140) rfl
set_option maxRecDepth 20000 in
theorem z87 {X : AmX} {d : Nat} (hd : 1 ≤ d) : Ex X d 196 (am_P 196) (am_ini (am_Mi 196).1 [.ref 95]) [] (hT 96 141 11) (none, (hT 134 179 13)) := by
  obtain ⟨d, rfl⟩ : ∃ d2, d = d2 + 1 := ⟨d - 1, by omega⟩
  show Ex X _ 196 am_c196_0 [.ref 95] [] (hT 96 141 11) _
  refine ex_aload_n rfl ?_
  refine ex_oinit (Nat.le_of_ble_eq_true rfl) (by omega) ?_
  refine ex_aload_n rfl ?_
  refine ex_bipush (v := 32) (by decide) ?_
  refine ht_newI (k := 96) (by decide) (by decide +kernel) (by decide +kernel) (by decide +kernel) ?_
  refine ht_putR (o := 95) (v := 96) rfl rfl (by decide +kernel) (by decide +kernel) ?_
  refine ex_aload_n rfl ?_
  refine ex_bipush (v := 6) (by decide) ?_
  refine ht_newI (k := 97) (by decide) (by decide +kernel) (by decide +kernel) (by decide +kernel) ?_
  refine ht_putR (o := 95) (v := 97) rfl rfl (by decide +kernel) (by decide +kernel) ?_
  refine ex_aload_n rfl ?_
  refine ex_bipush (v := 6) (by decide) ?_
  refine ht_newI (k := 98) (by decide) (by decide +kernel) (by decide +kernel) (by decide +kernel) ?_
  refine ht_putR (o := 95) (v := 98) rfl rfl (by decide +kernel) (by decide +kernel) ?_
  refine ex_aload_n rfl ?_
  refine ex_bipush (v := 6) (by decide) ?_
  refine ht_newI (k := 99) (by decide) (by decide +kernel) (by decide +kernel) (by decide +kernel) ?_
  refine ht_putR (o := 95) (v := 99) rfl rfl (by decide +kernel) (by decide +kernel) ?_
  refine ex_aload_n rfl ?_
  refine ex_sipush (v := 144) (by decide) ?_
  refine ht_newI (k := 100) (by decide) (by decide +kernel) (by decide +kernel) (by decide +kernel) ?_
  refine ht_putR (o := 95) (v := 100) rfl rfl (by decide +kernel) (by decide +kernel) ?_
  refine ex_aload_n rfl ?_
  refine ex_sipush (v := 1152) (by decide) ?_
  refine ht_newI (k := 101) (by decide) (by decide +kernel) (by decide +kernel) (by decide +kernel) ?_
  refine ht_putR (o := 95) (v := 101) rfl rfl (by decide +kernel) (by decide +kernel) ?_
  refine ex_aload_n rfl ?_
  refine ex_sipush (v := 11520) (by decide) ?_
  refine ht_newI (k := 102) (by decide) (by decide +kernel) (by decide +kernel) (by decide +kernel) ?_
  refine ht_putR (o := 95) (v := 102) rfl rfl (by decide +kernel) (by decide +kernel) ?_
  refine ex_aload_n rfl ?_
  refine ex_bipush (v := 32) (by decide) ?_
  refine ht_newI (k := 103) (by decide) (by decide +kernel) (by decide +kernel) (by decide +kernel) ?_
  refine ht_putR (o := 95) (v := 103) rfl rfl (by decide +kernel) (by decide +kernel) ?_
  refine ex_aload_n rfl ?_
  refine ex_bipush (v := 32) (by decide) ?_
  refine ht_newI (k := 104) (by decide) (by decide +kernel) (by decide +kernel) (by decide +kernel) ?_
  refine ht_putR (o := 95) (v := 104) rfl rfl (by decide +kernel) (by decide +kernel) ?_
  refine ex_aload_n rfl ?_
  refine ex_bipush (v := 32) (by decide) ?_
  refine ht_newI (k := 105) (by decide) (by decide +kernel) (by decide +kernel) (by decide +kernel) ?_
  refine ht_putR (o := 95) (v := 105) rfl rfl (by decide +kernel) (by decide +kernel) ?_
  refine ex_aload_n rfl ?_
  refine ex_bipush (v := 32) (by decide) ?_
  refine ht_newI (k := 106) (by decide) (by decide +kernel) (by decide +kernel) (by decide +kernel) ?_
  refine ht_putR (o := 95) (v := 106) rfl rfl (by decide +kernel) (by decide +kernel) ?_
  refine ex_aload_n rfl ?_
  refine ex_bipush (v := 32) (by decide) ?_
  refine ht_newI (k := 107) (by decide) (by decide +kernel) (by decide +kernel) (by decide +kernel) ?_
  refine ht_putR (o := 95) (v := 107) rfl rfl (by decide +kernel) (by decide +kernel) ?_
  refine ex_aload_n rfl ?_
  refine ex_bipush (v := 16) (by decide) ?_
  refine ht_newI (k := 108) (by decide) (by decide +kernel) (by decide +kernel) (by decide +kernel) ?_
  refine ht_putR (o := 95) (v := 108) rfl rfl (by decide +kernel) (by decide +kernel) ?_
  refine ex_aload_n rfl ?_
  refine ex_bipush (v := 16) (by decide) ?_
  refine ht_newI (k := 109) (by decide) (by decide +kernel) (by decide +kernel) (by decide +kernel) ?_
  refine ht_putR (o := 95) (v := 109) rfl rfl (by decide +kernel) (by decide +kernel) ?_
  refine ex_aload_n rfl ?_
  refine ex_bipush (v := 16) (by decide) ?_
  refine ht_newI (k := 110) (by decide) (by decide +kernel) (by decide +kernel) (by decide +kernel) ?_
  refine ht_putR (o := 95) (v := 110) rfl rfl (by decide +kernel) (by decide +kernel) ?_
  refine ex_aload_n rfl ?_
  refine ex_bipush (v := 16) (by decide) ?_
  refine ht_newI (k := 111) (by decide) (by decide +kernel) (by decide +kernel) (by decide +kernel) ?_
  refine ht_putR (o := 95) (v := 111) rfl rfl (by decide +kernel) (by decide +kernel) ?_
  refine ex_aload_n rfl ?_
  refine ex_bipush (v := 16) (by decide) ?_
  refine ht_newI (k := 112) (by decide) (by decide +kernel) (by decide +kernel) (by decide +kernel) ?_
  refine ht_putR (o := 95) (v := 112) rfl rfl (by decide +kernel) (by decide +kernel) ?_
  refine ex_aload_n rfl ?_
  refine ex_bipush (v := 16) (by decide) ?_
  refine ht_newI (k := 113) (by decide) (by decide +kernel) (by decide +kernel) (by decide +kernel) ?_
  refine ht_putR (o := 95) (v := 113) rfl rfl (by decide +kernel) (by decide +kernel) ?_
  refine ex_aload_n rfl ?_
  refine ex_bipush (v := 16) (by decide) ?_
  refine ht_newI (k := 114) (by decide) (by decide +kernel) (by decide +kernel) (by decide +kernel) ?_
  refine ht_putR (o := 95) (v := 114) rfl rfl (by decide +kernel) (by decide +kernel) ?_
  refine ex_aload_n rfl ?_
  refine ex_bipush (v := 16) (by decide) ?_
  refine ht_newI (k := 115) (by decide) (by decide +kernel) (by decide +kernel) (by decide +kernel) ?_
  refine ht_putR (o := 95) (v := 115) rfl rfl (by decide +kernel) (by decide +kernel) ?_
  refine ex_aload_n rfl ?_
  refine ex_sipush (v := 256) (by decide) ?_
  refine ht_newZ (k := 116) (by decide) (by decide +kernel) (by decide +kernel) (by decide +kernel) ?_
  refine ht_putR (o := 95) (v := 116) rfl rfl (by decide +kernel) (by decide +kernel) ?_
  refine ex_aload_n rfl ?_
  refine ex_sipush (v := 2048) (by decide) ?_
  refine ht_newI (k := 117) (by decide) (by decide +kernel) (by decide +kernel) (by decide +kernel) ?_
  refine ht_putR (o := 95) (v := 117) rfl rfl (by decide +kernel) (by decide +kernel) ?_
  refine ex_aload_n rfl ?_
  refine ex_sipush (v := 2048) (by decide) ?_
  refine ht_newI (k := 118) (by decide) (by decide +kernel) (by decide +kernel) (by decide +kernel) ?_
  refine ht_putR (o := 95) (v := 118) rfl rfl (by decide +kernel) (by decide +kernel) ?_
  refine ex_aload_n rfl ?_
  refine ex_bipush (v := 8) (by decide) ?_
  refine ht_newI (k := 119) (by decide) (by decide +kernel) (by decide +kernel) (by decide +kernel) ?_
  refine ht_putR (o := 95) (v := 119) rfl rfl (by decide +kernel) (by decide +kernel) ?_
  refine ex_aload_n rfl ?_
  refine ex_bipush (v := 8) (by decide) ?_
  refine ht_newI (k := 120) (by decide) (by decide +kernel) (by decide +kernel) (by decide +kernel) ?_
  refine ht_putR (o := 95) (v := 120) rfl rfl (by decide +kernel) (by decide +kernel) ?_
  refine ex_aload_n rfl ?_
  refine ex_bipush (v := 32) (by decide) ?_
  refine ht_newI (k := 121) (by decide) (by decide +kernel) (by decide +kernel) (by decide +kernel) ?_
  refine ht_putR (o := 95) (v := 121) rfl rfl (by decide +kernel) (by decide +kernel) ?_
  refine ex_aload_n rfl ?_
  refine ex_bipush (v := 8) (by decide) ?_
  refine ht_newZ (k := 122) (by decide) (by decide +kernel) (by decide +kernel) (by decide +kernel) ?_
  refine ht_putR (o := 95) (v := 122) rfl rfl (by decide +kernel) (by decide +kernel) ?_
  refine ex_aload_n rfl ?_
  refine ex_bipush (v := 8) (by decide) ?_
  refine ht_newI (k := 123) (by decide) (by decide +kernel) (by decide +kernel) (by decide +kernel) ?_
  refine ht_putR (o := 95) (v := 123) rfl rfl (by decide +kernel) (by decide +kernel) ?_
  refine ex_aload_n rfl ?_
  refine ex_bipush (v := 10) (by decide) ?_
  refine ht_newZ (k := 124) (by decide) (by decide +kernel) (by decide +kernel) (by decide +kernel) ?_
  refine ht_putR (o := 95) (v := 124) rfl rfl (by decide +kernel) (by decide +kernel) ?_
  refine ex_aload_n rfl ?_
  refine ex_bipush (v := 40) (by decide) ?_
  refine ht_newI (k := 125) (by decide) (by decide +kernel) (by decide +kernel) (by decide +kernel) ?_
  refine ht_putR (o := 95) (v := 125) rfl rfl (by decide +kernel) (by decide +kernel) ?_
  refine ex_aload_n rfl ?_
  refine ex_bipush (v := 64) (by decide) ?_
  refine ht_newI (k := 126) (by decide) (by decide +kernel) (by decide +kernel) (by decide +kernel) ?_
  refine ht_putR (o := 95) (v := 126) rfl rfl (by decide +kernel) (by decide +kernel) ?_
  refine ex_aload_n rfl ?_
  refine ex_bipush (v := 64) (by decide) ?_
  refine ht_newI (k := 127) (by decide) (by decide +kernel) (by decide +kernel) (by decide +kernel) ?_
  refine ht_putR (o := 95) (v := 127) rfl rfl (by decide +kernel) (by decide +kernel) ?_
  refine ex_aload_n rfl ?_
  refine ex_sipush (v := 4096) (by decide) ?_
  refine ht_newI (k := 128) (by decide) (by decide +kernel) (by decide +kernel) (by decide +kernel) ?_
  refine ht_putR (o := 95) (v := 128) rfl rfl (by decide +kernel) (by decide +kernel) ?_
  refine ex_aload_n rfl ?_
  refine ex_sipush (v := 2048) (by decide) ?_
  refine ht_newI (k := 129) (by decide) (by decide +kernel) (by decide +kernel) (by decide +kernel) ?_
  refine ht_putR (o := 95) (v := 129) rfl rfl (by decide +kernel) (by decide +kernel) ?_
  refine ex_aload_n rfl ?_
  refine ex_sipush (v := 2048) (by decide) ?_
  refine ht_newI (k := 130) (by decide) (by decide +kernel) (by decide +kernel) (by decide +kernel) ?_
  refine ht_putR (o := 95) (v := 130) rfl rfl (by decide +kernel) (by decide +kernel) ?_
  refine ex_aload_n rfl ?_
  refine ex_sipush (v := 2048) (by decide) ?_
  refine ht_newI (k := 131) (by decide) (by decide +kernel) (by decide +kernel) (by decide +kernel) ?_
  refine ht_putR (o := 95) (v := 131) rfl rfl (by decide +kernel) (by decide +kernel) ?_
  refine ex_aload_n rfl ?_
  refine ex_sipush (v := 512) (by decide) ?_
  refine ht_newI (k := 132) (by decide) (by decide +kernel) (by decide +kernel) (by decide +kernel) ?_
  refine ht_putR (o := 95) (v := 132) rfl rfl (by decide +kernel) (by decide +kernel) ?_
  refine ex_aload_n rfl ?_
  refine ex_iconst (v := 4) (by decide) ?_
  refine ht_newI (k := 133) (by decide) (by decide +kernel) (by decide +kernel) (by decide +kernel) ?_
  refine ht_putR (o := 95) (v := 133) rfl rfl (by decide +kernel) (by decide +kernel) ?_
  refine ex_aload_n rfl ?_
  refine ex_getR (w := 96) rfl rfl (by decide +kernel) ?_
  refine ex_iconst (v := 5) (by decide) ?_
  refine ex_iconst (v := (-1)) (by decide) ?_
  refine ht_iast (o := 96) (k0 := 32) (by decide +kernel) rfl (by decide) (by decide +kernel) ?_
  refine ex_aload_n rfl ?_
  refine ex_getR (w := 96) rfl rfl (by decide +kernel) ?_
  refine ex_bipush (v := 6) (by decide) ?_
  refine ex_iconst (v := 3) (by decide) ?_
  refine ht_iast (o := 96) (k0 := 32) (by decide +kernel) rfl (by decide) (by decide +kernel) ?_
  exact ex_vret (M := 196) rfl
