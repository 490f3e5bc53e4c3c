/-! the claim out of one statement about the functions -/
def S0 : AmT := (ht_I 13, fun _ => none)
theorem ht_gs_in : ∀ o, o < 134 → ∀ b, b < 64 → ((sh_gs o b).isNone = true ∨ (o, b) ∈ ht_gl.take 179) := by
  have h : (List.range 134).all (fun o => (List.range 64).all (fun b => (sh_gs o b).isNone || (ht_gl.take 179).any (fun q => q.1 == o && q.2 == b))) = true := by decide +kernel
  intro o ho b hb
  have h1 := am_ra (am_ra h ho) hb
  rw [Bool.or_eq_true] at h1
  refine h1.imp id (fun h2 => ?_)
  obtain ⟨q, h3, h4⟩ := List.any_eq_true.mp h2
  simp only [Bool.and_eq_true, beq_iff_eq] at h4
  obtain ⟨q1, q2⟩ := q
  simp only at h4
  rw [← h4.1, ← h4.2]
  exact h3
theorem ht_gt_len : sh_gt.all (fun l => decide (l.length ≤ 64)) = true := by decide +kernel
theorem ht_gs_out {o b : Nat} (h : ¬ (o < 134 ∧ b < 64)) : sh_gs o b = none := by
  unfold sh_gs
  by_cases ho : o < 134
  · have hb : 64 ≤ b := by omega
    have hl : (sh_gt.getD o []).length ≤ 64 := by
      rw [List.getD_eq_getElem?_getD]
      cases hq : sh_gt[o]? with
      | none => exact Nat.zero_le _
      | some l => exact of_decide_eq_true (List.all_eq_true.mp ht_gt_len l (List.mem_of_getElem? hq))
    rw [List.getD_eq_getElem?_getD, List.getElem?_eq_none (by omega)]
    rfl
  · have : sh_gt.getD o [] = [] := by
      rw [List.getD_eq_getElem?_getD, List.getElem?_eq_none (by show (134 : Nat) ≤ o; omega)]
      rfl
    rw [this]
    rfl
theorem ht_no2 : (ht_gl.take 179).all (fun q => decide (q.1 ≠ 2)) = true := by decide +kernel
theorem ht_fin : hT 134 179 13 = hS S0 := by
  have hG : ht_G 179 = sh_G (fun _ => none) := by
    funext o b
    unfold ht_G sh_G
    by_cases h2 : o = 2
    · subst h2
      have hn : (2, b) ∉ ht_gl.take 179 := fun z => by
        have := List.all_eq_true.mp ht_no2 _ z
        simp at this
      rw [if_neg hn, if_pos rfl]
    · rw [if_neg h2]
      by_cases hi : (o, b) ∈ ht_gl.take 179
      · rw [if_pos hi]
      · rw [if_neg hi]
        by_cases hr : o < 134 ∧ b < 64
        · rcases ht_gs_in o hr.1 b hr.2 with h | h
          · exact (Option.isNone_iff_eq_none.mp h).symm
          · exact absurd h hi
        · exact (ht_gs_out hr).symm
  show (sh_SH.take 134, ht_I 13, ht_G 179) = (sh_SH, ht_I 13, sh_G (fun _ => none))
  rw [hG]
  rfl
theorem ht_0 : am_h0 = hT 0 0 0 := by
  show (([], (fun _ _ => 0), (fun _ _ => none)) : AmH) = ([], ht_I 0, ht_G 0)
  have h1 : ht_I 0 = fun _ _ => 0 := by funext o b; rfl
  have h2 : ht_G 0 = fun _ _ => none := by funext o b; simp [ht_G]
  rw [h1, h2]
set_option maxRecDepth 20000 in
theorem am_pure (F : Nat) (hloop : ∀ (L : Nat) (xs : Nat → Int32), L ≤ 4608 → ∃ S, g299_18 L xs F F 0 S0 = some (1, S)) (L : Nat) (xs : Nat → Int32) (hL : L ≤ 4608) : ∃ (n : Nat) (h : AmH), am_ex am_P am_Mi am_Nf (am_X L xs) n 1000 299 (am_P 299) (am_ini 4 [.ref 1000000]) [] am_h0 = some (some 1, h) ∧ h.1.length ≤ 600000 ∧ am_sl h ≤ 7302250 := by
  obtain ⟨S, hS1⟩ := hloop L xs hL
  have H : Ex (am_X L xs) (999 + 1) 299 (am_P 299) (am_ini 4 [.ref 1000000]) [] am_h0 (some 1, hS S) := by
    rw [ht_0]
    show Ex (am_X L xs) (999 + 1) 299 am_c299_0 [.ref 1000000, .long 0, .long 0, .long 0] [] (hT 0 0 0) _
    refine ht_new (k := 0) (by decide +kernel) (by decide +kernel) (by decide +kernel) ?_
    refine ex_dupr ?_
    refine ex_callI (by decide) rfl rfl (Nat.le_of_ble_eq_true rfl) (Nat.le_of_ble_eq_true rfl) rfl (z86 (by omega)) rfl ?_
    refine ex_astore_n (w := some 0) (L2 := [.ref 1000000, .ref 0, .long 0, .long 0]) (Nat.le_of_ble_eq_true rfl) rfl ?_
    refine ht_new (k := 95) (by decide +kernel) (by decide +kernel) (by decide +kernel) ?_
    refine ex_dupr ?_
    refine ex_callI (by decide) rfl rfl (Nat.le_of_ble_eq_true rfl) (Nat.le_of_ble_eq_true rfl) rfl (z87 (by omega)) rfl ?_
    refine ex_astore_n (w := some 95) (L2 := [.ref 1000000, .ref 0, .ref 95, .long 0]) (Nat.le_of_ble_eq_true rfl) rfl ?_
    refine ex_iconst (v := 0) (by decide) ?_
    refine ex_istore_n (L2 := [.ref 1000000, .ref 0, .ref 95, .int 0]) (Nat.le_of_ble_eq_true rfl) rfl ?_
    rw [ht_fin]
    exact e299_18 (q := (1, S)) (by omega) _ _ _ hS1
  obtain ⟨n, hn⟩ := H
  exact ⟨n, hS S, hn, by show sh_SH.length ≤ 600000; decide, by show (sh_SH.map (fun q => q.2)).sum ≤ 7302250; decide⟩
