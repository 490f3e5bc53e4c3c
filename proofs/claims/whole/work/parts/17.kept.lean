/-! Kept and Journal -/
-- a Kept cell c, its array ar of n places
def sh_k (c ar n : Nat) : Bool := decide (c ≠ 2) && decide (sh_gs c 1 = some ar) && decide (sh_gs c 0 = some 1) && decide (sh_SH[c]? = some (7, 2)) && decide (sh_SH[ar]? = some (0, n)) && decide (c < 1000000) && decide (ar < 1000000) && decide (n < 2147483648)
def kg (I : Nat → Nat → Int32) (ar n : Nat) (j : Int32) : Int32 := if j < 0 then 0 else if Int32.ofNat n ≤ j then 0 else I ar j.toNatClampNeg
def jn (S : AmT) (c : Nat) (p v : Int32) : AmT := if 640 ≤ S.1 1 3 then S else (am_upI (am_upI (am_upI S.1 3 (S.1 1 3).toNatClampNeg p) 4 (S.1 1 3).toNatClampNeg v) 1 3 (S.1 1 3 + 1), fun i => if i = (S.1 1 3).toNatClampNeg then some c else S.2 i)
def ks (S : AmT) (c ar n : Nat) (j v : Int32) : AmT := if j < 0 then S else if Int32.ofNat n ≤ j then S else if S.1 ar j.toNatClampNeg = v then S else (am_upI (jn S c j (S.1 ar j.toNatClampNeg)).1 ar j.toNatClampNeg v, (jn S c j (S.1 ar j.toNatClampNeg)).2)
def ku (S : AmT) (ar n : Nat) (j v : Int32) : AmT := if j < 0 then S else if Int32.ofNat n ≤ j then S else (am_upI S.1 ar j.toNatClampNeg v, S.2)
def am_nn {α : Type} (S : AmT) (k : Option α) : Option α := if S.1 1 3 < 0 then none else k
theorem am_nn_el {α : Type} {S : AmT} {k : Option α} {q : α} (H : am_nn S k = some q) : ¬ S.1 1 3 < 0 ∧ k = some q := by
  unfold am_nn at H
  split at H
  · cases H
  · exact ⟨by assumption, H⟩
theorem sh_k_of {c ar n : Nat} (h : sh_k c ar n = true) : c ≠ 2 ∧ sh_gs c 1 = some ar ∧ sh_gs c 0 = some 1 ∧ sh_SH[c]? = some (7, 2) ∧ sh_SH[ar]? = some (0, n) ∧ c < 1000000 ∧ ar < 1000000 ∧ n < 2147483648 := by
  simp only [sh_k, Bool.and_eq_true, decide_eq_true_eq] at h
  obtain ⟨⟨⟨⟨⟨⟨⟨h1, h2⟩, h3⟩, h4⟩, h5⟩, h6⟩, h7⟩, h8⟩ := h
  exact ⟨h1, h2, h3, h4, h5, h6, h7, h8⟩
theorem sh_is {S : AmT} {o t n : Nat} (h : sh_SH[o]? = some (t, n)) (ho : o < 1000000) : am_is (hS S) o t = true := by
  show (decide (o < 1000000) && (match sh_SH[o]? with | some (t', _) => decide (t' = t) | none => false)) = true
  rw [h]
  simp [ho]
theorem sh_len {X : AmX} {S : AmT} {o t n : Nat} (h : sh_SH[o]? = some (t, n)) (ho : o < 1000000) (ht : t < 3) : am_len X (hS S) o = some n := by
  show (if o < 1000000 then (match sh_SH[o]? with | some (t, n) => if t < 3 then some n else none | none => none) else _) = _
  rw [h, if_pos ho]
  simp [ht]
theorem sh_arr {X : AmX} {S : AmT} {o t n : Nat} (h : sh_SH[o]? = some (t, n)) (ho : o < 1000000) : am_arr X (hS S) t o = some (n, S.1 o) := by
  show (if o < 1000000 then (match sh_SH[o]? with | some (t', n) => if t' = t then some (n, S.1 o) else none | none => none) else _) = _
  rw [h, if_pos ho]
  simp
theorem sh_Gne {R : Nat → Option Nat} {o b : Nat} (h : o ≠ 2) : sh_G R o b = sh_gs o b := by simp [sh_G, h]
theorem i32_in {j : Int32} {n : Nat} (hn : n < 2147483648) (h0 : ¬ j < 0) (h1 : ¬ Int32.ofNat n ≤ j) : ¬ (j < 0 ∨ n ≤ j.toNatClampNeg) := by
  obtain ⟨k, hk, rfl⟩ := nI_of h0
  rintro (h | h)
  · exact h0 h
  · rw [nI_clamp hk] at h
    exact h1 (nI_le h hk)
section KEPT
variable {X : AmX} {d M c ar n : Nat} {cs : AmCd} {L rest : List Value} {S : AmT} {res : Option Int32 × AmH} {j v : Int32} {pc k c0 : Nat}
theorem r_kget (hk : sh_k c ar n = true) : Ex X d 62 (am_P 62) (am_ini (am_Mi 62).1 [.ref c, .int j]) [] (hS S) (some (kg S.1 ar n j), hS S) := by
  obtain ⟨h1, h2, h3, h4, h5, h6, h7, h8⟩ := sh_k_of hk
  have hg : (hS S).2.2 c 1 = some ar := (sh_Gne h1).trans h2
  have hi : am_is (hS S) c (4 + 3) = true := sh_is h4 h6
  show Ex X d 62 am_c62_0 [.ref c, .int j] [] (hS S) _
  refine ex_iload_n rfl ?_
  by_cases hj : j < 0
  · refine ex_if_lt_j (ct := am_c62_22) hj rfl ?_
    refine ex_iconst (v := 0) (by decide) ?_
    rw [kg, if_pos hj]
    exact ex_iret (Or.inl rfl)
  · refine ex_if_lt_f hj ?_
    refine ex_iload_n rfl ?_
    refine ex_aload_n rfl ?_
    refine ex_getR (w := ar) hi rfl hg ?_
    refine ex_alen (sh_len h5 h7 (by decide)) rfl ?_
    by_cases hn : Int32.ofNat n ≤ j
    · refine ex_icmp_ge_j (ct := am_c62_22) hn rfl ?_
      refine ex_iconst (v := 0) (by decide) ?_
      rw [kg, if_neg hj, if_pos hn]
      exact ex_iret (Or.inl rfl)
    · refine ex_icmp_ge_f hn ?_
      refine ex_aload_n rfl ?_
      refine ex_getR (w := ar) hi rfl hg ?_
      refine ex_iload_n rfl ?_
      refine ex_iald (sh_arr h5 h7) (i32_in h8 hj hn) rfl ?_
      refine ex_goto (ct := am_c62_23) rfl ?_
      rw [kg, if_neg hj, if_neg hn]
      exact ex_iret (Or.inl rfl)
theorem r_kun (hk : sh_k c ar n = true) : Ex X d 64 (am_P 64) (am_ini (am_Mi 64).1 [.ref c, .int j, .int v]) [] (hS S) (none, hS (ku S ar n j v)) := by
  obtain ⟨h1, h2, h3, h4, h5, h6, h7, h8⟩ := sh_k_of hk
  have hg : (hS S).2.2 c 1 = some ar := (sh_Gne h1).trans h2
  have hi : am_is (hS S) c (4 + 3) = true := sh_is h4 h6
  show Ex X d 64 am_c64_0 [.ref c, .int j, .int v] [] (hS S) _
  refine ex_iload_n rfl ?_
  by_cases hj : j < 0
  · refine ex_if_lt_j (ct := am_c64_20) hj rfl ?_
    rw [ku, if_pos hj]
    exact ex_vret rfl
  · refine ex_if_lt_f hj ?_
    refine ex_iload_n rfl ?_
    refine ex_aload_n rfl ?_
    refine ex_getR (w := ar) hi rfl hg ?_
    refine ex_alen (sh_len h5 h7 (by decide)) rfl ?_
    by_cases hn : Int32.ofNat n ≤ j
    · refine ex_icmp_ge_j (ct := am_c64_20) hn rfl ?_
      rw [ku, if_neg hj, if_pos hn]
      exact ex_vret rfl
    · refine ex_icmp_ge_f hn ?_
      refine ex_aload_n rfl ?_
      refine ex_getR (w := ar) hi rfl hg ?_
      refine ex_iload_n rfl ?_
      refine ex_iload_n rfl ?_
      refine ex_iast (sh_is h5 h7) (sh_len h5 h7 (by decide)) (i32_in h8 hj hn) ?_
      rw [ku, if_neg hj, if_neg hn]
      exact ex_vret rfl
theorem ex_aast {o w : Nat} {y : Int32} {R2 : Nat → Option Nat} {k2 : Nat} {st : List Value} {a b : Nat} (ho : o = 2) (h1 : am_is (hS S) 2 2 = true) (hw : am_is (hS S) w (a + 3) = true) (h2 : am_len X (hS S) 2 = some k2) (hj : ¬ (y < 0 ∨ k2 ≤ y.toNatClampNeg)) (hR : R2 = fun i => if i = y.toNatClampNeg then some w else S.2 i) (H : Ex X d M cs L st (hS (S.1, R2)) res) : Ex X d M ((pc, .aastore, a, b, c0) :: cs) L (.ref w :: .int y :: .ref o :: st) (hS S) res := by
  subst ho
  obtain ⟨m, H⟩ := H
  refine ⟨m + 1, ?_⟩
  show (if am_is (hS S) 2 2 = true ∧ am_is (hS S) w (a + 3) = true then (match am_len X (hS S) 2 with | some k => if y < 0 ∨ k ≤ y.toNatClampNeg then none else am_ex am_P am_Mi am_Nf X m d M cs L st ((hS S).1, (hS S).2.1, am_upG (hS S).2.2 2 y.toNatClampNeg (some w)) | none => none) else none) = _
  rw [if_pos ⟨h1, hw⟩, h2]
  show (if y < 0 ∨ k2 ≤ y.toNatClampNeg then none else _) = _
  rw [if_neg hj]
  have e : am_upG (hS S).2.2 2 y.toNatClampNeg (some w) = sh_G R2 := by
    funext p q
    subst hR
    by_cases hp : p = 2
    · subst hp
      by_cases hq : q = y.toNatClampNeg <;> simp [am_upG, sh_G, hS, hq]
    · simp [am_upG, sh_G, hS, hp]
  rw [e]
  exact H
theorem r_note (hk : sh_k c ar n = true) (hnn : ¬ S.1 1 3 < 0) : Ex X d 59 (am_P 59) (am_ini (am_Mi 59).1 [.ref 1, .ref c, .int j, .int v]) [] (hS S) (none, hS (jn S c j v)) := by
  obtain ⟨h1, h2, h3, h4, h5, h6, h7, h8⟩ := sh_k_of hk
  show Ex X d 59 am_c59_0 [.ref 1, .ref c, .int j, .int v] [] (hS S) _
  refine ex_aload_n rfl ?_
  refine ex_getI rfl (by decide) ?_
  refine ex_sipush (v := 640) (by decide) ?_
  by_cases hn : 640 ≤ S.1 1 3
  · refine ex_icmp_ge_j (ct := am_c59_50) hn rfl ?_
    rw [jn, if_pos hn]
    exact ex_vret rfl
  · refine ex_icmp_ge_f hn ?_
    have hin : ¬ (S.1 1 3 < 0 ∨ 640 ≤ (S.1 1 3).toNatClampNeg) := i32_in (by decide) hnn hn
    refine ex_aload_n rfl ?_
    refine ex_getR (w := 2) rfl rfl rfl ?_
    refine ex_aload_n rfl ?_
    refine ex_getI rfl (by decide) ?_
    refine ex_aload_n rfl ?_
    refine ex_aast rfl rfl (sh_is h4 h6) (k2 := 640) rfl hin rfl ?_
    refine ex_aload_n rfl ?_
    refine ex_getR (w := 3) rfl rfl rfl ?_
    refine ex_aload_n rfl ?_
    refine ex_getI rfl (by decide) ?_
    refine ex_iload_n rfl ?_
    refine ex_iast (k := 640) rfl rfl hin ?_
    refine ex_aload_n rfl ?_
    refine ex_getR (w := 4) rfl rfl rfl ?_
    refine ex_aload_n rfl ?_
    refine ex_getI rfl (by decide) ?_
    refine ex_iload_n rfl ?_
    refine ex_iast (k := 640) rfl rfl hin ?_
    refine ex_aload_n rfl ?_
    refine ex_dupr ?_
    refine ex_getI rfl (by decide) ?_
    refine ex_iconst (v := 1) (by decide) ?_
    refine ex_iadd ?_
    refine ex_putI rfl (by decide) (fun z => absurd z.1 (by decide)) ?_
    rw [jn, if_neg hn]
    exact ex_vret rfl
theorem jn_1 {S : AmT} {c : Nat} {j v : Int32} {o i : Nat} (h1 : o ≠ 1) (h3 : o ≠ 3) (h4 : o ≠ 4) : (jn S c j v).1 o i = S.1 o i := by
  unfold jn
  split
  · rfl
  · simp [am_upI, h1, h3, h4]
theorem r_kset (hk : sh_k c ar n = true) (hnn : ¬ S.1 1 3 < 0) (hd : 1 ≤ d) : Ex X d 63 (am_P 63) (am_ini (am_Mi 63).1 [.ref c, .int j, .int v]) [] (hS S) (none, hS (ks S c ar n j v)) := by
  obtain ⟨d, rfl⟩ : ∃ d2, d = d2 + 1 := ⟨d - 1, by omega⟩
  obtain ⟨h1, h2, h3, h4, h5, h6, h7, h8⟩ := sh_k_of hk
  have hg : ∀ S : AmT, (hS S).2.2 c 1 = some ar := fun S => (sh_Gne h1).trans h2
  have hg0 : (hS S).2.2 c 0 = some 1 := (sh_Gne h1).trans h3
  have hi : ∀ S : AmT, am_is (hS S) c (4 + 3) = true := fun S => sh_is h4 h6
  show Ex X (d + 1) 63 am_c63_0 [.ref c, .int j, .int v] [] (hS S) _
  refine ex_iload_n rfl ?_
  by_cases hj : j < 0
  · refine ex_if_lt_j (ct := am_c63_45) hj rfl ?_
    rw [ks, if_pos hj]
    exact ex_vret rfl
  · refine ex_if_lt_f hj ?_
    refine ex_iload_n rfl ?_
    refine ex_aload_n rfl ?_
    refine ex_getR (w := ar) (hi S) rfl (hg S) ?_
    refine ex_alen (sh_len h5 h7 (by decide)) rfl ?_
    by_cases hn : Int32.ofNat n ≤ j
    · refine ex_icmp_ge_j (ct := am_c63_45) hn rfl ?_
      rw [ks, if_neg hj, if_pos hn]
      exact ex_vret rfl
    · refine ex_icmp_ge_f hn ?_
      have hin := i32_in h8 hj hn
      refine ex_aload_n rfl ?_
      refine ex_getR (w := ar) (hi S) rfl (hg S) ?_
      refine ex_iload_n rfl ?_
      refine ex_iald (sh_arr h5 h7) hin rfl ?_
      refine ex_iload_n rfl ?_
      by_cases he : S.1 ar j.toNatClampNeg = v
      · refine ex_icmp_eq_j (ct := am_c63_45) he rfl ?_
        rw [ks, if_neg hj, if_neg hn, if_pos he]
        exact ex_vret rfl
      · refine ex_icmp_eq_f he ?_
        refine ex_aload_n rfl ?_
        refine ex_getR (w := 1) (hi S) rfl hg0 ?_
        refine ex_aload_n rfl ?_
        refine ex_iload_n rfl ?_
        refine ex_aload_n rfl ?_
        refine ex_getR (w := ar) (hi S) rfl (hg S) ?_
        refine ex_iload_n rfl ?_
        refine ex_iald (sh_arr h5 h7) hin rfl ?_
        refine ex_callV rfl rfl (Nat.le_of_ble_eq_true rfl) (Nat.le_of_ble_eq_true rfl) rfl (r_note hk hnn) rfl ?_
        refine ex_aload_n rfl ?_
        refine ex_getR (w := ar) (hi _) rfl (hg _) ?_
        refine ex_iload_n rfl ?_
        refine ex_iload_n rfl ?_
        refine ex_iast (sh_is h5 h7) (sh_len h5 h7 (by decide)) hin ?_
        rw [ks, if_neg hj, if_neg hn, if_neg he]
        exact ex_vret rfl
theorem ex_kget (hk : sh_k c ar n = true) (h8 : am_cats rest ≤ 8) (H : Ex X (d + 1) M cs L (.int (kg S.1 ar n j) :: rest) (hS S) res) : Ex X (d + 1) M ((pc, .invokevirtual k, 62, 2, c0) :: cs) L (.int j :: .ref c :: rest) (hS S) res := by
  obtain ⟨h1, h2, h3, h4, h5, h6, h7, h9⟩ := sh_k_of hk
  exact ex_callV rfl rfl (by simp) h8 (sh_is (S := S) h4 h6) (r_kget hk) rfl H
theorem ex_kset (hk : sh_k c ar n = true) (hnn : ¬ S.1 1 3 < 0) (hd : 1 ≤ d) (h8 : am_cats rest ≤ 8) (H : Ex X (d + 1) M cs L rest (hS (ks S c ar n j v)) res) : Ex X (d + 1) M ((pc, .invokevirtual k, 63, 3, c0) :: cs) L (.int v :: .int j :: .ref c :: rest) (hS S) res := by
  obtain ⟨h1, h2, h3, h4, h5, h6, h7, h9⟩ := sh_k_of hk
  exact ex_callV rfl rfl (by simp) h8 (sh_is (S := S) h4 h6) (r_kset hk hnn hd) rfl H
theorem ex_kun (hk : sh_k c ar n = true) (h8 : am_cats rest ≤ 8) (H : Ex X (d + 1) M cs L rest (hS (ku S ar n j v)) res) : Ex X (d + 1) M ((pc, .invokevirtual k, 64, 3, c0) :: cs) L (.int v :: .int j :: .ref c :: rest) (hS S) res := by
  obtain ⟨h1, h2, h3, h4, h5, h6, h7, h9⟩ := sh_k_of hk
  exact ex_callV rfl rfl (by simp) h8 (sh_is (S := S) h4 h6) (r_kun hk) rfl H
end KEPT
theorem am_lk_out {ps : Array (Int × Int)} {df : Int} {x : Int32} (h : ∀ z ∈ ps.toList.map (fun q => q.1), z ≠ x.toInt) : Op.lookupswitch.offset ps.toList df x.toInt = df := by
  revert h
  generalize ps.toList = l
  intro h
  induction l with
  | nil => rfl
  | cons q l ih =>
    have h1 : q.1 ≠ x.toInt := h q.1 (by simp)
    have h2 := ih (fun z hz => h z (by simp at hz ⊢; exact Or.inr hz))
    unfold Op.lookupswitch.offset
    simp [h1, h2]
theorem am_lt_el {α β : Type} {x : α} {k : α → Option β} {q : β} (H : am_lt x k = some q) : k x = some q := H
def am_b2 {α β γ : Type} (m : Option (α × β)) (k : α → β → Option γ) : Option γ := m.bind fun p => k p.1 p.2
theorem am_b2_el {α β γ : Type} {m : Option (α × β)} {k : α → β → Option γ} {q : γ} (H : am_b2 m k = some q) : ∃ v S, m = some (v, S) ∧ k v S = some q := by
  obtain ⟨p, h1, h2⟩ := Option.bind_eq_some_iff.mp H
  exact ⟨p.1, p.2, h1, h2⟩
theorem ex_gI {X : AmX} {d M : Nat} {cs : AmCd} {L st : List Value} {res : Option Int32 × AmH} {pc a b c0 : Nat} {S : AmT} {k o : Nat} (ho : am_is (hS S) o (a + 3) = true) (hc : ¬ c0 = 1) (H : Ex X d M cs L (.int (S.1 o b) :: st) (hS S) res) : Ex X d M ((pc, .getfield k, a, b, c0) :: cs) L (.ref o :: st) (hS S) res := ex_getI ho hc H
