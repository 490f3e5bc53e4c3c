/-! the constructors (printed by wip/gen/gen30.py) -/
def ht_gl : List (Nat × Nat) := [(1, 0), (1, 1), (1, 2), (0, 0), (5, 0), (0, 1), (8, 0), (8, 1), (7, 0), (10, 0), (10, 1), (7, 1), (12, 0), (12, 1), (7, 2), (14, 0), (14, 1), (7, 3), (16, 0), (16, 1), (7, 4), (18, 0), (18, 1), (7, 5), (20, 0), (20, 1), (7, 6), (0, 2), (22, 2), (22, 0), (24, 1), (24, 2), (24, 3), (24, 4), (24, 5), (24, 0), (22, 1), (30, 0), (30, 1), (22, 3), (32, 0), (32, 1), (22, 4), (34, 0), (34, 1), (22, 5), (36, 0), (36, 1), (22, 6), (38, 0), (38, 1), (22, 7), (40, 0), (40, 1), (22, 8), (42, 0), (42, 1), (22, 9), (44, 0), (44, 1), (22, 10), (0, 3), (46, 0), (46, 1), (47, 0), (47, 1), (46, 2), (49, 0), (49, 1), (46, 3), (51, 0), (51, 1), (46, 4), (53, 0), (53, 1), (46, 5), (55, 0), (55, 1), (46, 6), (57, 0), (57, 1), (46, 7), (59, 0), (59, 1), (46, 8), (61, 0), (61, 1), (46, 9), (63, 0), (63, 1), (46, 10), (65, 0), (65, 1), (46, 11), (67, 0), (67, 1), (46, 12), (0, 4), (69, 0), (69, 1), (70, 0), (70, 1), (69, 2), (72, 0), (72, 1), (69, 3), (74, 0), (74, 1), (69, 4), (76, 0), (76, 1), (69, 5), (78, 0), (78, 1), (69, 6), (80, 0), (80, 1), (69, 7), (82, 0), (82, 1), (69, 8), (84, 0), (84, 1), (69, 9), (0, 5), (86, 0), (86, 1), (86, 2), (87, 0), (87, 1), (86, 3), (89, 0), (89, 1), (86, 4), (91, 0), (91, 1), (86, 5), (93, 0), (93, 1), (86, 6), (0, 6), (95, 0), (95, 1), (95, 2), (95, 3), (95, 4), (95, 5), (95, 6), (95, 7), (95, 8), (95, 9), (95, 10), (95, 11), (95, 12), (95, 13), (95, 14), (95, 15), (95, 16), (95, 17), (95, 18), (95, 19), (95, 20), (95, 21), (95, 22), (95, 23), (95, 24), (95, 25), (95, 26), (95, 27), (95, 28), (95, 37), (95, 38), (95, 42), (95, 43), (95, 44), (95, 45), (95, 46), (95, 48), (95, 49)]
def ht_il : List (Nat × Nat × Int32) := [(1, 3, 0), (1, 4, 0), (5, 1, 0), (5, 2, 0), (5, 3, 0), (5, 4, 0), (5, 5, 0), (5, 6, 0), (5, 7, 0), (85, 0, (-1)), (94, 0, 3), (96, 5, (-1)), (96, 6, 3)]
def ht_G (t : Nat) : Nat → Nat → Option Nat := fun o b => if (o, b) ∈ ht_gl.take t then sh_gs o b else none
def ht_look (l : List (Nat × Nat × Int32)) (o b : Nat) : Int32 := match l with
  | [] => 0
  | q :: l => if q.1 = o ∧ q.2.1 = b then q.2.2 else ht_look l o b
def ht_I (u : Nat) : Nat → Nat → Int32 := fun o b => ht_look (ht_il.take u).reverse o b
def hT (k t u : Nat) : AmH := (sh_SH.take k, ht_I u, ht_G t)
theorem ht_takeS {α : Type} {l : List α} {k : Nat} {x : α} (h : l[k]? = some x) : l.take (k + 1) = l.take k ++ [x] := by
  have hk := (List.getElem?_eq_some_iff.mp h)
  obtain ⟨h1, h2⟩ := hk
  rw [List.take_succ, h]
  rfl
theorem ht_upG {t o b v : Nat} (h : ht_gl[t]? = some (o, b)) (hv : sh_gs o b = some v) : am_upG (ht_G t) o b (some v) = ht_G (t + 1) := by
  funext p q
  unfold am_upG ht_G
  rw [ht_takeS h]
  by_cases hp : p = o
  · by_cases hq : q = b
    · simp [hp, hq, hv]
    · simp [hp, hq]
  · simp [hp]
theorem ht_upI {u o b : Nat} {x : Int32} (h : ht_il[u]? = some (o, b, x)) : am_upI (ht_I u) o b x = ht_I (u + 1) := by
  funext p q
  unfold ht_I
  rw [ht_takeS h, List.reverse_append]
  show am_upI _ o b x p q = (if o = p ∧ b = q then x else ht_look (ht_il.take u).reverse p q)
  unfold am_upI
  by_cases hp : p = o
  · by_cases hq : q = b
    · simp [hp, hq]
    · have hq2 : ¬ b = q := fun z => hq z.symm
      simp [hp, hq, hq2]
  · have hp2 : ¬ o = p := fun z => hp z.symm
    simp [hp, hp2]
theorem ht_zG {t k : Nat} (h : (ht_gl.take t).all (fun q => decide (q.1 ≠ k)) = true) : am_zG (ht_G t) k = ht_G t := by
  funext p q
  unfold am_zG ht_G
  by_cases hp : p = k
  · subst hp
    have hn : (p, q) ∉ ht_gl.take t := fun z => by
      have := List.all_eq_true.mp h _ z
      simp at this
    simp [hn]
  · simp [hp]
theorem ht_look0 {l : List (Nat × Nat × Int32)} {k : Nat} (h : l.all (fun q => decide (q.1 ≠ k)) = true) (q : Nat) : ht_look l k q = 0 := by
  induction l with
  | nil => rfl
  | cons a l ih =>
    simp only [List.all_cons, Bool.and_eq_true, decide_eq_true_eq] at h
    unfold ht_look
    rw [if_neg (fun z => h.1 z.1)]
    exact ih h.2
theorem ht_zI {u k : Nat} (h : (ht_il.take u).reverse.all (fun q => decide (q.1 ≠ k)) = true) : am_zI (ht_I u) k = ht_I u := by
  funext p q
  unfold am_zI ht_I
  by_cases hp : p = k
  · subst hp
    simp [ht_look0 h]
  · simp [hp]
section HT
variable {X : AmX} {d M : Nat} {cs : AmCd} {L st rest : List Value} {res : Option Int32 × AmH} {pc a b c0 : Nat} {x y v : Int32} {k t u : Nat}
theorem ht_putR {i o v : Nat} (ho : am_is (hT k t u) o (a + 3) = true) (hc : c0 = 1) (h : ht_gl[t]? = some (o, b)) (hv : sh_gs o b = some v) (H : Ex X d M cs L st (hT k (t + 1) u) res) : Ex X d M ((pc, .putfield i, a, b, c0) :: cs) L (.ref v :: .ref o :: st) (hT k t u) res := by
  obtain ⟨n, H⟩ := H
  refine ⟨n + 1, ?_⟩
  show (if c0 = 1 then (if am_is (hT k t u) o (a + 3) = true then am_ex am_P am_Mi am_Nf X n d M cs L st ((hT k t u).1, (hT k t u).2.1, am_upG (hT k t u).2.2 o b (some v)) else none) else _) = _
  rw [if_pos hc, if_pos ho]
  show am_ex am_P am_Mi am_Nf X n d M cs L st (sh_SH.take k, ht_I u, am_upG (ht_G t) o b (some v)) = _
  rw [ht_upG h hv]
  exact H
theorem ht_putI {i o : Nat} (ho : am_is (hT k t u) o (a + 3) = true) (hc : ¬ c0 = 1) (hx : ¬ (c0 = 2 ∧ ¬ (x = 0 ∨ x = 1))) (h : ht_il[u]? = some (o, b, x)) (H : Ex X d M cs L st (hT k t (u + 1)) res) : Ex X d M ((pc, .putfield i, a, b, c0) :: cs) L (.int x :: .ref o :: st) (hT k t u) res := by
  obtain ⟨n, H⟩ := H
  refine ⟨n + 1, ?_⟩
  show (if c0 = 1 then am_rr (.int x :: .ref o :: st) _ else (if am_is (hT k t u) o (a + 3) = true then (if c0 = 2 ∧ ¬ (x = 0 ∨ x = 1) then none else am_ex am_P am_Mi am_Nf X n d M cs L st ((hT k t u).1, am_upI (hT k t u).2.1 o b x, (hT k t u).2.2)) else none)) = _
  rw [if_neg hc, if_pos ho, if_neg hx]
  show am_ex am_P am_Mi am_Nf X n d M cs L st (sh_SH.take k, am_upI (ht_I u) o b x, ht_G t) = _
  rw [ht_upI h]
  exact H
theorem ht_iast {o n0 : Nat} {k0 : Nat} (h1 : am_is (hT n0 t u) o 0 = true) (h2 : am_len X (hT n0 t u) o = some k0) (hj : ¬ (y < 0 ∨ k0 ≤ y.toNatClampNeg)) (h : ht_il[u]? = some (o, y.toNatClampNeg, x)) (H : Ex X d M cs L st (hT n0 t (u + 1)) res) : Ex X d M ((pc, .iastore, a, b, c0) :: cs) L (.int x :: .int y :: .ref o :: st) (hT n0 t u) res := by
  obtain ⟨n, H⟩ := H
  refine ⟨n + 1, ?_⟩
  show (if am_is (hT n0 t u) o 0 = true then (match am_len X (hT n0 t u) o with | some k => if y < 0 ∨ k ≤ y.toNatClampNeg then none else am_ex am_P am_Mi am_Nf X n d M cs L st ((hT n0 t u).1, am_upI (hT n0 t u).2.1 o y.toNatClampNeg x, (hT n0 t u).2.2) | none => none) else none) = _
  rw [if_pos h1, h2]
  show (if y < 0 ∨ k0 ≤ y.toNatClampNeg then none else am_ex am_P am_Mi am_Nf X n d M cs L st (sh_SH.take n0, am_upI (ht_I u) o y.toNatClampNeg x, ht_G t)) = _
  rw [if_neg hj, ht_upI h]
  exact H
theorem ht_new {i : Nat} (hs : sh_SH[k]? = some (a + 3, am_Nf a)) (hg : (ht_gl.take t).all (fun q => decide (q.1 ≠ k)) = true) (hi : (ht_il.take u).reverse.all (fun q => decide (q.1 ≠ k)) = true) (H : Ex X d M cs L (.ref k :: st) (hT (k + 1) t u) res) : Ex X d M ((pc, .new i, a, b, c0) :: cs) L st (hT k t u) res := by
  obtain ⟨n, H⟩ := H
  have hk : k < 134 := (List.getElem?_eq_some_iff.mp hs).1
  have hl : (sh_SH.take k).length = k := by rw [List.length_take]; exact Nat.min_eq_left (Nat.le_of_lt hk)
  refine ⟨n + 1, ?_⟩
  show (if (sh_SH.take k).length < 1000000 then am_ex am_P am_Mi am_Nf X n d M cs L (.ref (sh_SH.take k).length :: st) (sh_SH.take k ++ [(a + 3, am_Nf a)], am_zI (ht_I u) (sh_SH.take k).length, am_zG (ht_G t) (sh_SH.take k).length) else none) = _
  rw [hl, if_pos (by omega), ht_zG hg, ht_zI hi, ← ht_takeS hs]
  exact H
theorem ht_newI (hx : ¬ (x < 0 ∨ 1000000 < x.toNatClampNeg)) (hs : sh_SH[k]? = some (0, x.toNatClampNeg)) (hg : (ht_gl.take t).all (fun q => decide (q.1 ≠ k)) = true) (hi : (ht_il.take u).reverse.all (fun q => decide (q.1 ≠ k)) = true) (H : Ex X d M cs L (.ref k :: st) (hT (k + 1) t u) res) : Ex X d M ((pc, .newarray .int, a, b, c0) :: cs) L (.int x :: st) (hT k t u) res := by
  obtain ⟨n, H⟩ := H
  have hk : k < 134 := (List.getElem?_eq_some_iff.mp hs).1
  have hl : (sh_SH.take k).length = k := by rw [List.length_take]; exact Nat.min_eq_left (Nat.le_of_lt hk)
  refine ⟨n + 1, ?_⟩
  show (if x < 0 ∨ 1000000 < x.toNatClampNeg ∨ 1000000 ≤ (sh_SH.take k).length then none else am_ex am_P am_Mi am_Nf X n d M cs L (.ref (sh_SH.take k).length :: st) (sh_SH.take k ++ [(0, x.toNatClampNeg)], am_zI (ht_I u) (sh_SH.take k).length, am_zG (ht_G t) (sh_SH.take k).length)) = _
  rw [hl, if_neg (by rintro (z | z | z) <;> first | exact hx (Or.inl z) | exact hx (Or.inr z) | omega), ht_zG hg, ht_zI hi, ← ht_takeS hs]
  exact H
theorem ht_newZ (hx : ¬ (x < 0 ∨ 1000000 < x.toNatClampNeg)) (hs : sh_SH[k]? = some (1, x.toNatClampNeg)) (hg : (ht_gl.take t).all (fun q => decide (q.1 ≠ k)) = true) (hi : (ht_il.take u).reverse.all (fun q => decide (q.1 ≠ k)) = true) (H : Ex X d M cs L (.ref k :: st) (hT (k + 1) t u) res) : Ex X d M ((pc, .newarray .boolean, a, b, c0) :: cs) L (.int x :: st) (hT k t u) res := by
  obtain ⟨n, H⟩ := H
  have hk : k < 134 := (List.getElem?_eq_some_iff.mp hs).1
  have hl : (sh_SH.take k).length = k := by rw [List.length_take]; exact Nat.min_eq_left (Nat.le_of_lt hk)
  refine ⟨n + 1, ?_⟩
  show (if x < 0 ∨ 1000000 < x.toNatClampNeg ∨ 1000000 ≤ (sh_SH.take k).length then none else am_ex am_P am_Mi am_Nf X n d M cs L (.ref (sh_SH.take k).length :: st) (sh_SH.take k ++ [(1, x.toNatClampNeg)], am_zI (ht_I u) (sh_SH.take k).length, am_zG (ht_G t) (sh_SH.take k).length)) = _
  rw [hl, if_neg (by rintro (z | z | z) <;> first | exact hx (Or.inl z) | exact hx (Or.inr z) | omega), ht_zG hg, ht_zI hi, ← ht_takeS hs]
  exact H
theorem ht_newQ {i : Nat} (hx : ¬ (x < 0 ∨ 1000000 < x.toNatClampNeg)) (hs : sh_SH[k]? = some (2, x.toNatClampNeg)) (hg : (ht_gl.take t).all (fun q => decide (q.1 ≠ k)) = true) (hi : (ht_il.take u).reverse.all (fun q => decide (q.1 ≠ k)) = true) (H : Ex X d M cs L (.ref k :: st) (hT (k + 1) t u) res) : Ex X d M ((pc, .anewarray i, a, b, c0) :: cs) L (.int x :: st) (hT k t u) res := by
  obtain ⟨n, H⟩ := H
  have hk : k < 134 := (List.getElem?_eq_some_iff.mp hs).1
  have hl : (sh_SH.take k).length = k := by rw [List.length_take]; exact Nat.min_eq_left (Nat.le_of_lt hk)
  refine ⟨n + 1, ?_⟩
  show (if x < 0 ∨ 1000000 < x.toNatClampNeg ∨ 1000000 ≤ (sh_SH.take k).length then none else am_ex am_P am_Mi am_Nf X n d M cs L (.ref (sh_SH.take k).length :: st) (sh_SH.take k ++ [(2, x.toNatClampNeg)], am_zI (ht_I u) (sh_SH.take k).length, am_zG (ht_G t) (sh_SH.take k).length)) = _
  rw [hl, if_neg (by rintro (z | z | z) <;> first | exact hx (Or.inl z) | exact hx (Or.inr z) | omega), ht_zG hg, ht_zI hi, ← ht_takeS hs]
  exact H
theorem ex_iaddE {h : AmH} (hv : x + y = v) (H : Ex X d M cs L (.int v :: st) h res) : Ex X d M ((pc, .iadd, a, b, c0) :: cs) L (.int y :: .int x :: st) h res := by
  subst hv
  exact ex_iadd H
theorem ex_isubE {h : AmH} (hv : x - y = v) (H : Ex X d M cs L (.int v :: st) h res) : Ex X d M ((pc, .isub, a, b, c0) :: cs) L (.int y :: .int x :: st) h res := by
  subst hv
  exact ex_isub H
theorem ex_imulE {h : AmH} (hv : x * y = v) (H : Ex X d M cs L (.int v :: st) h res) : Ex X d M ((pc, .imul, a, b, c0) :: cs) L (.int y :: .int x :: st) h res := by
  subst hv
  exact ex_imul H
theorem ex_oinit {i o : Nat} {h : AmH} (h8 : am_cats st ≤ 8) (hd : 0 < d) (H : Ex X d M cs L st h res) : Ex X d M ((pc, .invokespecial i, a, b, 4) :: cs) L (.ref o :: st) h res := by
  obtain ⟨n, H⟩ := H
  refine ⟨n + 1, ?_⟩
  show (if am_cats st ≤ 8 ∧ 0 < d then am_ex am_P am_Mi am_Nf X n d M cs L st h else none) = _
  rw [if_pos ⟨h8, hd⟩]
  exact H
theorem ex_callI {i : Nat} {as : List Value} {w : Option Int32} {h h2 : AmH} {st2 : List Value} (hc0 : ¬ c0 = 4) (e1 : (st.take b).reverse = as) (e2 : st.drop b = rest) (hb : b ≤ st.length) (h8 : am_cats rest ≤ 8) (hrc : am_rcv h 2 (am_Mi a).2.1 as = true) (hc : Ex X d a (am_P a) (am_ini (am_Mi a).1 as) [] h (w, h2)) (e3 : am_push w rest = st2) (H : Ex X (d + 1) M cs L st2 h2 res) : Ex X (d + 1) M ((pc, .invokespecial i, a, b, c0) :: cs) L st h res := by
  obtain ⟨n, H⟩ := H
  obtain ⟨m, hm⟩ := hc
  subst e1; subst e2; subst e3
  refine ⟨(n + m) + 1, ?_⟩
  show (if c0 = 4 then _ else if b ≤ st.length ∧ am_cats (st.drop b) ≤ 8 ∧ am_rcv h 2 (am_Mi a).2.1 (st.take b).reverse = true then ((am_ex am_P am_Mi am_Nf X (n + m) d a (am_P a) (am_ini (am_Mi a).1 (st.take b).reverse) [] h).bind fun q => am_ex am_P am_Mi am_Nf X (n + m) (d + 1) M cs L (am_push q.1 (st.drop b)) q.2) else none) = _
  rw [if_neg hc0, if_pos ⟨hb, h8, hrc⟩]
  exact Option.bind_eq_some_iff.mpr ⟨_, am_mono hm (by omega), am_mono H (by omega)⟩
end HT
