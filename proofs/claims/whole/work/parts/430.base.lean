/-! rules for one call -/
def cf (S : AmT) (n : Int32) : AmT := (am_upI (am_upI S.1 5 2 (S.1 5 2 + 1)) 5 3 n, S.2)
def mf (S : AmT) (n : Int32) : AmT := (am_upI (am_upI S.1 95 30 (S.1 95 30 + 1)) 95 31 n, S.2)
theorem f203_eq {F : Nat} {S : AmT} {n : Int32} : f203 F n S = some (-10 - n, mf S n) := rfl
theorem f129_ok {F : Nat} {S : AmT} {x : Int32} (h : -11 < x) : f129 F x S = some (x, S) := by
  unfold f129
  rw [if_pos h]
theorem f129_find {F : Nat} {S : AmT} {x : Int32} (h : ¬ -11 < x) : f129 F x S = some (x, cf S (-10 - x)) := by
  unfold f129
  rw [if_neg h]
  rfl
theorem cf_fn {S : AmT} {n : Int32} {o : Nat} (h : o ≠ 5) : (cf S n).1 o = S.1 o := by
  show am_upI (am_upI _ _ _ _) _ _ _ o = _
  rw [am_upI_ne h, am_upI_ne h]
theorem mf_fn {S : AmT} {n : Int32} {o : Nat} (h : o ≠ 95) : (mf S n).1 o = S.1 o := by
  show am_upI (am_upI _ _ _ _) _ _ _ o = _
  rw [am_upI_ne h, am_upI_ne h]
theorem Tal_mono {I : Mem} {t t' : Nat} (h : Tal I t) (ht : t ≤ t') : Tal I t' := by
  obtain ⟨h1, h2, h3, h4, h5, h6, ⟨tc, h7, h8⟩, h9⟩ := h
  exact ⟨h1, h2, h3, h4, h5, h6, ⟨tc, by omega, h8⟩, h9⟩
theorem Rel_mono {S : AmT} {t t' : Nat} (h : Rel S t) (ht : t ≤ t') : Rel S t' := ⟨h.1, Tal_mono h.2.1 ht, h.2.2⟩
/-- nothing but what is counted has changed -/
theorem Rel_tal {S S2 : AmT} {t : Nat} (h : Rel S t) (h2 : S2.2 = S.2) (hc : ∀ o, o ≤ 4 ∨ kc o → S2.1 o = S.1 o) (hm : ∀ o, 96 ≤ o → o ≤ 124 → S2.1 o = S.1 o) (h29 : S2.1 95 29 = S.1 95 29) (hT : Tal S2.1 (t + 1)) : Rel S2 (t + 1) := by
  obtain ⟨⟨nj, nf, ns, ng, nb, hC⟩, -, hb, g1, g2, g3⟩ := h
  obtain ⟨e1, e2⟩ := mv_cells hm
  refine ⟨⟨nj, nf, ns, ng, nb, ?_⟩, hT, ?_, ?_, ?_, ?_⟩
  · rw [e1]
    exact Cur_congr (fun o ho => hc o (Or.inr ho)) hC
  · unfold bools
    rw [hm 116 (by omega) (by omega), hm 122 (by omega) (by omega), hm 124 (by omega) (by omega)]
    exact hb
  · rw [hc 1 (Or.inl (by omega))]
    exact g1
  · rw [h29, hc 1 (Or.inl (by omega))]
    exact g2
  · rw [hc 1 (Or.inl (by omega))]
    intro h14
    obtain ⟨B, hJ, nj', nf', ns', ng', nb', hC'⟩ := g3 h14
    exact ⟨B, J_keep hJ h2 (hc 1 (Or.inl (by omega))) (hc 3 (Or.inl (by omega))) (hc 4 (Or.inl (by omega))) (fun o ho => hc o (Or.inr ho)), nj', nf', ns', ng', nb', by rw [e2]; exact hC'⟩
theorem Tal_find {S S1 : AmT} {t : Nat} {n : Int32} (h : Tal S.1 t) : Tal (mf (cf S n) n).1 (t + 1) := by
  obtain ⟨h1, h2, h3, h4, h5, h6, ⟨tc, h7, h8, h9⟩, h10⟩ := h
  have e5 : ∀ j, (mf (cf S n) n).1 5 j = (cf S n).1 5 j := fun j => congrFun (mf_fn (by decide)) j
  have e95 : ∀ j, (mf (cf S n) n).1 95 j = if j = 31 then n else if j = 30 then S.1 95 30 + 1 else S.1 95 j := fun j => by
    show am_upI (am_upI (cf S n).1 95 30 ((cf S n).1 95 30 + 1)) 95 31 n 95 j = _
    rw [cf_fn (S := S) (n := n) (o := 95) (by decide)] 
    by_cases q1 : j = 31
    · simp [am_upI, q1]
    · by_cases q2 : j = 30
      · simp [am_upI, q2]
      · simp only [am_upI, q1, q2, if_true, if_false]
        exact congrFun (cf_fn (by decide)) j
  have e5b : ∀ j, (cf S n).1 5 j = if j = 3 then n else if j = 2 then S.1 5 2 + 1 else S.1 5 j := fun j => by
    show am_upI (am_upI S.1 5 2 (S.1 5 2 + 1)) 5 3 n 5 j = _
    by_cases q1 : j = 3
    · simp [am_upI, q1]
    · by_cases q2 : j = 2
      · simp [am_upI, q2]
      · simp [am_upI, q1, q2]
  unfold Tal
  simp only [e5, e95, e5b]
  refine ⟨by simp [h1], by simp, by simpa using h3, by simpa using h4, by simpa using h5, by simpa using h6, ⟨tc, by omega, by simpa using h8, by simpa using h9⟩, fun j hj => ?_⟩
  rw [mf_fn (S := cf S n) (n := n) (o := 6) (by decide), mf_fn (S := cf S n) (n := n) (o := 125) (by decide), cf_fn (S := S) (n := n) (o := 6) (by decide), cf_fn (S := S) (n := n) (o := 125) (by decide)]
  exact h10 j hj
theorem Rel_find {S : AmT} {t : Nat} {n : Int32} (h : Rel S t) : Rel (mf (cf S n) n) (t + 1) := by
  refine Rel_tal h rfl (fun o ho => ?_) (fun o h1 h2 => ?_) ?_ (Tal_find (S1 := S) h.2.1)
  · rw [mf_fn (by omega), cf_fn (by omega)]
  · rw [mf_fn (by omega), cf_fn (by omega)]
  · show am_upI (am_upI (cf S n).1 95 30 ((cf S n).1 95 30 + 1)) 95 31 n 95 29 = _
    simp only [am_upI]
    simp
    exact congrFun (cf_fn (by decide)) 29
-- one call: the class's function, then the model's
def FpStep (fc fm : AmT → Option (Int32 × AmT)) : Prop := ∀ (S : AmT) (t : Nat), t ≤ 600 → Rel S t → ∃ v S1 S2, fc S = some (v, S1) ∧ fm S1 = some (v, S2) ∧ Rel S2 (t + 1)
theorem f81_eq {F : Nat} {S : AmT} : f81 F S = some (if S.1 92 0 = 0 then 0 else 1, S) := by
  unfold f81
  rw [kg_0 (by decide) (by decide)]
  split <;> rfl
theorem f202_eq {F : Nat} {S : AmT} : f202 F S = some (if S.1 96 8 = 1 then 1 else 0, S) := by
  unfold f202
  split <;> rfl
theorem f194_eq {F : Nat} {S : AmT} {x a b : Int32} : f194 F x a b S = some (if x < a then 0 else if b < x then 0 else 1, S) := by
  unfold f194
  split
  · rfl
  · split <;> rfl
theorem f197_eq {F : Nat} {S : AmT} {x a b : Int32} : f197 F x a b S = some (if x < a then 0 else if b < x then 0 else 1, S) := by
  unfold f197
  split
  · rfl
  · split <;> rfl
theorem nn_at {α : Type} {S : AmT} {B : Mem} {k : Nat} {K : Option α} (h : J S B k) (hk : k < 2147483648) : am_nn S K = K := by
  unfold am_nn
  rw [if_neg (J_nn h hk)]
/-- the press is JAMMED or not, on both sides -/
theorem Rel_jam {S : AmT} {t : Nat} (h : Rel S t) : S.1 96 8 = S.1 92 0 ∧ (S.1 92 0 = 0 ∨ S.1 92 0 = 1) := by
  obtain ⟨⟨nj, nf, ns, ng, nb, -, -, -, -, hP⟩, -⟩ := h
  obtain ⟨-, -, -, h1, h2, -⟩ := hP
  rw [mv_at (by decide)] at h1
  exact ⟨h1.symm, h2⟩
