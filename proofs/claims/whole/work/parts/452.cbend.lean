/-! folding: a plain fold, in the class, whole -/
def lpk (F k : Nat) (x v : Int32) (S : AmT) : Option (Int32 × AmT) := if k = 1 then g72_24 F F x v 0 S else if k = 2 then g73_24 F F x v 0 S else g74_24 F F x v 0 S
def cfn (F k : Nat) (x : Int32) (S : AmT) : Option (Int32 × AmT) := (f131 F (nI (k + 1)) S).bind fun S1 => am_b2 (f75 F x (nI (k + 1)) S1) fun v2 S3 => if 0 ≤ v2 then lpk F k x v2 S3 else some (-17, S3)
theorem cfn_1 {F : Nat} {x : Int32} {S : AmT} : f72 F x S = cfn F 1 x S := rfl
theorem cfn_2 {F : Nat} {x : Int32} {S : AmT} : f73 F x S = cfn F 2 x S := rfl
theorem cfn_3 {F : Nat} {x : Int32} {S : AmT} : f74 F x S = cfn F 3 x S := rfl
theorem CV_ax {I : Mem} {ax sr sc R C : Nat} {G : Nat → Nat → List Lf} (h : CV I 1 sr sc R C (fun _ _ => True) G) : CV I ax sr sc (al ax R C) (an ax R C) (fun _ _ => True) (vw ax G) := by
  obtain ⟨live, pl, own, hLV, hV⟩ := h
  refine ⟨live, pl, own, hLV, fun l t hl ht _ => ?_⟩
  unfold al at hl
  unfold an at ht
  unfold vw pcl
  by_cases q : ax = 0
  · rw [if_pos q] at hl ht
    rw [if_pos q, if_pos q]
    have := hV t l ht hl trivial
    unfold pcl at this
    rw [if_neg (by decide)] at this
    exact this
  · rw [if_neg q] at hl ht
    rw [if_neg q, if_neg q]
    have := hV l t hl ht trivial
    unfold pcl at this
    rw [if_neg (by decide)] at this
    exact this
theorem CV_back {I : Mem} {ax sr sc R C k w : Nat} {G : Nat → Nat → List Lf} (hk : 1 ≤ k ∧ k ≤ 3) (hn : an ax R C = (k + 1) * w) (h : CV I ax sr sc (al ax R C) (an ax R C) (fun _ t => ∀ i, i < ocn k w → t ≠ osr k w i) (Vs (flx ax) (osr k w) (ods k w) (vw ax G) (ocn k w))) :
    CV I 1 (if ax = 0 then sr + osk k w else sr) (if ax = 0 then sc else sc + osk k w) (bR ax k w R) (bC ax k w C) (fun _ _ => True) (bG ax k w G) := by
  obtain ⟨live, pl, own, hLV, hV⟩ := h
  refine ⟨live, pl, own, hLV, fun l t hl ht _ => ?_⟩
  unfold bR at hl
  unfold bC at ht
  unfold bG bV pcl
  rw [if_neg (by decide)]
  by_cases q : ax = 0
  · rw [if_pos q] at hl ht
    rw [if_pos q, if_pos q]
    obtain ⟨w1, w2⟩ := o_win (w := w) hk hl
    rw [← hn] at w1
    have := hV t (osk k w + l) (by unfold al; rw [if_pos q]; exact ht) w1 w2
    unfold pcl at this
    rw [if_pos q] at this
    rw [show sr + osk k w + l = sr + (osk k w + l) by omega]
    refine ⟨this.1, this.2.trans ?_⟩
    show _ = if ax = 0 then Vs (flx ax) (osr k w) (ods k w) (vw ax G) (ocn k w) t (osk k w + l) else _
    rw [if_pos q]
  · rw [if_neg q] at hl ht
    rw [if_neg q, if_neg q]
    obtain ⟨w1, w2⟩ := o_win (w := w) hk ht
    rw [← hn] at w1
    have := hV l (osk k w + t) (by unfold al; rw [if_neg q]; exact hl) w1 w2
    unfold pcl at this
    rw [if_neg q] at this
    rw [show sc + osk k w + t = sc + (osk k w + t) by omega]
    refine ⟨this.1, this.2.trans ?_⟩
    show _ = if ax = 0 then _ else Vs (flx ax) (osr k w) (ods k w) (vw ax G) (ocn k w) l (osk k w + t)
    rw [if_neg q]
theorem lpk_ok {F : Nat} (hF : 6000 ≤ F) {ax sr sc lines n k w : Nat} {V : Nat → Nat → List Lf} {S0 : AmT} (hk : 1 ≤ k ∧ k ≤ 3) (hax : ax ≤ 1) (hb : bnd ax sr sc lines n) (hlines : lines ≤ 8) (hn : n = (k + 1) * w) (hn8 : n ≤ 8) (g0 : S0.1 25 0 = nI sr) (g1 : S0.1 25 1 = nI sc) (g2 : S0.1 26 (if ax = 0 then 1 else 0) = nI lines) (h : CV S0.1 ax sr sc lines n (fun _ _ => True) V) :
    ∃ S1, CB S0 S1 ax sr sc lines n (osr k w) (ods k w) V (ocn k w) ∧ lpk F k (nI ax) (nI w) S0 = f76 F (nI ax) (nI (osk k w)) (nI (olf k w)) S1 := by
  have h0 : CB S0 S0 ax sr sc lines n (osr k w) (ods k w) V 0 := ⟨F3_refl _, CV_mono h fun _ _ _ => trivial⟩
  unfold lpk
  have hw : w ≤ 8 := by
    rcases (show k = 1 ∨ k = 2 ∨ k = 3 by omega) with rfl | rfl | rfl <;> omega
  rcases (show k = 1 ∨ k = 2 ∨ k = 3 by omega) with rfl | rfl | rfl
  · rw [if_pos rfl]
    exact lp_72 hF hax hb hlines hn hn8 g0 g1 g2 F 0 S0 (by omega) (by omega) h0
  · rw [if_neg (by decide), if_pos rfl]
    exact lp_73 hF hax hb hlines hn hn8 g0 g1 g2 F 0 S0 (by omega) (by omega) h0
  · rw [if_neg (by decide), if_neg (by decide)]
    exact lp_74 hF hax hb hlines hn hn8 g0 g1 g2 F 0 S0 (by omega) (by omega) h0
theorem CV_I {I I' : Mem} {ax sr sc lines n : Nat} {liv : Nat → Nat → Prop} {V : Nat → Nat → List Lf} (h27 : I' 27 = I 27) (h28 : I' 28 = I 28) (h29 : I' 29 = I 29) (h : CV I ax sr sc lines n liv V) : CV I' ax sr sc lines n liv V := by
  unfold CV LV at h ⊢
  rw [h27, h28, h29]
  exact h
theorem CS_I {N : Nat × Nat} {S S' : AmT} {sr sc R C : Nat} {G : Nat → Nat → List Lf} (hh : ∀ o, 25 ≤ o → o ≤ 29 → S'.1 o = S.1 o) (h : CS N S sr sc R C G) : CS N S' sr sc R C G := by
  unfold CS at h ⊢
  rw [hh 25 (by omega) (by omega), hh 26 (by omega) (by omega)]
  exact ⟨h.1, h.2.1, h.2.2.1, h.2.2.2.1, h.2.2.2.2.1, h.2.2.2.2.2.1, h.2.2.2.2.2.2.1, CV_I (hh 27 (by omega) (by omega)) (hh 28 (by omega) (by omega)) (hh 29 (by omega) (by omega)) h.2.2.2.2.2.2.2⟩
theorem c_bend {N : Nat × Nat} {F : Nat} (hF : 6000 ≤ F) {k ax sr sc R C tc : Nat} {G : Nat → Nat → List Lf} {S : AmT} (hk : 1 ≤ k ∧ k ≤ 3) (hax : ax ≤ 1) (h : CS N S sr sc R C G) (ht : S.1 5 1 = nI tc) (htc : tc < 2000000) :
    ∃ S', Sf S S' ∧ NT S S' tc (nI (k + 1)) ∧ ((an ax R C % (k + 1) ≠ 0 ∧ cfn F k (nI ax) S = some (-17, S')) ∨ (an ax R C % (k + 1) = 0 ∧ cfn F k (nI ax) S = some (1, S') ∧ ∃ sr' sc', CS N S' sr' sc' (bR ax k (an ax R C / (k + 1)) R) (bC ax k (an ax R C / (k + 1)) C) (bG ax k (an ax R C / (k + 1)) G))) := by
  have hS1 := nt_ok (S := S) (tc := tc) (x := nI (k + 1))
  have e1 := f131_eq (F := F) (x := nI (k + 1)) ht htc
  revert hS1 e1
  generalize ((am_upI (am_upI S.1 6 (tc % 40) (nI (k + 1))) 5 1 (nI (tc + 1)), S.2) : AmT) = S1
  intro hS1 e1
  obtain ⟨f1, n1, u1⟩ := hS1
  have h1 : CS N S1 sr sc R C G := CS_I (fun o o1 o2 => u1 o (by omega) (by omega)) h
  obtain ⟨c1, c2, c3, c4, c5, c6, ⟨z0, cu, cz, cp⟩, c7⟩ := h1
  have e26 : S1.1 26 ax = nI (an ax R C) := by
    unfold an
    rcases (show ax = 0 ∨ ax = 1 by omega) with rfl | rfl
    · exact c3
    · exact c4
  have hn8 : an ax R C ≤ 8 := by
    unfold an
    split <;> omega
  have hl8 : al ax R C ≤ 8 := by
    unfold al
    split <;> omega
  unfold cfn
  rw [e1, bind_at, f75_eq hk hax hn8 e26, b2_at]
  by_cases q : an ax R C % (k + 1) = 0
  · rw [if_pos q, if_pos (nI_le0 (by have := Nat.div_le_self (an ax R C) (k + 1); omega))]
    have hb : bnd ax sr sc (al ax R C) (an ax R C) := by
      unfold bnd al an
      refine ⟨fun z => ?_, fun z => ?_⟩
      · rw [if_pos z, if_pos z]
        exact ⟨c5, c6⟩
      · rw [if_neg z, if_neg z]
        exact ⟨c5, c6⟩
    have hn : an ax R C = (k + 1) * (an ax R C / (k + 1)) := by
      have := Nat.div_add_mod (an ax R C) (k + 1)
      omega
    have g2 : S1.1 26 (if ax = 0 then 1 else 0) = nI (al ax R C) := by
      unfold al
      split
      · exact c4
      · exact c3
    obtain ⟨S2, ⟨b1, b2⟩, e2⟩ := lpk_ok hF hk hax hb hl8 hn hn8 c1 c2 g2 (CV_ax c7)
    have e25 : S2.1 25 ax = nI (if ax = 0 then sr else sc) := by
      rw [b1.2 25 (by decide) (by decide) (by decide)]
      rcases (show ax = 0 ∨ ax = 1 by omega) with rfl | rfl
      · exact c1
      · exact c2
    rw [e2, f76_eq hax e25]
    have hlf : osk k (an ax R C / (k + 1)) + olf k (an ax R C / (k + 1)) ≤ an ax R C := by
      have := o_sl (k := k) (w := an ax R C / (k + 1)) hk
      rwa [← hn] at this
    have hcb := CV_back hk hn b2
    have hul : ∃ z, UL (bR ax k (an ax R C / (k + 1)) R) (bC ax k (an ax R C / (k + 1)) C) (bG ax k (an ax R C / (k + 1)) G) z ∧ z * (bR ax k (an ax R C / (k + 1)) R * bC ax k (an ax R C / (k + 1)) C) = N.1 * N.2 ∧ PL N (bR ax k (an ax R C / (k + 1)) R) (bC ax k (an ax R C / (k + 1)) C) (bG ax k (an ax R C / (k + 1)) G) := by
      obtain ⟨z', x1, x2⟩ := UL_bend hk hn hn8 cu cz
      exact ⟨z', x1, x2, PL_bend hk hn cp⟩
    have f12 : F3 S1 S2 := b1
    refine ⟨_, ?_, ?_, Or.inr ⟨q, rfl, (if ax = 0 then sr + osk k (an ax R C / (k + 1)) else sr), (if ax = 0 then sc else sc + osk k (an ax R C / (k + 1))), ?_⟩⟩
    · refine Sf_trans f1 ⟨f12.1, fun o o1 o2 o3 => ?_, fun j hj => ?_⟩
      · show am_upI (am_upI S2.1 25 ax _) 26 ax _ o = _
        rw [am_upI_ne (by omega), am_upI_ne (by omega), f12.2 o (by omega) (by omega) (by omega)]
      · exact congrFun (f12.2 5 (by omega) (by omega) (by omega)) j
    · refine ⟨?_, ?_⟩
      · exact (f12.2 6 (by omega) (by omega) (by omega)).trans n1.1
      · exact (f12.2 5 (by omega) (by omega) (by omega)).trans n1.2
    · have x25 := f12.2 25 (by omega) (by omega) (by omega)
      have x26 := f12.2 26 (by omega) (by omega) (by omega)
      generalize an ax R C / (k + 1) = w at *
      unfold an at hlf
      unfold CS bR bC
      unfold bR bC at hul hcb
      rcases (show ax = 0 ∨ ax = 1 by omega) with rfl | rfl
      · simp only [if_true] at hlf hcb hul ⊢
        refine ⟨?_, ?_, ?_, ?_, by omega, by omega, hul, ?_⟩
        · simp only [am_upI_at, am_upI_ne, pk_us, pk_un, ne_eq, Nat.reduceEqDiff, not_false_eq_true]
        · simp only [am_upI_at, am_upI_ne, pk_us, pk_un, ne_eq, Nat.reduceEqDiff, not_false_eq_true]
          rw [x25, c2]
        · simp only [am_upI_at, am_upI_ne, pk_us, pk_un, ne_eq, Nat.reduceEqDiff, not_false_eq_true]
        · simp only [am_upI_at, am_upI_ne, pk_us, pk_un, ne_eq, Nat.reduceEqDiff, not_false_eq_true]
          rw [x26, c4]
        · refine CV_I ?_ ?_ ?_ hcb <;> simp only [am_upI_at, am_upI_ne, pk_us, pk_un, ne_eq, Nat.reduceEqDiff, not_false_eq_true]
      · simp only [show ¬ (1 : Nat) = 0 by omega, if_false] at hlf hcb hul ⊢
        refine ⟨?_, ?_, ?_, ?_, by omega, by omega, hul, ?_⟩
        · simp only [am_upI_at, am_upI_ne, pk_us, pk_un, ne_eq, Nat.reduceEqDiff, not_false_eq_true]
          rw [x25, c1]
        · simp only [am_upI_at, am_upI_ne, pk_us, pk_un, ne_eq, Nat.reduceEqDiff, not_false_eq_true]
        · simp only [am_upI_at, am_upI_ne, pk_us, pk_un, ne_eq, Nat.reduceEqDiff, not_false_eq_true]
          rw [x26, c3]
        · simp only [am_upI_at, am_upI_ne, pk_us, pk_un, ne_eq, Nat.reduceEqDiff, not_false_eq_true]
        · refine CV_I ?_ ?_ ?_ hcb <;> simp only [am_upI_at, am_upI_ne, pk_us, pk_un, ne_eq, Nat.reduceEqDiff, not_false_eq_true]
  · rw [if_neg q, if_neg (by decide)]
    exact ⟨S1, f1, n1, Or.inl ⟨q, rfl⟩⟩
