/-! judgements: new cells, calls, and the run of a method -/
theorem am_lenH {E : AmE} {D : va_G} {h : AmH} {H : Heap} (hP : va_P D am_cl (am_ws E h) H) (hb : E.1 ≤ H.size) : E.1 + h.1.length ≤ H.size := by
  rcases Nat.eq_zero_or_pos h.1.length with h0 | h0
  · omega
  · obtain ⟨⟨t, n⟩, hq⟩ : ∃ x, h.1[h.1.length - 1]? = some x := ⟨_, List.getElem?_eq_getElem (by omega)⟩
    have h1 : E.1 + (h.1.length - 1) < H.size := (hP _ _ (am_ws_at hq)).lt
    omega
theorem am_newq {E : AmE} {D : va_G} {h : AmH} {H1 : Heap} {q : Nat} {e0 : va_E} (hP : va_P D am_cl (am_ws E h ++ [(q, e0)]) H1) (hD : va_D (am_A E) (am_ws E h ++ [(q, e0)])) (hz : H1.size ≤ E.1 + h.1.length + 1) : q = E.1 + h.1.length := by
  have hl : (am_ws E h).length = h.1.length := by simp [am_ws]
  have hi : (am_ws E h ++ [(q, e0)])[h.1.length]? = some (q, e0) := by
    rw [← hl, List.getElem?_append_right (Nat.le_refl _), Nat.sub_self]
    rfl
  have h1 : q < H1.size := (hP _ _ hi).lt
  have h2 : E.1 ≤ q := hD.2 _ _ hi
  by_cases h3 : q < E.1 + h.1.length
  · exfalso
    have hk : q - E.1 < h.1.length := by omega
    obtain ⟨⟨t, n⟩, hq⟩ : ∃ x, h.1[q - E.1]? = some x := ⟨_, List.getElem?_eq_getElem hk⟩
    have hj : (am_ws E h ++ [(q, e0)])[q - E.1]? = some (E.1 + (q - E.1), am_cell E t n (h.2.1 (q - E.1)) (h.2.2 (q - E.1))) := by
      rw [List.getElem?_append_left (by omega)]
      exact am_ws_at hq
    have := hD.1 _ _ _ _ hj hi (by show E.1 + (q - E.1) = q; omega)
    omega
  · omega
theorem am_sl_new {h : AmH} {t n : Nat} {x : AmS} : am_sl (h.1 ++ [(t, n)], x) = am_sl h + n := by simp [am_sl]
theorem am_cats_rv {E : AmE} (st : List Value) : ((st.map (am_rv E)).map fun v => v.category).sum = am_cats st := by
  rw [am_cats, List.map_map]
  congr 1
  apply List.map_congr_left
  intro v _
  exact am_rv_cat v
section AMN
variable {l : Launch} {E : AmE} {D : va_G} {X : AmX} {d M : Nat} {cs : AmCd} {L st : List Value} {h : AmH} {res : Option Int32 × AmH} {pc a b c0 : Nat}
theorem am_j_new {k : Nat} (ok : am_okq M (pc, .new k, a, b, c0) cs = true) (hlen : h.1.length < 1000000) (mo : h.1.length + 1 ≤ res.2.1.length ∧ am_sl h + am_Nf a ≤ am_sl res.2) (hk : am_J l E D X d M cs L (.ref h.1.length :: st) (h.1 ++ [(a + 3, am_Nf a)], am_zI h.2.1 h.1.length, am_zG h.2.2 h.1.length) res) : am_J l E D X d M ((pc, .new k, a, b, c0) :: cs) L st h res := by
  intro p e R s m args below meth c H locs cells slots cF sF ls Q C hfr hlo hcF hsF hP hS hl hz hc1 hs1 kr
  have hdg := am_okq_d ok rfl
  have hn := am_okq_n ok rfl
  have hr := (am_okq_4 ok).2.2.2
  simp only [am_res] at hr
  obtain ⟨hlk, hci⟩ := am_KL_use hr
  have hfs : ∀ j, j < am_Nf a → defaultValue (am_ty a j) = vp_V (am_fs E a (fun _ => 0) (fun _ => none)) j := by
    intro j hj
    obtain ⟨t1, t2, t3, t4⟩ := am_cls_ty hci hj
    have h1 : vp_V (am_fs E a (fun _ => 0) (fun _ => none)) j = if am_fk a j = 1 then .null else .int 0 := by
      show List.getD _ j Value.null = _
      rw [List.getD_eq_getElem?_getD, am_fs_at hj]
      rfl
    rw [h1, t3]
    rcases t4 with q | q | q
    · rw [q]; rfl
    · rw [q]; rfl
    · cases hq : am_ty a j <;> rw [hq] at q <;> first | exact absurd q (by decide) | rfl
  refine va_new (D := D) (ci := a) (C := am_cn a) (T := am_T a) (N := am_Nf a) (fs := am_fs E a (fun _ => 0) (fun _ => none)) C.1 C.2.1 C.2.2.2.2.2.2.1 (am_cls_in hci) (am_ty a) (fun k hk => (am_cls_ty hci hk).1) C.2.2.2.2.2.1 (C.2.2.2.2.2.2.1 _ hlk) (C.2.2.2.2.2.2.1 _ (am_cls_ins hci)) (C.2.2.2.2.2.2.1 _ (am_cls_ini (by omega))) C.2.2.2.2.2.2.2.1 hP am_ws_D hS (fun q hq => Nat.le_trans C.2.2.2.2.2.2.2.2.2.2 hq) (am_cl_at hci) hfs (by omega) (by omega) hdg (fun q H1 hP1 hD1 hS1 => ?_)
  refine am_sz (fun hz1 => ?_)
  have hq := am_newq hP1 hD1 (by omega)
  subst hq
  rw [am_ws_new (t := a + 3) (n := am_Nf a) (e0 := Sum.inr (a, am_fs E a (fun _ => 0) (fun _ => none))) rfl] at hP1
  have k2 := hk p e R s m args below meth c H1 locs (cells + 1) (slots + am_Nf a) cF sF ls Q C hfr hlo hcF hsF hP1 hS1 hl (by simp only [List.length_append, List.length_singleton]; omega) (by simp only [List.length_append, List.length_singleton]; omega) (by rw [am_sl_new]; omega) kr
  rw [hn] at k2
  have k3 : W p l e R s m args below meth c H1 locs (cells + 1) (slots + am_Nf a) Q (F0 m (pc + 3) ls (.ref (am_ad E h.1.length) :: st.map (am_rv E))) := k2
  rw [am_ad_in hlen] at k3
  exact k3
theorem am_j_newI {x : Int32} (ok : am_okq M (pc, .newarray .int, a, b, c0) cs = true) (hx : ¬ (x < 0 ∨ 1000000 < x.toNatClampNeg ∨ 1000000 ≤ h.1.length)) (mo : h.1.length + 1 ≤ res.2.1.length ∧ am_sl h + x.toNatClampNeg ≤ am_sl res.2) (hk : am_J l E D X d M cs L (.ref h.1.length :: st) (h.1 ++ [(0, x.toNatClampNeg)], am_zI h.2.1 h.1.length, am_zG h.2.2 h.1.length) res) : am_J l E D X d M ((pc, .newarray .int, a, b, c0) :: cs) L (.int x :: st) h res := by
  intro p e R s m args below meth c H locs cells slots cF sF ls Q C hfr hlo hcF hsF hP hS hl hz hc1 hs1 kr
  have hdg := am_okq_d ok rfl
  have hn := am_okq_n ok rfl
  have x1 : ¬ x < 0 := fun q => hx (Or.inl q)
  have x2 : ¬ 1000000 < x.toNatClampNeg := fun q => hx (Or.inr (Or.inl q))
  have x3 : ¬ 1000000 ≤ h.1.length := fun q => hx (Or.inr (Or.inr q))
  refine va_newa (D := D) (ty := .int) (N' := x.toNatClampNeg) (a0 := (x.toNatClampNeg, .inl (fun _ => 0))) C.1 C.2.1 (C.2.2.2.2.2.2.1 _ (am_in am_w99 rfl)) rfl C.2.2.2.2.2.2.2.1 hP am_ws_D hS (fun q hq => Nat.le_trans C.2.2.2.2.2.2.2.2.2.2 hq) (fun cA => rfl) x1 rfl (by show x.toNatClampNeg * 4 ≤ 536870912; omega) (by omega) (by omega) hdg (fun q cA H1 hK1 hP1 hD1 hS1 => ?_)
  have hcA : cA = E.2.2.1 := by
    have h1 : s.vm.findClass _ = some cA := (hK1.2 3 (cA, .int) rfl).2
    have h2 : s.vm.findClass _ = some E.2.2.1 := (C.2.2.2.2.2.2.2.1.2 0 (E.2.2.1, .int) rfl).2
    exact Option.some.inj (h1.symm.trans h2)
  subst hcA
  refine am_sz (fun hz1 => ?_)
  have hq := am_newq hP1 hD1 (by omega)
  subst hq
  rw [am_ws_new (t := 0) (n := x.toNatClampNeg) (e0 := Sum.inl (E.2.2.1, x.toNatClampNeg, Sum.inl (fun _ => 0))) rfl] at hP1
  have k2 := hk p e R s m args below meth c H1 locs (cells + 1) (slots + x.toNatClampNeg) cF sF ls Q C hfr hlo hcF hsF hP1 hS1 hl (by simp only [List.length_append, List.length_singleton]; omega) (by simp only [List.length_append, List.length_singleton]; omega) (by rw [am_sl_new]; omega) kr
  rw [hn] at k2
  have k3 : W p l e R s m args below meth c H1 locs (cells + 1) (slots + x.toNatClampNeg) Q (F0 m (pc + 2) ls (.ref (am_ad E h.1.length) :: st.map (am_rv E))) := k2
  rw [am_ad_in (by omega)] at k3
  exact k3
theorem am_j_newZ {x : Int32} (ok : am_okq M (pc, .newarray .boolean, a, b, c0) cs = true) (hx : ¬ (x < 0 ∨ 1000000 < x.toNatClampNeg ∨ 1000000 ≤ h.1.length)) (mo : h.1.length + 1 ≤ res.2.1.length ∧ am_sl h + x.toNatClampNeg ≤ am_sl res.2) (hk : am_J l E D X d M cs L (.ref h.1.length :: st) (h.1 ++ [(1, x.toNatClampNeg)], am_zI h.2.1 h.1.length, am_zG h.2.2 h.1.length) res) : am_J l E D X d M ((pc, .newarray .boolean, a, b, c0) :: cs) L (.int x :: st) h res := by
  intro p e R s m args below meth c H locs cells slots cF sF ls Q C hfr hlo hcF hsF hP hS hl hz hc1 hs1 kr
  have hdg := am_okq_d ok rfl
  have hn := am_okq_n ok rfl
  have x1 : ¬ x < 0 := fun q => hx (Or.inl q)
  have x2 : ¬ 1000000 < x.toNatClampNeg := fun q => hx (Or.inr (Or.inl q))
  have x3 : ¬ 1000000 ≤ h.1.length := fun q => hx (Or.inr (Or.inr q))
  refine va_newa (D := D) (ty := .boolean) (N' := x.toNatClampNeg) (a0 := (x.toNatClampNeg, .inl (fun _ => 0))) C.1 C.2.1 (C.2.2.2.2.2.2.1 _ (am_in am_w1334 rfl)) rfl C.2.2.2.2.2.2.2.1 hP am_ws_D hS (fun q hq => Nat.le_trans C.2.2.2.2.2.2.2.2.2.2 hq) (fun cA => rfl) x1 rfl (by show x.toNatClampNeg * 1 ≤ 536870912; omega) (by omega) (by omega) hdg (fun q cA H1 hK1 hP1 hD1 hS1 => ?_)
  have hcA : cA = E.2.2.2.1 := by
    have h1 : s.vm.findClass _ = some cA := (hK1.2 3 (cA, .boolean) rfl).2
    have h2 : s.vm.findClass _ = some E.2.2.2.1 := (C.2.2.2.2.2.2.2.1.2 1 (E.2.2.2.1, .boolean) rfl).2
    exact Option.some.inj (h1.symm.trans h2)
  subst hcA
  refine am_sz (fun hz1 => ?_)
  have hq := am_newq hP1 hD1 (by omega)
  subst hq
  rw [am_ws_new (t := 1) (n := x.toNatClampNeg) (e0 := Sum.inl (E.2.2.2.1, x.toNatClampNeg, Sum.inl (fun _ => 0))) rfl] at hP1
  have k2 := hk p e R s m args below meth c H1 locs (cells + 1) (slots + x.toNatClampNeg) cF sF ls Q C hfr hlo hcF hsF hP1 hS1 hl (by simp only [List.length_append, List.length_singleton]; omega) (by simp only [List.length_append, List.length_singleton]; omega) (by rw [am_sl_new]; omega) kr
  rw [hn] at k2
  have k3 : W p l e R s m args below meth c H1 locs (cells + 1) (slots + x.toNatClampNeg) Q (F0 m (pc + 2) ls (.ref (am_ad E h.1.length) :: st.map (am_rv E))) := k2
  rw [am_ad_in (by omega)] at k3
  exact k3
theorem am_j_newQ {k : Nat} {x : Int32} (ok : am_okq M (pc, .anewarray k, a, b, c0) cs = true) (hx : ¬ (x < 0 ∨ 1000000 < x.toNatClampNeg ∨ 1000000 ≤ h.1.length)) (mo : h.1.length + 1 ≤ res.2.1.length ∧ am_sl h + x.toNatClampNeg ≤ am_sl res.2) (hk : am_J l E D X d M cs L (.ref h.1.length :: st) (h.1 ++ [(2, x.toNatClampNeg)], am_zI h.2.1 h.1.length, am_zG h.2.2 h.1.length) res) : am_J l E D X d M ((pc, .anewarray k, a, b, c0) :: cs) L (.int x :: st) h res := by
  intro p e R s m args below meth c H locs cells slots cF sF ls Q C hfr hlo hcF hsF hP hS hl hz hc1 hs1 kr
  have hdg := am_okq_d ok rfl
  have hn := am_okq_n ok rfl
  have hr := (am_okq_4 ok).2.2.2
  simp only [am_res] at hr
  obtain ⟨hlk, -⟩ := am_KL_use hr
  have x1 : ¬ x < 0 := fun q => hx (Or.inl q)
  have x2 : ¬ 1000000 < x.toNatClampNeg := fun q => hx (Or.inr (Or.inl q))
  have x3 : ¬ 1000000 ≤ h.1.length := fun q => hx (Or.inr (Or.inr q))
  refine va_newq (D := D) (C := "FoldPress$Kept") (N' := x.toNatClampNeg) C.1 C.2.1 C.2.2.2.2.2.1 (C.2.2.2.2.2.2.1 _ hlk) C.2.2.2.2.2.2.2.2.1.2.2.2.1 C.2.2.2.2.2.2.2.1 hP am_ws_D hS (fun q hq => Nat.le_trans C.2.2.2.2.2.2.2.2.2.2 hq) x1 rfl (by omega) (by omega) (by omega) hdg (fun q cA H1 hK1 hP1 hD1 hS1 => ?_)
  have hcA : cA = E.2.2.2.2 := by
    obtain ⟨_, _, -, -, -, h1⟩ := (hK1.2 3 (cA, .object "FoldPress$Kept") rfl).2
    obtain ⟨_, _, -, -, -, h2⟩ := (C.2.2.2.2.2.2.2.1.2 2 (E.2.2.2.2, .object "FoldPress$Kept") rfl).2
    exact Option.some.inj (h1.symm.trans h2)
  subst hcA
  refine am_sz (fun hz1 => ?_)
  have hq := am_newq hP1 hD1 (by omega)
  subst hq
  rw [am_ws_new (t := 2) (n := x.toNatClampNeg) (e0 := Sum.inl (E.2.2.2.2, x.toNatClampNeg, Sum.inr (Sum.inr (Sum.inr (Sum.inr (fun _ => none)))))) rfl] at hP1
  have k2 := hk p e R s m args below meth c H1 locs (cells + 1) (slots + x.toNatClampNeg) cF sF ls Q C hfr hlo hcF hsF hP1 hS1 hl (by simp only [List.length_append, List.length_singleton]; omega) (by simp only [List.length_append, List.length_singleton]; omega) (by rw [am_sl_new]; omega) kr
  rw [hn] at k2
  have k3 : W p l e R s m args below meth c H1 locs (cells + 1) (slots + x.toNatClampNeg) Q (F0 m (pc + 3) ls (.ref (am_ad E h.1.length) :: st.map (am_rv E))) := k2
  rw [am_ad_in (by omega)] at k3
  exact k3
theorem am_j_oinit {k o : Nat} (ok : am_okq M (pc, .invokespecial k, a, b, c0) cs = true) (hc4 : c0 = 4) (h8 : am_cats st ≤ 8) (hd : 0 < d) (hk : am_J l E D X d M cs L st h res) : am_J l E D X d M ((pc, .invokespecial k, a, b, c0) :: cs) L (.ref o :: st) h res := by
  intro p e R s m args below meth c H locs cells slots cF sF ls Q C hfr hlo hcF hsF hP hS hl hz hc1 hs1 kr
  have hdg := am_okq_d ok rfl
  have hn := am_okq_n ok rfl
  have hr := (am_okq_4 ok).2.2.2
  simp only [am_res, hc4] at hr
  have hr : am_OLp.any (fun q => q.1 == am_o M && q.2.1 == k) = true := hr
  obtain ⟨q, -, h2, h3⟩ := am_any hr am_OL_ok
  simp only [Bool.and_eq_true, beq_iff_eq, decide_eq_true_eq] at h2 h3
  have hlk : Cond.methodLink (am_cn (am_o M)) k objectInit ∈ am_tbl := by rw [← h2.1, ← h2.2]; exact am_in h3 rfl
  refine W.objInit C.1 C.2.1 C.2.2.2.2.2.1 (C.2.2.2.2.2.2.1 _ hlk) (C.2.2.2.2.2.2.1 _ (am_in am_w73 rfl)) (C.2.2.2.2.2.2.1 _ (am_in am_w74 rfl)) rfl (by rw [C.2.2.2.2.1]; exact hl.2.1) rfl hdg (by omega) (by
    show 2 * 0 + ((st.map (am_rv E)).map fun v => v.category).sum + 12 ≤ R.locals
    rw [am_cats_rv]
    omega) ?_
  have k2 := hk p e R s m args below meth c H locs cells slots cF sF ls Q C hfr hlo hcF hsF hP hS hl hz hc1 hs1 kr
  rw [hn] at k2
  exact k2
end AMN
-- a method's contract
def am_wsM (M : Nat) : List Cond := .code (am_y M) (am_b M) (am_L M) (am_r M) :: am_tbl
def am_PC (E : AmE) (D : va_G) (X : AmX) (as : List Value) (h : AmH) : Array Value → State → Prop := va_Pc (as.map (am_rv E)) (fun U => U.heap.size = E.1 + h.1.length ∧ va_P D am_cl (am_ws E h) U.heap ∧ va_K D am_cl (am_t3 E) U ∧ am_GL E X U)
def am_QC (E : AmE) (D : va_G) (q : Option Int32 × AmH) : Array Value → State → Outcome → State → Prop := fun _ st oc t => oc = .returned (q.1.map Value.int) ∧ va_P D am_cl (am_ws E q.2) t.heap ∧ va_F (am_A E) st t
theorem am_okN_of {a : Nat} (ha : a < 299) : plainFor (am_y a) = true ∧ ((am_y a).cls ≠ "java/lang/invoke/MethodHandle" ∧ (am_y a).cls ≠ "java/lang/invoke/VarHandle" ∧ (parseMethodDescriptor (am_y a).desc).map (fun d => d.parameters.length) = some (am_na a - (if am_ct a = 1 then 0 else 1))) ∧ (am_ct a = 2 → (am_y a).name = "<init>" ∧ am_kd a = 0) ∧ (am_ct a = 1 ∨ 1 ≤ am_na a) ∧ am_o a < 13 ∧ (am_ct a = 1 ∨ am_o a < 11) := by
  have h := am_ra am_okN_all ha
  simp only [am_okN, Bool.and_eq_true, Bool.or_eq_true, decide_eq_true_eq] at h
  obtain ⟨⟨⟨⟨⟨⟨⟨⟨h1, h2⟩, h3⟩, h4⟩, h5⟩, h6⟩, h7⟩, h8⟩, h9⟩ := h
  refine ⟨h1, ⟨h2, h3, h4⟩, fun hc => ?_, h7, h8, h9⟩
  rw [if_pos hc, Bool.and_eq_true, decide_eq_true_eq, decide_eq_true_eq] at h5
  exact h5
theorem am_okH_of {a : Nat} (ha : a < 300) : am_pc (am_P a) = 0 ∧ am_L a ≤ 45 ∧ am_na a ≤ am_L a ∧ am_Mi a = (am_L a, am_o a, am_kd a) ∧ am_r a = (if am_kd a = 0 then none else if am_kd a = 1 then some .int else some .boolean) ∧ am_cn (am_o a) = (am_y a).cls ∧ am_kd a < 3 := by
  have h := am_ra am_okH_all ha
  simp only [am_okH, Bool.and_eq_true, beq_iff_eq, decide_eq_true_eq] at h
  obtain ⟨⟨⟨⟨⟨⟨h1, h2⟩, h3⟩, h4⟩, h5⟩, h6⟩, h7⟩ := h
  refine ⟨?_, h2, h3, h4, h5, h6, h7⟩
  cases hP : am_P a with
  | nil => rfl
  | cons q r => rw [hP] at h1; simpa [am_pc] using h1
theorem am_okC_of {a : Nat} (ha : a < 299) : lw_tbl[(am_mp a).2.1]? = some (.code (am_y a) (am_b a) (am_L a) (am_r a)) := by
  rcases Nat.lt_or_ge a 50 with q | q
  · have := am_kc0 a q; rwa [Nat.zero_add] at this
  rcases Nat.lt_or_ge a 100 with q2 | q2
  · have := am_kc1 (a - 50) (by omega); rwa [show 50 + (a - 50) = a by omega] at this
  rcases Nat.lt_or_ge a 150 with q3 | q3
  · have := am_kc2 (a - 100) (by omega); rwa [show 100 + (a - 100) = a by omega] at this
  rcases Nat.lt_or_ge a 200 with q4 | q4
  · have := am_kc3 (a - 150) (by omega); rwa [show 150 + (a - 150) = a by omega] at this
  rcases Nat.lt_or_ge a 250 with q5 | q5
  · have := am_kc4 (a - 200) (by omega); rwa [show 200 + (a - 200) = a by omega] at this
  · have := am_kc5 (a - 250) (by omega); rwa [show 250 + (a - 250) = a by omega] at this
theorem am_MP_of {a : Nat} (ha : a < 299) : Cond.code (am_y a) (am_b a) (am_L a) (am_r a) ∈ am_tbl ∧ (am_ct a = 1 → Cond.static (am_y a) ∈ am_tbl) ∧ (am_ct a ≠ 1 → Cond.instanceMethod (am_y a) ∈ am_tbl) ∧ (am_ct a = 0 → Cond.selects (am_cn (am_o a)) (am_y a) (am_y a) ∈ am_tbl) := by
  have h3 := am_okC_of ha
  have h4 := am_ra am_okS_all ha
  simp only [am_okS, Bool.and_eq_true, decide_eq_true_eq] at h4
  obtain ⟨h4, h5⟩ := h4
  refine ⟨am_in h3 rfl, fun hc => ?_, fun hc => ?_, fun hc => ?_⟩
  · rw [if_pos hc] at h4
    exact am_in h4 rfl
  · rw [if_neg hc] at h4
    exact am_in h4 rfl
  · rw [if_pos hc, decide_eq_true_eq] at h5
    exact am_in h5 rfl
theorem am_goodIn {a : Nat} (ha : a < 299) : GoodIn am_tbl (am_wsM a) := by
  have hg : ∀ w ∈ am_tbl, goodWord w = true := fun w hw => (List.mem_filter.mp hw).2
  intro w hw
  rcases List.mem_cons.mp hw with rfl | hw
  · exact ⟨(am_MP_of ha).1, good_of_word (hg _ (am_MP_of ha).1)⟩
  · exact ⟨hw, good_of_word (hg _ hw)⟩
theorem am_met {l : Launch} {E : AmE} {D : va_G} {X : AmX} {a d : Nat} {as : List Value} {h : AmH} {q : Option Int32 × AmH} (ha : a < 299) (hcat : ∀ w ∈ as, w.category = 1) (hlen : as.length = am_na a) (mo : h.1.length ≤ q.2.1.length ∧ am_sl h ≤ am_sl q.2) (hJ : am_J l E D X d a (am_P a) (am_ini (am_L a) as) [] h q) :
    Met l (am_y a) (am_wsM a) { frames := d, cells := q.2.1.length - h.1.length, slots := am_sl q.2 - am_sl h, locals := 64 * d } (am_PC E D X as h) (am_QC E D q) (q.2.1.length - h.1.length) (am_sl q.2 - am_sl h) (am_A E) := by
  obtain ⟨h1, h2, h3, h4, h5, h6, h7⟩ := am_okH_of (show a < 300 by omega)
  obtain ⟨n1, n2, n3, n4, n5, n6⟩ := am_okN_of ha
  refine va_MetF (cc := am_b a) (maxL := am_L a) (ret := am_r a) n1 rfl ?_
  intro p e s m args below meth c s₁ B hml hv
  obtain ⟨rfl, hsz, hP, hK, hG⟩ := hv
  obtain ⟨ls, e1, hl⟩ := am_entry (E := E) (m := m) hcat (show as.length ≤ am_L a by omega)
  rw [e1]
  have hts := atoms_spec (ws := am_wsM a) B.pre
  have hown : s.vm.findClass (am_cn (am_o a)) = some m.cls := by rw [h6]; exact findClass_of_methodNamed B.named
  have hin : am_ct a = 2 → meth.name = "<init>" := fun hc => by rw [(name_of_methodNamed B.named B.method).1]; exact (n3 hc).1
  have k2 := hJ p e (headSpec (am_wsM a) { frames := d, cells := q.2.1.length - h.1.length, slots := am_sl q.2 - am_sl h, locals := 64 * d }).room s m (as.map (am_rv E)).toArray below meth c s.heap [] 0 0 (q.2.1.length - h.1.length) (am_sl q.2 - am_sl h) ls (MQ below (am_QC E D q) (as.map (am_rv E)).toArray s (q.2.1.length - h.1.length) (am_sl q.2 - am_sl h) (am_A E))
    ⟨B.exec, B.bytes, B.returns, B.notSynchronized, hml, hown, fun w hw => hts w (List.mem_cons_of_mem _ hw), hK, hG, hin, by omega⟩ (Nat.le_refl _) (Nat.le_refl _) (Nat.le_refl _) (Nat.le_refl _) hP va_S.rf hl (by omega) (by omega) (by omega) (by
      intro H1 locs1 pc1 ls1 hP1 hS1
      have hx := B.exec
      have hb := B.bytes
      have hr := B.returns
      have hlocks := B.notSynchronized
      refine ⟨fun v hv hdg hkd => ?_, fun hv hdg hkd => ?_⟩
      · rcases hkd with hkd | ⟨hkd, hv2⟩
        · have hr2 : meth.sig.returnType = some .int := by rw [hr, h5, if_neg (by omega), if_pos hkd]
          exact W.iret (v := v) hx hb hr2 (fun t ht hW => ⟨by rw [hv]; rfl, by rw [ht]; exact hP1, hS1.F ht⟩) hS1.2.2 hdg
        · have hr2 : meth.sig.returnType = some .boolean := by rw [hr, h5, if_neg (by omega), if_neg (by omega)]
          exact W.zret (v := v) (ty := .boolean) hx hb hr2 (by rcases hv2 with rfl | rfl <;> decide) (fun t ht hW => ⟨by rw [hv]; rfl, by rw [ht]; exact hP1, hS1.F ht⟩) hS1.2.2 hdg
      · have hr2 : meth.sig.returnType = none := by rw [hr, h5, if_pos hkd]
        exact W.vret hx hb hr2 (fun t ht hW => ⟨by rw [hv]; rfl, by rw [ht]; exact hP1, hS1.F ht⟩) hS1.2.2 hdg)
  rw [h1] at k2
  exact k2
section AMC
variable {l : Launch} {E : AmE} {D : va_G} {X : AmX} {d M : Nat} {cs : AmCd} {L : List Value} {h : AmH} {res : Option Int32 × AmH}
theorem am_blind {as : List Value} : FrameBlind (am_PC E D X as h) := fun a U g mk q => by
  obtain ⟨q0, q1, qP, qK, qG⟩ := q
  exact ⟨q0, q1, qP, va_K.moved (u := U) (U := U.calling g mk a) (Vm.Alike.refl U.vm) qK, ⟨fun e n f hx => ⟨(qG.1 e n f hx).1.moved (U := U.calling g mk a) (Vm.Alike.refl U.vm), (qG.1 e n f hx).2⟩, qG.2.1.moved (U := U.calling g mk a) (Vm.Alike.refl U.vm), qG.2.2.1.moved (U := U.calling g mk a) (Vm.Alike.refl U.vm), qG.2.2.2.1.moved (U := U.calling g mk a) (Vm.Alike.refl U.vm), fun q hq => va_Nw.same (U := U.calling g mk a) rfl rfl (qG.2.2.2.2 q hq)⟩⟩
theorem am_after {p : Program} {e : Env} {R : Room} {s : State} {m : MethodId} {args : Array Value} {below : List Frame} {meth : Method} {c : Code} {H : Heap} {locs : List Loc} {cells slots cF sF pc : Nat} {ls : Array Slot} {Q : State → Prop} {st0 rest : List Value} {arr : Array Value} {q : Option Int32 × AmH}
    (mo : h.1.length ≤ q.2.1.length ∧ am_sl h ≤ am_sl q.2) (mo2 : q.2.1.length ≤ res.2.1.length ∧ am_sl q.2 ≤ am_sl res.2)
    (hr : va_Run p l e R s m args below meth c H locs cells slots (q.2.1.length - h.1.length) (am_sl q.2 - am_sl h) (F0 m pc ls st0) (rest.map (am_rv E)) (am_QC E D q arr) (am_A E)) (hk : am_J l E D X d M cs L (am_push q.1 rest) q.2 res) (hn : am_pc cs = pc + 3)
    (C : am_CX E D X M p s m args meth c) (hfr : d ≤ R.frames) (hlo : 64 * d ≤ R.locals) (hcF : cF ≤ R.cells) (hsF : sF ≤ R.slots) (hS : va_S (am_A E) s.heap H locs) (hl : am_lr E ls (am_L M) L) (hz : s.heap.size + cells = E.1 + h.1.length) (hc1 : cells + res.2.1.length = cF + h.1.length) (hs1 : slots + am_sl res.2 = sF + am_sl h)
    (kr : ∀ (H1 : Heap) (locs1 : List Loc) (pc1 : Nat) (ls1 : Array Slot), va_P D am_cl (am_ws E res.2) H1 → va_S (am_A E) s.heap H1 locs1 →
      (∀ v, res.1 = some v → decode (am_b M) pc1 = .ok (.ireturn, 1) → (am_kd M = 1 ∨ (am_kd M = 2 ∧ (v = 0 ∨ v = 1))) → W p l e R s m args below meth c H1 locs1 cF sF Q (F0 m pc1 ls1 [.int v])) ∧
      (res.1 = none → decode (am_b M) pc1 = .ok (.return_, 1) → am_kd M = 0 → W p l e R s m args below meth c H1 locs1 cF sF Q (F0 m pc1 ls1 []))) :
    W p l e R s m args below meth c H locs cells slots Q (F0 m pc ls st0) := by
  refine am_aft hr (fun v st1 t H1 Lc e1 hq e2 hL => ?_)
  obtain ⟨hv, hP1, hF⟩ := hq
  have hv : v = q.1.map Value.int := by injection hv
  subst hv
  subst e2
  have hS1 : va_S (am_A E) s.heap t.heap (locs ++ Lc) := by
    refine ⟨Nat.le_trans hS.1 (by rw [← e1]; exact hF.1), fun x hx hA => ?_, fun x hx => (List.mem_append.mp hx).elim (hS.2.2 x) (hL x)⟩
    rw [hF.2 x (by rw [e1]; exact Nat.lt_of_lt_of_le hx hS.1) hA, e1]
    exact hS.2.1 x hx hA
  have k2 := hk p e R s m args below meth c t.heap (locs ++ Lc) (cells + (q.2.1.length - h.1.length)) (slots + (am_sl q.2 - am_sl h)) cF sF ls Q C hfr hlo hcF hsF hP1 hS1 hl (by omega) (by omega) (by omega) kr
  rw [hn] at k2
  have he : (am_push q.1 rest).map (am_rv E) = (q.1.map Value.int).toList ++ rest.map (am_rv E) := by cases q.1 <;> rfl
  rw [he] at k2
  exact k2
theorem am_pre {as : List Value} {p : Program} {s : State} {m : MethodId} {args : Array Value} {meth : Method} {c : Code} {H : Heap} {locs : List Loc} {cells : Nat} (C : am_CX E D X M p s m args meth c) (hP : va_P D am_cl (am_ws E h) H) (hS : va_S (am_A E) s.heap H locs) (hz : s.heap.size + cells = E.1 + h.1.length) (hsz : H.size ≤ s.heap.size + cells) :
    ∀ U : State, U.heap = H → s.WarmedH U.vm → am_PC E D X as h (as.map (am_rv E)).toArray U := by
  intro U hU hW
  have hb := C.2.2.2.2.2.2.2.2.2.2
  have h1 := am_lenH hP (Nat.le_trans hb hS.1)
  exact ⟨rfl, by rw [hU]; omega, by rw [hU]; exact hP, va_K.moved hW.alike C.2.2.2.2.2.2.2.1, C.2.2.2.2.2.2.2.2.1.go hb hS hU hW⟩
theorem am_j_callV {k pc a b c0 o : Nat} {as rest : List Value} {q : Option Int32 × AmH} (ok : am_okq M (pc, .invokevirtual k, a, b, c0) cs = true) (ha : a < 299) (hn1 : am_na a = b) (hct : am_ct a = 0) (hml : Cond.methodLink (am_cn (am_o M)) k (am_y a) ∈ am_tbl) (hlen : as.length + 1 = b) (h8 : am_cats rest ≤ 8) (ho : am_is h o (am_o a + 3) = true) (hcls : am_o a < 11) (hcat : ∀ w ∈ Value.ref o :: as, w.category = 1)
    (mo : h.1.length ≤ q.2.1.length ∧ am_sl h ≤ am_sl q.2) (mo2 : q.2.1.length ≤ res.2.1.length ∧ am_sl q.2 ≤ am_sl res.2) (hJ : am_J l E D X d a (am_P a) (am_ini (am_L a) (.ref o :: as)) [] h q) (hk : am_J l E D X (d + 1) M cs L (am_push q.1 rest) q.2 res) :
    am_J l E D X (d + 1) M ((pc, .invokevirtual k, a, b, c0) :: cs) L (as.reverse ++ .ref o :: rest) h res := by
  intro p e R s m args below meth c H locs cells slots cF sF ls Q C hfr hlo hcF hsF hP hS hl hz hc1 hs1 kr
  have hdg := am_okq_d ok rfl
  have hn := am_okq_n ok rfl
  obtain ⟨h1, h2, h3, h4, h5, h6, h7⟩ := am_okH_of (show a < 300 by omega)
  obtain ⟨n1, n2, n3, n4, n5, n6⟩ := am_okN_of ha
  obtain ⟨p1, p2, p3, p4⟩ := am_MP_of ha
  obtain ⟨o1, n, o2⟩ := am_is_of ho
  have hM := am_met ha hcat (by simp only [List.length_cons]; omega) mo hJ
  have hts := C.2.2.2.2.2.2.1
  refine am_sz (fun hsz => ?_)
  have hini : (Cond.initialized (am_y a).cls).before args s = true := by rw [← h6]; exact hts _ (am_cls_ini (by omega))
  have hcw : CallW R s args (am_cn (am_o M)) (am_cn (am_o a)) k (am_y a) (am_b a) (am_L a) (am_r a) (am_wsM a) { frames := d, cells := q.2.1.length - h.1.length, slots := am_sl q.2 - am_sl h, locals := 64 * d } (q.2.1.length - h.1.length) (am_sl q.2 - am_sl h) (am_na a - (if am_ct a = 1 then 0 else 1)) :=
    ⟨callB_of _ hts (am_goodIn ha) rfl rfl rfl hini (hts _ hml) n2 ⟨hfr, by show 8 + (am_L a + 11) + 64 * d ≤ R.locals; omega⟩, hts _ (p3 (by omega)), hts _ (p4 hct)⟩
  have hrecv : ∃ cellB : Cell, H[am_ad E o]? = some cellB ∧ cellB.vm.isStatics = false ∧ s.vm.findClass (am_cn (am_o a)) = some cellB.cls := by
    rw [am_ad_in o1]
    exact va_recv C.2.2.2.2.2.2.2.1 hP (am_cl_at hcls) (am_ob o2)
  have hpre := am_pre (as := .ref o :: as) C hP hS hz hsz
  refine am_after (q := q) mo mo2 (va_runV (As := as.map (am_rv E)) (b := am_ad E o) (rest := rest.map (am_rv E)) (nL := am_L M) ⟨C.1, C.2.1, C.2.2.2.2.1, C.2.2.2.2.2.1, hts⟩ hM hcw ⟨am_blind, hrecv, hpre⟩ rfl (by rw [List.length_map, if_neg (by omega)]; omega) hl.2.1 (by show List.map _ _ = _; rw [List.map_append, List.map_reverse, List.map_cons]; rfl) (lv_room (by rw [am_cats_rv]; exact h8)) hdg ⟨by omega, by omega⟩) hk hn C hfr hlo hcF hsF hS hl hz hc1 hs1 kr
theorem am_j_callS {k pc a b c0 : Nat} {as rest : List Value} {q : Option Int32 × AmH} (ok : am_okq M (pc, .invokestatic k, a, b, c0) cs = true) (ha : a < 299) (hn1 : am_na a = b) (hct : am_ct a = 1) (hml : Cond.methodLink (am_cn (am_o M)) k (am_y a) ∈ am_tbl) (hlen : as.length = b) (h8 : am_cats rest ≤ 8) (hcls : am_o a < 13) (hcat : ∀ w ∈ as, w.category = 1)
    (mo : h.1.length ≤ q.2.1.length ∧ am_sl h ≤ am_sl q.2) (mo2 : q.2.1.length ≤ res.2.1.length ∧ am_sl q.2 ≤ am_sl res.2) (hJ : am_J l E D X d a (am_P a) (am_ini (am_L a) as) [] h q) (hk : am_J l E D X (d + 1) M cs L (am_push q.1 rest) q.2 res) :
    am_J l E D X (d + 1) M ((pc, .invokestatic k, a, b, c0) :: cs) L (as.reverse ++ rest) h res := by
  intro p e R s m args below meth c H locs cells slots cF sF ls Q C hfr hlo hcF hsF hP hS hl hz hc1 hs1 kr
  have hdg := am_okq_d ok rfl
  have hn := am_okq_n ok rfl
  obtain ⟨h1, h2, h3, h4, h5, h6, h7⟩ := am_okH_of (show a < 300 by omega)
  obtain ⟨n1, n2, n3, n4, n5, n6⟩ := am_okN_of ha
  obtain ⟨p1, p2, p3, p4⟩ := am_MP_of ha
  have hM := am_met ha hcat (by omega) mo hJ
  have hts := C.2.2.2.2.2.2.1
  refine am_sz (fun hsz => ?_)
  have hini : (Cond.initialized (am_y a).cls).before args s = true := by rw [← h6]; exact hts _ (am_cls_ini hcls)
  have hcw := callB_of (R := R) (own := am_cn (am_o M)) (index := k) (rm := { frames := d, cells := q.2.1.length - h.1.length, slots := am_sl q.2 - am_sl h, locals := 64 * d }) _ hts (am_goodIn ha) rfl rfl rfl hini (hts _ hml) n2 ⟨hfr, by show 8 + (am_L a + 11) + 64 * d ≤ R.locals; omega⟩
  have hpre := am_pre (as := as) C hP hS hz hsz
  refine am_after (q := q) mo mo2 (va_runS (As := as.map (am_rv E)) (rest := rest.map (am_rv E)) (nL := am_L M) ⟨C.1, C.2.1, C.2.2.2.2.1, C.2.2.2.2.2.1, hts⟩ hM ⟨hcw, hts _ (p2 hct)⟩ ⟨am_blind, hpre⟩ rfl (by rw [List.length_map, if_pos hct]; omega) hl.2.1 (by show List.map _ _ = _; rw [List.map_append, List.map_reverse]) (lv_room (by rw [am_cats_rv]; exact h8)) hdg ⟨by omega, by omega⟩) hk hn C hfr hlo hcF hsF hS hl hz hc1 hs1 kr
theorem am_j_callI {k pc a b c0 o : Nat} {as rest : List Value} {q : Option Int32 × AmH} (ok : am_okq M (pc, .invokespecial k, a, b, c0) cs = true) (ha : a < 299) (hn1 : am_na a = b) (hct : am_ct a = 2) (hml : Cond.methodLink (am_cn (am_o M)) k (am_y a) ∈ am_tbl ∨ ∃ host, (am_o M, k, a, host) ∈ am_NLp.map (fun q => (q.1, q.2.1, q.2.2.1, q.2.2.2.1))) (hlen : as.length + 1 = b) (h8 : am_cats rest ≤ 8) (hcls : am_o a < 13) (hcat : ∀ w ∈ Value.ref o :: as, w.category = 1)
    (mo : h.1.length ≤ q.2.1.length ∧ am_sl h ≤ am_sl q.2) (mo2 : q.2.1.length ≤ res.2.1.length ∧ am_sl q.2 ≤ am_sl res.2) (hJ : am_J l E D X d a (am_P a) (am_ini (am_L a) (.ref o :: as)) [] h q) (hk : am_J l E D X (d + 1) M cs L (am_push q.1 rest) q.2 res) :
    am_J l E D X (d + 1) M ((pc, .invokespecial k, a, b, c0) :: cs) L (as.reverse ++ .ref o :: rest) h res := by
  intro p e R s m args below meth c H locs cells slots cF sF ls Q C hfr hlo hcF hsF hP hS hl hz hc1 hs1 kr
  have hdg := am_okq_d ok rfl
  have hn := am_okq_n ok rfl
  obtain ⟨h1, h2, h3, h4, h5, h6, h7⟩ := am_okH_of (show a < 300 by omega)
  obtain ⟨n1, n2, n3, n4, n5, n6⟩ := am_okN_of ha
  obtain ⟨p1, p2, p3, p4⟩ := am_MP_of ha
  have hM := am_met ha hcat (by simp only [List.length_cons]; omega) mo hJ
  have hts := C.2.2.2.2.2.2.1
  refine am_sz (fun hsz => ?_)
  have hini : (Cond.initialized (am_y a).cls).before args s = true := by rw [← h6]; exact hts _ (am_cls_ini hcls)
  have hret : am_r a = none := by rw [h5, if_pos (n3 hct).2]
  have hwM : am_wsM a = Cond.code (am_y a) (am_b a) (am_L a) none :: am_tbl := by rw [am_wsM, hret]
  have hpre := am_pre (as := .ref o :: as) C hP hS hz hsz
  rcases hml with hml | ⟨host, hml⟩
  · have hcw := callB_of (R := R) (own := am_cn (am_o M)) (index := k) (rm := { frames := d, cells := q.2.1.length - h.1.length, slots := am_sl q.2 - am_sl h, locals := 64 * d }) _ hts (am_goodIn ha) hwM rfl rfl hini (hts _ hml) n2 ⟨hfr, by show 8 + (am_L a + 11) + 64 * d ≤ R.locals; omega⟩
    refine am_after (q := q) mo mo2 (va_runI (As := as.map (am_rv E)) (b := am_ad E o) (rest := rest.map (am_rv E)) (nL := am_L M) ⟨C.1, C.2.1, C.2.2.2.2.1, C.2.2.2.2.2.1, hts⟩ hM ⟨hcw, (n3 hct).1, hts _ (p3 (by omega))⟩ ⟨am_blind, hpre⟩ rfl (by rw [List.length_map, if_neg (by omega)]; omega) hl.2.1 (by show List.map _ _ = _; rw [List.map_append, List.map_reverse, List.map_cons]; rfl) (lv_room (by rw [am_cats_rv]; exact h8)) hdg ⟨by omega, by omega⟩) hk hn C hfr hlo hcF hsF hS hl hz hc1 hs1 kr
  · obtain ⟨q0, hq0, hq1⟩ := List.mem_map.mp hml
    have hnw := C.2.2.2.2.2.2.2.2.1.2.2.2.2 q0 hq0
    simp only [Prod.mk.injEq] at hq1
    obtain ⟨e1, e2, e3, e4⟩ := hq1
    rw [e1, e2, e3, e4] at hnw
    have hcw := va_cnB (R := R) (own := am_cn (am_o M)) (index := k) (host := host) (rm := { frames := d, cells := q.2.1.length - h.1.length, slots := am_sl q.2 - am_sl h, locals := 64 * d }) _ hts (am_goodIn ha) hwM rfl rfl hnw hini n2 ⟨hfr, by show 8 + (am_L a + 11) + 64 * d ≤ R.locals; omega⟩
    refine am_after (q := q) mo mo2 (va_runIN (As := as.map (am_rv E)) (b := am_ad E o) (rest := rest.map (am_rv E)) (nL := am_L M) ⟨C.1, C.2.1, C.2.2.2.2.1, C.2.2.2.2.2.1, hts⟩ hM ⟨hcw, (n3 hct).1, hts _ (p3 (by omega))⟩ ⟨am_blind, hpre⟩ rfl (by rw [List.length_map, if_neg (by omega)]; omega) hl.2.1 (by show List.map _ _ = _; rw [List.map_append, List.map_reverse, List.map_cons]; rfl) (lv_room (by rw [am_cats_rv]; exact h8)) hdg ⟨by omega, by omega⟩) hk hn C hfr hlo hcF hsF hS hl hz hc1 hs1 kr
end AMC
