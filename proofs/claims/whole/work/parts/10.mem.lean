/-! judgements: fields, arrays, new cells -/
-- the words of a class, by the checks of part 07
theorem am_cl_at {ci : Nat} (h : ci < 11) : am_cl[ci]? = some (am_cn ci, am_T ci, am_Nf ci) := by
  match ci, h with
  | 0, _ => rfl
  | 1, _ => rfl
  | 2, _ => rfl
  | 3, _ => rfl
  | 4, _ => rfl
  | 5, _ => rfl
  | 6, _ => rfl
  | 7, _ => rfl
  | 8, _ => rfl
  | 9, _ => rfl
  | 10, _ => rfl
theorem am_any {α : Type} {l : List α} {f g : α → Bool} (h : l.any f = true) (hg : l.all g = true) : ∃ q, q ∈ l ∧ f q = true ∧ g q = true := by
  obtain ⟨q, h1, h2⟩ := List.any_eq_true.mp h
  exact ⟨q, h1, h2, List.all_eq_true.mp hg q h1⟩
theorem am_FL_use {own idx ci k : Nat} (h : am_FLp.any (fun q => q.1 == own && q.2.1 == idx && q.2.2.1 == ci && q.2.2.2.1 == k) = true) : Cond.fieldLink (am_cn own) idx (am_cn ci) (am_T ci k).2.1 (am_T ci k).2.2.1 ∈ am_tbl ∧ k < am_Nf ci ∧ ci < 11 := by
  obtain ⟨q, -, h2, h3⟩ := am_any h am_FL_ok
  simp only [Bool.and_eq_true, beq_iff_eq, decide_eq_true_eq] at h2 h3
  obtain ⟨⟨⟨rfl, rfl⟩, rfl⟩, rfl⟩ := h2
  exact ⟨am_in h3.1.1 rfl, h3.1.2, h3.2⟩
theorem am_KL_use {own idx ci : Nat} (h : am_KLp.any (fun q => q.1 == own && q.2.1 == idx && q.2.2.1 == ci) = true) : Cond.classLink (am_cn own) idx (am_cn ci) ∈ am_tbl ∧ ci < 11 := by
  obtain ⟨q, -, h2, h3⟩ := am_any h am_KL_ok
  simp only [Bool.and_eq_true, beq_iff_eq, decide_eq_true_eq] at h2 h3
  obtain ⟨⟨rfl, rfl⟩, rfl⟩ := h2
  exact ⟨am_in h3.1 rfl, h3.2⟩
theorem am_SL_use {own idx e : Nat} (h : am_SLp.any (fun q => q.1 == own && q.2.1 == idx && q.2.2.1 == e) = true) : Cond.fieldLink (am_cn own) idx "FoldPress$Folds" (if e = 1 then "THICK" else "TRIMS") "[I" ∈ am_tbl ∧ (e = 1 ∨ e = 2) := by
  obtain ⟨q, -, h2, h3⟩ := am_any h am_SL_ok
  simp only [Bool.and_eq_true, beq_iff_eq, decide_eq_true_eq] at h2 h3
  obtain ⟨⟨rfl, rfl⟩, rfl⟩ := h2
  exact ⟨am_in h3.1 rfl, h3.2⟩
-- every field's lay stands among the words
theorem am_LY_all : (List.range 11).all (fun ci => (List.range (am_Nf ci)).all (fun k => am_LYp.any (fun q => q.1 == ci && q.2.1 == k))) = true := by decide +kernel
theorem am_IN_all : (List.range 13).all (fun ci => am_INp.any (fun q => q.1 == ci)) = true := by decide +kernel
theorem am_IS_all : (List.range 11).all (fun ci => am_ISp.any (fun q => q.1 == ci)) = true := by decide +kernel
theorem am_ty_all : (List.range 11).all (fun ci => (List.range (am_Nf ci)).all (fun k => decide (parseFieldDescriptor (am_T ci k).2.2.1 = some (am_ty ci k)) && decide ((am_T ci k).1 = am_cn ci) && decide (am_fk ci k = if am_ty ci k = .int then 0 else if am_ty ci k = .boolean then 2 else 1) && decide (am_ty ci k = .int ∨ am_ty ci k = .boolean ∨ (am_ty ci k).isReference = true))) = true := by decide +kernel
theorem am_nm_all : (List.range 11).all (fun ci => (List.range (am_Nf ci)).all (fun i => (List.range (am_Nf ci)).all (fun j => decide (i = j) || decide ((am_T ci i).2.1 ≠ (am_T ci j).2.1)))) = true := by decide +kernel
theorem am_ra {n : Nat} {f : Nat → Bool} (h : (List.range n).all f = true) {k : Nat} (hk : k < n) : f k = true := List.all_eq_true.mp h k (List.mem_range.mpr hk)
theorem am_cls_in {ci : Nat} (hc : ci < 11) : ∀ w ∈ u_ws (am_cn ci) (am_T ci) (am_Nf ci), w ∈ am_tbl := by
  intro w hw
  obtain ⟨k, hk, rfl⟩ := List.mem_map.mp hw
  obtain ⟨q, -, h2, h3⟩ := am_any (am_ra (am_ra am_LY_all hc) (List.mem_range.mp hk)) am_LY_ok
  simp only [Bool.and_eq_true, beq_iff_eq, decide_eq_true_eq] at h2 h3
  obtain ⟨rfl, rfl⟩ := h2
  refine am_in h3 ?_
  unfold u_lay
  split <;> rfl
theorem am_cls_ini {ci : Nat} (hc : ci < 13) : Cond.initialized (am_cn ci) ∈ am_tbl := by
  obtain ⟨q, -, h2, h3⟩ := am_any (am_ra am_IN_all hc) am_IN_ok
  simp only [beq_iff_eq, decide_eq_true_eq] at h2 h3
  subst h2
  exact am_in h3 rfl
theorem am_cls_ins {ci : Nat} (hc : ci < 11) : Cond.instantiable (am_cn ci) (am_Nf ci) ∈ am_tbl := by
  obtain ⟨q, -, h2, h3⟩ := am_any (am_ra am_IS_all hc) am_IS_ok
  simp only [Bool.and_eq_true, beq_iff_eq, decide_eq_true_eq] at h2 h3
  subst h2
  rw [← h3.2]
  exact am_in h3.1 rfl
theorem am_cls_ty {ci k : Nat} (hc : ci < 11) (hk : k < am_Nf ci) : parseFieldDescriptor (am_T ci k).2.2.1 = some (am_ty ci k) ∧ (am_T ci k).1 = am_cn ci ∧ am_fk ci k = (if am_ty ci k = .int then 0 else if am_ty ci k = .boolean then 2 else 1) ∧ (am_ty ci k = .int ∨ am_ty ci k = .boolean ∨ (am_ty ci k).isReference = true) := by
  have h := am_ra (am_ra am_ty_all hc) hk
  simp only [Bool.and_eq_true, decide_eq_true_eq] at h
  exact ⟨h.1.1.1, h.1.1.2, h.1.2, h.2⟩
theorem am_cls_nm {ci : Nat} (hc : ci < 11) : ∀ a, a < am_Nf ci → ∀ b, b < am_Nf ci → a ≠ b → (am_T ci a).2.1 ≠ (am_T ci b).2.1 := by
  intro a ha b hb hab
  have h := am_ra (am_ra (am_ra am_nm_all hc) ha) hb
  simp only [Bool.or_eq_true, decide_eq_true_eq] at h
  exact h.resolve_left hab
theorem am_ref_ok {ty : FieldType} (h : ty.isReference = true) (v : Nat) : narrow ty (.ref v) = .ref v ∧ fits ty (.ref v) = true := by
  cases ty <;> first | (exact ⟨rfl, rfl⟩) | (cases h)
def am_fs (E : AmE) (ci : Nat) (f : Nat → Int32) (g : Nat → Option Nat) : List Value := (List.range (am_Nf ci)).map (fun j => if am_fk ci j = 1 then va_rf ((g j).map (am_ad E)) else .int (f j))
theorem am_fs_at {E : AmE} {ci k : Nat} {f : Nat → Int32} {g : Nat → Option Nat} (hk : k < am_Nf ci) : (am_fs E ci f g)[k]? = some (if am_fk ci k = 1 then va_rf ((g k).map (am_ad E)) else .int (f k)) := by
  simp [am_fs, hk]
theorem am_fs_set {E : AmE} {ci k : Nat} {f f' : Nat → Int32} {g g' : Nat → Option Nat} {v : Value} (hf : ∀ j, j ≠ k → f' j = f j) (hg : ∀ j, j ≠ k → g' j = g j) (hv : (if am_fk ci k = 1 then va_rf ((g' k).map (am_ad E)) else .int (f' k)) = v) : (am_fs E ci f g).set k v = am_fs E ci f' g' := by
  apply List.ext_getElem?
  intro j
  by_cases hj : j < am_Nf ci
  · rw [am_fs_at hj]
    by_cases hjk : j = k
    · subst hjk
      rw [List.getElem?_set_self (by simp [am_fs]; exact hj), hv]
    · rw [List.getElem?_set_ne (Ne.symm hjk), am_fs_at hj, hf j hjk, hg j hjk]
  · rw [List.getElem?_eq_none (by simp [am_fs]; omega), List.getElem?_eq_none (by simp [am_fs]; omega)]
theorem am_upI_at {I : Nat → Nat → Int32} {a i : Nat} {x : Int32} : am_upI I a i x a = upd (I a) i x := by
  funext j
  by_cases hj : j = i <;> simp [am_upI, upd, hj]
theorem am_upI_ne {I : Nat → Nat → Int32} {a i k : Nat} {x : Int32} (h : k ≠ a) : am_upI I a i x k = I k := by
  funext j
  simp [am_upI, h]
theorem am_upG_ne {G : Nat → Nat → Option Nat} {a i k : Nat} {x : Option Nat} (h : k ≠ a) : am_upG G a i x k = G k := by
  funext j
  simp [am_upG, h]
section AMK
variable {l : Launch} {E : AmE} {D : va_G} {X : AmX} {d M : Nat} {cs : AmCd} {L st : List Value} {h : AmH} {res : Option Int32 × AmH} {pc a b c0 : Nat}
theorem am_ob {h : AmH} {o ci n : Nat} (hn : h.1[o]? = some (ci + 3, n)) : (am_ws E h)[o]? = some (E.1 + o, .inr (ci, am_fs E ci (h.2.1 o) (h.2.2 o))) := am_ws_at hn
theorem am_j_get {k o : Nat} (ok : am_okq M (pc, .getfield k, a, b, c0) cs = true) (ho : am_is h o (a + 3) = true) (hk : am_J l E D X d M cs L ((if c0 = 1 then va_rf (h.2.2 o b) else .int (h.2.1 o b)) :: st) h res) : am_J l E D X d M ((pc, .getfield k, a, b, c0) :: cs) L (.ref o :: st) h res := by
  intro p e R s m args below meth c H locs cells slots cF sF ls Q C hfr hlo hcF hsF hP hS hl hz hc1 hs1 kr
  have hdg := am_okq_d ok rfl
  have hn := am_okq_n ok rfl
  have hr := (am_okq_4 ok).2.2.2
  simp only [am_res, Bool.and_eq_true, beq_iff_eq] at hr
  obtain ⟨hlk, hkN, hci⟩ := am_FL_use hr.1
  obtain ⟨ho1, n, ho2⟩ := am_is_of ho
  have k2 := hk p e R s m args below meth c H locs cells slots cF sF ls Q C hfr hlo hcF hsF hP hS hl hz hc1 hs1 kr
  rw [hn] at k2
  show W p l e R s m args below meth c H locs cells slots Q (F0 m pc ls (.ref (am_ad E o) :: st.map (am_rv E)))
  rw [am_ad_in ho1]
  refine va_get (D := D) (cl := am_cl) (ci := a) (C := am_cn a) (T := am_T a) (N := am_Nf a) (v := if am_fk a b = 1 then va_rf ((h.2.2 o b).map (am_ad E)) else .int (h.2.1 o b)) C.1 C.2.1 C.2.2.2.2.2.2.1 (am_cls_in hci) C.2.2.2.2.2.1 C.2.2.2.2.2.2.2.1 hP o (am_ob ho2) (am_cl_at hci) b hkN (C.2.2.2.2.2.2.1 _ hlk) (fun x hx => by rw [(am_cls_ty hci hkN).2.1] at hx; exact hx) (am_fs_at hkN) hdg ?_
  rw [hr.2]
  by_cases hc : c0 = 1
  · rw [if_pos hc]
    rw [List.map_cons, if_pos hc, am_rv_rf] at k2
    exact k2
  · rw [if_neg hc]
    rw [List.map_cons, if_neg hc] at k2
    exact k2
theorem am_j_puti {k o : Nat} {x : Int32} (ok : am_okq M (pc, .putfield k, a, b, c0) cs = true) (hc : ¬ c0 = 1) (hx : c0 = 2 → (x = 0 ∨ x = 1)) (ho : am_is h o (a + 3) = true) (hk : am_J l E D X d M cs L st (h.1, am_upI h.2.1 o b x, h.2.2) res) : am_J l E D X d M ((pc, .putfield k, a, b, c0) :: cs) L (.int x :: .ref o :: st) h res := by
  intro p e R s m args below meth c H locs cells slots cF sF ls Q C hfr hlo hcF hsF hP hS hl hz hc1 hs1 kr
  have hdg := am_okq_d ok rfl
  have hn := am_okq_n ok rfl
  have hr := (am_okq_4 ok).2.2.2
  simp only [am_res, Bool.and_eq_true, beq_iff_eq, Bool.or_eq_true, Bool.not_eq_true'] at hr
  obtain ⟨hlk, hkN, hci⟩ := am_FL_use hr.1.1
  obtain ⟨ho1, n, ho2⟩ := am_is_of ho
  obtain ⟨t1, t2, t3, t4⟩ := am_cls_ty hci hkN
  have hsame : ∀ x, s.fieldFound? (am_T a b).1 (am_T a b).2.1 (am_T a b).2.2.1 = some x → s.fieldFound? (am_cn a) (am_T a b).2.1 (am_T a b).2.2.1 = some x := fun x hx => by rw [t2] at hx; exact hx
  have hty : ∀ k, k < am_Nf a → parseFieldDescriptor (am_T a k).2.2.1 = some (am_ty a k) := fun k hk => (am_cls_ty hci hk).1
  have hfk : ¬ am_fk a b = 1 := fun q => hc (hr.1.2.symm.trans q)
  have hnf : narrow (am_ty a b) (.int x) = .int x ∧ fits (am_ty a b) (.int x) = true := by
    rcases t4 with q | q | q
    · rw [q]; exact ⟨rfl, rfl⟩
    · rw [q]
      have h2 : c0 = 2 := by rw [← hr.1.2, t3, q]; simp
      rcases hx h2 with rfl | rfl <;> exact ⟨by decide, by decide⟩
    · exfalso
      apply hfk
      rw [t3]
      cases hq : am_ty a b <;> rw [hq] at q <;> first | exact absurd q (by decide) | simp
  have hset : (am_fs E a (h.2.1 o) (h.2.2 o)).set b (.int x) = am_fs E a (am_upI h.2.1 o b x o) (h.2.2 o) := am_fs_set (fun j hj => by simp [am_upI, hj]) (fun _ _ => rfl) (by rw [if_neg hfk]; simp [am_upI])
  show W p l e R s m args below meth c H locs cells slots Q (F0 m pc ls (.int x :: .ref (am_ad E o) :: st.map (am_rv E)))
  rw [am_ad_in ho1]
  have hkk : ∀ (H1 : Heap) (locs1 : List Loc), va_P D am_cl ((am_ws E h).set o (E.1 + o, .inr (a, (am_fs E a (h.2.1 o) (h.2.2 o)).set b (.int x)))) H1 → va_D (am_A E) ((am_ws E h).set o (E.1 + o, .inr (a, (am_fs E a (h.2.1 o) (h.2.2 o)).set b (.int x)))) → va_S (am_A E) s.heap H1 locs1 → W p l e R s m args below meth c H1 locs1 cells slots Q (F0 m (pc + 3) ls (st.map (am_rv E))) := by
    intro H1 locs1 hP1 _ hS1
    rw [am_ws_set (h' := (h.1, am_upI h.2.1 o b x, h.2.2)) ho2 rfl (fun k hk => am_upI_ne hk) (fun k hk => rfl) (by rw [hset]; rfl)] at hP1
    have k2 := hk p e R s m args below meth c H1 locs1 cells slots cF sF ls Q C hfr hlo hcF hsF hP1 hS1 hl hz hc1 hs1 kr
    rw [hn] at k2
    exact k2
  cases hfin : (am_T a b).2.2.2 with
  | false => exact va_put (D := D) (ci := a) (C := am_cn a) (T := am_T a) (N := am_Nf a) (ty := am_ty a b) C.1 C.2.1 C.2.2.2.2.2.2.1 (am_cls_in hci) (am_ty a) hty (am_cls_nm hci) C.2.2.2.2.2.1 C.2.2.2.2.2.2.2.1 hP am_ws_D hS o (am_ob ho2) (am_cl_at hci) b hkN (C.2.2.2.2.2.2.1 _ hlk) hsame hfin t1 hnf.1 hnf.2 (by simp [am_fs]; exact hkN) hdg hkk
  | true =>
    have hi := hr.2
    rw [hfin] at hi
    simp only [reduceCtorEq, false_or] at hi
    exact va_putF (D := D) (ci := a) (C := am_cn a) (T := am_T a) (N := am_Nf a) (ty := am_ty a b) C.1 C.2.1 C.2.2.2.2.2.2.1 (am_cls_in hci) (am_ty a) hty (am_cls_nm hci) C.2.2.2.2.2.1 C.2.2.2.2.2.2.2.1 hP am_ws_D hS o (am_ob ho2) (am_cl_at hci) b hkN (C.2.2.2.2.2.2.1 _ hlk) hsame hfin (C.2.2.2.2.2.2.2.2.2.1 hi.1) (by rw [t2, hi.2]) t1 hnf.1 hnf.2 (by simp [am_fs]; exact hkN) hdg hkk
theorem am_j_putr {k o v : Nat} (ok : am_okq M (pc, .putfield k, a, b, c0) cs = true) (hc : c0 = 1) (ho : am_is h o (a + 3) = true) (hk : am_J l E D X d M cs L st (h.1, h.2.1, am_upG h.2.2 o b (some v)) res) : am_J l E D X d M ((pc, .putfield k, a, b, c0) :: cs) L (.ref v :: .ref o :: st) h res := by
  intro p e R s m args below meth c H locs cells slots cF sF ls Q C hfr hlo hcF hsF hP hS hl hz hc1 hs1 kr
  have hdg := am_okq_d ok rfl
  have hn := am_okq_n ok rfl
  have hr := (am_okq_4 ok).2.2.2
  simp only [am_res, Bool.and_eq_true, beq_iff_eq, Bool.or_eq_true, Bool.not_eq_true'] at hr
  obtain ⟨hlk, hkN, hci⟩ := am_FL_use hr.1.1
  obtain ⟨ho1, n, ho2⟩ := am_is_of ho
  obtain ⟨t1, t2, t3, t4⟩ := am_cls_ty hci hkN
  have hsame : ∀ x, s.fieldFound? (am_T a b).1 (am_T a b).2.1 (am_T a b).2.2.1 = some x → s.fieldFound? (am_cn a) (am_T a b).2.1 (am_T a b).2.2.1 = some x := fun x hx => by rw [t2] at hx; exact hx
  have hty : ∀ k, k < am_Nf a → parseFieldDescriptor (am_T a k).2.2.1 = some (am_ty a k) := fun k hk => (am_cls_ty hci hk).1
  have hfk : am_fk a b = 1 := hr.1.2.trans hc
  have hR : (am_ty a b).isReference = true := by
    rcases t4 with q | q | q
    · rw [t3, if_pos q] at hfk; cases hfk
    · rw [t3, q] at hfk; simp at hfk
    · exact q
  have hnf := am_ref_ok hR (am_ad E v)
  have hset : (am_fs E a (h.2.1 o) (h.2.2 o)).set b (.ref (am_ad E v)) = am_fs E a (h.2.1 o) (am_upG h.2.2 o b (some v) o) := am_fs_set (fun _ _ => rfl) (fun j hj => by simp [am_upG, hj]) (by rw [if_pos hfk]; simp [am_upG, va_rf])
  show W p l e R s m args below meth c H locs cells slots Q (F0 m pc ls (.ref (am_ad E v) :: .ref (am_ad E o) :: st.map (am_rv E)))
  rw [am_ad_in ho1]
  have hkk : ∀ (H1 : Heap) (locs1 : List Loc), va_P D am_cl ((am_ws E h).set o (E.1 + o, .inr (a, (am_fs E a (h.2.1 o) (h.2.2 o)).set b (.ref (am_ad E v))))) H1 → va_D (am_A E) ((am_ws E h).set o (E.1 + o, .inr (a, (am_fs E a (h.2.1 o) (h.2.2 o)).set b (.ref (am_ad E v))))) → va_S (am_A E) s.heap H1 locs1 → W p l e R s m args below meth c H1 locs1 cells slots Q (F0 m (pc + 3) ls (st.map (am_rv E))) := by
    intro H1 locs1 hP1 _ hS1
    rw [am_ws_set (h' := (h.1, h.2.1, am_upG h.2.2 o b (some v))) ho2 rfl (fun k hk => rfl) (fun k hk => am_upG_ne hk) (by rw [hset]; rfl)] at hP1
    have k2 := hk p e R s m args below meth c H1 locs1 cells slots cF sF ls Q C hfr hlo hcF hsF hP1 hS1 hl hz hc1 hs1 kr
    rw [hn] at k2
    exact k2
  cases hfin : (am_T a b).2.2.2 with
  | false => exact va_put (D := D) (ci := a) (C := am_cn a) (T := am_T a) (N := am_Nf a) (ty := am_ty a b) C.1 C.2.1 C.2.2.2.2.2.2.1 (am_cls_in hci) (am_ty a) hty (am_cls_nm hci) C.2.2.2.2.2.1 C.2.2.2.2.2.2.2.1 hP am_ws_D hS o (am_ob ho2) (am_cl_at hci) b hkN (C.2.2.2.2.2.2.1 _ hlk) hsame hfin t1 hnf.1 hnf.2 (by simp [am_fs]; exact hkN) hdg hkk
  | true =>
    have hi := hr.2
    rw [hfin] at hi
    simp only [reduceCtorEq, false_or] at hi
    exact va_putF (D := D) (ci := a) (C := am_cn a) (T := am_T a) (N := am_Nf a) (ty := am_ty a b) C.1 C.2.1 C.2.2.2.2.2.2.1 (am_cls_in hci) (am_ty a) hty (am_cls_nm hci) C.2.2.2.2.2.1 C.2.2.2.2.2.2.2.1 hP am_ws_D hS o (am_ob ho2) (am_cl_at hci) b hkN (C.2.2.2.2.2.2.1 _ hlk) hsame hfin (C.2.2.2.2.2.2.2.2.2.1 hi.1) (by rw [t2, hi.2]) t1 hnf.1 hnf.2 (by simp [am_fs]; exact hkN) hdg hkk
theorem am_arr_of {X : AmX} {h : AmH} {t o k : Nat} {f : Nat → Int32} (hh : am_arr X h t o = some (k, f)) : (o < 1000000 ∧ h.1[o]? = some (t, k) ∧ f = h.2.1 o) ∨ (¬ o < 1000000 ∧ t = 0 ∧ X (o - 1000000) = some (k, f)) := by
  unfold am_arr at hh
  by_cases ho : o < 1000000
  · rw [if_pos ho] at hh
    refine Or.inl ⟨ho, ?_⟩
    cases hq : h.1[o]? with
    | none => rw [hq] at hh; cases hh
    | some q =>
      obtain ⟨t', n⟩ := q
      rw [hq] at hh
      by_cases ht : t' = t
      · simp only [ht, if_true] at hh
        cases hh
        exact ⟨by rw [ht], rfl⟩
      · simp only [ht, if_false] at hh
        cases hh
  · rw [if_neg ho] at hh
    by_cases ht : t = 0
    · rw [if_pos ht] at hh
      exact Or.inr ⟨ho, ht, hh⟩
    · rw [if_neg ht] at hh
      cases hh
theorem am_len_of {X : AmX} {h : AmH} {o k : Nat} (hh : am_len X h o = some k) : (o < 1000000 ∧ ∃ t, t < 3 ∧ h.1[o]? = some (t, k)) ∨ (¬ o < 1000000 ∧ ∃ f, X (o - 1000000) = some (k, f)) := by
  unfold am_len at hh
  by_cases ho : o < 1000000
  · rw [if_pos ho] at hh
    refine Or.inl ⟨ho, ?_⟩
    cases hq : h.1[o]? with
    | none => rw [hq] at hh; cases hh
    | some q =>
      obtain ⟨t', n⟩ := q
      rw [hq] at hh
      by_cases ht : t' < 3
      · simp only [ht, if_true] at hh
        cases hh
        exact ⟨t', ht, rfl⟩
      · simp only [ht, if_false] at hh
        cases hh
  · rw [if_neg ho] at hh
    cases hq : X (o - 1000000) with
    | none => rw [hq] at hh; cases hh
    | some q =>
      rw [hq] at hh
      cases hh
      exact Or.inr ⟨ho, q.2, rfl⟩
theorem am_len_is {X : AmX} {h : AmH} {o t k : Nat} (h1 : am_is h o t = true) (h2 : am_len X h o = some k) : o < 1000000 ∧ h.1[o]? = some (t, k) := by
  obtain ⟨a1, n, a2⟩ := am_is_of h1
  rcases am_len_of h2 with ⟨b1, t2, b2, b3⟩ | ⟨b1, -⟩
  · rw [a2] at b3
    cases b3
    exact ⟨a1, a2⟩
  · exact absurd a1 b1
theorem am_j_iaload {o k : Nat} {j : Int32} {f : Nat → Int32} (ok : am_okq M (pc, .iaload, a, b, c0) cs = true) (ha : am_arr X h 0 o = some (k, f)) (hj : ¬ (j < 0 ∨ k ≤ j.toNatClampNeg)) (hk : am_J l E D X d M cs L (.int (f j.toNatClampNeg) :: st) h res) : am_J l E D X d M ((pc, .iaload, a, b, c0) :: cs) L (.int j :: .ref o :: st) h res := by
  intro p e R s m args below meth c H locs cells slots cF sF ls Q C hfr hlo hcF hsF hP hS hl hz hc1 hs1 kr
  have hdg := am_okq_d ok rfl
  have hn := am_okq_n ok rfl
  show W p l e R s m args below meth c H locs cells slots Q (F0 m pc ls (.int j :: .ref (am_ad E o) :: st.map (am_rv E)))
  have k2 := hk p e R s m args below meth c H locs cells slots cF sF ls Q C hfr hlo hcF hsF hP hS hl hz hc1 hs1 kr
  rw [hn] at k2
  rcases am_arr_of ha with ⟨h1, h2, rfl⟩ | ⟨h1, -, h2⟩
  · rw [am_ad_in h1]
    exact va_iald (D := D) C.1 C.2.1 C.2.2.2.2.2.2.2.1 hP o 0 (am_ws_at h2) rfl hj hdg k2
  · rw [am_ad_out h1]
    obtain ⟨g1, g2⟩ := C.2.2.2.2.2.2.2.2.1.1 _ _ _ h2
    exact va_sld C.1 C.2.1 g1 (Nat.lt_of_lt_of_le g2 C.2.2.2.2.2.2.2.2.2.2) (Nat.not_le.mpr g2) hS hj hdg k2
theorem am_j_baload {o k : Nat} {j : Int32} {f : Nat → Int32} (ok : am_okq M (pc, .baload, a, b, c0) cs = true) (ha : am_arr X h 1 o = some (k, f)) (hj : ¬ (j < 0 ∨ k ≤ j.toNatClampNeg)) (hk : am_J l E D X d M cs L (.int (f j.toNatClampNeg) :: st) h res) : am_J l E D X d M ((pc, .baload, a, b, c0) :: cs) L (.int j :: .ref o :: st) h res := by
  intro p e R s m args below meth c H locs cells slots cF sF ls Q C hfr hlo hcF hsF hP hS hl hz hc1 hs1 kr
  have hdg := am_okq_d ok rfl
  have hn := am_okq_n ok rfl
  show W p l e R s m args below meth c H locs cells slots Q (F0 m pc ls (.int j :: .ref (am_ad E o) :: st.map (am_rv E)))
  have k2 := hk p e R s m args below meth c H locs cells slots cF sF ls Q C hfr hlo hcF hsF hP hS hl hz hc1 hs1 kr
  rw [hn] at k2
  rcases am_arr_of ha with ⟨h1, h2, rfl⟩ | ⟨h1, h2, -⟩
  · rw [am_ad_in h1]
    exact va_zald (D := D) C.1 C.2.1 C.2.2.2.2.2.2.2.1 hP o 1 (am_ws_at h2) rfl hj hdg k2
  · cases h2
theorem am_j_aaload {o k : Nat} {j : Int32} (ok : am_okq M (pc, .aaload, a, b, c0) cs = true) (h1 : am_is h o 2 = true) (h2 : am_len X h o = some k) (hj : ¬ (j < 0 ∨ k ≤ j.toNatClampNeg)) (hk : am_J l E D X d M cs L (va_rf (h.2.2 o j.toNatClampNeg) :: st) h res) : am_J l E D X d M ((pc, .aaload, a, b, c0) :: cs) L (.int j :: .ref o :: st) h res := by
  intro p e R s m args below meth c H locs cells slots cF sF ls Q C hfr hlo hcF hsF hP hS hl hz hc1 hs1 kr
  have hdg := am_okq_d ok rfl
  have hn := am_okq_n ok rfl
  show W p l e R s m args below meth c H locs cells slots Q (F0 m pc ls (.int j :: .ref (am_ad E o) :: st.map (am_rv E)))
  have k2 := hk p e R s m args below meth c H locs cells slots cF sF ls Q C hfr hlo hcF hsF hP hS hl hz hc1 hs1 kr
  rw [hn, List.map_cons, am_rv_rf] at k2
  obtain ⟨g1, g2⟩ := am_len_is h1 h2
  rw [am_ad_in g1]
  exact va_aldq (D := D) C.1 C.2.1 C.2.2.2.2.2.2.2.1 hP o 2 (am_ws_at g2) rfl hj hdg k2
theorem am_j_iastore {o k : Nat} {j x : Int32} (ok : am_okq M (pc, .iastore, a, b, c0) cs = true) (h1 : am_is h o 0 = true) (h2 : am_len X h o = some k) (hj : ¬ (j < 0 ∨ k ≤ j.toNatClampNeg)) (hk : am_J l E D X d M cs L st (h.1, am_upI h.2.1 o j.toNatClampNeg x, h.2.2) res) : am_J l E D X d M ((pc, .iastore, a, b, c0) :: cs) L (.int x :: .int j :: .ref o :: st) h res := by
  intro p e R s m args below meth c H locs cells slots cF sF ls Q C hfr hlo hcF hsF hP hS hl hz hc1 hs1 kr
  have hdg := am_okq_d ok rfl
  have hn := am_okq_n ok rfl
  show W p l e R s m args below meth c H locs cells slots Q (F0 m pc ls (.int x :: .int j :: .ref (am_ad E o) :: st.map (am_rv E)))
  obtain ⟨g1, g2⟩ := am_len_is h1 h2
  rw [am_ad_in g1]
  refine va_iast (D := D) C.1 C.2.1 C.2.2.2.2.2.2.2.1 hP am_ws_D hS o 0 (am_ws_at g2) rfl hj hdg (fun H1 locs1 hP1 _ hS1 => ?_)
  rw [am_ws_set (h' := (h.1, am_upI h.2.1 o j.toNatClampNeg x, h.2.2)) g2 rfl (fun k hk => am_upI_ne hk) (fun _ _ => rfl) (by show _ = am_cell E 0 k (am_upI h.2.1 o j.toNatClampNeg x o) (h.2.2 o); rw [am_upI_at]; rfl)] at hP1
  have k2 := hk p e R s m args below meth c H1 locs1 cells slots cF sF ls Q C hfr hlo hcF hsF hP1 hS1 hl hz hc1 hs1 kr
  rw [hn] at k2
  exact k2
theorem am_j_bastore {o k : Nat} {j x : Int32} (ok : am_okq M (pc, .bastore, a, b, c0) cs = true) (h1 : am_is h o 1 = true) (h2 : am_len X h o = some k) (hj : ¬ (j < 0 ∨ k ≤ j.toNatClampNeg)) (hx : x = 0 ∨ x = 1) (hk : am_J l E D X d M cs L st (h.1, am_upI h.2.1 o j.toNatClampNeg x, h.2.2) res) : am_J l E D X d M ((pc, .bastore, a, b, c0) :: cs) L (.int x :: .int j :: .ref o :: st) h res := by
  intro p e R s m args below meth c H locs cells slots cF sF ls Q C hfr hlo hcF hsF hP hS hl hz hc1 hs1 kr
  have hdg := am_okq_d ok rfl
  have hn := am_okq_n ok rfl
  show W p l e R s m args below meth c H locs cells slots Q (F0 m pc ls (.int x :: .int j :: .ref (am_ad E o) :: st.map (am_rv E)))
  obtain ⟨g1, g2⟩ := am_len_is h1 h2
  rw [am_ad_in g1]
  refine va_zast (D := D) C.1 C.2.1 C.2.2.2.2.2.2.2.1 hP am_ws_D hS o 1 (am_ws_at g2) rfl hj hdg (fun H1 locs1 hP1 _ hS1 => ?_)
  rw [show vp_nar .boolean x = x by rcases hx with rfl | rfl <;> decide] at hP1
  rw [am_ws_set (h' := (h.1, am_upI h.2.1 o j.toNatClampNeg x, h.2.2)) g2 rfl (fun k hk => am_upI_ne hk) (fun _ _ => rfl) (by show _ = am_cell E 1 k (am_upI h.2.1 o j.toNatClampNeg x o) (h.2.2 o); rw [am_upI_at]; rfl)] at hP1
  have k2 := hk p e R s m args below meth c H1 locs1 cells slots cF sF ls Q C hfr hlo hcF hsF hP1 hS1 hl hz hc1 hs1 kr
  rw [hn] at k2
  exact k2
theorem am_j_aastore {o k v : Nat} {j : Int32} (ok : am_okq M (pc, .aastore, a, b, c0) cs = true) (h1 : am_is h o 2 = true) (hv : am_is h v (a + 3) = true) (h2 : am_len X h o = some k) (hj : ¬ (j < 0 ∨ k ≤ j.toNatClampNeg)) (hk : am_J l E D X d M cs L st (h.1, h.2.1, am_upG h.2.2 o j.toNatClampNeg (some v)) res) : am_J l E D X d M ((pc, .aastore, a, b, c0) :: cs) L (.ref v :: .int j :: .ref o :: st) h res := by
  intro p e R s m args below meth c H locs cells slots cF sF ls Q C hfr hlo hcF hsF hP hS hl hz hc1 hs1 kr
  have hdg := am_okq_d ok rfl
  have hn := am_okq_n ok rfl
  show W p l e R s m args below meth c H locs cells slots Q (F0 m pc ls (.ref (am_ad E v) :: .int j :: .ref (am_ad E o) :: st.map (am_rv E)))
  have hr := (am_okq_4 ok).2.2.2
  simp only [am_res, beq_iff_eq] at hr
  subst hr
  obtain ⟨g1, g2⟩ := am_len_is h1 h2
  obtain ⟨v1, n, v2⟩ := am_is_of hv
  rw [am_ad_in g1, am_ad_in v1]
  refine va_astq (D := D) (r := (am_cn 4, am_T 4, am_Nf 4)) C.1 C.2.1 C.2.2.2.2.2.2.2.1 hP am_ws_D hS o 2 v 4 (am_ws_at g2) rfl (am_ob v2) (am_cl_at (by decide)) hj hdg (fun H1 locs1 hP1 _ hS1 => ?_)
  rw [am_ws_set (h' := (h.1, h.2.1, am_upG h.2.2 o j.toNatClampNeg (some v))) g2 rfl (fun _ _ => rfl) (fun k hk => am_upG_ne hk) (by
    show _ = am_cell E 2 k (h.2.1 o) (am_upG h.2.2 o j.toNatClampNeg (some v) o)
    show Sum.inl (E.2.2.2.2, k, Sum.inr (Sum.inr (Sum.inr (Sum.inr _)))) = Sum.inl (E.2.2.2.2, k, Sum.inr (Sum.inr (Sum.inr (Sum.inr _))))
    congr 6
    refine congrArg Sum.inr (funext fun q => ?_)
    by_cases hq : q = j.toNatClampNeg
    · subst hq; simp [va_up, am_upG, am_ad_in v1]
    · simp [va_up, am_upG, hq])] at hP1
  have k2 := hk p e R s m args below meth c H1 locs1 cells slots cF sF ls Q C hfr hlo hcF hsF hP1 hS1 hl hz hc1 hs1 kr
  rw [hn] at k2
  exact k2
theorem am_j_alen {o k : Nat} (ok : am_okq M (pc, .arraylength, a, b, c0) cs = true) (h2 : am_len X h o = some k) (hk : am_J l E D X d M cs L (.int (Int32.ofNat k) :: st) h res) : am_J l E D X d M ((pc, .arraylength, a, b, c0) :: cs) L (.ref o :: st) h res := by
  intro p e R s m args below meth c H locs cells slots cF sF ls Q C hfr hlo hcF hsF hP hS hl hz hc1 hs1 kr
  have hdg := am_okq_d ok rfl
  have hn := am_okq_n ok rfl
  show W p l e R s m args below meth c H locs cells slots Q (F0 m pc ls (.ref (am_ad E o) :: st.map (am_rv E)))
  have k2 := hk p e R s m args below meth c H locs cells slots cF sF ls Q C hfr hlo hcF hsF hP hS hl hz hc1 hs1 kr
  rw [hn] at k2
  rcases am_len_of h2 with ⟨g1, t, g2, g3⟩ | ⟨g1, f, g2⟩
  · rw [am_ad_in g1]
    match t, g2, g3 with
    | 0, _, g3 => exact va_alen (D := D) C.1 C.2.1 C.2.2.2.2.2.2.2.1 hP o 0 (am_ws_at g3) rfl rfl hdg k2
    | 1, _, g3 => exact va_alen (D := D) C.1 C.2.1 C.2.2.2.2.2.2.2.1 hP o 1 (am_ws_at g3) rfl rfl hdg k2
    | 2, _, g3 => exact va_alen (D := D) C.1 C.2.1 C.2.2.2.2.2.2.2.1 hP o 2 (am_ws_at g3) rfl rfl hdg k2
  · rw [am_ad_out g1]
    obtain ⟨q1, q2⟩ := C.2.2.2.2.2.2.2.2.1.1 _ _ _ g2
    exact va_slen C.1 C.2.1 q1 (Nat.lt_of_lt_of_le q2 C.2.2.2.2.2.2.2.2.2.2) (Nat.not_le.mpr q2) hS hdg k2
theorem am_j_getst {k : Nat} (ok : am_okq M (pc, .getstatic k, a, b, c0) cs = true) (hk : am_J l E D X d M cs L (.ref (1000000 + a) :: st) h res) : am_J l E D X d M ((pc, .getstatic k, a, b, c0) :: cs) L st h res := by
  intro p e R s m args below meth c H locs cells slots cF sF ls Q C hfr hlo hcF hsF hP hS hl hz hc1 hs1 kr
  have hdg := am_okq_d ok rfl
  have hn := am_okq_n ok rfl
  have hr := (am_okq_4 ok).2.2.2
  simp only [am_res] at hr
  obtain ⟨hlk, he⟩ := am_SL_use hr
  have k2 := hk p e R s m args below meth c H locs cells slots cF sF ls Q C hfr hlo hcF hsF hP hS hl hz hc1 hs1 kr
  rw [hn] at k2
  have had : am_ad E (1000000 + a) = E.2.1 a := by rw [am_ad_out (by omega), Nat.add_sub_cancel_left]
  have k3 : W p l e R s m args below meth c H locs cells slots Q (F0 m (pc + 3) ls (.ref (am_ad E (1000000 + a)) :: st.map (am_rv E))) := k2
  rw [had] at k3
  rcases he with rfl | rfl
  · exact va_gets C.1 C.2.1 C.2.2.2.2.2.2.2.2.1.2.1 hS C.2.2.2.2.2.1 (C.2.2.2.2.2.2.1 _ hlk) (fun _ hx => hx) hdg k3
  · exact va_gets C.1 C.2.1 C.2.2.2.2.2.2.2.2.1.2.2.1 hS C.2.2.2.2.2.1 (C.2.2.2.2.2.2.1 _ hlk) (fun _ hx => hx) hdg k3
end AMK
