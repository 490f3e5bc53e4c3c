/-! judgements: from here on the small machine's run is the Java machine's -/
def am_pc (cs : AmCd) : Nat := match cs with
  | [] => 0
  | q :: _ => q.1
def am_okq (M : Nat) (q : Nat × Instr × Nat × Nat × Nat) (cs : AmCd) : Bool := am_dec (am_b M) q.1 q.2.1 && (am_fin q.2.1 || (cs.head?.map (fun q => q.1)) == some (q.1 + am_ln q.2.1)) && am_tgOk q.1 q.2.1 && am_res (am_o M) (am_ct M == 2) q.2.1 q.2.2.1 q.2.2.2.1 q.2.2.2.2
theorem am_okq_4 {M : Nat} {q : Nat × Instr × Nat × Nat × Nat} {cs : AmCd} (h : am_okq M q cs = true) : am_dec (am_b M) q.1 q.2.1 = true ∧ (am_fin q.2.1 || (cs.head?.map (fun q => q.1)) == some (q.1 + am_ln q.2.1)) = true ∧ am_tgOk q.1 q.2.1 = true ∧ am_res (am_o M) (am_ct M == 2) q.2.1 q.2.2.1 q.2.2.2.1 q.2.2.2.2 = true := by
  simp only [am_okq, Bool.and_eq_true] at h
  exact ⟨h.1.1.1, h.1.1.2, h.1.2, h.2⟩
theorem am_dec_of {cc : ByteArray} {pc : Nat} {i : Instr} (h : am_dec cc pc i = true) : ∃ ln, decode cc pc = .ok (i, ln) ∧ (am_isSw i = false → ln = am_ln i) := by
  unfold am_dec at h
  cases hd : decode cc pc with
  | error e => rw [hd] at h; cases h
  | ok q =>
    obtain ⟨j, ln⟩ := q
    rw [hd] at h
    simp only [Bool.and_eq_true, decide_eq_true_eq] at h
    obtain ⟨rfl, h2⟩ := h
    refine ⟨ln, rfl, fun h3 => ?_⟩
    rw [h3] at h2
    simpa using h2
theorem am_okq_d {M pc a b c : Nat} {i : Instr} {cs : AmCd} (h : am_okq M (pc, i, a, b, c) cs = true) (hs : am_isSw i = false) : decode (am_b M) pc = .ok (i, am_ln i) := by
  obtain ⟨ln, h1, h2⟩ := am_dec_of (am_okq_4 h).1
  rw [← h2 hs]
  exact h1
theorem am_okq_n {M pc a b c : Nat} {i : Instr} {cs : AmCd} (h : am_okq M (pc, i, a, b, c) cs = true) (hs : am_fin i = false) : am_pc cs = pc + am_ln i := by
  have h1 := (am_okq_4 h).2.1
  rw [show am_fin (pc, i, a, b, c).2.1 = false from hs, Bool.false_or] at h1
  cases cs with
  | nil => simp at h1
  | cons q cs => simpa [am_pc] using h1
def am_CX (E : AmE) (D : va_G) (X : AmX) (M : Nat) (p : Program) (s : State) (m : MethodId) (args : Array Value) (meth : Method) (c : Code) : Prop :=
  p.tables.exec = Jvm.exec ∧ c.code = am_b M ∧ meth.sig.returnType = am_r M ∧ meth.locks = false ∧ c.maxLocals = am_L M ∧ s.vm.findClass (am_cn (am_o M)) = some m.cls ∧ (∀ w ∈ am_tbl, w.before args s = true) ∧ va_K D am_cl (am_t3 E) s ∧ am_GL E X s ∧ (am_ct M = 2 → meth.name = "<init>") ∧ E.1 ≤ s.heap.size
def am_J (l : Launch) (E : AmE) (D : va_G) (X : AmX) (d M : Nat) (cs : AmCd) (L st : List Value) (h : AmH) (res : Option Int32 × AmH) : Prop :=
  ∀ (p : Program) (e : Env) (R : Room) (s : State) (m : MethodId) (args : Array Value) (below : List Frame) (meth : Method) (c : Code) (H : Heap) (locs : List Loc) (cells slots cF sF : Nat) (ls : Array Slot) (Q : State → Prop),
    am_CX E D X M p s m args meth c → d ≤ R.frames → 64 * d ≤ R.locals → cF ≤ R.cells → sF ≤ R.slots →
    va_P D am_cl (am_ws E h) H → va_S (am_A E) s.heap H locs → am_lr E ls (am_L M) L → s.heap.size + cells = E.1 + h.1.length → cells + res.2.1.length = cF + h.1.length → slots + am_sl res.2 = sF + am_sl h →
    (∀ (H1 : Heap) (locs1 : List Loc) (pc1 : Nat) (ls1 : Array Slot), va_P D am_cl (am_ws E res.2) H1 → va_S (am_A E) s.heap H1 locs1 →
      (∀ v, res.1 = some v → decode (am_b M) pc1 = .ok (.ireturn, 1) → (am_kd M = 1 ∨ (am_kd M = 2 ∧ (v = 0 ∨ v = 1))) → W p l e R s m args below meth c H1 locs1 cF sF Q (F0 m pc1 ls1 [.int v])) ∧
      (res.1 = none → decode (am_b M) pc1 = .ok (.return_, 1) → am_kd M = 0 → W p l e R s m args below meth c H1 locs1 cF sF Q (F0 m pc1 ls1 []))) →
    W p l e R s m args below meth c H locs cells slots Q (F0 m (am_pc cs) ls (st.map (am_rv E)))
section AMJ
variable {l : Launch} {E : AmE} {D : va_G} {X : AmX} {d M : Nat} {cs : AmCd} {L st : List Value} {h : AmH} {res : Option Int32 × AmH} {pc a b c0 : Nat}
theorem am_j_iload {k : Nat} {x : Int32} (ok : am_okq M (pc, .iload k, a, b, c0) cs = true) (hL : L[k]? = some (.int x)) (hk : am_J l E D X d M cs L (.int x :: st) h res) : am_J l E D X d M ((pc, .iload k, a, b, c0) :: cs) L st h res := by
  intro p e R s m args below meth c H locs cells slots cF sF ls Q C hfr hlo hcF hsF hP hS hl hz hc1 hs1 kr
  have hdg := am_okq_d ok rfl
  have hn := am_okq_n ok rfl
  refine lv_iload C.1 C.2.1 hdg (hl.2.2.2 k _ hL rfl) ?_
  have k2 := hk p e R s m args below meth c H locs cells slots cF sF ls Q C hfr hlo hcF hsF hP hS hl hz hc1 hs1 kr
  rw [hn] at k2
  exact k2
theorem am_j_iload_n {k : Fin 4} {x : Int32} (ok : am_okq M (pc, .iload_n k, a, b, c0) cs = true) (hL : L[k.val]? = some (.int x)) (hk : am_J l E D X d M cs L (.int x :: st) h res) : am_J l E D X d M ((pc, .iload_n k, a, b, c0) :: cs) L st h res := by
  intro p e R s m args below meth c H locs cells slots cF sF ls Q C hfr hlo hcF hsF hP hS hl hz hc1 hs1 kr
  have hdg := am_okq_d ok rfl
  have hn := am_okq_n ok rfl
  refine lv_iload_n C.1 C.2.1 hdg rfl (hl.2.2.2 k.val _ hL rfl) ?_
  have k2 := hk p e R s m args below meth c H locs cells slots cF sF ls Q C hfr hlo hcF hsF hP hS hl hz hc1 hs1 kr
  rw [hn] at k2
  exact k2
theorem am_j_aload {k : Nat} {x : Option Nat} (ok : am_okq M (pc, .aload k, a, b, c0) cs = true) (hL : L[k]? = some (va_rf x)) (hk : am_J l E D X d M cs L (va_rf x :: st) h res) : am_J l E D X d M ((pc, .aload k, a, b, c0) :: cs) L st h res := by
  intro p e R s m args below meth c H locs cells slots cF sF ls Q C hfr hlo hcF hsF hP hS hl hz hc1 hs1 kr
  have hdg := am_okq_d ok rfl
  have hn := am_okq_n ok rfl
  cases x with
  | some x =>
    refine lv_aload C.1 C.2.1 hdg (hl.2.2.2 k _ hL rfl) ?_
    have k2 := hk p e R s m args below meth c H locs cells slots cF sF ls Q C hfr hlo hcF hsF hP hS hl hz hc1 hs1 kr
    rw [hn] at k2
    exact k2
  | none =>
    refine lv_aloadN C.1 C.2.1 hdg (hl.2.2.2 k _ hL rfl) ?_
    have k2 := hk p e R s m args below meth c H locs cells slots cF sF ls Q C hfr hlo hcF hsF hP hS hl hz hc1 hs1 kr
    rw [hn] at k2
    exact k2
theorem am_j_aload_n {k : Fin 4} {x : Option Nat} (ok : am_okq M (pc, .aload_n k, a, b, c0) cs = true) (hL : L[k.val]? = some (va_rf x)) (hk : am_J l E D X d M cs L (va_rf x :: st) h res) : am_J l E D X d M ((pc, .aload_n k, a, b, c0) :: cs) L st h res := by
  intro p e R s m args below meth c H locs cells slots cF sF ls Q C hfr hlo hcF hsF hP hS hl hz hc1 hs1 kr
  have hdg := am_okq_d ok rfl
  have hn := am_okq_n ok rfl
  cases x with
  | some x =>
    refine lv_aload_n C.1 C.2.1 hdg rfl (hl.2.2.2 k.val _ hL rfl) ?_
    have k2 := hk p e R s m args below meth c H locs cells slots cF sF ls Q C hfr hlo hcF hsF hP hS hl hz hc1 hs1 kr
    rw [hn] at k2
    exact k2
  | none =>
    refine lv_aload_nN C.1 C.2.1 hdg rfl (hl.2.2.2 k.val _ hL rfl) ?_
    have k2 := hk p e R s m args below meth c H locs cells slots cF sF ls Q C hfr hlo hcF hsF hP hS hl hz hc1 hs1 kr
    rw [hn] at k2
    exact k2
theorem am_j_istore {k : Nat} {x : Int32} (ok : am_okq M (pc, .istore k, a, b, c0) cs = true) (hi : k < L.length) (hk : am_J l E D X d M cs (L.set k (.int x)) st h res) : am_J l E D X d M ((pc, .istore k, a, b, c0) :: cs) L (.int x :: st) h res := by
  intro p e R s m args below meth c H locs cells slots cF sF ls Q C hfr hlo hcF hsF hP hS hl hz hc1 hs1 kr
  have hdg := am_okq_d ok rfl
  have hn := am_okq_n ok rfl
  have hi2 : k < am_L M := by rw [← hl.1]; exact hi
  refine lv_istore C.1 C.2.1 hdg hl.has hi2 rfl (fun ls2 hl2 => ?_)
  have hl3 := hl.put (v := .int x) hi2 hl2
  have k2 := hk p e R s m args below meth c H locs cells slots cF sF ls2 Q C hfr hlo hcF hsF hP hS hl3 hz hc1 hs1 kr
  rw [hn] at k2
  exact k2
theorem am_j_istore_n {k : Fin 4} {x : Int32} (ok : am_okq M (pc, .istore_n k, a, b, c0) cs = true) (hi : k.val < L.length) (hk : am_J l E D X d M cs (L.set k.val (.int x)) st h res) : am_J l E D X d M ((pc, .istore_n k, a, b, c0) :: cs) L (.int x :: st) h res := by
  intro p e R s m args below meth c H locs cells slots cF sF ls Q C hfr hlo hcF hsF hP hS hl hz hc1 hs1 kr
  have hdg := am_okq_d ok rfl
  have hn := am_okq_n ok rfl
  have hi2 : k.val < am_L M := by rw [← hl.1]; exact hi
  refine lv_istore_n C.1 C.2.1 hdg rfl hl.has hi2 rfl (fun ls2 hl2 => ?_)
  have hl3 := hl.put (v := .int x) hi2 hl2
  have k2 := hk p e R s m args below meth c H locs cells slots cF sF ls2 Q C hfr hlo hcF hsF hP hS hl3 hz hc1 hs1 kr
  rw [hn] at k2
  exact k2
theorem am_j_astore {k : Nat} {x : Option Nat} (ok : am_okq M (pc, .astore k, a, b, c0) cs = true) (hi : k < L.length) (hk : am_J l E D X d M cs (L.set k (va_rf x)) st h res) : am_J l E D X d M ((pc, .astore k, a, b, c0) :: cs) L (va_rf x :: st) h res := by
  intro p e R s m args below meth c H locs cells slots cF sF ls Q C hfr hlo hcF hsF hP hS hl hz hc1 hs1 kr
  have hdg := am_okq_d ok rfl
  have hn := am_okq_n ok rfl
  have hi2 : k < am_L M := by rw [← hl.1]; exact hi
  cases x with
  | some x =>
    refine lv_astore C.1 C.2.1 hdg hl.has hi2 rfl (fun ls2 hl2 => ?_)
    have hl3 := hl.put (v := .ref x) hi2 hl2
    have k2 := hk p e R s m args below meth c H locs cells slots cF sF ls2 Q C hfr hlo hcF hsF hP hS hl3 hz hc1 hs1 kr
    rw [hn] at k2
    exact k2
  | none =>
    refine lv_astoreN C.1 C.2.1 hdg hl.has hi2 rfl (fun ls2 hl2 => ?_)
    have hl3 := hl.put (v := .null) hi2 hl2
    have k2 := hk p e R s m args below meth c H locs cells slots cF sF ls2 Q C hfr hlo hcF hsF hP hS hl3 hz hc1 hs1 kr
    rw [hn] at k2
    exact k2
theorem am_j_astore_n {k : Fin 4} {x : Option Nat} (ok : am_okq M (pc, .astore_n k, a, b, c0) cs = true) (hi : k.val < L.length) (hk : am_J l E D X d M cs (L.set k.val (va_rf x)) st h res) : am_J l E D X d M ((pc, .astore_n k, a, b, c0) :: cs) L (va_rf x :: st) h res := by
  intro p e R s m args below meth c H locs cells slots cF sF ls Q C hfr hlo hcF hsF hP hS hl hz hc1 hs1 kr
  have hdg := am_okq_d ok rfl
  have hn := am_okq_n ok rfl
  have hi2 : k.val < am_L M := by rw [← hl.1]; exact hi
  cases x with
  | some x =>
    refine lv_astore_n C.1 C.2.1 hdg rfl hl.has hi2 rfl (fun ls2 hl2 => ?_)
    have hl3 := hl.put (v := .ref x) hi2 hl2
    have k2 := hk p e R s m args below meth c H locs cells slots cF sF ls2 Q C hfr hlo hcF hsF hP hS hl3 hz hc1 hs1 kr
    rw [hn] at k2
    exact k2
  | none =>
    refine lv_astore_nN C.1 C.2.1 hdg rfl hl.has hi2 rfl (fun ls2 hl2 => ?_)
    have hl3 := hl.put (v := .null) hi2 hl2
    have k2 := hk p e R s m args below meth c H locs cells slots cF sF ls2 Q C hfr hlo hcF hsF hP hS hl3 hz hc1 hs1 kr
    rw [hn] at k2
    exact k2
theorem am_j_iconst {k : Int} (ok : am_okq M (pc, .iconst k, a, b, c0) cs = true) (hk : am_J l E D X d M cs L (.int (Int32.ofInt k) :: st) h res) : am_J l E D X d M ((pc, .iconst k, a, b, c0) :: cs) L st h res := by
  intro p e R s m args below meth c H locs cells slots cF sF ls Q C hfr hlo hcF hsF hP hS hl hz hc1 hs1 kr
  have hdg := am_okq_d ok rfl
  have hn := am_okq_n ok rfl
  refine lv_iconst C.1 C.2.1 hdg rfl ?_
  have k2 := hk p e R s m args below meth c H locs cells slots cF sF ls Q C hfr hlo hcF hsF hP hS hl hz hc1 hs1 kr
  rw [hn] at k2
  exact k2
theorem am_j_bipush {k : Int} (ok : am_okq M (pc, .bipush k, a, b, c0) cs = true) (hk : am_J l E D X d M cs L (.int ((Int8.ofInt k).toInt32) :: st) h res) : am_J l E D X d M ((pc, .bipush k, a, b, c0) :: cs) L st h res := by
  intro p e R s m args below meth c H locs cells slots cF sF ls Q C hfr hlo hcF hsF hP hS hl hz hc1 hs1 kr
  have hdg := am_okq_d ok rfl
  have hn := am_okq_n ok rfl
  refine lv_bipush C.1 C.2.1 hdg rfl ?_
  have k2 := hk p e R s m args below meth c H locs cells slots cF sF ls Q C hfr hlo hcF hsF hP hS hl hz hc1 hs1 kr
  rw [hn] at k2
  exact k2
theorem am_j_sipush {k : Int} (ok : am_okq M (pc, .sipush k, a, b, c0) cs = true) (hk : am_J l E D X d M cs L (.int ((Int16.ofInt k).toInt32) :: st) h res) : am_J l E D X d M ((pc, .sipush k, a, b, c0) :: cs) L st h res := by
  intro p e R s m args below meth c H locs cells slots cF sF ls Q C hfr hlo hcF hsF hP hS hl hz hc1 hs1 kr
  have hdg := am_okq_d ok rfl
  have hn := am_okq_n ok rfl
  refine lv_sipush C.1 C.2.1 hdg rfl ?_
  have k2 := hk p e R s m args below meth c H locs cells slots cF sF ls Q C hfr hlo hcF hsF hP hS hl hz hc1 hs1 kr
  rw [hn] at k2
  exact k2
theorem am_j_iinc {k : Nat} {v : Int} {x : Int32} (ok : am_okq M (pc, .iinc k v, a, b, c0) cs = true) (hL : L[k]? = some (.int x)) (hk : am_J l E D X d M cs (L.set k (.int (x + Int32.ofInt v))) st h res) : am_J l E D X d M ((pc, .iinc k v, a, b, c0) :: cs) L st h res := by
  intro p e R s m args below meth c H locs cells slots cF sF ls Q C hfr hlo hcF hsF hP hS hl hz hc1 hs1 kr
  have hdg := am_okq_d ok rfl
  have hn := am_okq_n ok rfl
  have hi : k < L.length := (List.getElem?_eq_some_iff.mp hL).1
  have hi2 : k < am_L M := by rw [← hl.1]; exact hi
  obtain ⟨j, hj⟩ := List.getElem?_of_mem (am_asc_in (E := E) hL rfl)
  refine lv_iinc C.1 C.2.1 hdg hl.has (k := j) (x := x) hj rfl hi2 rfl (fun ls2 hl2 => ?_)
  have hl3 := hl.put (v := .int (x + Int32.ofInt v)) hi2 hl2
  have k2 := hk p e R s m args below meth c H locs cells slots cF sF ls2 Q C hfr hlo hcF hsF hP hS hl3 hz hc1 hs1 kr
  rw [hn] at k2
  exact k2
theorem am_j_iadd {x y : Int32} (ok : am_okq M (pc, .iadd, a, b, c0) cs = true) (hk : am_J l E D X d M cs L (.int (x + y) :: st) h res) : am_J l E D X d M ((pc, .iadd, a, b, c0) :: cs) L (.int y :: .int x :: st) h res := by
  intro p e R s m args below meth c H locs cells slots cF sF ls Q C hfr hlo hcF hsF hP hS hl hz hc1 hs1 kr
  have hdg := am_okq_d ok rfl
  have hn := am_okq_n ok rfl
  refine lv_iadd C.1 C.2.1 hdg ?_
  have k2 := hk p e R s m args below meth c H locs cells slots cF sF ls Q C hfr hlo hcF hsF hP hS hl hz hc1 hs1 kr
  rw [hn] at k2
  exact k2
theorem am_j_isub {x y : Int32} (ok : am_okq M (pc, .isub, a, b, c0) cs = true) (hk : am_J l E D X d M cs L (.int (x - y) :: st) h res) : am_J l E D X d M ((pc, .isub, a, b, c0) :: cs) L (.int y :: .int x :: st) h res := by
  intro p e R s m args below meth c H locs cells slots cF sF ls Q C hfr hlo hcF hsF hP hS hl hz hc1 hs1 kr
  have hdg := am_okq_d ok rfl
  have hn := am_okq_n ok rfl
  refine lv_isub C.1 C.2.1 hdg ?_
  have k2 := hk p e R s m args below meth c H locs cells slots cF sF ls Q C hfr hlo hcF hsF hP hS hl hz hc1 hs1 kr
  rw [hn] at k2
  exact k2
theorem am_j_imul {x y : Int32} (ok : am_okq M (pc, .imul, a, b, c0) cs = true) (hk : am_J l E D X d M cs L (.int (x * y) :: st) h res) : am_J l E D X d M ((pc, .imul, a, b, c0) :: cs) L (.int y :: .int x :: st) h res := by
  intro p e R s m args below meth c H locs cells slots cF sF ls Q C hfr hlo hcF hsF hP hS hl hz hc1 hs1 kr
  have hdg := am_okq_d ok rfl
  have hn := am_okq_n ok rfl
  refine lv_imul C.1 C.2.1 hdg ?_
  have k2 := hk p e R s m args below meth c H locs cells slots cF sF ls Q C hfr hlo hcF hsF hP hS hl hz hc1 hs1 kr
  rw [hn] at k2
  exact k2
theorem am_j_idiv {x y : Int32} (ok : am_okq M (pc, .idiv, a, b, c0) cs = true) (hne : ¬ y = 0) (hk : am_J l E D X d M cs L (.int (x / y) :: st) h res) : am_J l E D X d M ((pc, .idiv, a, b, c0) :: cs) L (.int y :: .int x :: st) h res := by
  intro p e R s m args below meth c H locs cells slots cF sF ls Q C hfr hlo hcF hsF hP hS hl hz hc1 hs1 kr
  have hdg := am_okq_d ok rfl
  have hn := am_okq_n ok rfl
  refine lv_idiv C.1 C.2.1 hdg hne ?_
  have k2 := hk p e R s m args below meth c H locs cells slots cF sF ls Q C hfr hlo hcF hsF hP hS hl hz hc1 hs1 kr
  rw [hn] at k2
  exact k2
theorem am_j_irem {x y : Int32} (ok : am_okq M (pc, .irem, a, b, c0) cs = true) (hne : ¬ y = 0) (hk : am_J l E D X d M cs L (.int (x - x / y * y) :: st) h res) : am_J l E D X d M ((pc, .irem, a, b, c0) :: cs) L (.int y :: .int x :: st) h res := by
  intro p e R s m args below meth c H locs cells slots cF sF ls Q C hfr hlo hcF hsF hP hS hl hz hc1 hs1 kr
  have hdg := am_okq_d ok rfl
  have hn := am_okq_n ok rfl
  refine lv_irem C.1 C.2.1 hdg hne ?_
  have k2 := hk p e R s m args below meth c H locs cells slots cF sF ls Q C hfr hlo hcF hsF hP hS hl hz hc1 hs1 kr
  rw [hn] at k2
  exact k2
theorem am_j_iand {x y : Int32} (ok : am_okq M (pc, .iand, a, b, c0) cs = true) (hk : am_J l E D X d M cs L (.int (x &&& y) :: st) h res) : am_J l E D X d M ((pc, .iand, a, b, c0) :: cs) L (.int y :: .int x :: st) h res := by
  intro p e R s m args below meth c H locs cells slots cF sF ls Q C hfr hlo hcF hsF hP hS hl hz hc1 hs1 kr
  have hdg := am_okq_d ok rfl
  have hn := am_okq_n ok rfl
  refine lv_iand C.1 C.2.1 hdg ?_
  have k2 := hk p e R s m args below meth c H locs cells slots cF sF ls Q C hfr hlo hcF hsF hP hS hl hz hc1 hs1 kr
  rw [hn] at k2
  exact k2
theorem am_j_ixor {x y : Int32} (ok : am_okq M (pc, .ixor, a, b, c0) cs = true) (hk : am_J l E D X d M cs L (.int (x ^^^ y) :: st) h res) : am_J l E D X d M ((pc, .ixor, a, b, c0) :: cs) L (.int y :: .int x :: st) h res := by
  intro p e R s m args below meth c H locs cells slots cF sF ls Q C hfr hlo hcF hsF hP hS hl hz hc1 hs1 kr
  have hdg := am_okq_d ok rfl
  have hn := am_okq_n ok rfl
  refine lv_ixor C.1 C.2.1 hdg ?_
  have k2 := hk p e R s m args below meth c H locs cells slots cF sF ls Q C hfr hlo hcF hsF hP hS hl hz hc1 hs1 kr
  rw [hn] at k2
  exact k2
theorem am_j_ishr {x y : Int32} (ok : am_okq M (pc, .ishr, a, b, c0) cs = true) (hk : am_J l E D X d M cs L (.int (x >>> (y &&& 31)) :: st) h res) : am_J l E D X d M ((pc, .ishr, a, b, c0) :: cs) L (.int y :: .int x :: st) h res := by
  intro p e R s m args below meth c H locs cells slots cF sF ls Q C hfr hlo hcF hsF hP hS hl hz hc1 hs1 kr
  have hdg := am_okq_d ok rfl
  have hn := am_okq_n ok rfl
  refine lv_ishr C.1 C.2.1 hdg ?_
  have k2 := hk p e R s m args below meth c H locs cells slots cF sF ls Q C hfr hlo hcF hsF hP hS hl hz hc1 hs1 kr
  rw [hn] at k2
  exact k2
theorem am_j_dupi {x : Int32} (ok : am_okq M (pc, .dup, a, b, c0) cs = true) (hk : am_J l E D X d M cs L (.int x :: .int x :: st) h res) : am_J l E D X d M ((pc, .dup, a, b, c0) :: cs) L (.int x :: st) h res := by
  intro p e R s m args below meth c H locs cells slots cF sF ls Q C hfr hlo hcF hsF hP hS hl hz hc1 hs1 kr
  have hdg := am_okq_d ok rfl
  have hn := am_okq_n ok rfl
  refine lv_dup C.1 C.2.1 hdg rfl ?_
  have k2 := hk p e R s m args below meth c H locs cells slots cF sF ls Q C hfr hlo hcF hsF hP hS hl hz hc1 hs1 kr
  rw [hn] at k2
  exact k2
theorem am_j_dupr {x : Nat} (ok : am_okq M (pc, .dup, a, b, c0) cs = true) (hk : am_J l E D X d M cs L (.ref x :: .ref x :: st) h res) : am_J l E D X d M ((pc, .dup, a, b, c0) :: cs) L (.ref x :: st) h res := by
  intro p e R s m args below meth c H locs cells slots cF sF ls Q C hfr hlo hcF hsF hP hS hl hz hc1 hs1 kr
  have hdg := am_okq_d ok rfl
  have hn := am_okq_n ok rfl
  refine lv_dup C.1 C.2.1 hdg rfl ?_
  have k2 := hk p e R s m args below meth c H locs cells slots cF sF ls Q C hfr hlo hcF hsF hP hS hl hz hc1 hs1 kr
  rw [hn] at k2
  exact k2
theorem am_j_dup2 {x : Nat} {j : Int32} (ok : am_okq M (pc, .dup2, a, b, c0) cs = true) (hk : am_J l E D X d M cs L (.int j :: .ref x :: .int j :: .ref x :: st) h res) : am_J l E D X d M ((pc, .dup2, a, b, c0) :: cs) L (.int j :: .ref x :: st) h res := by
  intro p e R s m args below meth c H locs cells slots cF sF ls Q C hfr hlo hcF hsF hP hS hl hz hc1 hs1 kr
  have hdg := am_okq_d ok rfl
  have hn := am_okq_n ok rfl
  refine lv_dup2_11 C.1 C.2.1 hdg rfl rfl ?_
  have k2 := hk p e R s m args below meth c H locs cells slots cF sF ls Q C hfr hlo hcF hsF hP hS hl hz hc1 hs1 kr
  rw [hn] at k2
  exact k2
theorem am_tg_of {pc : Nat} {o : Int} (h : 0 ≤ (pc : Int) + o) : (pc : Int) + o = (am_tg pc o : Int) := by
  unfold am_tg
  omega
theorem am_j_goto {o : Int} {ct : AmCd} (ok : am_okq M (pc, .goto o, a, b, c0) cs = true) (hp : am_pc ct = am_tg pc o) (hk : am_J l E D X d M ct L st h res) : am_J l E D X d M ((pc, .goto o, a, b, c0) :: cs) L st h res := by
  intro p e R s m args below meth c H locs cells slots cF sF ls Q C hfr hlo hcF hsF hP hS hl hz hc1 hs1 kr
  have hdg := am_okq_d ok rfl
  refine lv_goto C.1 C.2.1 hdg (am_tg_of (of_decide_eq_true (am_okq_4 ok).2.2.1)) ?_
  have k2 := hk p e R s m args below meth c H locs cells slots cF sF ls Q C hfr hlo hcF hsF hP hS hl hz hc1 hs1 kr
  rw [hp] at k2
  exact k2
theorem am_j_if_eq {o : Int} {x : Int32} {ct : AmCd} (ok : am_okq M (pc, .ifCond .eq o, a, b, c0) cs = true) (hp : x = 0 → am_pc ct = am_tg pc o) (kt : x = 0 → am_J l E D X d M ct L st h res) (kf : ¬ x = 0 → am_J l E D X d M cs L st h res) : am_J l E D X d M ((pc, .ifCond .eq o, a, b, c0) :: cs) L (.int x :: st) h res := by
  intro p e R s m args below meth c H locs cells slots cF sF ls Q C hfr hlo hcF hsF hP hS hl hz hc1 hs1 kr
  have hdg := am_okq_d ok rfl
  have hn := am_okq_n ok rfl
  refine lv_if_eq C.1 C.2.1 hdg (am_tg_of (of_decide_eq_true (am_okq_4 ok).2.2.1)) (fun q => ?_) (fun q => ?_)
  · have k2 := kt q p e R s m args below meth c H locs cells slots cF sF ls Q C hfr hlo hcF hsF hP hS hl hz hc1 hs1 kr
    rw [hp q] at k2
    exact k2
  · have k2 := kf q p e R s m args below meth c H locs cells slots cF sF ls Q C hfr hlo hcF hsF hP hS hl hz hc1 hs1 kr
    rw [hn] at k2
    exact k2
theorem am_j_if_ne {o : Int} {x : Int32} {ct : AmCd} (ok : am_okq M (pc, .ifCond .ne o, a, b, c0) cs = true) (hp : ¬ x = 0 → am_pc ct = am_tg pc o) (kt : ¬ x = 0 → am_J l E D X d M ct L st h res) (kf : x = 0 → am_J l E D X d M cs L st h res) : am_J l E D X d M ((pc, .ifCond .ne o, a, b, c0) :: cs) L (.int x :: st) h res := by
  intro p e R s m args below meth c H locs cells slots cF sF ls Q C hfr hlo hcF hsF hP hS hl hz hc1 hs1 kr
  have hdg := am_okq_d ok rfl
  have hn := am_okq_n ok rfl
  refine lv_if_ne C.1 C.2.1 hdg (am_tg_of (of_decide_eq_true (am_okq_4 ok).2.2.1)) (fun q => ?_) (fun q => ?_)
  · have k2 := kt q p e R s m args below meth c H locs cells slots cF sF ls Q C hfr hlo hcF hsF hP hS hl hz hc1 hs1 kr
    rw [hp q] at k2
    exact k2
  · have k2 := kf q p e R s m args below meth c H locs cells slots cF sF ls Q C hfr hlo hcF hsF hP hS hl hz hc1 hs1 kr
    rw [hn] at k2
    exact k2
theorem am_j_if_lt {o : Int} {x : Int32} {ct : AmCd} (ok : am_okq M (pc, .ifCond .lt o, a, b, c0) cs = true) (hp : x < 0 → am_pc ct = am_tg pc o) (kt : x < 0 → am_J l E D X d M ct L st h res) (kf : ¬ x < 0 → am_J l E D X d M cs L st h res) : am_J l E D X d M ((pc, .ifCond .lt o, a, b, c0) :: cs) L (.int x :: st) h res := by
  intro p e R s m args below meth c H locs cells slots cF sF ls Q C hfr hlo hcF hsF hP hS hl hz hc1 hs1 kr
  have hdg := am_okq_d ok rfl
  have hn := am_okq_n ok rfl
  refine lv_if_lt C.1 C.2.1 hdg (am_tg_of (of_decide_eq_true (am_okq_4 ok).2.2.1)) (fun q => ?_) (fun q => ?_)
  · have k2 := kt q p e R s m args below meth c H locs cells slots cF sF ls Q C hfr hlo hcF hsF hP hS hl hz hc1 hs1 kr
    rw [hp q] at k2
    exact k2
  · have k2 := kf q p e R s m args below meth c H locs cells slots cF sF ls Q C hfr hlo hcF hsF hP hS hl hz hc1 hs1 kr
    rw [hn] at k2
    exact k2
theorem am_j_if_ge {o : Int} {x : Int32} {ct : AmCd} (ok : am_okq M (pc, .ifCond .ge o, a, b, c0) cs = true) (hp : 0 ≤ x → am_pc ct = am_tg pc o) (kt : 0 ≤ x → am_J l E D X d M ct L st h res) (kf : ¬ 0 ≤ x → am_J l E D X d M cs L st h res) : am_J l E D X d M ((pc, .ifCond .ge o, a, b, c0) :: cs) L (.int x :: st) h res := by
  intro p e R s m args below meth c H locs cells slots cF sF ls Q C hfr hlo hcF hsF hP hS hl hz hc1 hs1 kr
  have hdg := am_okq_d ok rfl
  have hn := am_okq_n ok rfl
  refine lv_if_ge C.1 C.2.1 hdg (am_tg_of (of_decide_eq_true (am_okq_4 ok).2.2.1)) (fun q => ?_) (fun q => ?_)
  · have k2 := kt q p e R s m args below meth c H locs cells slots cF sF ls Q C hfr hlo hcF hsF hP hS hl hz hc1 hs1 kr
    rw [hp q] at k2
    exact k2
  · have k2 := kf q p e R s m args below meth c H locs cells slots cF sF ls Q C hfr hlo hcF hsF hP hS hl hz hc1 hs1 kr
    rw [hn] at k2
    exact k2
theorem am_j_if_gt {o : Int} {x : Int32} {ct : AmCd} (ok : am_okq M (pc, .ifCond .gt o, a, b, c0) cs = true) (hp : 0 < x → am_pc ct = am_tg pc o) (kt : 0 < x → am_J l E D X d M ct L st h res) (kf : ¬ 0 < x → am_J l E D X d M cs L st h res) : am_J l E D X d M ((pc, .ifCond .gt o, a, b, c0) :: cs) L (.int x :: st) h res := by
  intro p e R s m args below meth c H locs cells slots cF sF ls Q C hfr hlo hcF hsF hP hS hl hz hc1 hs1 kr
  have hdg := am_okq_d ok rfl
  have hn := am_okq_n ok rfl
  refine lv_if_gt C.1 C.2.1 hdg (am_tg_of (of_decide_eq_true (am_okq_4 ok).2.2.1)) (fun q => ?_) (fun q => ?_)
  · have k2 := kt q p e R s m args below meth c H locs cells slots cF sF ls Q C hfr hlo hcF hsF hP hS hl hz hc1 hs1 kr
    rw [hp q] at k2
    exact k2
  · have k2 := kf q p e R s m args below meth c H locs cells slots cF sF ls Q C hfr hlo hcF hsF hP hS hl hz hc1 hs1 kr
    rw [hn] at k2
    exact k2
theorem am_j_if_le {o : Int} {x : Int32} {ct : AmCd} (ok : am_okq M (pc, .ifCond .le o, a, b, c0) cs = true) (hp : x ≤ 0 → am_pc ct = am_tg pc o) (kt : x ≤ 0 → am_J l E D X d M ct L st h res) (kf : ¬ x ≤ 0 → am_J l E D X d M cs L st h res) : am_J l E D X d M ((pc, .ifCond .le o, a, b, c0) :: cs) L (.int x :: st) h res := by
  intro p e R s m args below meth c H locs cells slots cF sF ls Q C hfr hlo hcF hsF hP hS hl hz hc1 hs1 kr
  have hdg := am_okq_d ok rfl
  have hn := am_okq_n ok rfl
  refine lv_if_le C.1 C.2.1 hdg (am_tg_of (of_decide_eq_true (am_okq_4 ok).2.2.1)) (fun q => ?_) (fun q => ?_)
  · have k2 := kt q p e R s m args below meth c H locs cells slots cF sF ls Q C hfr hlo hcF hsF hP hS hl hz hc1 hs1 kr
    rw [hp q] at k2
    exact k2
  · have k2 := kf q p e R s m args below meth c H locs cells slots cF sF ls Q C hfr hlo hcF hsF hP hS hl hz hc1 hs1 kr
    rw [hn] at k2
    exact k2
theorem am_j_icmp_eq {o : Int} {x y : Int32} {ct : AmCd} (ok : am_okq M (pc, .if_icmp .eq o, a, b, c0) cs = true) (hp : x = y → am_pc ct = am_tg pc o) (kt : x = y → am_J l E D X d M ct L st h res) (kf : ¬ x = y → am_J l E D X d M cs L st h res) : am_J l E D X d M ((pc, .if_icmp .eq o, a, b, c0) :: cs) L (.int y :: .int x :: st) h res := by
  intro p e R s m args below meth c H locs cells slots cF sF ls Q C hfr hlo hcF hsF hP hS hl hz hc1 hs1 kr
  have hdg := am_okq_d ok rfl
  have hn := am_okq_n ok rfl
  refine lv_icmp_eq C.1 C.2.1 hdg (am_tg_of (of_decide_eq_true (am_okq_4 ok).2.2.1)) (fun q => ?_) (fun q => ?_)
  · have k2 := kt q p e R s m args below meth c H locs cells slots cF sF ls Q C hfr hlo hcF hsF hP hS hl hz hc1 hs1 kr
    rw [hp q] at k2
    exact k2
  · have k2 := kf q p e R s m args below meth c H locs cells slots cF sF ls Q C hfr hlo hcF hsF hP hS hl hz hc1 hs1 kr
    rw [hn] at k2
    exact k2
theorem am_j_icmp_ne {o : Int} {x y : Int32} {ct : AmCd} (ok : am_okq M (pc, .if_icmp .ne o, a, b, c0) cs = true) (hp : ¬ x = y → am_pc ct = am_tg pc o) (kt : ¬ x = y → am_J l E D X d M ct L st h res) (kf : x = y → am_J l E D X d M cs L st h res) : am_J l E D X d M ((pc, .if_icmp .ne o, a, b, c0) :: cs) L (.int y :: .int x :: st) h res := by
  intro p e R s m args below meth c H locs cells slots cF sF ls Q C hfr hlo hcF hsF hP hS hl hz hc1 hs1 kr
  have hdg := am_okq_d ok rfl
  have hn := am_okq_n ok rfl
  refine lv_icmp_ne C.1 C.2.1 hdg (am_tg_of (of_decide_eq_true (am_okq_4 ok).2.2.1)) (fun q => ?_) (fun q => ?_)
  · have k2 := kt q p e R s m args below meth c H locs cells slots cF sF ls Q C hfr hlo hcF hsF hP hS hl hz hc1 hs1 kr
    rw [hp q] at k2
    exact k2
  · have k2 := kf q p e R s m args below meth c H locs cells slots cF sF ls Q C hfr hlo hcF hsF hP hS hl hz hc1 hs1 kr
    rw [hn] at k2
    exact k2
theorem am_j_icmp_lt {o : Int} {x y : Int32} {ct : AmCd} (ok : am_okq M (pc, .if_icmp .lt o, a, b, c0) cs = true) (hp : x < y → am_pc ct = am_tg pc o) (kt : x < y → am_J l E D X d M ct L st h res) (kf : ¬ x < y → am_J l E D X d M cs L st h res) : am_J l E D X d M ((pc, .if_icmp .lt o, a, b, c0) :: cs) L (.int y :: .int x :: st) h res := by
  intro p e R s m args below meth c H locs cells slots cF sF ls Q C hfr hlo hcF hsF hP hS hl hz hc1 hs1 kr
  have hdg := am_okq_d ok rfl
  have hn := am_okq_n ok rfl
  refine lv_icmp_lt C.1 C.2.1 hdg (am_tg_of (of_decide_eq_true (am_okq_4 ok).2.2.1)) (fun q => ?_) (fun q => ?_)
  · have k2 := kt q p e R s m args below meth c H locs cells slots cF sF ls Q C hfr hlo hcF hsF hP hS hl hz hc1 hs1 kr
    rw [hp q] at k2
    exact k2
  · have k2 := kf q p e R s m args below meth c H locs cells slots cF sF ls Q C hfr hlo hcF hsF hP hS hl hz hc1 hs1 kr
    rw [hn] at k2
    exact k2
theorem am_j_icmp_ge {o : Int} {x y : Int32} {ct : AmCd} (ok : am_okq M (pc, .if_icmp .ge o, a, b, c0) cs = true) (hp : y ≤ x → am_pc ct = am_tg pc o) (kt : y ≤ x → am_J l E D X d M ct L st h res) (kf : ¬ y ≤ x → am_J l E D X d M cs L st h res) : am_J l E D X d M ((pc, .if_icmp .ge o, a, b, c0) :: cs) L (.int y :: .int x :: st) h res := by
  intro p e R s m args below meth c H locs cells slots cF sF ls Q C hfr hlo hcF hsF hP hS hl hz hc1 hs1 kr
  have hdg := am_okq_d ok rfl
  have hn := am_okq_n ok rfl
  refine lv_icmp_ge C.1 C.2.1 hdg (am_tg_of (of_decide_eq_true (am_okq_4 ok).2.2.1)) (fun q => ?_) (fun q => ?_)
  · have k2 := kt q p e R s m args below meth c H locs cells slots cF sF ls Q C hfr hlo hcF hsF hP hS hl hz hc1 hs1 kr
    rw [hp q] at k2
    exact k2
  · have k2 := kf q p e R s m args below meth c H locs cells slots cF sF ls Q C hfr hlo hcF hsF hP hS hl hz hc1 hs1 kr
    rw [hn] at k2
    exact k2
theorem am_j_icmp_gt {o : Int} {x y : Int32} {ct : AmCd} (ok : am_okq M (pc, .if_icmp .gt o, a, b, c0) cs = true) (hp : y < x → am_pc ct = am_tg pc o) (kt : y < x → am_J l E D X d M ct L st h res) (kf : ¬ y < x → am_J l E D X d M cs L st h res) : am_J l E D X d M ((pc, .if_icmp .gt o, a, b, c0) :: cs) L (.int y :: .int x :: st) h res := by
  intro p e R s m args below meth c H locs cells slots cF sF ls Q C hfr hlo hcF hsF hP hS hl hz hc1 hs1 kr
  have hdg := am_okq_d ok rfl
  have hn := am_okq_n ok rfl
  refine lv_icmp_gt C.1 C.2.1 hdg (am_tg_of (of_decide_eq_true (am_okq_4 ok).2.2.1)) (fun q => ?_) (fun q => ?_)
  · have k2 := kt q p e R s m args below meth c H locs cells slots cF sF ls Q C hfr hlo hcF hsF hP hS hl hz hc1 hs1 kr
    rw [hp q] at k2
    exact k2
  · have k2 := kf q p e R s m args below meth c H locs cells slots cF sF ls Q C hfr hlo hcF hsF hP hS hl hz hc1 hs1 kr
    rw [hn] at k2
    exact k2
theorem am_j_icmp_le {o : Int} {x y : Int32} {ct : AmCd} (ok : am_okq M (pc, .if_icmp .le o, a, b, c0) cs = true) (hp : x ≤ y → am_pc ct = am_tg pc o) (kt : x ≤ y → am_J l E D X d M ct L st h res) (kf : ¬ x ≤ y → am_J l E D X d M cs L st h res) : am_J l E D X d M ((pc, .if_icmp .le o, a, b, c0) :: cs) L (.int y :: .int x :: st) h res := by
  intro p e R s m args below meth c H locs cells slots cF sF ls Q C hfr hlo hcF hsF hP hS hl hz hc1 hs1 kr
  have hdg := am_okq_d ok rfl
  have hn := am_okq_n ok rfl
  refine lv_icmp_le C.1 C.2.1 hdg (am_tg_of (of_decide_eq_true (am_okq_4 ok).2.2.1)) (fun q => ?_) (fun q => ?_)
  · have k2 := kt q p e R s m args below meth c H locs cells slots cF sF ls Q C hfr hlo hcF hsF hP hS hl hz hc1 hs1 kr
    rw [hp q] at k2
    exact k2
  · have k2 := kf q p e R s m args below meth c H locs cells slots cF sF ls Q C hfr hlo hcF hsF hP hS hl hz hc1 hs1 kr
    rw [hn] at k2
    exact k2
theorem am_j_ifnullN {o : Int} {ct : AmCd} (ok : am_okq M (pc, .ifnull o, a, b, c0) cs = true) (hp : am_pc ct = am_tg pc o) (hk : am_J l E D X d M ct L st h res) : am_J l E D X d M ((pc, .ifnull o, a, b, c0) :: cs) L (.null :: st) h res := by
  intro p e R s m args below meth c H locs cells slots cF sF ls Q C hfr hlo hcF hsF hP hS hl hz hc1 hs1 kr
  have hdg := am_okq_d ok rfl
  refine lv_ifnullN C.1 C.2.1 hdg (am_tg_of (of_decide_eq_true (am_okq_4 ok).2.2.1)) ?_
  have k2 := hk p e R s m args below meth c H locs cells slots cF sF ls Q C hfr hlo hcF hsF hP hS hl hz hc1 hs1 kr
  rw [hp] at k2
  exact k2
theorem am_j_ifnullR {o : Int} {x : Nat} (ok : am_okq M (pc, .ifnull o, a, b, c0) cs = true) (hk : am_J l E D X d M cs L st h res) : am_J l E D X d M ((pc, .ifnull o, a, b, c0) :: cs) L (.ref x :: st) h res := by
  intro p e R s m args below meth c H locs cells slots cF sF ls Q C hfr hlo hcF hsF hP hS hl hz hc1 hs1 kr
  have hdg := am_okq_d ok rfl
  have hn := am_okq_n ok rfl
  refine lv_ifnull C.1 C.2.1 hdg ?_
  have k2 := hk p e R s m args below meth c H locs cells slots cF sF ls Q C hfr hlo hcF hsF hP hS hl hz hc1 hs1 kr
  rw [hn] at k2
  exact k2
theorem am_j_table {df lo hi : Int} {offs : Array Int} {x : Int32} {ct : AmCd} (ok : am_okq M (pc, .tableswitch df lo hi offs, a, b, c0) cs = true) (hp : am_pc ct = am_tg pc (am_sw df lo hi offs x)) (hk : am_J l E D X d M ct L st h res) : am_J l E D X d M ((pc, .tableswitch df lo hi offs, a, b, c0) :: cs) L (.int x :: st) h res := by
  intro p e R s m args below meth c H locs cells slots cF sF ls Q C hfr hlo hcF hsF hP hS hl hz hc1 hs1 kr
  obtain ⟨ln, hdg, -⟩ := am_dec_of (am_okq_4 ok).1
  have ht := (am_okq_4 ok).2.2.1
  simp only [am_tgOk, Bool.and_eq_true, decide_eq_true_eq, List.all_eq_true] at ht
  obtain ⟨⟨t1, t2⟩, t3⟩ := ht
  have k2 := hk p e R s m args below meth c H locs cells slots cF sF ls Q C hfr hlo hcF hsF hP hS hl hz hc1 hs1 kr
  rw [hp] at k2
  by_cases hx : x.toInt < lo ∨ hi < x.toInt
  · rw [am_sw, if_pos hx] at k2
    exact lv_tableOut C.1 C.2.1 hdg hx (am_tg_of t1) k2
  · rw [am_sw, if_neg hx] at k2
    have h1 : ¬ x.toInt < lo := fun q => hx (Or.inl q)
    have h2 : ¬ hi < x.toInt := fun q => hx (Or.inr q)
    have hlt : (x.toInt - lo).toNat < offs.size := by omega
    have he : offs[(x.toInt - lo).toNat]? = some offs[(x.toInt - lo).toNat] := Array.getElem?_eq_getElem hlt
    have hg : offs.getD (x.toInt - lo).toNat df = offs[(x.toInt - lo).toNat] := by simp [Array.getD, hlt]
    rw [hg] at k2
    exact lv_tableIn C.1 C.2.1 hdg h1 h2 he (am_tg_of (t2 _ (by simp))) k2
theorem am_look_in (ps : List (Int × Int)) (df x : Int) (P : Int → Prop) (h0 : P df) (h1 : ∀ q ∈ ps, P q.2) : P (Op.lookupswitch.offset ps df x) := by
  induction ps with
  | nil => exact h0
  | cons q ps ih =>
    have h2 := ih (fun z hz => h1 z (List.mem_cons_of_mem _ hz))
    have h3 := h1 q List.mem_cons_self
    unfold Op.lookupswitch.offset
    first
      | (split <;> first | exact h3 | exact h2)
      | (simp only []; split <;> first | exact h3 | exact h2)
theorem am_j_look {df : Int} {ps : Array (Int × Int)} {x : Int32} {ct : AmCd} (ok : am_okq M (pc, .lookupswitch df ps, a, b, c0) cs = true) (hp : am_pc ct = am_tg pc (Op.lookupswitch.offset ps.toList df x.toInt)) (hk : am_J l E D X d M ct L st h res) : am_J l E D X d M ((pc, .lookupswitch df ps, a, b, c0) :: cs) L (.int x :: st) h res := by
  intro p e R s m args below meth c H locs cells slots cF sF ls Q C hfr hlo hcF hsF hP hS hl hz hc1 hs1 kr
  obtain ⟨ln, hdg, -⟩ := am_dec_of (am_okq_4 ok).1
  have ht := (am_okq_4 ok).2.2.1
  simp only [am_tgOk, Bool.and_eq_true] at ht
  obtain ⟨⟨t1, t2⟩, t3⟩ := ht
  have k2 := hk p e R s m args below meth c H locs cells slots cF sF ls Q C hfr hlo hcF hsF hP hS hl hz hc1 hs1 kr
  rw [hp] at k2
  have hpos : 0 ≤ (pc : Int) + Op.lookupswitch.offset ps.toList df x.toInt := am_look_in ps.toList df x.toInt (fun o => 0 ≤ (pc : Int) + o) (of_decide_eq_true t1) (fun q hq => of_decide_eq_true (List.all_eq_true.mp t2 q hq))
  exact lv_lookup C.1 C.2.1 hdg t3 rfl (am_tg_of hpos) k2
end AMJ
