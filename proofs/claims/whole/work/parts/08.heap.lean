/-! the small machine's heap as cells of the Java machine -/
-- first address, addresses of the arrays from outside, the array classes of int, boolean, Kept
abbrev AmE : Type := Nat × (Nat → Nat) × ClassId × ClassId × ClassId
def am_ad (E : AmE) (k : Nat) : Nat := if k < 1000000 then E.1 + k else E.2.1 (k - 1000000)
def am_rv (E : AmE) (v : Value) : Value := match v with
  | .ref k => .ref (am_ad E k)
  | v => v
def am_cell (E : AmE) (t n : Nat) (f : Nat → Int32) (g : Nat → Option Nat) : va_E := match t with
  | 0 => .inl (E.2.2.1, n, .inl f)
  | 1 => .inl (E.2.2.2.1, n, .inl f)
  | 2 => .inl (E.2.2.2.2, n, .inr (.inr (.inr (.inr (fun j => (g j).map (am_ad E))))))
  | ci + 3 => .inr (ci, (List.range (am_Nf ci)).map (fun j => if am_fk ci j = 1 then va_rf ((g j).map (am_ad E)) else .int (f j)))
def am_ws (E : AmE) (h : AmH) : va_W := h.1.mapIdx (fun k q => (E.1 + k, am_cell E q.1 q.2 (h.2.1 k) (h.2.2 k)))
def am_t3 (E : AmE) : List (ClassId × FieldType) := [(E.2.2.1, .int), (E.2.2.2.1, .boolean), (E.2.2.2.2, .object "FoldPress$Kept")]
abbrev am_A (E : AmE) : Nat → Prop := fun q => E.1 ≤ q
def am_sl (h : AmH) : Nat := (h.1.map (fun q => q.2)).sum
theorem am_ad_in {E : AmE} {k : Nat} (h : k < 1000000) : am_ad E k = E.1 + k := by simp [am_ad, h]
theorem am_ad_out {E : AmE} {k : Nat} (h : ¬ k < 1000000) : am_ad E k = E.2.1 (k - 1000000) := by simp [am_ad, h]
theorem am_rv_rf {E : AmE} (x : Option Nat) : am_rv E (va_rf x) = va_rf (x.map (am_ad E)) := by cases x <;> rfl
theorem am_rv_cat {E : AmE} (v : Value) : (am_rv E v).category = v.category := by cases v <;> rfl
theorem am_ws_at {E : AmE} {h : AmH} {k t n : Nat} (hk : h.1[k]? = some (t, n)) : (am_ws E h)[k]? = some (E.1 + k, am_cell E t n (h.2.1 k) (h.2.2 k)) := by
  simp [am_ws, List.getElem?_mapIdx, hk]
theorem am_ws_of {E : AmE} {h : AmH} {k : Nat} {q : Nat × va_E} (hk : (am_ws E h)[k]? = some q) : k < h.1.length ∧ q.1 = E.1 + k := by
  rw [am_ws, List.getElem?_mapIdx] at hk
  cases hq : h.1[k]? with
  | none => rw [hq] at hk; cases hk
  | some x =>
    rw [hq] at hk
    cases hk
    exact ⟨(List.getElem?_eq_some_iff.mp hq).1, rfl⟩
theorem am_ws_D {E : AmE} {h : AmH} : va_D (am_A E) (am_ws E h) := by
  refine ⟨fun i j p q hi hj hpq => ?_, fun k q hk => ?_⟩
  · have h1 := (am_ws_of hi).2
    have h2 := (am_ws_of hj).2
    omega
  · have h1 := (am_ws_of hk).2
    show E.1 ≤ q.1
    omega
theorem am_ws_set {E : AmE} {h h' : AmH} {a t n : Nat} {e0 : va_E} (ha : h.1[a]? = some (t, n)) (hs : h'.1 = h.1) (hI : ∀ k, k ≠ a → h'.2.1 k = h.2.1 k) (hG : ∀ k, k ≠ a → h'.2.2 k = h.2.2 k) (he : e0 = am_cell E t n (h'.2.1 a) (h'.2.2 a)) :
    (am_ws E h).set a (E.1 + a, e0) = am_ws E h' := by
  have hal : a < h.1.length := (List.getElem?_eq_some_iff.mp ha).1
  apply List.ext_getElem?
  intro k
  by_cases hk : k = a
  · subst hk
    rw [List.getElem?_set_self (by simpa [am_ws] using hal), am_ws_at (h := h') (by rw [hs]; exact ha), he]
  · rw [List.getElem?_set_ne (Ne.symm hk), am_ws, am_ws, List.getElem?_mapIdx, List.getElem?_mapIdx, hs, hI k hk, hG k hk]
theorem am_ws_new {E : AmE} {h : AmH} {t n : Nat} {e0 : va_E} (he : e0 = am_cell E t n (fun _ => 0) (fun _ => none)) :
    am_ws E h ++ [(E.1 + h.1.length, e0)] = am_ws E (h.1 ++ [(t, n)], am_zI h.2.1 h.1.length, am_zG h.2.2 h.1.length) := by
  apply List.ext_getElem?
  intro k
  have hl : (am_ws E h).length = h.1.length := by simp [am_ws]
  rcases Nat.lt_trichotomy k h.1.length with hk | hk | hk
  · rw [List.getElem?_append_left (by omega), am_ws, am_ws, List.getElem?_mapIdx, List.getElem?_mapIdx]
    show _ = Option.map _ (h.1 ++ [(t, n)])[k]?
    rw [List.getElem?_append_left hk]
    have h1 : am_zI h.2.1 h.1.length k = h.2.1 k := by funext j; simp [am_zI, Nat.ne_of_lt hk]
    have h2 : am_zG h.2.2 h.1.length k = h.2.2 k := by funext j; simp [am_zG, Nat.ne_of_lt hk]
    show _ = Option.map (fun (q : Nat × Nat) => (E.1 + k, am_cell E q.1 q.2 (am_zI h.2.1 h.1.length k) (am_zG h.2.2 h.1.length k))) _
    rw [h1, h2]
  · subst hk
    rw [List.getElem?_append_right (by omega), hl, Nat.sub_self, List.getElem?_cons_zero]
    rw [am_ws_at (t := t) (n := n) (by show (h.1 ++ [(t, n)])[h.1.length]? = _; rw [List.getElem?_append_right (by omega), Nat.sub_self]; rfl), he]
    have h1 : am_zI h.2.1 h.1.length h.1.length = fun _ => 0 := by funext j; simp [am_zI]
    have h2 : am_zG h.2.2 h.1.length h.1.length = fun _ => none := by funext j; simp [am_zG]
    show _ = some (_, am_cell E t n (am_zI h.2.1 h.1.length h.1.length) (am_zG h.2.2 h.1.length h.1.length))
    rw [h1, h2]
  · rw [List.getElem?_eq_none (by simp; omega), List.getElem?_eq_none (by simp [am_ws]; omega)]
theorem am_is_of {h : AmH} {a t : Nat} (hh : am_is h a t = true) : a < 1000000 ∧ ∃ n, h.1[a]? = some (t, n) := by
  unfold am_is at hh
  simp only [Bool.and_eq_true, decide_eq_true_eq] at hh
  obtain ⟨h1, h2⟩ := hh
  refine ⟨h1, ?_⟩
  cases hq : h.1[a]? with
  | none => rw [hq] at h2; cases h2
  | some q =>
    obtain ⟨t', n⟩ := q
    rw [hq] at h2
    have h3 : t' = t := by simpa using h2
    subst h3
    exact ⟨n, rfl⟩
-- locals
def am_lr (E : AmE) (ls : Array Slot) (nL : Nat) (L : List Value) : Prop := L.length = nL ∧ ls.size = nL ∧ lv_wf ls ∧ ∀ (i : Nat) (v : Value), L[i]? = some v → v.category = 1 → ls[i]? = some (.val (am_rv E v))
def am_asc (E : AmE) (L : List Value) : List (Nat × Value) := (List.range L.length).filterMap (fun i => match L[i]? with
  | some v => if v.category = 1 then some (i, am_rv E v) else none
  | none => none)
theorem am_asc_of {E : AmE} {L : List Value} {q : Nat × Value} (h : q ∈ am_asc E L) : ∃ v, L[q.1]? = some v ∧ v.category = 1 ∧ q.2 = am_rv E v := by
  obtain ⟨i, -, hi⟩ := List.mem_filterMap.mp h
  cases hv : L[i]? with
  | none => simp [hv] at hi
  | some v =>
    by_cases hc : v.category = 1
    · simp [hv, hc] at hi
      subst hi
      exact ⟨v, hv, hc, rfl⟩
    · simp [hv, hc] at hi
theorem am_asc_in {E : AmE} {L : List Value} {i : Nat} {v : Value} (h : L[i]? = some v) (hc : v.category = 1) : (i, am_rv E v) ∈ am_asc E L :=
  List.mem_filterMap.mpr ⟨i, List.mem_range.mpr (List.getElem?_eq_some_iff.mp h).1, by simp [h, hc]⟩
theorem am_lr.has {E : AmE} {ls : Array Slot} {nL : Nat} {L : List Value} (h : am_lr E ls nL L) : lv_has ls nL (am_asc E L) :=
  ⟨h.2.1, h.2.2.1, fun q hq => by
    obtain ⟨v, h1, h2, h3⟩ := am_asc_of hq
    rw [h3]
    exact h.2.2.2 q.1 v h1 h2⟩
theorem am_lr.put {E : AmE} {ls ls' : Array Slot} {nL i : Nat} {L : List Value} {v : Value} (h : am_lr E ls nL L) (hi : i < nL) (h' : lv_has ls' nL ((i, am_rv E v) :: (am_asc E L).filter (fun q => !(q.1 == i) && !(q.1 + 1 == i && q.2.category == 2)))) : am_lr E ls' nL (L.set i v) := by
  refine ⟨by rw [List.length_set]; exact h.1, h'.1, h'.2.1, fun j w hj hw => ?_⟩
  by_cases hji : j = i
  · subst hji
    rw [List.getElem?_set_self (by rw [h.1]; exact hi)] at hj
    cases hj
    exact h'.2.2 (j, am_rv E v) List.mem_cons_self
  · rw [List.getElem?_set_ne (Ne.symm hji)] at hj
    refine h'.2.2 (j, am_rv E w) (List.mem_cons_of_mem _ (List.mem_filter.mpr ⟨am_asc_in hj hw, ?_⟩))
    have : (am_rv E w).category = 1 := by rw [am_rv_cat]; exact hw
    simp [hji, this]
theorem am_args_in : ∀ (vs : List Value) (k i : Nat) (v : Value), (∀ w ∈ vs, w.category = 1) → vs[i]? = some v → (k + i, v) ∈ lv_args k vs
  | [], k, i, v, _, h => by simp at h
  | w :: vs, k, i, v, hc, h => by
    have hw : w.category = 1 := hc w List.mem_cons_self
    have hne : ¬ w.category = 2 := by omega
    show (k + i, v) ∈ (k, w) :: lv_args (if w.category = 2 then k + 2 else k + 1) vs
    rw [if_neg hne]
    cases i with
    | zero =>
      rw [List.getElem?_cons_zero] at h
      cases h
      exact List.mem_cons_self
    | succ i =>
      rw [List.getElem?_cons_succ] at h
      have := am_args_in vs (k + 1) i v (fun x hx => hc x (List.mem_cons_of_mem _ hx)) h
      rw [show k + (i + 1) = k + 1 + i by omega]
      exact List.mem_cons_of_mem _ this
theorem am_lgsl : ∀ (vs : List Value), (∀ w ∈ vs, w.category = 1) → (lg_sl vs).length = vs.length
  | [], _ => rfl
  | w :: vs, hc => by
    have hw : w.category = 1 := hc w List.mem_cons_self
    have hne : ¬ w.category = 2 := by omega
    have ih := am_lgsl vs (fun x hx => hc x (List.mem_cons_of_mem _ hx))
    show (List.flatMap _ (w :: vs)).length = _
    rw [List.flatMap_cons, List.length_append, if_neg hne]
    show 1 + (lg_sl vs).length = _
    rw [ih]
    simp
    omega
theorem am_entry {E : AmE} {m : MethodId} {vs : List Value} {n : Nat} (hc : ∀ w ∈ vs, w.category = 1) (hn : vs.length ≤ n) : ∃ ls : Array Slot, entryFrame m (vs.map (am_rv E)).toArray n = F0 m 0 ls [] ∧ am_lr E ls n (am_ini n vs) := by
  have hc' : ∀ w ∈ vs.map (am_rv E), w.category = 1 := by
    intro w hw
    obtain ⟨x, hx, rfl⟩ := List.mem_map.mp hw
    rw [am_rv_cat]
    exact hc x hx
  have hl : (lg_sl (vs.map (am_rv E))).length = vs.length := by rw [am_lgsl _ hc', List.length_map]
  refine ⟨_, lg_entry_eq m (vs.map (am_rv E)) n, ?_⟩
  have h0 := lv_entry (vs.map (am_rv E)) (n := n) (by omega)
  refine ⟨by simp [am_ini]; omega, h0.1, h0.2.1, fun i v hi hv => ?_⟩
  by_cases hlt : i < vs.length
  · rw [am_ini, List.getElem?_append_left hlt] at hi
    have := h0.2.2 (0 + i, am_rv E v) (am_args_in _ 0 i _ hc' (by rw [List.getElem?_map, hi]; rfl))
    rw [Nat.zero_add] at this
    exact this
  · rw [am_ini, List.getElem?_append_right (by omega), List.getElem?_replicate] at hi
    by_cases h3 : i - vs.length < n - vs.length
    · rw [if_pos h3] at hi
      cases hi
      cases hv
    · rw [if_neg h3] at hi
      cases hi
-- what stands outside
def am_GL (E : AmE) (X : AmX) (s : State) : Prop := (∀ (e n : Nat) (f : Nat → Int32), X e = some (n, f) → va_X (E.2.1 e) n f s s.heap ∧ E.2.1 e < E.1) ∧ va_Z "FoldPress$Folds" "THICK" "[I" (.ref (E.2.1 1)) (am_A E) s s.heap ∧ va_Z "FoldPress$Folds" "TRIMS" "[I" (.ref (E.2.1 2)) (am_A E) s s.heap ∧ va_AO "FoldPress$Kept" s ∧ ∀ q ∈ am_NLp, va_Nw (.methodLinkNest (am_cn q.1) q.2.1 (am_y q.2.2.1) q.2.2.2.1) s
theorem am_GL.go {E : AmE} {X : AmX} {s U : State} {H : Heap} {locs : List Loc} (h : am_GL E X s) (hb : E.1 ≤ s.heap.size) (hS : va_S (am_A E) s.heap H locs) (hU : U.heap = H) (hW : s.WarmedH U.vm) : am_GL E X U := by
  have hvm := hW.alike
  refine ⟨fun e n f hX => ?_, ?_, ?_, h.2.2.2.1.moved hvm, fun q hq => va_Nw.warmM hW (h.2.2.2.2 q hq)⟩
  · obtain ⟨h1, h2⟩ := h.1 e n f hX
    refine ⟨?_, h2⟩
    rw [hU]
    exact (h1.moved hvm).kept (hS.2.1 _ (by omega) (fun q => absurd (show E.1 ≤ E.2.1 e from q) (by omega)))
  · rw [hU]
    exact (h.2.1.moved hvm).kept (fun a h1 h2 => hS.2.1 a h1 h2)
  · rw [hU]
    exact (h.2.2.1.moved hvm).kept (fun a h1 h2 => hS.2.1 a h1 h2)
theorem am_sz {p : Program} {l : Launch} {e : Env} {R : Room} {s : State} {m : MethodId} {args : Array Value} {below : List Frame} {meth : Method} {c : Code} {H : Heap} {locs : List Loc} {cells slots : Nat} {Q : State → Prop} {g : JFrame} (k : H.size ≤ s.heap.size + cells → W p l e R s m args below meth c H locs cells slots Q g) : W p l e R s m args below meth c H locs cells slots Q g := by
  intro T hT X
  have h1 := X.heapSize
  rw [hT] at h1
  exact k h1 T hT X
theorem am_aft {p : Program} {l : Launch} {e : Env} {R : Room} {s : State} {m : MethodId} {args : Array Value} {below : List Frame} {meth : Method} {c : Code} {H : Heap} {locs : List Loc} {cells slots mc ms pc : Nat} {ls : Array Slot} {st0 rest : List Value} {Q : State → Prop} {Qa : State → Outcome → State → Prop} {free : Addr → Prop}
    (hr : va_Run p l e R s m args below meth c H locs cells slots mc ms (F0 m pc ls st0) rest Qa free)
    (kk : ∀ (v : Option Value) (st1 t : State) (H1 : Heap) (L : List Loc), st1.heap = H → Qa st1 (.returned v) t → t.heap = H1 → (∀ q ∈ L, free q.base) → W p l e R s m args below meth c H1 (locs ++ L) (cells + mc) (slots + ms) Q (F0 m (pc + 3) ls (v.toList ++ rest))) : W p l e R s m args below meth c H locs cells slots Q (F0 m pc ls st0) := by
  intro T hT X
  obtain ⟨v, st₀, t, T', L, h0, X', hL, e1, e2, hq, st⟩ := hr T hT X
  obtain ⟨t2, a1, b1⟩ := kk v st₀ t T'.heap L h0 hq e1.symm hL T' rfl X'
  exact ⟨t2, st t2 a1, b1⟩
