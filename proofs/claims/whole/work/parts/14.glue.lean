/-! THE CLAIM OUT OF ONE WALK OF THE LAW'S BODY. Your part is whole_start (and what it stands on); all else here is the same for every law, but numbers. -/
def R_law : String := "FoldPressLaw"
def lw_P (b : Addr) (xs : List Int32) (args : Array Value) (s : State) : Prop := args = #[.ref b] ∧ s.IntsAt b xs ∧ xs.length ≤ 4608 ∧ (Jvm.Cond.and given_1 narrow_1).before args s = true
def lw_Q (_ : Array Value) (s : State) (o : Outcome) (t : State) : Prop := o = .returned (some (.int 1)) ∧ Framed s o t [] 600000 7302250
def lw_Z (below : List Frame) (a : Array Value) (s : State) : State → Prop := fun t => ∃ o, t.status = .running ∧ Ended t below o ∧ lw_Q a s o t
/-- the law's own end, with 1 on the stack, nothing written that was there before, its room as the claim has it -/
theorem lw_ret {p : Program} {l : Launch} {e : Env} {s : State} {m : MethodId} {below : List Frame} {meth : Method} {c : Code} {b : Nat} (hx : p.tables.exec = Jvm.exec) (hb : c.code = code) (hr : meth.sig.returnType = ret) (hlocks : meth.locks = false) {pc : Nat} {H : Heap} {ls : Array Slot} (hdg : decode code pc = .ok (.ireturn, 1)) : W p l e room_1 s m #[Value.ref b] below meth c H [] 600000 7302250 (lw_Z below #[Value.ref b] s) (F0 m pc ls [.int 1]) := by
  intro T hT X
  obtain ⟨fs, hret, hrun, hended, hW, hframe⟩ := X.leave (v := some (.int 1)) (hlocks := hlocks) (fun h => by rw [hr] at h; cases h)
  have hmeth' : T.vm.method? m = some meth := X.method'
  refine ⟨T.setFrames fs, ?_, .returned (some (.int 1)), hrun, hended, rfl, ⟨_, rfl⟩, hW, hframe⟩
  jvm_step X.here [X.here.top, hx, hb, hdg, hmeth', hr, ret, narrow_b1]
  (try refine ⟨rfl, ?_⟩); (try refine ⟨rfl, ?_⟩)
  first | (intro acts; rw [hret _ acts rfl rfl rfl]) | rw [hret _ _ rfl rfl rfl]
  exact Steps.refl _
/-- what holds at the law's entry: the machine, the code, the tables' words (any of lw_tbl by 'hts w (by decide +kernel)'), the script of L ints xs at the cell b, what the Statement gives of the start (any of its parts by flat_of_before) -/
def lw_At (p : Program) (s : State) (m : MethodId) (meth : Method) (c : Code) (b L : Nat) (xs : Nat → Int32) : Prop :=
  p.tables.exec = Jvm.exec ∧ c.code = code ∧ meth.sig.returnType = ret ∧ c.maxLocals = 4 ∧ s.vm.findClass R_law = some m.cls ∧ (∀ w ∈ lw_tbl, w.before #[Value.ref b] s = true) ∧ va_X b L xs s s.heap ∧ b < s.heap.size ∧ meth.locks = false ∧ (Jvm.Cond.and given_1 narrow_1).before #[Value.ref b] s = true
-- the arrays from outside: the script, THICK, TRIMS
def am_thick (j : Nat) : Int32 := match j with
  | 0 => 1
  | 1 => 2
  | 2 => 3
  | 3 => 2
  | _ => 4
def am_trims (j : Nat) : Int32 := match j with
  | 0 => 0
  | 1 => 1
  | 2 => 1
  | 3 => 2
  | _ => 3
def am_X (L : Nat) (xs : Nat → Int32) : AmX := fun e => match e with
  | 0 => some (L, xs)
  | 1 => some (5, am_thick)
  | 2 => some (5, am_trims)
  | _ => none
def am_h0 : AmH := ([], (fun _ _ => 0), (fun _ _ => none))
theorem am_Xof {args : Array Value} {s : State} {tm : Term} {N : Nat} {f : Nat → Int32} (hN : N < 2 ^ 31) (harr : (Cond.arrayOf tm .int).before args s = true) (hlen : (Term.length tm).eval args s none [] s = some (.int (Int32.ofNat N))) (hel : ∀ j : Nat, j < N → (Term.elem tm (.int (Int32.ofNat j))).eval args s none [] s = some (.int (f j))) : ∃ t : Nat, tm.eval args s none [] s = some (.ref t) ∧ va_X t N f s s.heap ∧ t < s.heap.size := by
  obtain ⟨t, ht, cell, hcell, hof, hkn, h1, h2, h3, -⟩ := va_Tof (f := fun j => .int (f j)) (A := fun _ => False) hN harr hlen hel (fun _ _ h => h)
  obtain ⟨b, cell2, ht2, harr2, -⟩ := Term.length_spec hlen
  cases ht.symm.trans ht2
  have hc2 := (State.arrayAt?_spec harr2).1
  cases hcell.symm.trans hc2
  have hsz : cell.slots.size < 2147483648 := by
    simp only [Term.eval, ht, harr2, Option.bind_eq_bind, Option.bind_some] at hlen
    by_cases hlt : cell.slots.size < 2147483648
    · exact hlt
    · simp [hlt] at hlen
  have hsN : cell.slots.size = N := (nI_eq (a := cell.slots.size) (b := N) (by omega) (by omega)).mp h2
  exact ⟨t, ht, ⟨cell, hcell, hof, hkn, hsN, h3⟩, (Array.getElem?_eq_some_iff.mp hcell).1⟩
set_option maxHeartbeats 4000000 in
set_option maxRecDepth 100000 in
/-- the law's walk out of a run of the small machine -/
theorem am_whole (pure_run : ∀ (L : Nat) (xs : Nat → Int32), L ≤ 4608 → ∃ (n : Nat) (h : AmH), am_ex am_P am_Mi am_Nf (am_X L xs) n 1000 299 (am_P 299) (am_ini 4 [.ref 1000000]) [] am_h0 = some (some 1, h) ∧ h.1.length ≤ 600000 ∧ am_sl h ≤ 7302250)
    {p : Program} {e : Env} {s : State} {m : MethodId} {below : List Frame} {meth : Method} {c : Code} (l : Launch) {b L : Nat} {xs : Nat → Int32} (hL : L ≤ 4608) (C0 : lw_At p s m meth c b L xs) : W p l e room_1 s m #[Value.ref b] below meth c s.heap [] 0 0 (lw_Z below #[Value.ref b] s) (entryFrame m ([Value.ref b] : List Value).toArray 4) := by
  obtain ⟨hx, hb, hr, hml, hown, hts, hX, hbl, hlocks, hgv⟩ := id C0
  obtain ⟨n, h, hrun, hcl, hsl⟩ := pure_run L xs hL
  have hs := flat_of_before _ hgv
  obtain ⟨t1, ht1, hX1, hb1⟩ := am_Xof (args := #[Value.ref b]) (s := s) (tm := .static "FoldPress$Folds" "THICK" "[I") (N := 5) (f := am_thick) (by decide) (hs _ (by decide +kernel)) (va_eqt (hs _ (by decide +kernel))) (fun j hj => by
    match j, hj with
    | 0, _ => exact va_eqt (hs _ (by decide +kernel))
    | 1, _ => exact va_eqt (hs _ (by decide +kernel))
    | 2, _ => exact va_eqt (hs _ (by decide +kernel))
    | 3, _ => exact va_eqt (hs _ (by decide +kernel))
    | 4, _ => exact va_eqt (hs _ (by decide +kernel))
    | k + 5, hk => omega)
  obtain ⟨t2, ht2, hX2, hb2⟩ := am_Xof (args := #[Value.ref b]) (s := s) (tm := .static "FoldPress$Folds" "TRIMS" "[I") (N := 5) (f := am_trims) (by decide) (hs _ (by decide +kernel)) (va_eqt (hs _ (by decide +kernel))) (fun j hj => by
    match j, hj with
    | 0, _ => exact va_eqt (hs _ (by decide +kernel))
    | 1, _ => exact va_eqt (hs _ (by decide +kernel))
    | 2, _ => exact va_eqt (hs _ (by decide +kernel))
    | 3, _ => exact va_eqt (hs _ (by decide +kernel))
    | 4, _ => exact va_eqt (hs _ (by decide +kernel))
    | k + 5, hk => omega)
  obtain ⟨cI, kI, compI, i1, i2, i3⟩ := Cond.arrayClass_spec (hts _ (List.mem_of_getElem? am_w99))
  obtain ⟨cZ, kZ, compZ, z1, z2, z3⟩ := Cond.arrayClass_spec (hts _ (List.mem_of_getElem? am_w1334))
  obtain ⟨comp, cQ, kQ, q1, -, q3, q4, q5⟩ := Cond.arrayOver_spec (hts _ (List.mem_of_getElem? am_w82))
  have htb : ∀ w ∈ am_tbl, w.before #[Value.ref b] s = true := fun w hw => hts w (List.mem_filter.mp hw).1
  have hkn : ∀ ci, ci < 11 → ∃ (cC : ClassId) (iS : Nat → Nat), u_Kn s (am_cn ci) (am_T ci) (am_Nf ci) cC iS := fun ci hci => u_known htb (am_cls_in hci) (htb _ (am_cls_ins hci))
  have hkn2 : ∀ ci, ∃ q : ClassId × (Nat → Nat), ci < 11 → u_Kn s (am_cn ci) (am_T ci) (am_Nf ci) q.1 q.2 := fun ci => by
    by_cases hci : ci < 11
    · obtain ⟨cC, iS, hk⟩ := hkn ci hci
      exact ⟨(cC, iS), fun _ => hk⟩
    · exact ⟨(0, fun _ => 0), fun z => absurd z hci⟩
  let D : va_G := (fun ci => (Classical.choose (hkn2 ci)).1, fun ci => (Classical.choose (hkn2 ci)).2)
  let E : AmE := (s.heap.size, (fun k => match k with | 0 => b | 1 => t1 | _ => t2), cI, cZ, cQ)
  have hK : va_K D am_cl (am_t3 E) s := by
    refine ⟨fun ci q hq => ?_, fun k q hq => ?_⟩
    · have hci : ci < 11 := (List.getElem?_eq_some_iff.mp hq).1
      cases (am_cl_at hci).symm.trans hq
      exact Classical.choose_spec (hkn2 ci) hci
    · match k, hq with
      | 0, hq =>
        cases hq
        exact ⟨fun N z => ⟨(fun k h => by cases h), kI, i2, compI, i3⟩, i1⟩
      | 1, hq =>
        cases hq
        exact ⟨fun N z => ⟨(fun k h => by cases h), kZ, z2, compZ, z3⟩, z1⟩
      | 2, hq =>
        cases hq
        exact ⟨fun N z => ⟨(fun k h => by cases h), kQ, q3, comp, q4⟩, kQ, comp, q3, q4, q1, q5⟩
      | k + 3, hq => simp [am_t3] at hq
  have hG : am_GL E (am_X L xs) s := by
    refine ⟨fun k N f hk => ?_, va_Zref (hts _ (List.mem_of_getElem? am_w590)) (htb _ (am_cls_ini (ci := 1) (by decide))) ht1 (fun a ha => Nat.not_le.mpr ha), va_Zref (hts _ (List.mem_of_getElem? am_w592)) (htb _ (am_cls_ini (ci := 1) (by decide))) ht2 (fun a ha => Nat.not_le.mpr ha), va_AO.of (hts _ (List.mem_of_getElem? am_w82)), fun q hq => ?_⟩
    · match k, hk with
      | 0, hk => cases hk; exact ⟨hX, hbl⟩
      | 1, hk => cases hk; exact ⟨hX1, hb1⟩
      | 2, hk => cases hk; exact ⟨hX2, hb2⟩
      | k + 3, hk => cases hk
    · have := List.all_eq_true.mp am_NL_ok q hq
      exact va_Nw.of rfl (hts _ (List.mem_of_getElem? (of_decide_eq_true this)))
  obtain ⟨mo, hJ⟩ := am_sound l E D (am_X L xs) am_OKM_all n 1000 299 (am_P 299) (am_ini 4 [.ref 1000000]) [] am_h0 (some 1, h) hrun (by decide) ⟨0, rfl⟩ (fun w hw => by cases hw)
  have hvs : ([Value.ref 1000000] : List Value).map (am_rv E) = [Value.ref b] := by
    show [Value.ref (am_ad E 1000000)] = _
    rw [am_ad_out (by decide)]
    rfl
  obtain ⟨ls, e1, hl⟩ := am_entry (E := E) (m := m) (vs := [.ref 1000000]) (n := 4) (fun w hw => by rcases List.mem_singleton.mp hw with rfl; rfl) (by decide)
  rw [hvs] at e1
  rw [e1]
  have k2 := hJ p e room_1 s m #[Value.ref b] below meth c s.heap [] 0 0 h.1.length (am_sl h) ls (lw_Z below #[Value.ref b] s) ⟨hx, hb, hr, hlocks, hml, hown, htb, hK, hG, (fun z => absurd z (by decide)), Nat.le_refl _⟩ (by decide) (by decide) hcl hsl (fun k q hq => by simp [am_ws, am_h0] at hq) va_S.rf hl (by rfl) (by show 0 + h.1.length = h.1.length + 0; omega) (by show 0 + am_sl h = am_sl h + 0; omega) (by
    intro H1 locs1 pc1 ls1 hP1 hS1
    refine ⟨fun v hv hdg hkd => ?_, fun hv => by cases hv⟩
    cases hv
    refine va_forget (fun q hq => hS1.2.2 q hq) ?_
    refine W.widen (k := 600000) (n := 7302250) hcl hsl ?_
    exact lw_ret hx hb hr hlocks hdg)
  exact k2
