/-! Journal.takeBack -/
section TAKE
variable {X : AmX} {d M : Nat} {cs ct : AmCd} {L L2 st rest : List Value} {res : Option Int32 × AmH} {pc a b c0 : Nat} {x y v : Int32} {S : AmT}
theorem ex_aald {o k : Nat} (h1 : am_is (hS S) o 2 = true) (h2 : am_len X (hS S) o = some k) (hj : ¬ (y < 0 ∨ k ≤ y.toNatClampNeg)) {w : Option Nat} (hw : (hS S).2.2 o y.toNatClampNeg = w) (H : Ex X d M cs L (va_rf w :: st) (hS S) res) : Ex X d M ((pc, .aaload, a, b, c0) :: cs) L (.int y :: .ref o :: st) (hS S) res := by
  obtain ⟨n, H⟩ := H
  subst hw
  refine ⟨n + 1, ?_⟩
  show (if am_is (hS S) o 2 = true then (match am_len X (hS S) o with | some k => if y < 0 ∨ k ≤ y.toNatClampNeg then none else am_ex am_P am_Mi am_Nf X n d M cs L (va_rf ((hS S).2.2 o y.toNatClampNeg) :: st) (hS S) | none => none) else none) = _
  rw [if_pos h1, h2]
  show (if y < 0 ∨ k ≤ y.toNatClampNeg then none else _) = _
  rw [if_neg hj]
  exact H
theorem ex_astore_n {k : Fin 4} {w : Option Nat} {h : AmH} (hk : k.val < L.length) (hL : L.set k.val (va_rf w) = L2) (H : Ex X d M cs L2 st h res) : Ex X d M ((pc, .astore_n k, a, b, c0) :: cs) L (va_rf w :: st) h res := by
  obtain ⟨n, H⟩ := H
  refine ⟨n + 1, ?_⟩
  cases w with
  | none =>
    show (if k.val < L.length then am_ex am_P am_Mi am_Nf X n d M cs (L.set k.val (va_rf none)) st h else none) = _
    rw [if_pos hk, hL]
    exact H
  | some w =>
    show (if k.val < L.length then am_ex am_P am_Mi am_Nf X n d M cs (L.set k.val (va_rf (some w))) st h else none) = _
    rw [if_pos hk, hL]
    exact H
theorem ex_aload_nN {k : Fin 4} {h : AmH} (hL : L[k.val]? = some .null) (H : Ex X d M cs L (.null :: st) h res) : Ex X d M ((pc, .aload_n k, a, b, c0) :: cs) L st h res := by
  obtain ⟨n, H⟩ := H
  refine ⟨n + 1, ?_⟩
  show am_la L k.val (fun x => am_ex am_P am_Mi am_Nf X n d M cs L (va_rf x :: st) h) = _
  unfold am_la
  rw [hL]
  exact H
theorem ex_ifnullN {i : Int} {h : AmH} (ht : am_at (am_P M) (am_tg pc i) = ct) (H : Ex X d M ct L st h res) : Ex X d M ((pc, .ifnull i, a, b, c0) :: cs) L (.null :: st) h res := by
  obtain ⟨n, H⟩ := H
  subst ht
  exact ⟨n + 1, H⟩
theorem ex_ifnullR {i : Int} {w : Nat} {h : AmH} (H : Ex X d M cs L st h res) : Ex X d M ((pc, .ifnull i, a, b, c0) :: cs) L (.ref w :: st) h res := by
  obtain ⟨n, H⟩ := H
  exact ⟨n + 1, H⟩
end TAKE
-- the array and the length of a Kept
def kp (c : Nat) : Option (Nat × Nat) := match sh_gs c 1 with
  | some ar => (match sh_SH[ar]? with
    | some (_, n) => if sh_k c ar n = true then some (ar, n) else none
    | none => none)
  | none => none
theorem kp_of {c ar n : Nat} (h : kp c = some (ar, n)) : sh_k c ar n = true := by
  unfold kp at h
  split at h
  · split at h
    · split at h
      · cases h
        assumption
      · cases h
    · cases h
  · cases h
def tb_row (S : AmT) (x1 : Int32) : Option AmT := match S.2 x1.toNatClampNeg with
  | none => some S
  | some c => (kp c).map (fun p => ku S p.1 p.2 (S.1 3 x1.toNatClampNeg) (S.1 4 x1.toNatClampNeg))
def g60_22 (F : Nat) : Nat → Int32 → AmT → Option (Int32 × AmT)
  | 0, _, _ => none
  | n + 1, x1, S => if x1 < 0 then some (1, (am_upI (am_upI S.1 1 3 0) 1 4 0, S.2)) else am_ck x1 640 ((tb_row S x1).bind fun S1 => g60_22 F n (x1 + (-1)) S1)
def f60 (F : Nat) (S : AmT) : Option (Int32 × AmT) := if S.1 1 4 = 0 then some (0, S) else am_b2 (f297 F (S.1 1 3) 640 S) fun v S1 => g60_22 F F (v - 1) S1
set_option maxHeartbeats 1000000 in
set_option maxRecDepth 20000 in
theorem e60_22 {Lg : Nat} {xs : Nat → Int32} {d F : Nat} (hd : 1 ≤ d) : ∀ (n : Nat) (x1 : Int32) (w2 : Value) (S : AmT) (q : Int32 × AmT), g60_22 F n x1 S = some q → Ex (am_X Lg xs) d 60 am_c60_22 [.ref 1, .int x1, w2] [] (hS S) (some q.1, hS q.2) := by
  obtain ⟨d, rfl⟩ : ∃ d2, d = d2 + 1 := ⟨d - 1, by omega⟩
  intro n
  induction n with
  | zero =>
    intro x1 w2 S q H
    cases H
  | succ n ih =>
    intro x1 w2 S q H
    have H : (if x1 < 0 then some (1, (am_upI (am_upI S.1 1 3 0) 1 4 0, S.2)) else am_ck x1 640 ((tb_row S x1).bind fun S1 => g60_22 F n (x1 + (-1)) S1)) = some q := H
    refine ex_iload_n rfl ?_
    by_cases h1 : x1 < 0
    · rw [if_pos h1] at H
      have H := Option.some.inj H
      subst H
      refine ex_if_lt_j (ct := am_c60_59) h1 rfl ?_
      refine ex_aload_n rfl ?_
      refine ex_iconst (v := 0) (by decide) ?_
      refine ex_putI rfl (by decide) (fun z => absurd z.1 (by decide)) ?_
      refine ex_aload_n rfl ?_
      refine ex_iconst (v := 0) (by decide) ?_
      refine ex_putI rfl (by decide) (fun z => z.2 (by decide)) ?_
      refine ex_iconst (v := 1) (by decide) ?_
      exact ex_iret (M := 60) (Or.inr ⟨rfl, by decide⟩)
    · rw [if_neg h1] at H
      obtain ⟨hj, H⟩ := am_ck_el H
      refine ex_if_lt_f h1 ?_
      refine ex_aload_n rfl ?_
      refine ex_getR (w := 2) rfl rfl rfl ?_
      refine ex_iload_n rfl ?_
      refine ex_aald (k := 640) rfl rfl hj (w := S.2 x1.toNatClampNeg) rfl ?_
      obtain ⟨S1, hr, H⟩ := Option.bind_eq_some_iff.mp H
      unfold tb_row at hr
      cases hc : S.2 x1.toNatClampNeg with
      | none =>
        rw [hc] at hr
        have hr := Option.some.inj hr
        subst hr
        refine ex_astore_n (L2 := [.ref 1, .int x1, .null]) (Nat.le_of_ble_eq_true rfl) rfl ?_
        refine ex_aload_nN rfl ?_
        refine ex_ifnullN (ct := am_c60_53) rfl ?_
        refine ex_iinc (L2 := [.ref 1, .int (x1 + (-1)), .null]) (v := (x1 + (-1))) rfl (Nat.le_of_ble_eq_true rfl) (congrArg (fun z => x1 + z) (by decide)) rfl ?_
        refine ex_goto (ct := am_c60_22) rfl ?_
        exact ih _ _ _ _ H
      | some c =>
        rw [hc] at hr
        obtain ⟨p, hp, hr⟩ := Option.map_eq_some_iff.mp hr
        obtain ⟨ar, m⟩ := p
        subst hr
        have hk := kp_of hp
        refine ex_astore_n (L2 := [.ref 1, .int x1, .ref c]) (Nat.le_of_ble_eq_true rfl) rfl ?_
        refine ex_aload_n rfl ?_
        refine ex_ifnullR ?_
        refine ex_aload_n rfl ?_
        refine ex_aload_n rfl ?_
        refine ex_getR (w := 3) rfl rfl rfl ?_
        refine ex_iload_n rfl ?_
        refine ex_iald (k := 640) (v := S.1 3 x1.toNatClampNeg) rfl hj rfl ?_
        refine ex_aload_n rfl ?_
        refine ex_getR (w := 4) rfl rfl rfl ?_
        refine ex_iload_n rfl ?_
        refine ex_iald (k := 640) (v := S.1 4 x1.toNatClampNeg) rfl hj rfl ?_
        refine ex_kun hk (Nat.le_of_ble_eq_true rfl) ?_
        refine ex_iinc (L2 := [.ref 1, .int (x1 + (-1)), .ref c]) (v := (x1 + (-1))) rfl (Nat.le_of_ble_eq_true rfl) (congrArg (fun z => x1 + z) (by decide)) rfl ?_
        refine ex_goto (ct := am_c60_22) rfl ?_
        exact ih _ _ _ _ H
set_option maxHeartbeats 1000000 in
set_option maxRecDepth 20000 in
theorem r60 {Lg : Nat} {xs : Nat → Int32} {d F : Nat} {S : AmT} {q : Int32 × AmT} (hd : 1 ≤ d) (H : f60 F S = some q) : Ex (am_X Lg xs) d 60 (am_P 60) (am_ini (am_Mi 60).1 [.ref 1]) [] (hS S) (some q.1, hS q.2) := by
  obtain ⟨d, rfl⟩ : ∃ d2, d = d2 + 1 := ⟨d - 1, by omega⟩
  unfold f60 at H
  show Ex (am_X Lg xs) _ 60 am_c60_0 [.ref 1, .long 0, .long 0] [] (hS S) (some q.1, hS q.2)
  refine ex_aload_n rfl ?_
  refine ex_gI rfl (by decide) ?_
  by_cases h1 : S.1 1 4 = 0
  · rw [if_pos h1] at H
    have H := Option.some.inj H
    subst H
    refine ex_if_ne_f h1 ?_
    refine ex_iconst (v := 0) (by decide) ?_
    exact ex_iret (M := 60) (Or.inr ⟨rfl, by decide⟩)
  · rw [if_neg h1] at H
    refine ex_if_ne_j (ct := am_c60_9) h1 rfl ?_
    refine ex_aload_n rfl ?_
    refine ex_gI rfl (by decide) ?_
    refine ex_sipush (v := 640) (by decide) ?_
    obtain ⟨v, S1, hp, H⟩ := am_b2_el H
    refine ex_callS rfl rfl (Nat.le_of_ble_eq_true rfl) (Nat.le_of_ble_eq_true rfl) (r297 (by omega) hp) rfl ?_
    refine ex_iconst (v := 1) (by decide) ?_
    refine ex_isub ?_
    refine ex_istore_n (L2 := [.ref 1, .int (v - 1), .long 0]) (Nat.le_of_ble_eq_true rfl) rfl ?_
    exact e60_22 (by omega) _ _ _ _ _ H
