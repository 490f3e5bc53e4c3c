/-! a run of the small machine is a run of the Java machine -/
theorem am_1i_el {α : Type} {st : List Value} {k : Int32 → List Value → Option α} {r : α} (H : am_1i st k = some r) : ∃ x t, st = .int x :: t ∧ k x t = some r := by
  unfold am_1i at H
  split at H
  · exact ⟨_, _, rfl, H⟩
  · cases H
theorem am_2i_el {α : Type} {st : List Value} {k : Int32 → Int32 → List Value → Option α} {r : α} (H : am_2i st k = some r) : ∃ x y t, st = .int y :: .int x :: t ∧ k x y t = some r := by
  unfold am_2i at H
  split at H
  · exact ⟨_, _, _, rfl, H⟩
  · cases H
theorem am_1r_el {α : Type} {st : List Value} {k : Nat → List Value → Option α} {r : α} (H : am_1r st k = some r) : ∃ x t, st = .ref x :: t ∧ k x t = some r := by
  unfold am_1r at H
  split at H
  · exact ⟨_, _, rfl, H⟩
  · cases H
theorem am_ia_el {α : Type} {st : List Value} {k : Nat → Int32 → List Value → Option α} {r : α} (H : am_ia st k = some r) : ∃ x j t, st = .int j :: .ref x :: t ∧ k x j t = some r := by
  unfold am_ia at H
  split at H
  · exact ⟨_, _, _, rfl, H⟩
  · cases H
theorem am_iia_el {α : Type} {st : List Value} {k : Nat → Int32 → Int32 → List Value → Option α} {r : α} (H : am_iia st k = some r) : ∃ o j x t, st = .int x :: .int j :: .ref o :: t ∧ k o j x t = some r := by
  unfold am_iia at H
  split at H
  · exact ⟨_, _, _, _, rfl, H⟩
  · cases H
theorem am_ir_el {α : Type} {st : List Value} {k : Nat → Int32 → List Value → Option α} {r : α} (H : am_ir st k = some r) : ∃ o x t, st = .int x :: .ref o :: t ∧ k o x t = some r := by
  unfold am_ir at H
  split at H
  · exact ⟨_, _, _, rfl, H⟩
  · cases H
theorem am_rr_el {α : Type} {st : List Value} {k : Nat → Nat → List Value → Option α} {r : α} (H : am_rr st k = some r) : ∃ o v t, st = .ref v :: .ref o :: t ∧ k o v t = some r := by
  unfold am_rr at H
  split at H
  · exact ⟨_, _, _, rfl, H⟩
  · cases H
theorem am_ria_el {α : Type} {st : List Value} {k : Nat → Int32 → Nat → List Value → Option α} {r : α} (H : am_ria st k = some r) : ∃ o j v t, st = .ref v :: .int j :: .ref o :: t ∧ k o j v t = some r := by
  unfold am_ria at H
  split at H
  · exact ⟨_, _, _, _, rfl, H⟩
  · cases H
theorem am_1v_el {α : Type} {st : List Value} {k : Option Nat → List Value → Option α} {r : α} (H : am_1v st k = some r) : ∃ x t, st = va_rf x :: t ∧ k x t = some r := by
  unfold am_1v at H
  split at H
  · exact ⟨some _, _, rfl, H⟩
  · exact ⟨none, _, rfl, H⟩
  · cases H
theorem am_li_el {α : Type} {L : List Value} {i : Nat} {k : Int32 → Option α} {r : α} (H : am_li L i k = some r) : ∃ x, L[i]? = some (.int x) ∧ k x = some r := by
  unfold am_li at H
  split at H
  · exact ⟨_, by assumption, H⟩
  · cases H
theorem am_la_el {α : Type} {L : List Value} {i : Nat} {k : Option Nat → Option α} {r : α} (H : am_la L i k = some r) : ∃ x, L[i]? = some (va_rf x) ∧ k x = some r := by
  unfold am_la at H
  split at H
  · exact ⟨some _, by assumption, H⟩
  · exact ⟨none, by assumption, H⟩
  · cases H
theorem am_st_el {α : Type} {L : List Value} {i : Nat} {v : Value} {k : List Value → Option α} {r : α} (H : am_st L i v k = some r) : i < L.length ∧ k (L.set i v) = some r := by
  unfold am_st at H
  split at H
  · exact ⟨by assumption, H⟩
  · cases H
theorem am_at_suf (C : AmCd) (pc : Nat) : ∃ i, am_at C pc = C.drop i := by
  unfold am_at
  induction C with
  | nil => exact ⟨0, rfl⟩
  | cons q C ih =>
    by_cases hq : (!(q.1 == pc)) = true
    · obtain ⟨i, hi⟩ := ih
      refine ⟨i + 1, ?_⟩
      rw [List.dropWhile_cons, if_pos hq, hi]
      rfl
    · refine ⟨0, ?_⟩
      rw [List.dropWhile_cons, if_neg hq]
      rfl
theorem am_at_pc {C : AmCd} {pc : Nat} (h : am_at C pc ≠ []) : am_pc (am_at C pc) = pc := by
  unfold am_at at h ⊢
  induction C with
  | nil => exact absurd rfl h
  | cons q C ih =>
    by_cases hq : (!(q.1 == pc)) = true
    · rw [List.dropWhile_cons, if_pos hq] at h ⊢
      exact ih h
    · rw [List.dropWhile_cons, if_neg hq]
      simpa [am_pc] using hq
theorem am_nil {P : Nat → AmCd} {Mi : Nat → Nat × Nat × Nat} {Nf : Nat → Nat} {X : AmX} {n d M : Nat} {cs : AmCd} {L st : List Value} {h : AmH} {res : Option Int32 × AmH} (H : am_ex P Mi Nf X n d M cs L st h = some res) : cs ≠ [] := by
  rintro rfl
  cases n <;> cases H
def am_OKM (M : Nat) : Prop := ∀ (i : Nat) (q : Nat × Instr × Nat × Nat × Nat) (cs : AmCd), (am_P M).drop i = q :: cs → am_okq M q cs = true
abbrev am_C1 (st : List Value) : Prop := ∀ w ∈ st, w.category = 1
theorem am_c1 {v : Value} {st : List Value} (h : v.category = 1) (hs : am_C1 st) : am_C1 (v :: st) := fun w hw => (List.mem_cons.mp hw).elim (fun e => e ▸ h) (hs w)
theorem am_ctl {v : Value} {st : List Value} (hs : am_C1 (v :: st)) : am_C1 st := fun w hw => hs w (List.mem_cons_of_mem _ hw)
theorem am_crf (x : Option Nat) : (va_rf x).category = 1 := by cases x <;> rfl
theorem am_cpush {v : Option Int32} {st : List Value} (hs : am_C1 st) : am_C1 (am_push v st) := by
  cases v
  · exact hs
  · exact am_c1 rfl hs
theorem am_rcv0 {h : AmH} {k : Nat} {as : List Value} (H : am_rcv h 0 k as = true) : ∃ o r, as = .ref o :: r ∧ am_is h o (k + 3) = true := by
  unfold am_rcv at H
  simp only at H
  split at H
  · exact ⟨_, _, rfl, H⟩
  · cases H
theorem am_rcv2 {h : AmH} {k : Nat} {as : List Value} (H : am_rcv h 2 k as = true) : ∃ o r, as = .ref o :: r := by
  unfold am_rcv at H
  simp only at H
  split at H
  · exact ⟨_, _, rfl⟩
  · cases H
theorem am_ML_use {own idx a : Nat} (h : am_MLp.any (fun q => q.1 == own && q.2.1 == idx && q.2.2.1 == a) = true) : Cond.methodLink (am_cn own) idx (am_y a) ∈ am_tbl := by
  obtain ⟨q, -, h2, h3⟩ := am_any h am_ML_ok
  simp only [Bool.and_eq_true, beq_iff_eq, decide_eq_true_eq] at h2 h3
  obtain ⟨⟨rfl, rfl⟩, rfl⟩ := h2
  exact am_in h3 rfl
theorem am_NL_use {own idx a : Nat} (h : am_NLp.any (fun q => q.1 == own && q.2.1 == idx && q.2.2.1 == a) = true) : ∃ host, (own, idx, a, host) ∈ am_NLp.map (fun q => (q.1, q.2.1, q.2.2.1, q.2.2.2.1)) := by
  obtain ⟨q, h1, h2⟩ := List.any_eq_true.mp h
  simp only [Bool.and_eq_true, beq_iff_eq] at h2
  obtain ⟨⟨rfl, rfl⟩, rfl⟩ := h2
  exact ⟨q.2.2.2.1, List.mem_map.mpr ⟨q, h1, rfl⟩⟩
theorem am_split {st as : List Value} {b o : Nat} (h : (st.take b).reverse = .ref o :: as) : st = as.reverse ++ .ref o :: st.drop b := by
  have h1 : st.take b = as.reverse ++ [.ref o] := by
    rw [← List.reverse_reverse (st.take b), h, List.reverse_cons]
  have h2 : as.reverse ++ .ref o :: st.drop b = st.take b ++ st.drop b := by rw [h1, List.append_assoc]; rfl
  rw [h2, List.take_append_drop]
set_option maxHeartbeats 4000000 in
set_option maxRecDepth 100000 in
theorem am_sound (l : Launch) (E : AmE) (D : va_G) (X : AmX) (hOK : ∀ k, k < 300 → am_OKM k) : ∀ (n d M : Nat) (cs : AmCd) (L st : List Value) (h : AmH) (res : Option Int32 × AmH), am_ex am_P am_Mi am_Nf X n d M cs L st h = some res → M < 300 → (∃ i, cs = (am_P M).drop i) → am_C1 st → (h.1.length ≤ res.2.1.length ∧ am_sl h ≤ am_sl res.2) ∧ am_J l E D X d M cs L st h res := by
  intro n
  induction n with
  | zero =>
    intro d M cs L st h res H
    cases H
  | succ n ih =>
    intro d M cs L st h res H hM hsuf hst
    cases cs with
    | nil => exact absurd rfl (am_nil H)
    | cons q cs =>
    obtain ⟨pc, i, a, b, c0⟩ := q
    obtain ⟨j, hj⟩ := hsuf
    have ok := hOK M hM j _ cs hj.symm
    have hsuf : ∃ i, cs = (am_P M).drop i := ⟨j + 1, by rw [← List.tail_drop, ← hj]; rfl⟩
    cases i
    case iload k =>
      have H : (am_li L k fun x => am_ex am_P am_Mi am_Nf X n d M cs L (.int x :: st) h) = some res := H
      obtain ⟨x, hL, H⟩ := am_li_el H
      have r := ih d M cs L (.int x :: st) h res H hM hsuf (am_c1 rfl hst)
      exact ⟨r.1, am_j_iload ok hL r.2⟩
    case iload_n k =>
      have H : (am_li L k.val fun x => am_ex am_P am_Mi am_Nf X n d M cs L (.int x :: st) h) = some res := H
      obtain ⟨x, hL, H⟩ := am_li_el H
      have r := ih d M cs L (.int x :: st) h res H hM hsuf (am_c1 rfl hst)
      exact ⟨r.1, am_j_iload_n ok hL r.2⟩
    case aload k =>
      have H : (am_la L k fun x => am_ex am_P am_Mi am_Nf X n d M cs L (va_rf x :: st) h) = some res := H
      obtain ⟨x, hL, H⟩ := am_la_el H
      have r := ih d M cs L (va_rf x :: st) h res H hM hsuf (am_c1 (am_crf x) hst)
      exact ⟨r.1, am_j_aload ok hL r.2⟩
    case aload_n k =>
      have H : (am_la L k.val fun x => am_ex am_P am_Mi am_Nf X n d M cs L (va_rf x :: st) h) = some res := H
      obtain ⟨x, hL, H⟩ := am_la_el H
      have r := ih d M cs L (va_rf x :: st) h res H hM hsuf (am_c1 (am_crf x) hst)
      exact ⟨r.1, am_j_aload_n ok hL r.2⟩
    case istore k =>
      have H : (am_1i st fun x r => am_st L k (.int x) fun L' => am_ex am_P am_Mi am_Nf X n d M cs L' r h) = some res := H
      obtain ⟨x, t, e0, H1⟩ := am_1i_el H
      subst e0
      have H := H1
      obtain ⟨hi, H⟩ := am_st_el H
      have r := ih d M cs (L.set k (.int x)) t h res H hM hsuf (am_ctl hst)
      exact ⟨r.1, am_j_istore ok hi r.2⟩
    case istore_n k =>
      have H : (am_1i st fun x r => am_st L k.val (.int x) fun L' => am_ex am_P am_Mi am_Nf X n d M cs L' r h) = some res := H
      obtain ⟨x, t, e0, H1⟩ := am_1i_el H
      subst e0
      have H := H1
      obtain ⟨hi, H⟩ := am_st_el H
      have r := ih d M cs (L.set k.val (.int x)) t h res H hM hsuf (am_ctl hst)
      exact ⟨r.1, am_j_istore_n ok hi r.2⟩
    case astore k =>
      have H : (am_1v st fun x r => am_st L k (va_rf x) fun L' => am_ex am_P am_Mi am_Nf X n d M cs L' r h) = some res := H
      obtain ⟨x, t, e0, H1⟩ := am_1v_el H
      subst e0
      have H := H1
      obtain ⟨hi, H⟩ := am_st_el H
      have r := ih d M cs (L.set k (va_rf x)) t h res H hM hsuf (am_ctl hst)
      exact ⟨r.1, am_j_astore ok hi r.2⟩
    case astore_n k =>
      have H : (am_1v st fun x r => am_st L k.val (va_rf x) fun L' => am_ex am_P am_Mi am_Nf X n d M cs L' r h) = some res := H
      obtain ⟨x, t, e0, H1⟩ := am_1v_el H
      subst e0
      have H := H1
      obtain ⟨hi, H⟩ := am_st_el H
      have r := ih d M cs (L.set k.val (va_rf x)) t h res H hM hsuf (am_ctl hst)
      exact ⟨r.1, am_j_astore_n ok hi r.2⟩
    case iconst v =>
      have H : (am_ex am_P am_Mi am_Nf X n d M cs L (.int (Int32.ofInt v) :: st) h) = some res := H
      have r := ih d M cs L (.int (Int32.ofInt v) :: st) h res H hM hsuf (am_c1 rfl hst)
      exact ⟨r.1, am_j_iconst ok r.2⟩
    case bipush v =>
      have H : (am_ex am_P am_Mi am_Nf X n d M cs L (.int (Int8.ofInt v).toInt32 :: st) h) = some res := H
      have r := ih d M cs L (.int ((Int8.ofInt v).toInt32) :: st) h res H hM hsuf (am_c1 rfl hst)
      exact ⟨r.1, am_j_bipush ok r.2⟩
    case sipush v =>
      have H : (am_ex am_P am_Mi am_Nf X n d M cs L (.int (Int16.ofInt v).toInt32 :: st) h) = some res := H
      have r := ih d M cs L (.int ((Int16.ofInt v).toInt32) :: st) h res H hM hsuf (am_c1 rfl hst)
      exact ⟨r.1, am_j_sipush ok r.2⟩
    case iinc k v =>
      have H : (am_li L k fun x => am_st L k (.int (x + Int32.ofInt v)) fun L' => am_ex am_P am_Mi am_Nf X n d M cs L' st h) = some res := H
      obtain ⟨x, hL, H⟩ := am_li_el H
      obtain ⟨-, H⟩ := am_st_el H
      have r := ih d M cs (L.set k (.int (x + Int32.ofInt v))) st h res H hM hsuf hst
      exact ⟨r.1, am_j_iinc ok hL r.2⟩
    case iadd =>
      have H : (am_2i st fun x y r => am_ex am_P am_Mi am_Nf X n d M cs L (.int (x + y) :: r) h) = some res := H
      obtain ⟨x, y, t, e0, H1⟩ := am_2i_el H
      subst e0
      have H := H1
      have r := ih d M cs L (.int (x + y) :: t) h res H hM hsuf (am_c1 rfl (am_ctl (am_ctl hst)))
      exact ⟨r.1, am_j_iadd ok r.2⟩
    case isub =>
      have H : (am_2i st fun x y r => am_ex am_P am_Mi am_Nf X n d M cs L (.int (x - y) :: r) h) = some res := H
      obtain ⟨x, y, t, e0, H1⟩ := am_2i_el H
      subst e0
      have H := H1
      have r := ih d M cs L (.int (x - y) :: t) h res H hM hsuf (am_c1 rfl (am_ctl (am_ctl hst)))
      exact ⟨r.1, am_j_isub ok r.2⟩
    case imul =>
      have H : (am_2i st fun x y r => am_ex am_P am_Mi am_Nf X n d M cs L (.int (x * y) :: r) h) = some res := H
      obtain ⟨x, y, t, e0, H1⟩ := am_2i_el H
      subst e0
      have H := H1
      have r := ih d M cs L (.int (x * y) :: t) h res H hM hsuf (am_c1 rfl (am_ctl (am_ctl hst)))
      exact ⟨r.1, am_j_imul ok r.2⟩
    case iand =>
      have H : (am_2i st fun x y r => am_ex am_P am_Mi am_Nf X n d M cs L (.int (x &&& y) :: r) h) = some res := H
      obtain ⟨x, y, t, e0, H1⟩ := am_2i_el H
      subst e0
      have H := H1
      have r := ih d M cs L (.int (x &&& y) :: t) h res H hM hsuf (am_c1 rfl (am_ctl (am_ctl hst)))
      exact ⟨r.1, am_j_iand ok r.2⟩
    case ixor =>
      have H : (am_2i st fun x y r => am_ex am_P am_Mi am_Nf X n d M cs L (.int (x ^^^ y) :: r) h) = some res := H
      obtain ⟨x, y, t, e0, H1⟩ := am_2i_el H
      subst e0
      have H := H1
      have r := ih d M cs L (.int (x ^^^ y) :: t) h res H hM hsuf (am_c1 rfl (am_ctl (am_ctl hst)))
      exact ⟨r.1, am_j_ixor ok r.2⟩
    case ishr =>
      have H : (am_2i st fun x y r => am_ex am_P am_Mi am_Nf X n d M cs L (.int (x >>> (y &&& 31)) :: r) h) = some res := H
      obtain ⟨x, y, t, e0, H1⟩ := am_2i_el H
      subst e0
      have H := H1
      have r := ih d M cs L (.int (x >>> (y &&& 31)) :: t) h res H hM hsuf (am_c1 rfl (am_ctl (am_ctl hst)))
      exact ⟨r.1, am_j_ishr ok r.2⟩
    case idiv =>
      have H : (am_2i st fun x y r => if y = 0 then none else am_ex am_P am_Mi am_Nf X n d M cs L (.int (x / y) :: r) h) = some res := H
      obtain ⟨x, y, t, e0, H1⟩ := am_2i_el H
      subst e0
      have H := H1
      by_cases hy : y = 0
      · simp only [hy, if_true] at H; cases H
      · simp only [hy, if_false] at H
        have r := ih d M cs L (.int (x / y) :: t) h res H hM hsuf (am_c1 rfl (am_ctl (am_ctl hst)))
        exact ⟨r.1, am_j_idiv ok hy r.2⟩
    case irem =>
      have H : (am_2i st fun x y r => if y = 0 then none else am_ex am_P am_Mi am_Nf X n d M cs L (.int (x - x / y * y) :: r) h) = some res := H
      obtain ⟨x, y, t, e0, H1⟩ := am_2i_el H
      subst e0
      have H := H1
      by_cases hy : y = 0
      · simp only [hy, if_true] at H; cases H
      · simp only [hy, if_false] at H
        have r := ih d M cs L (.int (x - x / y * y) :: t) h res H hM hsuf (am_c1 rfl (am_ctl (am_ctl hst)))
        exact ⟨r.1, am_j_irem ok hy r.2⟩
    case dup =>
      cases st with
      | nil => exact absurd (show (none : Option (Option Int32 × AmH)) = some res from H) (by simp)
      | cons v t =>
        cases v
        case int x =>
          have r := ih d M cs L (.int x :: .int x :: t) h res H hM hsuf (am_c1 rfl hst)
          exact ⟨r.1, am_j_dupi ok r.2⟩
        case ref x =>
          have r := ih d M cs L (.ref x :: .ref x :: t) h res H hM hsuf (am_c1 rfl hst)
          exact ⟨r.1, am_j_dupr ok r.2⟩
        all_goals exact absurd (show (none : Option (Option Int32 × AmH)) = some res from H) (by simp)
    case dup2 =>
      have H : (am_ia st fun x j r => am_ex am_P am_Mi am_Nf X n d M cs L (.int j :: .ref x :: .int j :: .ref x :: r) h) = some res := H
      obtain ⟨x, j2, t, e0, H1⟩ := am_ia_el H
      subst e0
      have H := H1
      have r := ih d M cs L (.int j2 :: .ref x :: .int j2 :: .ref x :: t) h res H hM hsuf (am_c1 rfl (am_c1 rfl hst))
      exact ⟨r.1, am_j_dup2 ok r.2⟩
    case goto o =>
      have H : (am_ex am_P am_Mi am_Nf X n d M (am_at (am_P M) (am_tg pc o)) L st h) = some res := H
      have r := ih d M (am_at (am_P M) (am_tg pc o)) L st h res H hM (am_at_suf _ _) hst
      exact ⟨r.1, am_j_goto ok (am_at_pc (am_nil H)) r.2⟩
    case ifCond cd o =>
      cases cd
      case eq =>
        have H : (am_1i st fun x r => if x = 0 then am_ex am_P am_Mi am_Nf X n d M (am_at (am_P M) (am_tg pc o)) L r h else am_ex am_P am_Mi am_Nf X n d M cs L r h) = some res := H
        obtain ⟨x, t, e0, H1⟩ := am_1i_el H
        subst e0
        have H := H1
        by_cases hc : x = 0
        · rw [if_pos hc] at H
          have r := ih d M (am_at (am_P M) (am_tg pc o)) L t h res H hM (am_at_suf _ _) (am_ctl hst)
          exact ⟨r.1, am_j_if_eq ok (fun _ => am_at_pc (am_nil H)) (fun _ => r.2) (fun q => absurd hc q)⟩
        · rw [if_neg hc] at H
          have r := ih d M cs L t h res H hM hsuf (am_ctl hst)
          exact ⟨r.1, am_j_if_eq (ct := am_at (am_P M) (am_tg pc o)) ok (fun q => absurd q hc) (fun q => absurd q hc) (fun _ => r.2)⟩
      case ne =>
        have H : (am_1i st fun x r => if x = 0 then am_ex am_P am_Mi am_Nf X n d M cs L r h else am_ex am_P am_Mi am_Nf X n d M (am_at (am_P M) (am_tg pc o)) L r h) = some res := H
        obtain ⟨x, t, e0, H1⟩ := am_1i_el H
        subst e0
        have H := H1
        by_cases hc : x = 0
        · rw [if_pos hc] at H
          have r := ih d M cs L t h res H hM hsuf (am_ctl hst)
          exact ⟨r.1, am_j_if_ne (ct := am_at (am_P M) (am_tg pc o)) ok (fun q => absurd hc q) (fun q => absurd hc q) (fun _ => r.2)⟩
        · rw [if_neg hc] at H
          have r := ih d M (am_at (am_P M) (am_tg pc o)) L t h res H hM (am_at_suf _ _) (am_ctl hst)
          exact ⟨r.1, am_j_if_ne ok (fun _ => am_at_pc (am_nil H)) (fun _ => r.2) (fun q => absurd q hc)⟩
      case lt =>
        have H : (am_1i st fun x r => if x < 0 then am_ex am_P am_Mi am_Nf X n d M (am_at (am_P M) (am_tg pc o)) L r h else am_ex am_P am_Mi am_Nf X n d M cs L r h) = some res := H
        obtain ⟨x, t, e0, H1⟩ := am_1i_el H
        subst e0
        have H := H1
        by_cases hc : x < 0
        · rw [if_pos hc] at H
          have r := ih d M (am_at (am_P M) (am_tg pc o)) L t h res H hM (am_at_suf _ _) (am_ctl hst)
          exact ⟨r.1, am_j_if_lt ok (fun _ => am_at_pc (am_nil H)) (fun _ => r.2) (fun q => absurd hc q)⟩
        · rw [if_neg hc] at H
          have r := ih d M cs L t h res H hM hsuf (am_ctl hst)
          exact ⟨r.1, am_j_if_lt (ct := am_at (am_P M) (am_tg pc o)) ok (fun q => absurd q hc) (fun q => absurd q hc) (fun _ => r.2)⟩
      case ge =>
        have H : (am_1i st fun x r => if 0 ≤ x then am_ex am_P am_Mi am_Nf X n d M (am_at (am_P M) (am_tg pc o)) L r h else am_ex am_P am_Mi am_Nf X n d M cs L r h) = some res := H
        obtain ⟨x, t, e0, H1⟩ := am_1i_el H
        subst e0
        have H := H1
        by_cases hc : 0 ≤ x
        · rw [if_pos hc] at H
          have r := ih d M (am_at (am_P M) (am_tg pc o)) L t h res H hM (am_at_suf _ _) (am_ctl hst)
          exact ⟨r.1, am_j_if_ge ok (fun _ => am_at_pc (am_nil H)) (fun _ => r.2) (fun q => absurd hc q)⟩
        · rw [if_neg hc] at H
          have r := ih d M cs L t h res H hM hsuf (am_ctl hst)
          exact ⟨r.1, am_j_if_ge (ct := am_at (am_P M) (am_tg pc o)) ok (fun q => absurd q hc) (fun q => absurd q hc) (fun _ => r.2)⟩
      case gt =>
        have H : (am_1i st fun x r => if 0 < x then am_ex am_P am_Mi am_Nf X n d M (am_at (am_P M) (am_tg pc o)) L r h else am_ex am_P am_Mi am_Nf X n d M cs L r h) = some res := H
        obtain ⟨x, t, e0, H1⟩ := am_1i_el H
        subst e0
        have H := H1
        by_cases hc : 0 < x
        · rw [if_pos hc] at H
          have r := ih d M (am_at (am_P M) (am_tg pc o)) L t h res H hM (am_at_suf _ _) (am_ctl hst)
          exact ⟨r.1, am_j_if_gt ok (fun _ => am_at_pc (am_nil H)) (fun _ => r.2) (fun q => absurd hc q)⟩
        · rw [if_neg hc] at H
          have r := ih d M cs L t h res H hM hsuf (am_ctl hst)
          exact ⟨r.1, am_j_if_gt (ct := am_at (am_P M) (am_tg pc o)) ok (fun q => absurd q hc) (fun q => absurd q hc) (fun _ => r.2)⟩
      case le =>
        have H : (am_1i st fun x r => if x ≤ 0 then am_ex am_P am_Mi am_Nf X n d M (am_at (am_P M) (am_tg pc o)) L r h else am_ex am_P am_Mi am_Nf X n d M cs L r h) = some res := H
        obtain ⟨x, t, e0, H1⟩ := am_1i_el H
        subst e0
        have H := H1
        by_cases hc : x ≤ 0
        · rw [if_pos hc] at H
          have r := ih d M (am_at (am_P M) (am_tg pc o)) L t h res H hM (am_at_suf _ _) (am_ctl hst)
          exact ⟨r.1, am_j_if_le ok (fun _ => am_at_pc (am_nil H)) (fun _ => r.2) (fun q => absurd hc q)⟩
        · rw [if_neg hc] at H
          have r := ih d M cs L t h res H hM hsuf (am_ctl hst)
          exact ⟨r.1, am_j_if_le (ct := am_at (am_P M) (am_tg pc o)) ok (fun q => absurd q hc) (fun q => absurd q hc) (fun _ => r.2)⟩
    case if_icmp cd o =>
      cases cd
      case eq =>
        have H : (am_2i st fun x y r => if x = y then am_ex am_P am_Mi am_Nf X n d M (am_at (am_P M) (am_tg pc o)) L r h else am_ex am_P am_Mi am_Nf X n d M cs L r h) = some res := H
        obtain ⟨x, y, t, e0, H1⟩ := am_2i_el H
        subst e0
        have H := H1
        by_cases hc : x = y
        · rw [if_pos hc] at H
          have r := ih d M (am_at (am_P M) (am_tg pc o)) L t h res H hM (am_at_suf _ _) (am_ctl (am_ctl hst))
          exact ⟨r.1, am_j_icmp_eq ok (fun _ => am_at_pc (am_nil H)) (fun _ => r.2) (fun q => absurd hc q)⟩
        · rw [if_neg hc] at H
          have r := ih d M cs L t h res H hM hsuf (am_ctl (am_ctl hst))
          exact ⟨r.1, am_j_icmp_eq (ct := am_at (am_P M) (am_tg pc o)) ok (fun q => absurd q hc) (fun q => absurd q hc) (fun _ => r.2)⟩
      case ne =>
        have H : (am_2i st fun x y r => if x = y then am_ex am_P am_Mi am_Nf X n d M cs L r h else am_ex am_P am_Mi am_Nf X n d M (am_at (am_P M) (am_tg pc o)) L r h) = some res := H
        obtain ⟨x, y, t, e0, H1⟩ := am_2i_el H
        subst e0
        have H := H1
        by_cases hc : x = y
        · rw [if_pos hc] at H
          have r := ih d M cs L t h res H hM hsuf (am_ctl (am_ctl hst))
          exact ⟨r.1, am_j_icmp_ne (ct := am_at (am_P M) (am_tg pc o)) ok (fun q => absurd hc q) (fun q => absurd hc q) (fun _ => r.2)⟩
        · rw [if_neg hc] at H
          have r := ih d M (am_at (am_P M) (am_tg pc o)) L t h res H hM (am_at_suf _ _) (am_ctl (am_ctl hst))
          exact ⟨r.1, am_j_icmp_ne ok (fun _ => am_at_pc (am_nil H)) (fun _ => r.2) (fun q => absurd q hc)⟩
      case lt =>
        have H : (am_2i st fun x y r => if x < y then am_ex am_P am_Mi am_Nf X n d M (am_at (am_P M) (am_tg pc o)) L r h else am_ex am_P am_Mi am_Nf X n d M cs L r h) = some res := H
        obtain ⟨x, y, t, e0, H1⟩ := am_2i_el H
        subst e0
        have H := H1
        by_cases hc : x < y
        · rw [if_pos hc] at H
          have r := ih d M (am_at (am_P M) (am_tg pc o)) L t h res H hM (am_at_suf _ _) (am_ctl (am_ctl hst))
          exact ⟨r.1, am_j_icmp_lt ok (fun _ => am_at_pc (am_nil H)) (fun _ => r.2) (fun q => absurd hc q)⟩
        · rw [if_neg hc] at H
          have r := ih d M cs L t h res H hM hsuf (am_ctl (am_ctl hst))
          exact ⟨r.1, am_j_icmp_lt (ct := am_at (am_P M) (am_tg pc o)) ok (fun q => absurd q hc) (fun q => absurd q hc) (fun _ => r.2)⟩
      case ge =>
        have H : (am_2i st fun x y r => if y ≤ x then am_ex am_P am_Mi am_Nf X n d M (am_at (am_P M) (am_tg pc o)) L r h else am_ex am_P am_Mi am_Nf X n d M cs L r h) = some res := H
        obtain ⟨x, y, t, e0, H1⟩ := am_2i_el H
        subst e0
        have H := H1
        by_cases hc : y ≤ x
        · rw [if_pos hc] at H
          have r := ih d M (am_at (am_P M) (am_tg pc o)) L t h res H hM (am_at_suf _ _) (am_ctl (am_ctl hst))
          exact ⟨r.1, am_j_icmp_ge ok (fun _ => am_at_pc (am_nil H)) (fun _ => r.2) (fun q => absurd hc q)⟩
        · rw [if_neg hc] at H
          have r := ih d M cs L t h res H hM hsuf (am_ctl (am_ctl hst))
          exact ⟨r.1, am_j_icmp_ge (ct := am_at (am_P M) (am_tg pc o)) ok (fun q => absurd q hc) (fun q => absurd q hc) (fun _ => r.2)⟩
      case gt =>
        have H : (am_2i st fun x y r => if y < x then am_ex am_P am_Mi am_Nf X n d M (am_at (am_P M) (am_tg pc o)) L r h else am_ex am_P am_Mi am_Nf X n d M cs L r h) = some res := H
        obtain ⟨x, y, t, e0, H1⟩ := am_2i_el H
        subst e0
        have H := H1
        by_cases hc : y < x
        · rw [if_pos hc] at H
          have r := ih d M (am_at (am_P M) (am_tg pc o)) L t h res H hM (am_at_suf _ _) (am_ctl (am_ctl hst))
          exact ⟨r.1, am_j_icmp_gt ok (fun _ => am_at_pc (am_nil H)) (fun _ => r.2) (fun q => absurd hc q)⟩
        · rw [if_neg hc] at H
          have r := ih d M cs L t h res H hM hsuf (am_ctl (am_ctl hst))
          exact ⟨r.1, am_j_icmp_gt (ct := am_at (am_P M) (am_tg pc o)) ok (fun q => absurd q hc) (fun q => absurd q hc) (fun _ => r.2)⟩
      case le =>
        have H : (am_2i st fun x y r => if x ≤ y then am_ex am_P am_Mi am_Nf X n d M (am_at (am_P M) (am_tg pc o)) L r h else am_ex am_P am_Mi am_Nf X n d M cs L r h) = some res := H
        obtain ⟨x, y, t, e0, H1⟩ := am_2i_el H
        subst e0
        have H := H1
        by_cases hc : x ≤ y
        · rw [if_pos hc] at H
          have r := ih d M (am_at (am_P M) (am_tg pc o)) L t h res H hM (am_at_suf _ _) (am_ctl (am_ctl hst))
          exact ⟨r.1, am_j_icmp_le ok (fun _ => am_at_pc (am_nil H)) (fun _ => r.2) (fun q => absurd hc q)⟩
        · rw [if_neg hc] at H
          have r := ih d M cs L t h res H hM hsuf (am_ctl (am_ctl hst))
          exact ⟨r.1, am_j_icmp_le (ct := am_at (am_P M) (am_tg pc o)) ok (fun q => absurd q hc) (fun q => absurd q hc) (fun _ => r.2)⟩
    case ifnull o =>
      have H : (am_1v st fun x r => (match x with | none => am_ex am_P am_Mi am_Nf X n d M (am_at (am_P M) (am_tg pc o)) L r h | some _ => am_ex am_P am_Mi am_Nf X n d M cs L r h)) = some res := H
      obtain ⟨x, t, e0, H1⟩ := am_1v_el H
      subst e0
      have H := H1
      cases x with
      | none =>
        have r := ih d M (am_at (am_P M) (am_tg pc o)) L t h res H hM (am_at_suf _ _) (am_ctl hst)
        exact ⟨r.1, am_j_ifnullN ok (am_at_pc (am_nil H)) r.2⟩
      | some x =>
        have r := ih d M cs L t h res H hM hsuf (am_ctl hst)
        exact ⟨r.1, am_j_ifnullR ok r.2⟩
    case tableswitch df lo hi offs =>
      have H : (am_1i st fun x r => am_ex am_P am_Mi am_Nf X n d M (am_at (am_P M) (am_tg pc (am_sw df lo hi offs x))) L r h) = some res := H
      obtain ⟨x, t, e0, H1⟩ := am_1i_el H
      subst e0
      have H := H1
      have r := ih d M (am_at (am_P M) (am_tg pc (am_sw df lo hi offs x))) L t h res H hM (am_at_suf _ _) (am_ctl hst)
      exact ⟨r.1, am_j_table ok (am_at_pc (am_nil H)) r.2⟩
    case lookupswitch df ps =>
      have H : (am_1i st fun x r => am_ex am_P am_Mi am_Nf X n d M (am_at (am_P M) (am_tg pc (Op.lookupswitch.offset ps.toList df x.toInt))) L r h) = some res := H
      obtain ⟨x, t, e0, H1⟩ := am_1i_el H
      subst e0
      have H := H1
      have r := ih d M (am_at (am_P M) (am_tg pc (Op.lookupswitch.offset ps.toList df x.toInt))) L t h res H hM (am_at_suf _ _) (am_ctl hst)
      exact ⟨r.1, am_j_look ok (am_at_pc (am_nil H)) r.2⟩
    case getfield k =>
      have H : (am_1r st fun o r => if am_is h o (a + 3) = true then (if c0 = 1 then am_ex am_P am_Mi am_Nf X n d M cs L (va_rf (h.2.2 o b) :: r) h else am_ex am_P am_Mi am_Nf X n d M cs L (.int (h.2.1 o b) :: r) h) else none) = some res := H
      obtain ⟨o, t, e0, H1⟩ := am_1r_el H
      subst e0
      have H := H1
      by_cases ho : am_is h o (a + 3) = true
      · rw [if_pos ho] at H
        by_cases hc : c0 = 1
        · rw [if_pos hc] at H
          have r := ih d M cs L (va_rf (h.2.2 o b) :: t) h res H hM hsuf (am_c1 (am_crf _) (am_ctl hst))
          exact ⟨r.1, am_j_get ok ho (by rw [if_pos hc]; exact r.2)⟩
        · rw [if_neg hc] at H
          have r := ih d M cs L (.int (h.2.1 o b) :: t) h res H hM hsuf (am_c1 rfl (am_ctl hst))
          exact ⟨r.1, am_j_get ok ho (by rw [if_neg hc]; exact r.2)⟩
      · rw [if_neg ho] at H; cases H
    case putfield k =>
      have H2 : (if c0 = 1 then am_rr st fun o v r => (if am_is h o (a + 3) = true then am_ex am_P am_Mi am_Nf X n d M cs L r (h.1, h.2.1, am_upG h.2.2 o b (some v)) else none) else am_ir st fun o x r => (if am_is h o (a + 3) = true then (if c0 = 2 ∧ ¬ (x = 0 ∨ x = 1) then none else am_ex am_P am_Mi am_Nf X n d M cs L r (h.1, am_upI h.2.1 o b x, h.2.2)) else none)) = some res := H
      by_cases hc : c0 = 1
      · rw [if_pos hc] at H2
        obtain ⟨o, v, t, e0, H1⟩ := am_rr_el H2
        subst e0
        have H := H1
        by_cases ho : am_is h o (a + 3) = true
        · rw [if_pos ho] at H
          have r := ih d M cs L t (h.1, h.2.1, am_upG h.2.2 o b (some v)) res H hM hsuf (am_ctl (am_ctl hst))
          exact ⟨r.1, am_j_putr ok hc ho r.2⟩
        · rw [if_neg ho] at H; cases H
      · rw [if_neg hc] at H2
        obtain ⟨o, x, t, e0, H1⟩ := am_ir_el H2
        subst e0
        have H := H1
        by_cases ho : am_is h o (a + 3) = true
        · rw [if_pos ho] at H
          by_cases hx : c0 = 2 ∧ ¬ (x = 0 ∨ x = 1)
          · rw [if_pos hx] at H; cases H
          · rw [if_neg hx] at H
            have r := ih d M cs L t (h.1, am_upI h.2.1 o b x, h.2.2) res H hM hsuf (am_ctl (am_ctl hst))
            exact ⟨r.1, am_j_puti ok hc (fun q => Classical.byContradiction (fun z => hx ⟨q, z⟩)) ho r.2⟩
        · rw [if_neg ho] at H; cases H
    case iaload =>
      have H : (am_ia st fun o j r => (match am_arr X h 0 o with | some (k, f) => if j < 0 ∨ k ≤ j.toNatClampNeg then none else am_ex am_P am_Mi am_Nf X n d M cs L (.int (f j.toNatClampNeg) :: r) h | none => none)) = some res := H
      obtain ⟨o, j2, t, e0, H1⟩ := am_ia_el H
      subst e0
      have H := H1
      cases ha : am_arr X h 0 o with
      | none => rw [ha] at H; cases H
      | some q =>
        obtain ⟨k, f⟩ := q
        rw [ha] at H
        have H : (if j2 < 0 ∨ k ≤ j2.toNatClampNeg then none else am_ex am_P am_Mi am_Nf X n d M cs L (.int (f j2.toNatClampNeg) :: t) h) = some res := H
        by_cases hx : j2 < 0 ∨ k ≤ j2.toNatClampNeg
        · rw [if_pos hx] at H; cases H
        · rw [if_neg hx] at H
          have r := ih d M cs L (.int (f j2.toNatClampNeg) :: t) h res H hM hsuf (am_c1 rfl (am_ctl (am_ctl hst)))
          exact ⟨r.1, am_j_iaload ok ha hx r.2⟩
    case baload =>
      have H : (am_ia st fun o j r => (match am_arr X h 1 o with | some (k, f) => if j < 0 ∨ k ≤ j.toNatClampNeg then none else am_ex am_P am_Mi am_Nf X n d M cs L (.int (f j.toNatClampNeg) :: r) h | none => none)) = some res := H
      obtain ⟨o, j2, t, e0, H1⟩ := am_ia_el H
      subst e0
      have H := H1
      cases ha : am_arr X h 1 o with
      | none => rw [ha] at H; cases H
      | some q =>
        obtain ⟨k, f⟩ := q
        rw [ha] at H
        have H : (if j2 < 0 ∨ k ≤ j2.toNatClampNeg then none else am_ex am_P am_Mi am_Nf X n d M cs L (.int (f j2.toNatClampNeg) :: t) h) = some res := H
        by_cases hx : j2 < 0 ∨ k ≤ j2.toNatClampNeg
        · rw [if_pos hx] at H; cases H
        · rw [if_neg hx] at H
          have r := ih d M cs L (.int (f j2.toNatClampNeg) :: t) h res H hM hsuf (am_c1 rfl (am_ctl (am_ctl hst)))
          exact ⟨r.1, am_j_baload ok ha hx r.2⟩
    case aaload =>
      have H : (am_ia st fun o j r => if am_is h o 2 = true then (match am_len X h o with | some k => if j < 0 ∨ k ≤ j.toNatClampNeg then none else am_ex am_P am_Mi am_Nf X n d M cs L (va_rf (h.2.2 o j.toNatClampNeg) :: r) h | none => none) else none) = some res := H
      obtain ⟨o, j2, t, e0, H1⟩ := am_ia_el H
      subst e0
      have H := H1
      by_cases hi : am_is h o 2 = true
      · rw [if_pos hi] at H
        cases ha : am_len X h o with
        | none => rw [ha] at H; cases H
        | some k =>
          rw [ha] at H
          have H : (if j2 < 0 ∨ k ≤ j2.toNatClampNeg then none else am_ex am_P am_Mi am_Nf X n d M cs L (va_rf (h.2.2 o j2.toNatClampNeg) :: t) h) = some res := H
          by_cases hx : j2 < 0 ∨ k ≤ j2.toNatClampNeg
          · rw [if_pos hx] at H; cases H
          · rw [if_neg hx] at H
            have r := ih d M cs L (va_rf (h.2.2 o j2.toNatClampNeg) :: t) h res H hM hsuf (am_c1 (am_crf _) (am_ctl (am_ctl hst)))
            exact ⟨r.1, am_j_aaload ok hi ha hx r.2⟩
      · rw [if_neg hi] at H; cases H
    case iastore =>
      have H : (am_iia st fun o j x r => if am_is h o 0 = true then (match am_len X h o with | some k => if j < 0 ∨ k ≤ j.toNatClampNeg then none else am_ex am_P am_Mi am_Nf X n d M cs L r (h.1, am_upI h.2.1 o j.toNatClampNeg x, h.2.2) | none => none) else none) = some res := H
      obtain ⟨o, j2, x, t, e0, H1⟩ := am_iia_el H
      subst e0
      have H := H1
      by_cases hi : am_is h o 0 = true
      · rw [if_pos hi] at H
        cases ha : am_len X h o with
        | none => rw [ha] at H; cases H
        | some k =>
          rw [ha] at H
          have H : (if j2 < 0 ∨ k ≤ j2.toNatClampNeg then none else am_ex am_P am_Mi am_Nf X n d M cs L t (h.1, am_upI h.2.1 o j2.toNatClampNeg x, h.2.2)) = some res := H
          by_cases hx : j2 < 0 ∨ k ≤ j2.toNatClampNeg
          · rw [if_pos hx] at H; cases H
          · rw [if_neg hx] at H
            have r := ih d M cs L t (h.1, am_upI h.2.1 o j2.toNatClampNeg x, h.2.2) res H hM hsuf (am_ctl (am_ctl (am_ctl hst)))
            exact ⟨r.1, am_j_iastore ok hi ha hx r.2⟩
      · rw [if_neg hi] at H; cases H
    case bastore =>
      have H : (am_iia st fun o j x r => if am_is h o 1 = true then (match am_len X h o with | some k => if j < 0 ∨ k ≤ j.toNatClampNeg then none else (if x = 0 ∨ x = 1 then am_ex am_P am_Mi am_Nf X n d M cs L r (h.1, am_upI h.2.1 o j.toNatClampNeg x, h.2.2) else none) | none => none) else none) = some res := H
      obtain ⟨o, j2, x, t, e0, H1⟩ := am_iia_el H
      subst e0
      have H := H1
      by_cases hi : am_is h o 1 = true
      · rw [if_pos hi] at H
        cases ha : am_len X h o with
        | none => rw [ha] at H; cases H
        | some k =>
          rw [ha] at H
          have H : (if j2 < 0 ∨ k ≤ j2.toNatClampNeg then none else (if x = 0 ∨ x = 1 then am_ex am_P am_Mi am_Nf X n d M cs L t (h.1, am_upI h.2.1 o j2.toNatClampNeg x, h.2.2) else none)) = some res := H
          by_cases hx : j2 < 0 ∨ k ≤ j2.toNatClampNeg
          · rw [if_pos hx] at H; cases H
          · rw [if_neg hx] at H
            by_cases h01 : x = 0 ∨ x = 1
            · rw [if_pos h01] at H
              have r := ih d M cs L t (h.1, am_upI h.2.1 o j2.toNatClampNeg x, h.2.2) res H hM hsuf (am_ctl (am_ctl (am_ctl hst)))
              exact ⟨r.1, am_j_bastore ok hi ha hx h01 r.2⟩
            · rw [if_neg h01] at H; cases H
      · rw [if_neg hi] at H; cases H
    case aastore =>
      have H : (am_ria st fun o j v r => if am_is h o 2 = true ∧ am_is h v (a + 3) = true then (match am_len X h o with | some k => if j < 0 ∨ k ≤ j.toNatClampNeg then none else am_ex am_P am_Mi am_Nf X n d M cs L r (h.1, h.2.1, am_upG h.2.2 o j.toNatClampNeg (some v)) | none => none) else none) = some res := H
      obtain ⟨o, j2, v, t, e0, H1⟩ := am_ria_el H
      subst e0
      have H := H1
      by_cases hi : am_is h o 2 = true ∧ am_is h v (a + 3) = true
      · rw [if_pos hi] at H
        cases ha : am_len X h o with
        | none => rw [ha] at H; cases H
        | some k =>
          rw [ha] at H
          have H : (if j2 < 0 ∨ k ≤ j2.toNatClampNeg then none else am_ex am_P am_Mi am_Nf X n d M cs L t (h.1, h.2.1, am_upG h.2.2 o j2.toNatClampNeg (some v))) = some res := H
          by_cases hx : j2 < 0 ∨ k ≤ j2.toNatClampNeg
          · rw [if_pos hx] at H; cases H
          · rw [if_neg hx] at H
            have r := ih d M cs L t (h.1, h.2.1, am_upG h.2.2 o j2.toNatClampNeg (some v)) res H hM hsuf (am_ctl (am_ctl (am_ctl hst)))
            exact ⟨r.1, am_j_aastore ok hi.1 hi.2 ha hx r.2⟩
      · rw [if_neg hi] at H; cases H
    case arraylength =>
      have H : (am_1r st fun o r => (match am_len X h o with | some k => am_ex am_P am_Mi am_Nf X n d M cs L (.int (Int32.ofNat k) :: r) h | none => none)) = some res := H
      obtain ⟨o, t, e0, H1⟩ := am_1r_el H
      subst e0
      have H := H1
      cases ha : am_len X h o with
      | none => rw [ha] at H; cases H
      | some k =>
        rw [ha] at H
        have r := ih d M cs L (.int (Int32.ofNat k) :: t) h res H hM hsuf (am_c1 rfl (am_ctl hst))
        exact ⟨r.1, am_j_alen ok ha r.2⟩
    case new k =>
      have H2 : (if h.1.length < 1000000 then am_ex am_P am_Mi am_Nf X n d M cs L (.ref h.1.length :: st) (h.1 ++ [(a + 3, am_Nf a)], am_zI h.2.1 h.1.length, am_zG h.2.2 h.1.length) else none) = some res := H
      by_cases hl : h.1.length < 1000000
      · rw [if_pos hl] at H2
        have r := ih d M cs L _ _ res H2 hM hsuf (am_c1 rfl hst)
        have mo : h.1.length + 1 ≤ res.2.1.length ∧ am_sl h + am_Nf a ≤ am_sl res.2 := by
          have r1 := r.1
          rw [am_sl_new, List.length_append, List.length_singleton] at r1
          exact r1
        exact ⟨⟨by omega, by omega⟩, am_j_new ok hl mo r.2⟩
      · rw [if_neg hl] at H2; cases H2
    case newarray at0 =>
      cases at0
      case int =>
        have H : (am_1i st fun x r => if x < 0 ∨ 1000000 < x.toNatClampNeg ∨ 1000000 ≤ h.1.length then none else am_ex am_P am_Mi am_Nf X n d M cs L (.ref h.1.length :: r) (h.1 ++ [(0, x.toNatClampNeg)], am_zI h.2.1 h.1.length, am_zG h.2.2 h.1.length)) = some res := H
        obtain ⟨x, t, e0, H1⟩ := am_1i_el H
        subst e0
        have H := H1
        by_cases hx : x < 0 ∨ 1000000 < x.toNatClampNeg ∨ 1000000 ≤ h.1.length
        · rw [if_pos hx] at H; cases H
        · rw [if_neg hx] at H
          have r := ih d M cs L _ _ res H hM hsuf (am_c1 rfl (am_ctl hst))
          have mo : h.1.length + 1 ≤ res.2.1.length ∧ am_sl h + x.toNatClampNeg ≤ am_sl res.2 := by
            have r1 := r.1
            rw [am_sl_new, List.length_append, List.length_singleton] at r1
            exact r1
          exact ⟨⟨by omega, by omega⟩, am_j_newI ok hx mo r.2⟩
      case boolean =>
        have H : (am_1i st fun x r => if x < 0 ∨ 1000000 < x.toNatClampNeg ∨ 1000000 ≤ h.1.length then none else am_ex am_P am_Mi am_Nf X n d M cs L (.ref h.1.length :: r) (h.1 ++ [(1, x.toNatClampNeg)], am_zI h.2.1 h.1.length, am_zG h.2.2 h.1.length)) = some res := H
        obtain ⟨x, t, e0, H1⟩ := am_1i_el H
        subst e0
        have H := H1
        by_cases hx : x < 0 ∨ 1000000 < x.toNatClampNeg ∨ 1000000 ≤ h.1.length
        · rw [if_pos hx] at H; cases H
        · rw [if_neg hx] at H
          have r := ih d M cs L _ _ res H hM hsuf (am_c1 rfl (am_ctl hst))
          have mo : h.1.length + 1 ≤ res.2.1.length ∧ am_sl h + x.toNatClampNeg ≤ am_sl res.2 := by
            have r1 := r.1
            rw [am_sl_new, List.length_append, List.length_singleton] at r1
            exact r1
          exact ⟨⟨by omega, by omega⟩, am_j_newZ ok hx mo r.2⟩
      all_goals exact absurd (show (none : Option (Option Int32 × AmH)) = some res from H) (by simp)
    case anewarray k =>
      have H : (am_1i st fun x r => if x < 0 ∨ 1000000 < x.toNatClampNeg ∨ 1000000 ≤ h.1.length then none else am_ex am_P am_Mi am_Nf X n d M cs L (.ref h.1.length :: r) (h.1 ++ [(2, x.toNatClampNeg)], am_zI h.2.1 h.1.length, am_zG h.2.2 h.1.length)) = some res := H
      obtain ⟨x, t, e0, H1⟩ := am_1i_el H
      subst e0
      have H := H1
      by_cases hx : x < 0 ∨ 1000000 < x.toNatClampNeg ∨ 1000000 ≤ h.1.length
      · rw [if_pos hx] at H; cases H
      · rw [if_neg hx] at H
        have r := ih d M cs L _ _ res H hM hsuf (am_c1 rfl (am_ctl hst))
        have mo : h.1.length + 1 ≤ res.2.1.length ∧ am_sl h + x.toNatClampNeg ≤ am_sl res.2 := by
          have r1 := r.1
          rw [am_sl_new, List.length_append, List.length_singleton] at r1
          exact r1
        exact ⟨⟨by omega, by omega⟩, am_j_newQ ok hx mo r.2⟩
    case getstatic k =>
      have H : (am_ex am_P am_Mi am_Nf X n d M cs L (.ref (1000000 + a) :: st) h) = some res := H
      have r := ih d M cs L (.ref (1000000 + a) :: st) h res H hM hsuf (am_c1 rfl hst)
      exact ⟨r.1, am_j_getst ok r.2⟩
    case invokevirtual k =>
      have H2 : (if b ≤ st.length ∧ am_cats (st.drop b) ≤ 8 ∧ am_rcv h 0 (am_Mi a).2.1 (st.take b).reverse = true then (match d with | 0 => none | d2 + 1 => (am_ex am_P am_Mi am_Nf X n d2 a (am_P a) (am_ini (am_Mi a).1 (st.take b).reverse) [] h).bind fun q => am_ex am_P am_Mi am_Nf X n (d2 + 1) M cs L (am_push q.1 (st.drop b)) q.2) else none) = some res := H
      by_cases hc : b ≤ st.length ∧ am_cats (st.drop b) ≤ 8 ∧ am_rcv h 0 (am_Mi a).2.1 (st.take b).reverse = true
      · rw [if_pos hc] at H2
        cases d with
        | zero => cases H2
        | succ d2 =>
          obtain ⟨q, Hq, H⟩ := Option.bind_eq_some_iff.mp H2
          have hr := (am_okq_4 ok).2.2.2
          simp only [am_res, Bool.and_eq_true, beq_iff_eq, decide_eq_true_eq] at hr
          obtain ⟨⟨⟨r1, r2⟩, r3⟩, r4⟩ := hr
          have r1 := am_ML_use r1
          have e4 := (am_okH_of (show a < 300 by omega)).2.2.2.1
          obtain ⟨-, -, -, -, n5, n6⟩ := am_okN_of r4
          have c1 : am_C1 (st.take b).reverse := fun w hw => hst w (List.mem_of_mem_take (List.mem_reverse.mp hw))
          have c2 : am_C1 (st.drop b) := fun w hw => hst w (List.mem_of_mem_drop hw)
          rw [e4] at Hq
          have rq := ih d2 a (am_P a) _ [] h q Hq (by omega) ⟨0, rfl⟩ (fun w hw => by cases hw)
          have rk := ih (d2 + 1) M cs L _ q.2 res H hM hsuf (am_cpush c2)
          have hc3 := hc.2.2
          rw [e4] at hc3
          obtain ⟨o, as, ea, ho⟩ := am_rcv0 hc3
          have est := am_split ea
          have hlen : as.length + 1 = b := by
            have := congrArg List.length ea
            rw [List.length_reverse, List.length_take, List.length_cons] at this
            omega
          rw [ea] at rq c1
          refine ⟨⟨Nat.le_trans rq.1.1 rk.1.1, Nat.le_trans rq.1.2 rk.1.2⟩, ?_⟩
          rw [est]
          exact am_j_callV ok r4 r2 r3 r1 hlen hc.2.1 ho (n6.resolve_left (by omega)) c1 rq.1 rk.1 rq.2 rk.2
      · rw [if_neg hc] at H2; cases H2
    case invokestatic k =>
      have H2 : (if b ≤ st.length ∧ am_cats (st.drop b) ≤ 8 then (match d with | 0 => none | d2 + 1 => (am_ex am_P am_Mi am_Nf X n d2 a (am_P a) (am_ini (am_Mi a).1 (st.take b).reverse) [] h).bind fun q => am_ex am_P am_Mi am_Nf X n (d2 + 1) M cs L (am_push q.1 (st.drop b)) q.2) else none) = some res := H
      by_cases hc : b ≤ st.length ∧ am_cats (st.drop b) ≤ 8
      · rw [if_pos hc] at H2
        cases d with
        | zero => cases H2
        | succ d2 =>
          obtain ⟨q, Hq, H⟩ := Option.bind_eq_some_iff.mp H2
          have hr := (am_okq_4 ok).2.2.2
          simp only [am_res, Bool.and_eq_true, beq_iff_eq, decide_eq_true_eq] at hr
          obtain ⟨⟨⟨r1, r2⟩, r3⟩, r4⟩ := hr
          have r1 := am_ML_use r1
          have e4 := (am_okH_of (show a < 300 by omega)).2.2.2.1
          obtain ⟨-, -, -, -, n5, n6⟩ := am_okN_of r4
          have c1 : am_C1 (st.take b).reverse := fun w hw => hst w (List.mem_of_mem_take (List.mem_reverse.mp hw))
          have c2 : am_C1 (st.drop b) := fun w hw => hst w (List.mem_of_mem_drop hw)
          rw [e4] at Hq
          have rq := ih d2 a (am_P a) _ [] h q Hq (by omega) ⟨0, rfl⟩ (fun w hw => by cases hw)
          have rk := ih (d2 + 1) M cs L _ q.2 res H hM hsuf (am_cpush c2)
          have hlen : (st.take b).reverse.length = b := by rw [List.length_reverse, List.length_take]; omega
          have est : st = (st.take b).reverse.reverse ++ st.drop b := by rw [List.reverse_reverse, List.take_append_drop]
          refine ⟨⟨Nat.le_trans rq.1.1 rk.1.1, Nat.le_trans rq.1.2 rk.1.2⟩, ?_⟩
          generalize hA : (st.take b).reverse = as at *
          generalize hB : st.drop b = rest at *
          rw [est]
          exact am_j_callS ok r4 r2 r3 r1 hlen hc.2 n5 c1 rq.1 rk.1 rq.2 rk.2
      · rw [if_neg hc] at H2; cases H2
    case invokespecial k =>
      have H3 : (if c0 = 4 then am_1r st fun _ r => (if am_cats r ≤ 8 ∧ 0 < d then am_ex am_P am_Mi am_Nf X n d M cs L r h else none) else if b ≤ st.length ∧ am_cats (st.drop b) ≤ 8 ∧ am_rcv h 2 (am_Mi a).2.1 (st.take b).reverse = true then (match (generalizing := false) d with | 0 => none | d2 + 1 => (am_ex am_P am_Mi am_Nf X n d2 a (am_P a) (am_ini (am_Mi a).1 (st.take b).reverse) [] h).bind fun q => am_ex am_P am_Mi am_Nf X n (d2 + 1) M cs L (am_push q.1 (st.drop b)) q.2) else none) = some res := H
      by_cases h4 : c0 = 4
      · rw [if_pos h4] at H3
        obtain ⟨o, t, e0, H1⟩ := am_1r_el H3
        subst e0
        have H := H1
        by_cases hc : am_cats t ≤ 8 ∧ 0 < d
        · rw [if_pos hc] at H
          have r := ih d M cs L t h res H hM hsuf (am_ctl hst)
          exact ⟨r.1, am_j_oinit ok h4 hc.1 hc.2 r.2⟩
        · rw [if_neg hc] at H; cases H
      · rw [if_neg h4] at H3
        have H2 := H3
        by_cases hc : b ≤ st.length ∧ am_cats (st.drop b) ≤ 8 ∧ am_rcv h 2 (am_Mi a).2.1 (st.take b).reverse = true
        · rw [if_pos hc] at H2
          cases d with
          | zero => cases H2
          | succ d2 =>
            obtain ⟨q, Hq, H⟩ := Option.bind_eq_some_iff.mp H2
            have hr := (am_okq_4 ok).2.2.2
            have hc4 : (c0 == 4) = false := by simpa using h4
            simp only [am_res, hc4, Bool.false_eq_true, if_false, Bool.and_eq_true, beq_iff_eq, decide_eq_true_eq] at hr
            obtain ⟨⟨⟨r2, r3⟩, r4⟩, r1⟩ := hr
            have r1 : Cond.methodLink (am_cn (am_o M)) k (am_y a) ∈ am_tbl ∨ ∃ host, (am_o M, k, a, host) ∈ am_NLp.map (fun q => (q.1, q.2.1, q.2.2.1, q.2.2.2.1)) := by
              by_cases h3 : c0 = 3
              · rw [if_pos (by simpa using h3)] at r1
                exact Or.inr (am_NL_use r1)
              · rw [if_neg (by simpa using h3)] at r1
                exact Or.inl (am_ML_use r1)
            have e4 := (am_okH_of (show a < 300 by omega)).2.2.2.1
            obtain ⟨-, -, -, -, n5, n6⟩ := am_okN_of r4
            have c1 : am_C1 (st.take b).reverse := fun w hw => hst w (List.mem_of_mem_take (List.mem_reverse.mp hw))
            have c2 : am_C1 (st.drop b) := fun w hw => hst w (List.mem_of_mem_drop hw)
            rw [e4] at Hq
            have rq := ih d2 a (am_P a) _ [] h q Hq (by omega) ⟨0, rfl⟩ (fun w hw => by cases hw)
            have rk := ih (d2 + 1) M cs L _ q.2 res H hM hsuf (am_cpush c2)
            obtain ⟨o, as, ea⟩ := am_rcv2 hc.2.2
            have est := am_split ea
            have hlen : as.length + 1 = b := by
              have := congrArg List.length ea
              rw [List.length_reverse, List.length_take, List.length_cons] at this
              omega
            rw [ea] at rq c1
            refine ⟨⟨Nat.le_trans rq.1.1 rk.1.1, Nat.le_trans rq.1.2 rk.1.2⟩, ?_⟩
            rw [est]
            exact am_j_callI ok r4 r2 r3 r1 hlen hc.2.1 n5 c1 rq.1 rk.1 rq.2 rk.2
        · rw [if_neg hc] at H2; cases H2
    case ireturn =>
      cases st with
      | nil => exact absurd (show (none : Option (Option Int32 × AmH)) = some res from H) (by simp)
      | cons w t =>
      cases w
      case int v =>
        cases t with
        | cons w2 t2 => exact absurd (show (none : Option (Option Int32 × AmH)) = some res from H) (by simp)
        | nil =>
        have H2 : (if (am_Mi M).2.2 = 1 ∨ ((am_Mi M).2.2 = 2 ∧ (v = 0 ∨ v = 1)) then some (some v, h) else none) = some res := H
        have e4 := (am_okH_of hM).2.2.2.1
        by_cases hc : (am_Mi M).2.2 = 1 ∨ ((am_Mi M).2.2 = 2 ∧ (v = 0 ∨ v = 1))
        · rw [if_pos hc] at H2
          cases H2
          rw [e4] at hc
          refine ⟨⟨Nat.le_refl _, Nat.le_refl _⟩, ?_⟩
          intro p e R s m args below meth c H locs cells slots cF sF ls Q C hfr hlo hcF hsF hP hS hl hz hc1 hs1 kr
          have hdg := am_okq_d ok rfl
          have h1 : cells = cF := by have := hc1; simp only at this; omega
          have h2 : slots = sF := by have := hs1; simp only at this; omega
          subst h1; subst h2
          exact (kr H locs pc ls hP hS).1 v rfl hdg hc
        · rw [if_neg hc] at H2; cases H2
      all_goals exact absurd (show (none : Option (Option Int32 × AmH)) = some res from H) (by simp)
    case return_ =>
      cases st with
      | cons w t => exact absurd (show (none : Option (Option Int32 × AmH)) = some res from H) (by simp)
      | nil =>
        have H2 : (if (am_Mi M).2.2 = 0 then some (none, h) else none) = some res := H
        have e4 := (am_okH_of hM).2.2.2.1
        by_cases hc : (am_Mi M).2.2 = 0
        · rw [if_pos hc] at H2
          cases H2
          rw [e4] at hc
          refine ⟨⟨Nat.le_refl _, Nat.le_refl _⟩, ?_⟩
          intro p e R s m args below meth c H locs cells slots cF sF ls Q C hfr hlo hcF hsF hP hS hl hz hc1 hs1 kr
          have hdg := am_okq_d ok rfl
          have h1 : cells = cF := by have := hc1; simp only at this; omega
          have h2 : slots = sF := by have := hs1; simp only at this; omega
          subst h1; subst h2
          exact (kr H locs pc ls hP hS).2 rfl hdg hc
        · rw [if_neg hc] at H2; cases H2
    all_goals exact absurd (show (none : Option (Option Int32 × AmH)) = some res from H) (by simp)
