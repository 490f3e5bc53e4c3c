/-! more steps allowed: the same answer -/
set_option maxHeartbeats 4000000 in
set_option maxRecDepth 100000 in
theorem am_mono1 (X : AmX) : ∀ (n d M : Nat) (cs : AmCd) (L st : List Value) (h : AmH) (res : Option Int32 × AmH), am_ex am_P am_Mi am_Nf X n d M cs L st h = some res → am_ex am_P am_Mi am_Nf X (n + 1) d M cs L st h = some res := by
  intro n
  induction n with
  | zero =>
    intro d M cs L st h res H
    cases H
  | succ n ih =>
    intro d M cs L st h res H
    cases cs with
    | nil => exact absurd rfl (am_nil H)
    | cons q cs =>
    obtain ⟨pc, i, a, b, c0⟩ := q
    cases i
    case iload k =>
      have H : (am_li L k fun x => am_ex am_P am_Mi am_Nf X n d M cs L (.int x :: st) h) = some res := H
      show (am_li L k fun x => am_ex am_P am_Mi am_Nf X (n + 1) d M cs L (.int x :: st) h) = some res
      obtain ⟨x, hL, H⟩ := am_li_el H
      unfold am_li
      rw [hL]
      exact ih _ _ _ _ _ _ _ H
    case iload_n k =>
      have H : (am_li L k.val fun x => am_ex am_P am_Mi am_Nf X n d M cs L (.int x :: st) h) = some res := H
      show (am_li L k.val fun x => am_ex am_P am_Mi am_Nf X (n + 1) d M cs L (.int x :: st) h) = some res
      obtain ⟨x, hL, H⟩ := am_li_el H
      unfold am_li
      rw [hL]
      exact ih _ _ _ _ _ _ _ H
    case aload k =>
      have H : (am_la L k fun x => am_ex am_P am_Mi am_Nf X n d M cs L (va_rf x :: st) h) = some res := H
      show (am_la L k fun x => am_ex am_P am_Mi am_Nf X (n + 1) d M cs L (va_rf x :: st) h) = some res
      obtain ⟨x, hL, H⟩ := am_la_el H
      unfold am_la
      rw [hL]
      cases x <;> exact ih _ _ _ _ _ _ _ H
    case aload_n k =>
      have H : (am_la L k.val fun x => am_ex am_P am_Mi am_Nf X n d M cs L (va_rf x :: st) h) = some res := H
      show (am_la L k.val fun x => am_ex am_P am_Mi am_Nf X (n + 1) d M cs L (va_rf x :: st) h) = some res
      obtain ⟨x, hL, H⟩ := am_la_el H
      unfold am_la
      rw [hL]
      cases x <;> exact ih _ _ _ _ _ _ _ H
    case istore k =>
      have H : (am_1i st fun x r => am_st L k (.int x) fun L' => am_ex am_P am_Mi am_Nf X n d M cs L' r h) = some res := H
      show (am_1i st fun x r => am_st L k (.int x) fun L' => am_ex am_P am_Mi am_Nf X (n + 1) d M cs L' r h) = some res
      obtain ⟨x, t, e0, H1⟩ := am_1i_el H
      subst e0
      have H := H1
      obtain ⟨hi, H⟩ := am_st_el H
      show (if k < L.length then am_ex am_P am_Mi am_Nf X (n + 1) d M cs (L.set k (.int x)) t h else none) = some res
      rw [if_pos hi]
      exact ih _ _ _ _ _ _ _ H
    case istore_n k =>
      have H : (am_1i st fun x r => am_st L k.val (.int x) fun L' => am_ex am_P am_Mi am_Nf X n d M cs L' r h) = some res := H
      show (am_1i st fun x r => am_st L k.val (.int x) fun L' => am_ex am_P am_Mi am_Nf X (n + 1) d M cs L' r h) = some res
      obtain ⟨x, t, e0, H1⟩ := am_1i_el H
      subst e0
      have H := H1
      obtain ⟨hi, H⟩ := am_st_el H
      show (if k.val < L.length then am_ex am_P am_Mi am_Nf X (n + 1) d M cs (L.set k.val (.int x)) t h else none) = some res
      rw [if_pos hi]
      exact ih _ _ _ _ _ _ _ H
    case astore k =>
      have H : (am_1v st fun x r => am_st L k (va_rf x) fun L' => am_ex am_P am_Mi am_Nf X n d M cs L' r h) = some res := H
      show (am_1v st fun x r => am_st L k (va_rf x) fun L' => am_ex am_P am_Mi am_Nf X (n + 1) d M cs L' r h) = some res
      obtain ⟨x, t, e0, H1⟩ := am_1v_el H
      subst e0
      have H := H1
      obtain ⟨hi, H⟩ := am_st_el H
      cases x with
      | none =>
        show (if k < L.length then am_ex am_P am_Mi am_Nf X (n + 1) d M cs (L.set k (va_rf (none))) t h else none) = some res
        rw [if_pos hi]
        exact ih _ _ _ _ _ _ _ H
      | some y =>
        show (if k < L.length then am_ex am_P am_Mi am_Nf X (n + 1) d M cs (L.set k (va_rf (some y))) t h else none) = some res
        rw [if_pos hi]
        exact ih _ _ _ _ _ _ _ H
    case astore_n k =>
      have H : (am_1v st fun x r => am_st L k.val (va_rf x) fun L' => am_ex am_P am_Mi am_Nf X n d M cs L' r h) = some res := H
      show (am_1v st fun x r => am_st L k.val (va_rf x) fun L' => am_ex am_P am_Mi am_Nf X (n + 1) d M cs L' r h) = some res
      obtain ⟨x, t, e0, H1⟩ := am_1v_el H
      subst e0
      have H := H1
      obtain ⟨hi, H⟩ := am_st_el H
      cases x with
      | none =>
        show (if k.val < L.length then am_ex am_P am_Mi am_Nf X (n + 1) d M cs (L.set k.val (va_rf (none))) t h else none) = some res
        rw [if_pos hi]
        exact ih _ _ _ _ _ _ _ H
      | some y =>
        show (if k.val < L.length then am_ex am_P am_Mi am_Nf X (n + 1) d M cs (L.set k.val (va_rf (some y))) t h else none) = some res
        rw [if_pos hi]
        exact ih _ _ _ _ _ _ _ H
    case iconst v =>
      have H : (am_ex am_P am_Mi am_Nf X n d M cs L (.int (Int32.ofInt v) :: st) h) = some res := H
      show (am_ex am_P am_Mi am_Nf X (n + 1) d M cs L (.int (Int32.ofInt v) :: st) h) = some res
      exact ih _ _ _ _ _ _ _ H
    case bipush v =>
      have H : (am_ex am_P am_Mi am_Nf X n d M cs L (.int (Int8.ofInt v).toInt32 :: st) h) = some res := H
      show (am_ex am_P am_Mi am_Nf X (n + 1) d M cs L (.int (Int8.ofInt v).toInt32 :: st) h) = some res
      exact ih _ _ _ _ _ _ _ H
    case sipush v =>
      have H : (am_ex am_P am_Mi am_Nf X n d M cs L (.int (Int16.ofInt v).toInt32 :: st) h) = some res := H
      show (am_ex am_P am_Mi am_Nf X (n + 1) d M cs L (.int (Int16.ofInt v).toInt32 :: st) h) = some res
      exact ih _ _ _ _ _ _ _ H
    case iinc k v =>
      have H : (am_li L k fun x => am_st L k (.int (x + Int32.ofInt v)) fun L' => am_ex am_P am_Mi am_Nf X n d M cs L' st h) = some res := H
      show (am_li L k fun x => am_st L k (.int (x + Int32.ofInt v)) fun L' => am_ex am_P am_Mi am_Nf X (n + 1) d M cs L' st h) = some res
      obtain ⟨x, hL, H⟩ := am_li_el H
      obtain ⟨hi, H⟩ := am_st_el H
      unfold am_li
      rw [hL]
      show am_st _ _ _ _ = _
      unfold am_st
      rw [if_pos hi]
      exact ih _ _ _ _ _ _ _ H
    case iadd =>
      have H : (am_2i st fun x y r => am_ex am_P am_Mi am_Nf X n d M cs L (.int (x + y) :: r) h) = some res := H
      show (am_2i st fun x y r => am_ex am_P am_Mi am_Nf X (n + 1) d M cs L (.int (x + y) :: r) h) = some res
      obtain ⟨x, y, t, e0, H1⟩ := am_2i_el H
      subst e0
      have H := H1
      exact ih _ _ _ _ _ _ _ H
    case isub =>
      have H : (am_2i st fun x y r => am_ex am_P am_Mi am_Nf X n d M cs L (.int (x - y) :: r) h) = some res := H
      show (am_2i st fun x y r => am_ex am_P am_Mi am_Nf X (n + 1) d M cs L (.int (x - y) :: r) h) = some res
      obtain ⟨x, y, t, e0, H1⟩ := am_2i_el H
      subst e0
      have H := H1
      exact ih _ _ _ _ _ _ _ H
    case imul =>
      have H : (am_2i st fun x y r => am_ex am_P am_Mi am_Nf X n d M cs L (.int (x * y) :: r) h) = some res := H
      show (am_2i st fun x y r => am_ex am_P am_Mi am_Nf X (n + 1) d M cs L (.int (x * y) :: r) h) = some res
      obtain ⟨x, y, t, e0, H1⟩ := am_2i_el H
      subst e0
      have H := H1
      exact ih _ _ _ _ _ _ _ H
    case iand =>
      have H : (am_2i st fun x y r => am_ex am_P am_Mi am_Nf X n d M cs L (.int (x &&& y) :: r) h) = some res := H
      show (am_2i st fun x y r => am_ex am_P am_Mi am_Nf X (n + 1) d M cs L (.int (x &&& y) :: r) h) = some res
      obtain ⟨x, y, t, e0, H1⟩ := am_2i_el H
      subst e0
      have H := H1
      exact ih _ _ _ _ _ _ _ H
    case ixor =>
      have H : (am_2i st fun x y r => am_ex am_P am_Mi am_Nf X n d M cs L (.int (x ^^^ y) :: r) h) = some res := H
      show (am_2i st fun x y r => am_ex am_P am_Mi am_Nf X (n + 1) d M cs L (.int (x ^^^ y) :: r) h) = some res
      obtain ⟨x, y, t, e0, H1⟩ := am_2i_el H
      subst e0
      have H := H1
      exact ih _ _ _ _ _ _ _ H
    case ishr =>
      have H : (am_2i st fun x y r => am_ex am_P am_Mi am_Nf X n d M cs L (.int (x >>> (y &&& 31)) :: r) h) = some res := H
      show (am_2i st fun x y r => am_ex am_P am_Mi am_Nf X (n + 1) d M cs L (.int (x >>> (y &&& 31)) :: r) h) = some res
      obtain ⟨x, y, t, e0, H1⟩ := am_2i_el H
      subst e0
      have H := H1
      exact ih _ _ _ _ _ _ _ H
    case idiv =>
      have H : (am_2i st fun x y r => if y = 0 then none else am_ex am_P am_Mi am_Nf X n d M cs L (.int (x / y) :: r) h) = some res := H
      show (am_2i st fun x y r => if y = 0 then none else am_ex am_P am_Mi am_Nf X (n + 1) d M cs L (.int (x / y) :: r) h) = some res
      obtain ⟨x, y, t, e0, H1⟩ := am_2i_el H
      subst e0
      have H := H1
      by_cases hc : y = 0
      · rw [if_pos hc] at H
        show (if _ then _ else _) = some res
        rw [if_pos hc]
        cases H
      · rw [if_neg hc] at H
        show (if _ then _ else _) = some res
        rw [if_neg hc]
        exact ih _ _ _ _ _ _ _ H
    case irem =>
      have H : (am_2i st fun x y r => if y = 0 then none else am_ex am_P am_Mi am_Nf X n d M cs L (.int (x - x / y * y) :: r) h) = some res := H
      show (am_2i st fun x y r => if y = 0 then none else am_ex am_P am_Mi am_Nf X (n + 1) d M cs L (.int (x - x / y * y) :: r) h) = some res
      obtain ⟨x, y, t, e0, H1⟩ := am_2i_el H
      subst e0
      have H := H1
      by_cases hc : y = 0
      · rw [if_pos hc] at H
        show (if _ then _ else _) = some res
        rw [if_pos hc]
        cases H
      · rw [if_neg hc] at H
        show (if _ then _ else _) = some res
        rw [if_neg hc]
        exact ih _ _ _ _ _ _ _ H
    case dup =>
      cases st with
      | nil => exact absurd (show (none : Option (Option Int32 × AmH)) = some res from H) (by simp)
      | cons v t =>
        cases v
        case int x => exact ih _ _ _ _ (.int x :: .int x :: t) _ _ H
        case ref x => exact ih _ _ _ _ (.ref x :: .ref x :: t) _ _ H
        all_goals exact absurd (show (none : Option (Option Int32 × AmH)) = some res from H) (by simp)
    case dup2 =>
      have H : (am_ia st fun x j r => am_ex am_P am_Mi am_Nf X n d M cs L (.int j :: .ref x :: .int j :: .ref x :: r) h) = some res := H
      show (am_ia st fun x j r => am_ex am_P am_Mi am_Nf X (n + 1) d M cs L (.int j :: .ref x :: .int j :: .ref x :: r) h) = some res
      obtain ⟨x, j2, t, e0, H1⟩ := am_ia_el H
      subst e0
      have H := H1
      exact ih _ _ _ _ _ _ _ H
    case goto o =>
      have H : (am_ex am_P am_Mi am_Nf X n d M (am_at (am_P M) (am_tg pc o)) L st h) = some res := H
      show (am_ex am_P am_Mi am_Nf X (n + 1) d M (am_at (am_P M) (am_tg pc o)) L st h) = some res
      exact ih _ _ _ _ _ _ _ H
    case ifCond cd o =>
      cases cd
      case eq =>
        have H : (am_1i st fun x r => if x = 0 then am_ex am_P am_Mi am_Nf X n d M (am_at (am_P M) (am_tg pc o)) L r h else am_ex am_P am_Mi am_Nf X n d M cs L r h) = some res := H
        show (am_1i st fun x r => if x = 0 then am_ex am_P am_Mi am_Nf X (n + 1) d M (am_at (am_P M) (am_tg pc o)) L r h else am_ex am_P am_Mi am_Nf X (n + 1) d M cs L r h) = some res
        obtain ⟨x, t, e0, H1⟩ := am_1i_el H
        subst e0
        have H := H1
        by_cases hc : x = 0
        · rw [if_pos hc] at H
          show (if _ then _ else _) = some res
          rw [if_pos hc]
          exact ih _ _ _ _ _ _ _ H
        · rw [if_neg hc] at H
          show (if _ then _ else _) = some res
          rw [if_neg hc]
          exact ih _ _ _ _ _ _ _ H
      case ne =>
        have H : (am_1i st fun x r => if x = 0 then am_ex am_P am_Mi am_Nf X n d M cs L r h else am_ex am_P am_Mi am_Nf X n d M (am_at (am_P M) (am_tg pc o)) L r h) = some res := H
        show (am_1i st fun x r => if x = 0 then am_ex am_P am_Mi am_Nf X (n + 1) d M cs L r h else am_ex am_P am_Mi am_Nf X (n + 1) d M (am_at (am_P M) (am_tg pc o)) L r h) = some res
        obtain ⟨x, t, e0, H1⟩ := am_1i_el H
        subst e0
        have H := H1
        by_cases hc : x = 0
        · rw [if_pos hc] at H
          show (if _ then _ else _) = some res
          rw [if_pos hc]
          exact ih _ _ _ _ _ _ _ H
        · rw [if_neg hc] at H
          show (if _ then _ else _) = some res
          rw [if_neg hc]
          exact ih _ _ _ _ _ _ _ H
      case lt =>
        have H : (am_1i st fun x r => if x < 0 then am_ex am_P am_Mi am_Nf X n d M (am_at (am_P M) (am_tg pc o)) L r h else am_ex am_P am_Mi am_Nf X n d M cs L r h) = some res := H
        show (am_1i st fun x r => if x < 0 then am_ex am_P am_Mi am_Nf X (n + 1) d M (am_at (am_P M) (am_tg pc o)) L r h else am_ex am_P am_Mi am_Nf X (n + 1) d M cs L r h) = some res
        obtain ⟨x, t, e0, H1⟩ := am_1i_el H
        subst e0
        have H := H1
        by_cases hc : x < 0
        · rw [if_pos hc] at H
          show (if _ then _ else _) = some res
          rw [if_pos hc]
          exact ih _ _ _ _ _ _ _ H
        · rw [if_neg hc] at H
          show (if _ then _ else _) = some res
          rw [if_neg hc]
          exact ih _ _ _ _ _ _ _ H
      case ge =>
        have H : (am_1i st fun x r => if 0 ≤ x then am_ex am_P am_Mi am_Nf X n d M (am_at (am_P M) (am_tg pc o)) L r h else am_ex am_P am_Mi am_Nf X n d M cs L r h) = some res := H
        show (am_1i st fun x r => if 0 ≤ x then am_ex am_P am_Mi am_Nf X (n + 1) d M (am_at (am_P M) (am_tg pc o)) L r h else am_ex am_P am_Mi am_Nf X (n + 1) d M cs L r h) = some res
        obtain ⟨x, t, e0, H1⟩ := am_1i_el H
        subst e0
        have H := H1
        by_cases hc : 0 ≤ x
        · rw [if_pos hc] at H
          show (if _ then _ else _) = some res
          rw [if_pos hc]
          exact ih _ _ _ _ _ _ _ H
        · rw [if_neg hc] at H
          show (if _ then _ else _) = some res
          rw [if_neg hc]
          exact ih _ _ _ _ _ _ _ H
      case gt =>
        have H : (am_1i st fun x r => if 0 < x then am_ex am_P am_Mi am_Nf X n d M (am_at (am_P M) (am_tg pc o)) L r h else am_ex am_P am_Mi am_Nf X n d M cs L r h) = some res := H
        show (am_1i st fun x r => if 0 < x then am_ex am_P am_Mi am_Nf X (n + 1) d M (am_at (am_P M) (am_tg pc o)) L r h else am_ex am_P am_Mi am_Nf X (n + 1) d M cs L r h) = some res
        obtain ⟨x, t, e0, H1⟩ := am_1i_el H
        subst e0
        have H := H1
        by_cases hc : 0 < x
        · rw [if_pos hc] at H
          show (if _ then _ else _) = some res
          rw [if_pos hc]
          exact ih _ _ _ _ _ _ _ H
        · rw [if_neg hc] at H
          show (if _ then _ else _) = some res
          rw [if_neg hc]
          exact ih _ _ _ _ _ _ _ H
      case le =>
        have H : (am_1i st fun x r => if x ≤ 0 then am_ex am_P am_Mi am_Nf X n d M (am_at (am_P M) (am_tg pc o)) L r h else am_ex am_P am_Mi am_Nf X n d M cs L r h) = some res := H
        show (am_1i st fun x r => if x ≤ 0 then am_ex am_P am_Mi am_Nf X (n + 1) d M (am_at (am_P M) (am_tg pc o)) L r h else am_ex am_P am_Mi am_Nf X (n + 1) d M cs L r h) = some res
        obtain ⟨x, t, e0, H1⟩ := am_1i_el H
        subst e0
        have H := H1
        by_cases hc : x ≤ 0
        · rw [if_pos hc] at H
          show (if _ then _ else _) = some res
          rw [if_pos hc]
          exact ih _ _ _ _ _ _ _ H
        · rw [if_neg hc] at H
          show (if _ then _ else _) = some res
          rw [if_neg hc]
          exact ih _ _ _ _ _ _ _ H
    case if_icmp cd o =>
      cases cd
      case eq =>
        have H : (am_2i st fun x y r => if x = y then am_ex am_P am_Mi am_Nf X n d M (am_at (am_P M) (am_tg pc o)) L r h else am_ex am_P am_Mi am_Nf X n d M cs L r h) = some res := H
        show (am_2i st fun x y r => if x = y then am_ex am_P am_Mi am_Nf X (n + 1) d M (am_at (am_P M) (am_tg pc o)) L r h else am_ex am_P am_Mi am_Nf X (n + 1) d M cs L r h) = some res
        obtain ⟨x, y, t, e0, H1⟩ := am_2i_el H
        subst e0
        have H := H1
        by_cases hc : x = y
        · rw [if_pos hc] at H
          show (if _ then _ else _) = some res
          rw [if_pos hc]
          exact ih _ _ _ _ _ _ _ H
        · rw [if_neg hc] at H
          show (if _ then _ else _) = some res
          rw [if_neg hc]
          exact ih _ _ _ _ _ _ _ H
      case ne =>
        have H : (am_2i st fun x y r => if x = y then am_ex am_P am_Mi am_Nf X n d M cs L r h else am_ex am_P am_Mi am_Nf X n d M (am_at (am_P M) (am_tg pc o)) L r h) = some res := H
        show (am_2i st fun x y r => if x = y then am_ex am_P am_Mi am_Nf X (n + 1) d M cs L r h else am_ex am_P am_Mi am_Nf X (n + 1) d M (am_at (am_P M) (am_tg pc o)) L r h) = some res
        obtain ⟨x, y, t, e0, H1⟩ := am_2i_el H
        subst e0
        have H := H1
        by_cases hc : x = y
        · rw [if_pos hc] at H
          show (if _ then _ else _) = some res
          rw [if_pos hc]
          exact ih _ _ _ _ _ _ _ H
        · rw [if_neg hc] at H
          show (if _ then _ else _) = some res
          rw [if_neg hc]
          exact ih _ _ _ _ _ _ _ H
      case lt =>
        have H : (am_2i st fun x y r => if x < y then am_ex am_P am_Mi am_Nf X n d M (am_at (am_P M) (am_tg pc o)) L r h else am_ex am_P am_Mi am_Nf X n d M cs L r h) = some res := H
        show (am_2i st fun x y r => if x < y then am_ex am_P am_Mi am_Nf X (n + 1) d M (am_at (am_P M) (am_tg pc o)) L r h else am_ex am_P am_Mi am_Nf X (n + 1) d M cs L r h) = some res
        obtain ⟨x, y, t, e0, H1⟩ := am_2i_el H
        subst e0
        have H := H1
        by_cases hc : x < y
        · rw [if_pos hc] at H
          show (if _ then _ else _) = some res
          rw [if_pos hc]
          exact ih _ _ _ _ _ _ _ H
        · rw [if_neg hc] at H
          show (if _ then _ else _) = some res
          rw [if_neg hc]
          exact ih _ _ _ _ _ _ _ H
      case ge =>
        have H : (am_2i st fun x y r => if y ≤ x then am_ex am_P am_Mi am_Nf X n d M (am_at (am_P M) (am_tg pc o)) L r h else am_ex am_P am_Mi am_Nf X n d M cs L r h) = some res := H
        show (am_2i st fun x y r => if y ≤ x then am_ex am_P am_Mi am_Nf X (n + 1) d M (am_at (am_P M) (am_tg pc o)) L r h else am_ex am_P am_Mi am_Nf X (n + 1) d M cs L r h) = some res
        obtain ⟨x, y, t, e0, H1⟩ := am_2i_el H
        subst e0
        have H := H1
        by_cases hc : y ≤ x
        · rw [if_pos hc] at H
          show (if _ then _ else _) = some res
          rw [if_pos hc]
          exact ih _ _ _ _ _ _ _ H
        · rw [if_neg hc] at H
          show (if _ then _ else _) = some res
          rw [if_neg hc]
          exact ih _ _ _ _ _ _ _ H
      case gt =>
        have H : (am_2i st fun x y r => if y < x then am_ex am_P am_Mi am_Nf X n d M (am_at (am_P M) (am_tg pc o)) L r h else am_ex am_P am_Mi am_Nf X n d M cs L r h) = some res := H
        show (am_2i st fun x y r => if y < x then am_ex am_P am_Mi am_Nf X (n + 1) d M (am_at (am_P M) (am_tg pc o)) L r h else am_ex am_P am_Mi am_Nf X (n + 1) d M cs L r h) = some res
        obtain ⟨x, y, t, e0, H1⟩ := am_2i_el H
        subst e0
        have H := H1
        by_cases hc : y < x
        · rw [if_pos hc] at H
          show (if _ then _ else _) = some res
          rw [if_pos hc]
          exact ih _ _ _ _ _ _ _ H
        · rw [if_neg hc] at H
          show (if _ then _ else _) = some res
          rw [if_neg hc]
          exact ih _ _ _ _ _ _ _ H
      case le =>
        have H : (am_2i st fun x y r => if x ≤ y then am_ex am_P am_Mi am_Nf X n d M (am_at (am_P M) (am_tg pc o)) L r h else am_ex am_P am_Mi am_Nf X n d M cs L r h) = some res := H
        show (am_2i st fun x y r => if x ≤ y then am_ex am_P am_Mi am_Nf X (n + 1) d M (am_at (am_P M) (am_tg pc o)) L r h else am_ex am_P am_Mi am_Nf X (n + 1) d M cs L r h) = some res
        obtain ⟨x, y, t, e0, H1⟩ := am_2i_el H
        subst e0
        have H := H1
        by_cases hc : x ≤ y
        · rw [if_pos hc] at H
          show (if _ then _ else _) = some res
          rw [if_pos hc]
          exact ih _ _ _ _ _ _ _ H
        · rw [if_neg hc] at H
          show (if _ then _ else _) = some res
          rw [if_neg hc]
          exact ih _ _ _ _ _ _ _ H
    case ifnull o =>
      have H : (am_1v st fun x r => (match x with | none => am_ex am_P am_Mi am_Nf X n d M (am_at (am_P M) (am_tg pc o)) L r h | some _ => am_ex am_P am_Mi am_Nf X n d M cs L r h)) = some res := H
      show (am_1v st fun x r => (match x with | none => am_ex am_P am_Mi am_Nf X (n + 1) d M (am_at (am_P M) (am_tg pc o)) L r h | some _ => am_ex am_P am_Mi am_Nf X (n + 1) d M cs L r h)) = some res
      obtain ⟨x, t, e0, H1⟩ := am_1v_el H
      subst e0
      have H := H1
      cases x <;> exact ih _ _ _ _ _ _ _ H
    case tableswitch df lo hi offs =>
      have H : (am_1i st fun x r => am_ex am_P am_Mi am_Nf X n d M (am_at (am_P M) (am_tg pc (am_sw df lo hi offs x))) L r h) = some res := H
      show (am_1i st fun x r => am_ex am_P am_Mi am_Nf X (n + 1) d M (am_at (am_P M) (am_tg pc (am_sw df lo hi offs x))) L r h) = some res
      obtain ⟨x, t, e0, H1⟩ := am_1i_el H
      subst e0
      have H := H1
      exact ih _ _ _ _ _ _ _ H
    case lookupswitch df ps =>
      have H : (am_1i st fun x r => am_ex am_P am_Mi am_Nf X n d M (am_at (am_P M) (am_tg pc (Op.lookupswitch.offset ps.toList df x.toInt))) L r h) = some res := H
      show (am_1i st fun x r => am_ex am_P am_Mi am_Nf X (n + 1) d M (am_at (am_P M) (am_tg pc (Op.lookupswitch.offset ps.toList df x.toInt))) L r h) = some res
      obtain ⟨x, t, e0, H1⟩ := am_1i_el H
      subst e0
      have H := H1
      exact ih _ _ _ _ _ _ _ H
    case getfield k =>
      have H : (am_1r st fun o r => if am_is h o (a + 3) = true then (if c0 = 1 then am_ex am_P am_Mi am_Nf X n d M cs L (va_rf (h.2.2 o b) :: r) h else am_ex am_P am_Mi am_Nf X n d M cs L (.int (h.2.1 o b) :: r) h) else none) = some res := H
      show (am_1r st fun o r => if am_is h o (a + 3) = true then (if c0 = 1 then am_ex am_P am_Mi am_Nf X (n + 1) d M cs L (va_rf (h.2.2 o b) :: r) h else am_ex am_P am_Mi am_Nf X (n + 1) d M cs L (.int (h.2.1 o b) :: r) h) else none) = some res
      obtain ⟨o, t, e0, H1⟩ := am_1r_el H
      subst e0
      have H := H1
      by_cases ho : am_is h o (a + 3) = true
      · rw [if_pos ho] at H
        show (if _ then _ else _) = some res
        rw [if_pos ho]
        by_cases hc : c0 = 1
        · rw [if_pos hc] at H ⊢
          exact ih _ _ _ _ _ _ _ H
        · rw [if_neg hc] at H ⊢
          exact ih _ _ _ _ _ _ _ H
      · rw [if_neg ho] at H; cases H
    case putfield k =>
      have H : (if c0 = 1 then am_rr st fun o v r => (if am_is h o (a + 3) = true then am_ex am_P am_Mi am_Nf X n d M cs L r (h.1, h.2.1, am_upG h.2.2 o b (some v)) else none) else am_ir st fun o x r => (if am_is h o (a + 3) = true then (if c0 = 2 ∧ ¬ (x = 0 ∨ x = 1) then none else am_ex am_P am_Mi am_Nf X n d M cs L r (h.1, am_upI h.2.1 o b x, h.2.2)) else none)) = some res := H
      show (if c0 = 1 then am_rr st fun o v r => (if am_is h o (a + 3) = true then am_ex am_P am_Mi am_Nf X (n + 1) d M cs L r (h.1, h.2.1, am_upG h.2.2 o b (some v)) else none) else am_ir st fun o x r => (if am_is h o (a + 3) = true then (if c0 = 2 ∧ ¬ (x = 0 ∨ x = 1) then none else am_ex am_P am_Mi am_Nf X (n + 1) d M cs L r (h.1, am_upI h.2.1 o b x, h.2.2)) else none)) = some res
      by_cases hc : c0 = 1
      · rw [if_pos hc] at H ⊢
        obtain ⟨o, v, t, e0, H1⟩ := am_rr_el H
        subst e0
        have H := H1
        by_cases ho : am_is h o (a + 3) = true
        · rw [if_pos ho] at H
          show (if _ then _ else _) = some res
          rw [if_pos ho]
          exact ih _ _ _ _ _ _ _ H
        · rw [if_neg ho] at H; cases H
      · rw [if_neg hc] at H ⊢
        obtain ⟨o, x, t, e0, H1⟩ := am_ir_el H
        subst e0
        have H := H1
        by_cases ho : am_is h o (a + 3) = true
        · rw [if_pos ho] at H
          show (if _ then _ else _) = some res
          rw [if_pos ho]
          by_cases hx : c0 = 2 ∧ ¬ (x = 0 ∨ x = 1)
          · rw [if_pos hx] at H; cases H
          · rw [if_neg hx] at H ⊢
            exact ih _ _ _ _ _ _ _ H
        · rw [if_neg ho] at H; cases H
    case iaload =>
      have H : (am_ia st fun o j r => (match am_arr X h 0 o with | some (k, f) => if j < 0 ∨ k ≤ j.toNatClampNeg then none else am_ex am_P am_Mi am_Nf X n d M cs L (.int (f j.toNatClampNeg) :: r) h | none => none)) = some res := H
      show (am_ia st fun o j r => (match am_arr X h 0 o with | some (k, f) => if j < 0 ∨ k ≤ j.toNatClampNeg then none else am_ex am_P am_Mi am_Nf X (n + 1) d M cs L (.int (f j.toNatClampNeg) :: r) h | none => none)) = some res
      obtain ⟨o, j2, t, e0, H1⟩ := am_ia_el H
      subst e0
      have H := H1
      cases ha : am_arr X h 0 o with
      | none => rw [ha] at H; cases H
      | some q =>
        obtain ⟨k, f⟩ := q
        rw [ha] at H
        have H : (if j2 < 0 ∨ k ≤ j2.toNatClampNeg then none else am_ex am_P am_Mi am_Nf X n d M cs L (.int (f j2.toNatClampNeg) :: t) h) = some res := H
        show (match am_arr X h 0 o with | some (k, f) => if j2 < 0 ∨ k ≤ j2.toNatClampNeg then none else am_ex am_P am_Mi am_Nf X (n + 1) d M cs L (.int (f j2.toNatClampNeg) :: t) h | none => none) = some res
        rw [ha]
        show (if j2 < 0 ∨ k ≤ j2.toNatClampNeg then none else am_ex am_P am_Mi am_Nf X (n + 1) d M cs L (.int (f j2.toNatClampNeg) :: t) h) = some res
        by_cases hx : j2 < 0 ∨ k ≤ j2.toNatClampNeg
        · rw [if_pos hx] at H; cases H
        · rw [if_neg hx] at H ⊢
          exact ih _ _ _ _ _ _ _ H
    case baload =>
      have H : (am_ia st fun o j r => (match am_arr X h 1 o with | some (k, f) => if j < 0 ∨ k ≤ j.toNatClampNeg then none else am_ex am_P am_Mi am_Nf X n d M cs L (.int (f j.toNatClampNeg) :: r) h | none => none)) = some res := H
      show (am_ia st fun o j r => (match am_arr X h 1 o with | some (k, f) => if j < 0 ∨ k ≤ j.toNatClampNeg then none else am_ex am_P am_Mi am_Nf X (n + 1) d M cs L (.int (f j.toNatClampNeg) :: r) h | none => none)) = some res
      obtain ⟨o, j2, t, e0, H1⟩ := am_ia_el H
      subst e0
      have H := H1
      cases ha : am_arr X h 1 o with
      | none => rw [ha] at H; cases H
      | some q =>
        obtain ⟨k, f⟩ := q
        rw [ha] at H
        have H : (if j2 < 0 ∨ k ≤ j2.toNatClampNeg then none else am_ex am_P am_Mi am_Nf X n d M cs L (.int (f j2.toNatClampNeg) :: t) h) = some res := H
        show (match am_arr X h 1 o with | some (k, f) => if j2 < 0 ∨ k ≤ j2.toNatClampNeg then none else am_ex am_P am_Mi am_Nf X (n + 1) d M cs L (.int (f j2.toNatClampNeg) :: t) h | none => none) = some res
        rw [ha]
        show (if j2 < 0 ∨ k ≤ j2.toNatClampNeg then none else am_ex am_P am_Mi am_Nf X (n + 1) d M cs L (.int (f j2.toNatClampNeg) :: t) h) = some res
        by_cases hx : j2 < 0 ∨ k ≤ j2.toNatClampNeg
        · rw [if_pos hx] at H; cases H
        · rw [if_neg hx] at H ⊢
          exact ih _ _ _ _ _ _ _ H
    case aaload =>
      have H : (am_ia st fun o j r => if am_is h o 2 = true then (match am_len X h o with | some k => if j < 0 ∨ k ≤ j.toNatClampNeg then none else am_ex am_P am_Mi am_Nf X n d M cs L (va_rf (h.2.2 o j.toNatClampNeg) :: r) h | none => none) else none) = some res := H
      show (am_ia st fun o j r => if am_is h o 2 = true then (match am_len X h o with | some k => if j < 0 ∨ k ≤ j.toNatClampNeg then none else am_ex am_P am_Mi am_Nf X (n + 1) d M cs L (va_rf (h.2.2 o j.toNatClampNeg) :: r) h | none => none) else none) = some res
      obtain ⟨o, j2, t, e0, H1⟩ := am_ia_el H
      subst e0
      have H := H1
      by_cases hi : am_is h o 2 = true
      · rw [if_pos hi] at H
        show (if _ then _ else _) = some res
        rw [if_pos hi]
        cases ha : am_len X h o with
        | none => rw [ha] at H; cases H
        | some k =>
          rw [ha] at H
          have H : (if j2 < 0 ∨ k ≤ j2.toNatClampNeg then none else am_ex am_P am_Mi am_Nf X n d M cs L (va_rf (h.2.2 o j2.toNatClampNeg) :: t) h) = some res := H
          show (if j2 < 0 ∨ k ≤ j2.toNatClampNeg then none else am_ex am_P am_Mi am_Nf X (n + 1) d M cs L (va_rf (h.2.2 o j2.toNatClampNeg) :: t) h) = some res
          by_cases hx : j2 < 0 ∨ k ≤ j2.toNatClampNeg
          · rw [if_pos hx] at H; cases H
          · rw [if_neg hx] at H ⊢
            exact ih _ _ _ _ _ _ _ H
      · rw [if_neg hi] at H; cases H
    case iastore =>
      have H : (am_iia st fun o j x r => if am_is h o 0 = true then (match am_len X h o with | some k => if j < 0 ∨ k ≤ j.toNatClampNeg then none else am_ex am_P am_Mi am_Nf X n d M cs L r (h.1, am_upI h.2.1 o j.toNatClampNeg x, h.2.2) | none => none) else none) = some res := H
      show (am_iia st fun o j x r => if am_is h o 0 = true then (match am_len X h o with | some k => if j < 0 ∨ k ≤ j.toNatClampNeg then none else am_ex am_P am_Mi am_Nf X (n + 1) d M cs L r (h.1, am_upI h.2.1 o j.toNatClampNeg x, h.2.2) | none => none) else none) = some res
      obtain ⟨o, j2, x, t, e0, H1⟩ := am_iia_el H
      subst e0
      have H := H1
      by_cases hi : am_is h o 0 = true
      · rw [if_pos hi] at H
        show (if _ then _ else _) = some res
        rw [if_pos hi]
        cases ha : am_len X h o with
        | none => rw [ha] at H; cases H
        | some k =>
          rw [ha] at H
          have H : (if j2 < 0 ∨ k ≤ j2.toNatClampNeg then none else am_ex am_P am_Mi am_Nf X n d M cs L t (h.1, am_upI h.2.1 o j2.toNatClampNeg x, h.2.2)) = some res := H
          show (if j2 < 0 ∨ k ≤ j2.toNatClampNeg then none else am_ex am_P am_Mi am_Nf X (n + 1) d M cs L t (h.1, am_upI h.2.1 o j2.toNatClampNeg x, h.2.2)) = some res
          by_cases hx : j2 < 0 ∨ k ≤ j2.toNatClampNeg
          · rw [if_pos hx] at H; cases H
          · rw [if_neg hx] at H ⊢
            exact ih _ _ _ _ _ _ _ H
      · rw [if_neg hi] at H; cases H
    case bastore =>
      have H : (am_iia st fun o j x r => if am_is h o 1 = true then (match am_len X h o with | some k => if j < 0 ∨ k ≤ j.toNatClampNeg then none else (if x = 0 ∨ x = 1 then am_ex am_P am_Mi am_Nf X n d M cs L r (h.1, am_upI h.2.1 o j.toNatClampNeg x, h.2.2) else none) | none => none) else none) = some res := H
      show (am_iia st fun o j x r => if am_is h o 1 = true then (match am_len X h o with | some k => if j < 0 ∨ k ≤ j.toNatClampNeg then none else (if x = 0 ∨ x = 1 then am_ex am_P am_Mi am_Nf X (n + 1) d M cs L r (h.1, am_upI h.2.1 o j.toNatClampNeg x, h.2.2) else none) | none => none) else none) = some res
      obtain ⟨o, j2, x, t, e0, H1⟩ := am_iia_el H
      subst e0
      have H := H1
      by_cases hi : am_is h o 1 = true
      · rw [if_pos hi] at H
        show (if _ then _ else _) = some res
        rw [if_pos hi]
        cases ha : am_len X h o with
        | none => rw [ha] at H; cases H
        | some k =>
          rw [ha] at H
          have H : (if j2 < 0 ∨ k ≤ j2.toNatClampNeg then none else (if x = 0 ∨ x = 1 then am_ex am_P am_Mi am_Nf X n d M cs L t (h.1, am_upI h.2.1 o j2.toNatClampNeg x, h.2.2) else none)) = some res := H
          show (if j2 < 0 ∨ k ≤ j2.toNatClampNeg then none else (if x = 0 ∨ x = 1 then am_ex am_P am_Mi am_Nf X (n + 1) d M cs L t (h.1, am_upI h.2.1 o j2.toNatClampNeg x, h.2.2) else none)) = some res
          by_cases hx : j2 < 0 ∨ k ≤ j2.toNatClampNeg
          · rw [if_pos hx] at H; cases H
          · rw [if_neg hx] at H ⊢
            by_cases h01 : x = 0 ∨ x = 1
            · rw [if_pos h01] at H ⊢
              exact ih _ _ _ _ _ _ _ H
            · rw [if_neg h01] at H; cases H
      · rw [if_neg hi] at H; cases H
    case aastore =>
      have H : (am_ria st fun o j v r => if am_is h o 2 = true ∧ am_is h v (a + 3) = true then (match am_len X h o with | some k => if j < 0 ∨ k ≤ j.toNatClampNeg then none else am_ex am_P am_Mi am_Nf X n d M cs L r (h.1, h.2.1, am_upG h.2.2 o j.toNatClampNeg (some v)) | none => none) else none) = some res := H
      show (am_ria st fun o j v r => if am_is h o 2 = true ∧ am_is h v (a + 3) = true then (match am_len X h o with | some k => if j < 0 ∨ k ≤ j.toNatClampNeg then none else am_ex am_P am_Mi am_Nf X (n + 1) d M cs L r (h.1, h.2.1, am_upG h.2.2 o j.toNatClampNeg (some v)) | none => none) else none) = some res
      obtain ⟨o, j2, v, t, e0, H1⟩ := am_ria_el H
      subst e0
      have H := H1
      by_cases hi : am_is h o 2 = true ∧ am_is h v (a + 3) = true
      · rw [if_pos hi] at H
        show (if _ then _ else _) = some res
        rw [if_pos hi]
        cases ha : am_len X h o with
        | none => rw [ha] at H; cases H
        | some k =>
          rw [ha] at H
          have H : (if j2 < 0 ∨ k ≤ j2.toNatClampNeg then none else am_ex am_P am_Mi am_Nf X n d M cs L t (h.1, h.2.1, am_upG h.2.2 o j2.toNatClampNeg (some v))) = some res := H
          show (if j2 < 0 ∨ k ≤ j2.toNatClampNeg then none else am_ex am_P am_Mi am_Nf X (n + 1) d M cs L t (h.1, h.2.1, am_upG h.2.2 o j2.toNatClampNeg (some v))) = some res
          by_cases hx : j2 < 0 ∨ k ≤ j2.toNatClampNeg
          · rw [if_pos hx] at H; cases H
          · rw [if_neg hx] at H ⊢
            exact ih _ _ _ _ _ _ _ H
      · rw [if_neg hi] at H; cases H
    case arraylength =>
      have H : (am_1r st fun o r => (match am_len X h o with | some k => am_ex am_P am_Mi am_Nf X n d M cs L (.int (Int32.ofNat k) :: r) h | none => none)) = some res := H
      show (am_1r st fun o r => (match am_len X h o with | some k => am_ex am_P am_Mi am_Nf X (n + 1) d M cs L (.int (Int32.ofNat k) :: r) h | none => none)) = some res
      obtain ⟨o, t, e0, H1⟩ := am_1r_el H
      subst e0
      have H := H1
      cases ha : am_len X h o with
      | none => rw [ha] at H; cases H
      | some k =>
        rw [ha] at H
        show (match am_len X h o with | some k => am_ex am_P am_Mi am_Nf X (n + 1) d M cs L (.int (Int32.ofNat k) :: t) h | none => none) = some res
        rw [ha]
        exact ih _ _ _ _ _ _ _ H
    case new k =>
      have H : (if h.1.length < 1000000 then am_ex am_P am_Mi am_Nf X n d M cs L (.ref h.1.length :: st) (h.1 ++ [(a + 3, am_Nf a)], am_zI h.2.1 h.1.length, am_zG h.2.2 h.1.length) else none) = some res := H
      show (if h.1.length < 1000000 then am_ex am_P am_Mi am_Nf X (n + 1) d M cs L (.ref h.1.length :: st) (h.1 ++ [(a + 3, am_Nf a)], am_zI h.2.1 h.1.length, am_zG h.2.2 h.1.length) else none) = some res
      by_cases hl : h.1.length < 1000000
      · rw [if_pos hl] at H ⊢
        exact ih _ _ _ _ _ _ _ H
      · rw [if_neg hl] at H; cases H
    case newarray at0 =>
      cases at0
      case int =>
        have H : (am_1i st fun x r => if x < 0 ∨ 1000000 < x.toNatClampNeg ∨ 1000000 ≤ h.1.length then none else am_ex am_P am_Mi am_Nf X n d M cs L (.ref h.1.length :: r) (h.1 ++ [(0, x.toNatClampNeg)], am_zI h.2.1 h.1.length, am_zG h.2.2 h.1.length)) = some res := H
        show (am_1i st fun x r => if x < 0 ∨ 1000000 < x.toNatClampNeg ∨ 1000000 ≤ h.1.length then none else am_ex am_P am_Mi am_Nf X (n + 1) d M cs L (.ref h.1.length :: r) (h.1 ++ [(0, x.toNatClampNeg)], am_zI h.2.1 h.1.length, am_zG h.2.2 h.1.length)) = some res
        obtain ⟨x, t, e0, H1⟩ := am_1i_el H
        subst e0
        have H := H1
        by_cases hc : x < 0 ∨ 1000000 < x.toNatClampNeg ∨ 1000000 ≤ h.1.length
        · rw [if_pos hc] at H
          show (if _ then _ else _) = some res
          rw [if_pos hc]
          cases H
        · rw [if_neg hc] at H
          show (if _ then _ else _) = some res
          rw [if_neg hc]
          exact ih _ _ _ _ _ _ _ H
      case boolean =>
        have H : (am_1i st fun x r => if x < 0 ∨ 1000000 < x.toNatClampNeg ∨ 1000000 ≤ h.1.length then none else am_ex am_P am_Mi am_Nf X n d M cs L (.ref h.1.length :: r) (h.1 ++ [(1, x.toNatClampNeg)], am_zI h.2.1 h.1.length, am_zG h.2.2 h.1.length)) = some res := H
        show (am_1i st fun x r => if x < 0 ∨ 1000000 < x.toNatClampNeg ∨ 1000000 ≤ h.1.length then none else am_ex am_P am_Mi am_Nf X (n + 1) d M cs L (.ref h.1.length :: r) (h.1 ++ [(1, x.toNatClampNeg)], am_zI h.2.1 h.1.length, am_zG h.2.2 h.1.length)) = some res
        obtain ⟨x, t, e0, H1⟩ := am_1i_el H
        subst e0
        have H := H1
        by_cases hc : x < 0 ∨ 1000000 < x.toNatClampNeg ∨ 1000000 ≤ h.1.length
        · rw [if_pos hc] at H
          show (if _ then _ else _) = some res
          rw [if_pos hc]
          cases H
        · rw [if_neg hc] at H
          show (if _ then _ else _) = some res
          rw [if_neg hc]
          exact ih _ _ _ _ _ _ _ H
      all_goals exact absurd (show (none : Option (Option Int32 × AmH)) = some res from H) (by simp)
    case anewarray k =>
      have H : (am_1i st fun x r => if x < 0 ∨ 1000000 < x.toNatClampNeg ∨ 1000000 ≤ h.1.length then none else am_ex am_P am_Mi am_Nf X n d M cs L (.ref h.1.length :: r) (h.1 ++ [(2, x.toNatClampNeg)], am_zI h.2.1 h.1.length, am_zG h.2.2 h.1.length)) = some res := H
      show (am_1i st fun x r => if x < 0 ∨ 1000000 < x.toNatClampNeg ∨ 1000000 ≤ h.1.length then none else am_ex am_P am_Mi am_Nf X (n + 1) d M cs L (.ref h.1.length :: r) (h.1 ++ [(2, x.toNatClampNeg)], am_zI h.2.1 h.1.length, am_zG h.2.2 h.1.length)) = some res
      obtain ⟨x, t, e0, H1⟩ := am_1i_el H
      subst e0
      have H := H1
      by_cases hc : x < 0 ∨ 1000000 < x.toNatClampNeg ∨ 1000000 ≤ h.1.length
      · rw [if_pos hc] at H
        show (if _ then _ else _) = some res
        rw [if_pos hc]
        cases H
      · rw [if_neg hc] at H
        show (if _ then _ else _) = some res
        rw [if_neg hc]
        exact ih _ _ _ _ _ _ _ H
    case getstatic k =>
      have H : (am_ex am_P am_Mi am_Nf X n d M cs L (.ref (1000000 + a) :: st) h) = some res := H
      show (am_ex am_P am_Mi am_Nf X (n + 1) d M cs L (.ref (1000000 + a) :: st) h) = some res
      exact ih _ _ _ _ _ _ _ H
    case invokevirtual k =>
      have H : (if b ≤ st.length ∧ am_cats (st.drop b) ≤ 8 ∧ am_rcv h 0 (am_Mi a).2.1 (st.take b).reverse = true then (match (generalizing := false) d with | 0 => none | d2 + 1 => (am_ex am_P am_Mi am_Nf X n d2 a (am_P a) (am_ini (am_Mi a).1 (st.take b).reverse) [] h).bind fun q => am_ex am_P am_Mi am_Nf X n (d2 + 1) M cs L (am_push q.1 (st.drop b)) q.2) else none) = some res := H
      show (if b ≤ st.length ∧ am_cats (st.drop b) ≤ 8 ∧ am_rcv h 0 (am_Mi a).2.1 (st.take b).reverse = true then (match (generalizing := false) d with | 0 => none | d2 + 1 => (am_ex am_P am_Mi am_Nf X (n + 1) d2 a (am_P a) (am_ini (am_Mi a).1 (st.take b).reverse) [] h).bind fun q => am_ex am_P am_Mi am_Nf X (n + 1) (d2 + 1) M cs L (am_push q.1 (st.drop b)) q.2) else none) = some res
      by_cases hc : b ≤ st.length ∧ am_cats (st.drop b) ≤ 8 ∧ am_rcv h 0 (am_Mi a).2.1 (st.take b).reverse = true
      · rw [if_pos hc] at H ⊢
        cases d with
        | zero => cases H
        | succ d2 =>
          obtain ⟨q, Hq, H⟩ := Option.bind_eq_some_iff.mp H
          exact Option.bind_eq_some_iff.mpr ⟨q, ih _ _ _ _ _ _ _ Hq, ih _ _ _ _ _ _ _ H⟩
      · rw [if_neg hc] at H; cases H
    case invokestatic k =>
      have H : (if b ≤ st.length ∧ am_cats (st.drop b) ≤ 8 then (match (generalizing := false) d with | 0 => none | d2 + 1 => (am_ex am_P am_Mi am_Nf X n d2 a (am_P a) (am_ini (am_Mi a).1 (st.take b).reverse) [] h).bind fun q => am_ex am_P am_Mi am_Nf X n (d2 + 1) M cs L (am_push q.1 (st.drop b)) q.2) else none) = some res := H
      show (if b ≤ st.length ∧ am_cats (st.drop b) ≤ 8 then (match (generalizing := false) d with | 0 => none | d2 + 1 => (am_ex am_P am_Mi am_Nf X (n + 1) d2 a (am_P a) (am_ini (am_Mi a).1 (st.take b).reverse) [] h).bind fun q => am_ex am_P am_Mi am_Nf X (n + 1) (d2 + 1) M cs L (am_push q.1 (st.drop b)) q.2) else none) = some res
      by_cases hc : b ≤ st.length ∧ am_cats (st.drop b) ≤ 8
      · rw [if_pos hc] at H ⊢
        cases d with
        | zero => cases H
        | succ d2 =>
          obtain ⟨q, Hq, H⟩ := Option.bind_eq_some_iff.mp H
          exact Option.bind_eq_some_iff.mpr ⟨q, ih _ _ _ _ _ _ _ Hq, ih _ _ _ _ _ _ _ H⟩
      · rw [if_neg hc] at H; cases H
    case invokespecial k =>
      have H : (if c0 = 4 then am_1r st fun _ r => (if am_cats r ≤ 8 ∧ 0 < d then am_ex am_P am_Mi am_Nf X n d M cs L r h else none) else if b ≤ st.length ∧ am_cats (st.drop b) ≤ 8 ∧ am_rcv h 2 (am_Mi a).2.1 (st.take b).reverse = true then (match (generalizing := false) d with | 0 => none | d2 + 1 => (am_ex am_P am_Mi am_Nf X n d2 a (am_P a) (am_ini (am_Mi a).1 (st.take b).reverse) [] h).bind fun q => am_ex am_P am_Mi am_Nf X n (d2 + 1) M cs L (am_push q.1 (st.drop b)) q.2) else none) = some res := H
      show (if c0 = 4 then am_1r st fun _ r => (if am_cats r ≤ 8 ∧ 0 < d then am_ex am_P am_Mi am_Nf X (n + 1) d M cs L r h else none) else if b ≤ st.length ∧ am_cats (st.drop b) ≤ 8 ∧ am_rcv h 2 (am_Mi a).2.1 (st.take b).reverse = true then (match (generalizing := false) d with | 0 => none | d2 + 1 => (am_ex am_P am_Mi am_Nf X (n + 1) d2 a (am_P a) (am_ini (am_Mi a).1 (st.take b).reverse) [] h).bind fun q => am_ex am_P am_Mi am_Nf X (n + 1) (d2 + 1) M cs L (am_push q.1 (st.drop b)) q.2) else none) = some res
      by_cases h4 : c0 = 4
      · rw [if_pos h4] at H ⊢
        obtain ⟨o, t, e0, H1⟩ := am_1r_el H
        subst e0
        have H := H1
        by_cases hc : am_cats t ≤ 8 ∧ 0 < d
        · rw [if_pos hc] at H
          show (if _ then _ else _) = some res
          rw [if_pos hc]
          exact ih _ _ _ _ _ _ _ H
        · rw [if_neg hc] at H; cases H
      · rw [if_neg h4] at H ⊢
        by_cases hc : b ≤ st.length ∧ am_cats (st.drop b) ≤ 8 ∧ am_rcv h 2 (am_Mi a).2.1 (st.take b).reverse = true
        · rw [if_pos hc] at H ⊢
          cases d with
          | zero => cases H
          | succ d2 =>
            obtain ⟨q, Hq, H⟩ := Option.bind_eq_some_iff.mp H
            exact Option.bind_eq_some_iff.mpr ⟨q, ih _ _ _ _ _ _ _ Hq, ih _ _ _ _ _ _ _ H⟩
        · rw [if_neg hc] at H; cases H
    case ireturn => exact H
    case return_ => exact H
    all_goals exact absurd (show (none : Option (Option Int32 × AmH)) = some res from H) (by simp)
theorem am_mono {X : AmX} {n k d M : Nat} {cs : AmCd} {L st : List Value} {h : AmH} {res : Option Int32 × AmH} (H : am_ex am_P am_Mi am_Nf X n d M cs L st h = some res) (hk : n ≤ k) : am_ex am_P am_Mi am_Nf X k d M cs L st h = some res := by
  obtain ⟨j, rfl⟩ := Nat.exists_eq_add_of_le hk
  induction j with
  | zero => exact H
  | succ j ih => exact am_mono1 X _ _ _ _ _ _ _ _ (ih (by omega))
