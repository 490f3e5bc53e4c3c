/-! the layout behind the constructors (printed by wip/gen/gen16.py), and rules for runs of the small machine -/
def sh_SH : List (Nat × Nat) := [(12, 7), (6, 5), (2, 640), (0, 640), (0, 640), (11, 8), (0, 40), (5, 7), (7, 2), (0, 1), (7, 2), (0, 3), (7, 2), (0, 3), (7, 2), (0, 3), (7, 2), (0, 72), (7, 2), (0, 576), (7, 2), (0, 5760), (4, 11), (0, 512), (8, 6), (0, 2), (0, 2), (0, 64), (0, 64), (0, 64), (7, 2), (0, 1), (7, 2), (0, 16), (7, 2), (0, 16), (7, 2), (0, 16), (7, 2), (0, 16), (7, 2), (0, 16), (7, 2), (0, 16), (7, 2), (0, 16), (10, 13), (7, 2), (0, 1), (7, 2), (0, 8), (7, 2), (0, 8), (7, 2), (0, 8), (7, 2), (0, 128), (7, 2), (0, 1024), (7, 2), (0, 8), (7, 2), (0, 8), (7, 2), (0, 8), (7, 2), (0, 8), (7, 2), (0, 8), (3, 10), (7, 2), (0, 1), (7, 2), (0, 4), (7, 2), (0, 4), (7, 2), (0, 16), (7, 2), (0, 4), (7, 2), (0, 1), (7, 2), (0, 4), (7, 2), (0, 1), (9, 7), (7, 2), (0, 5), (7, 2), (0, 1), (7, 2), (0, 1), (7, 2), (0, 1), (13, 51), (0, 32), (0, 6), (0, 6), (0, 6), (0, 144), (0, 1152), (0, 11520), (0, 32), (0, 32), (0, 32), (0, 32), (0, 32), (0, 16), (0, 16), (0, 16), (0, 16), (0, 16), (0, 16), (0, 16), (0, 16), (1, 256), (0, 2048), (0, 2048), (0, 8), (0, 8), (0, 32), (1, 8), (0, 8), (1, 10), (0, 40), (0, 64), (0, 64), (0, 4096), (0, 2048), (0, 2048), (0, 2048), (0, 512), (0, 4)]
def sh_gt : List (List (Option Nat)) := [[some 1, some 5, some 7, some 22, some 46, some 69, some 86], [some 2, some 3, some 4, none, none], [], [], [], [some 6, none, none, none, none, none, none, none], [], [some 8, some 10, some 12, some 14, some 16, some 18, some 20], [some 1, some 9], [], [some 1, some 11], [], [some 1, some 13], [], [some 1, some 15], [], [some 1, some 17], [], [some 1, some 19], [], [some 1, some 21], [], [some 5, some 24, some 23, some 30, some 32, some 34, some 36, some 38, some 40, some 42, some 44], [], [some 5, some 25, some 26, some 27, some 28, some 29], [], [], [], [], [], [some 1, some 31], [], [some 1, some 33], [], [some 1, some 35], [], [some 1, some 37], [], [some 1, some 39], [], [some 1, some 41], [], [some 1, some 43], [], [some 1, some 45], [], [some 7, some 22, some 47, some 49, some 51, some 53, some 55, some 57, some 59, some 61, some 63, some 65, some 67], [some 1, some 48], [], [some 1, some 50], [], [some 1, some 52], [], [some 1, some 54], [], [some 1, some 56], [], [some 1, some 58], [], [some 1, some 60], [], [some 1, some 62], [], [some 1, some 64], [], [some 1, some 66], [], [some 1, some 68], [], [some 22, some 46, some 70, some 72, some 74, some 76, some 78, some 80, some 82, some 84], [some 1, some 71], [], [some 1, some 73], [], [some 1, some 75], [], [some 1, some 77], [], [some 1, some 79], [], [some 1, some 81], [], [some 1, some 83], [], [some 1, some 85], [], [some 5, some 22, some 46, some 87, some 89, some 91, some 93], [some 1, some 88], [], [some 1, some 90], [], [some 1, some 92], [], [some 1, some 94], [], [some 96, some 97, some 98, some 99, some 100, some 101, some 102, some 103, some 104, some 105, some 106, some 107, some 108, some 109, some 110, some 111, some 112, some 113, some 114, some 115, some 116, some 117, some 118, some 119, some 120, some 121, some 122, some 123, some 124, none, none, none, none, none, none, none, none, some 125, some 126, none, none, none, some 127, some 128, some 129, some 130, some 131, none, some 132, some 133, none], [], [], [], [], [], [], [], [], [], [], [], [], [], [], [], [], [], [], [], [], [], [], [], [], [], [], [], [], [], [], [], [], [], [], [], [], [], []]
def sh_gs (o b : Nat) : Option Nat := (sh_gt.getD o []).getD b none
-- a state: the ints; the journal's rows
abbrev AmT : Type := (Nat → Nat → Int32) × (Nat → Option Nat)
def sh_G (R : Nat → Option Nat) : Nat → Nat → Option Nat := fun o b => if o = 2 then R b else sh_gs o b
def hS (S : AmT) : AmH := (sh_SH, S.1, sh_G S.2)
def Ex (X : AmX) (d M : Nat) (cs : AmCd) (L st : List Value) (h : AmH) (res : Option Int32 × AmH) : Prop := ∃ n, am_ex am_P am_Mi am_Nf X n d M cs L st h = some res
abbrev am_lt {α β : Type} (x : α) (k : α → β) : β := k x
def am_ck {α : Type} (j : Int32) (n : Nat) (k : Option α) : Option α := if j < 0 ∨ n ≤ j.toNatClampNeg then none else k
def am_nz {α : Type} (y : Int32) (k : Option α) : Option α := if y = 0 then none else k
def am_b01 {α : Type} (x : Int32) (k : Option α) : Option α := if x = 0 ∨ x = 1 then k else none
theorem am_ck_el {α : Type} {j : Int32} {n : Nat} {k : Option α} {q : α} (H : am_ck j n k = some q) : ¬ (j < 0 ∨ n ≤ j.toNatClampNeg) ∧ k = some q := by
  unfold am_ck at H
  split at H
  · cases H
  · exact ⟨by assumption, H⟩
theorem am_nz_el {α : Type} {y : Int32} {k : Option α} {q : α} (H : am_nz y k = some q) : ¬ y = 0 ∧ k = some q := by
  unfold am_nz at H
  split at H
  · cases H
  · exact ⟨by assumption, H⟩
theorem am_b01_el {α : Type} {x : Int32} {k : Option α} {q : α} (H : am_b01 x k = some q) : (x = 0 ∨ x = 1) ∧ k = some q := by
  unfold am_b01 at H
  split at H
  · exact ⟨by assumption, H⟩
  · cases H
section EX
variable {X : AmX} {d M : Nat} {cs ct : AmCd} {L L2 st rest : List Value} {h : AmH} {res : Option Int32 × AmH} {pc a b c0 : Nat} {x y v : Int32} {S : AmT}
theorem ex_iload {k : Nat} (hL : L[k]? = some (.int x)) (H : Ex X d M cs L (.int x :: st) h res) : Ex X d M ((pc, .iload k, a, b, c0) :: cs) L st h res := by
  obtain ⟨n, H⟩ := H
  refine ⟨n + 1, ?_⟩
  show am_li _ _ _ = _
  unfold am_li
  rw [hL]
  exact H
theorem ex_iload_n {k : Fin 4} (hL : L[k.val]? = some (.int x)) (H : Ex X d M cs L (.int x :: st) h res) : Ex X d M ((pc, .iload_n k, a, b, c0) :: cs) L st h res := by
  obtain ⟨n, H⟩ := H
  refine ⟨n + 1, ?_⟩
  show am_li _ _ _ = _
  unfold am_li
  rw [hL]
  exact H
theorem ex_aload {k o : Nat} (hL : L[k]? = some (.ref o)) (H : Ex X d M cs L (.ref o :: st) h res) : Ex X d M ((pc, .aload k, a, b, c0) :: cs) L st h res := by
  obtain ⟨n, H⟩ := H
  refine ⟨n + 1, ?_⟩
  show am_la L k (fun x => am_ex am_P am_Mi am_Nf X n d M cs L (va_rf x :: st) h) = _
  unfold am_la
  rw [hL]
  exact H
theorem ex_aload_n {k : Fin 4} {o : Nat} (hL : L[k.val]? = some (.ref o)) (H : Ex X d M cs L (.ref o :: st) h res) : Ex X d M ((pc, .aload_n k, a, b, c0) :: cs) L st h res := by
  obtain ⟨n, H⟩ := H
  refine ⟨n + 1, ?_⟩
  show am_la L k.val (fun x => am_ex am_P am_Mi am_Nf X n d M cs L (va_rf x :: st) h) = _
  unfold am_la
  rw [hL]
  exact H
theorem ex_istore {k : Nat} (hk : k < L.length) (hL : L.set k (.int x) = L2) (H : Ex X d M cs L2 st h res) : Ex X d M ((pc, .istore k, a, b, c0) :: cs) L (.int x :: st) h res := by
  obtain ⟨n, H⟩ := H
  refine ⟨n + 1, ?_⟩
  show (if k < L.length then am_ex am_P am_Mi am_Nf X n d M cs (L.set k (.int x)) st h else none) = _
  rw [if_pos hk, hL]
  exact H
theorem ex_istore_n {k : Fin 4} (hk : k.val < L.length) (hL : L.set k.val (.int x) = L2) (H : Ex X d M cs L2 st h res) : Ex X d M ((pc, .istore_n k, a, b, c0) :: cs) L (.int x :: st) h res := by
  obtain ⟨n, H⟩ := H
  refine ⟨n + 1, ?_⟩
  show (if k.val < L.length then am_ex am_P am_Mi am_Nf X n d M cs (L.set k.val (.int x)) st h else none) = _
  rw [if_pos hk, hL]
  exact H
theorem ex_iinc {k : Nat} {i : Int} (hg : L[k]? = some (.int x)) (hk : k < L.length) (hv : x + Int32.ofInt i = v) (hL : L.set k (.int v) = L2) (H : Ex X d M cs L2 st h res) : Ex X d M ((pc, .iinc k i, a, b, c0) :: cs) L st h res := by
  obtain ⟨n, H⟩ := H
  refine ⟨n + 1, ?_⟩
  show am_li L k (fun x => am_st L k (.int (x + Int32.ofInt i)) fun L' => am_ex am_P am_Mi am_Nf X n d M cs L' st h) = _
  unfold am_li
  rw [hg]
  show (if k < L.length then am_ex am_P am_Mi am_Nf X n d M cs (L.set k (.int (x + Int32.ofInt i))) st h else none) = _
  rw [if_pos hk, hv, hL]
  exact H
theorem ex_iconst {i : Int} (hv : Int32.ofInt i = v) (H : Ex X d M cs L (.int v :: st) h res) : Ex X d M ((pc, .iconst i, a, b, c0) :: cs) L st h res := by
  obtain ⟨n, H⟩ := H
  subst hv
  exact ⟨n + 1, H⟩
theorem ex_bipush {i : Int} (hv : (Int8.ofInt i).toInt32 = v) (H : Ex X d M cs L (.int v :: st) h res) : Ex X d M ((pc, .bipush i, a, b, c0) :: cs) L st h res := by
  obtain ⟨n, H⟩ := H
  subst hv
  exact ⟨n + 1, H⟩
theorem ex_sipush {i : Int} (hv : (Int16.ofInt i).toInt32 = v) (H : Ex X d M cs L (.int v :: st) h res) : Ex X d M ((pc, .sipush i, a, b, c0) :: cs) L st h res := by
  obtain ⟨n, H⟩ := H
  subst hv
  exact ⟨n + 1, H⟩
theorem ex_iadd (H : Ex X d M cs L (.int (x + y) :: st) h res) : Ex X d M ((pc, .iadd, a, b, c0) :: cs) L (.int y :: .int x :: st) h res := by
  obtain ⟨n, H⟩ := H
  exact ⟨n + 1, H⟩
theorem ex_isub (H : Ex X d M cs L (.int (x - y) :: st) h res) : Ex X d M ((pc, .isub, a, b, c0) :: cs) L (.int y :: .int x :: st) h res := by
  obtain ⟨n, H⟩ := H
  exact ⟨n + 1, H⟩
theorem ex_imul (H : Ex X d M cs L (.int (x * y) :: st) h res) : Ex X d M ((pc, .imul, a, b, c0) :: cs) L (.int y :: .int x :: st) h res := by
  obtain ⟨n, H⟩ := H
  exact ⟨n + 1, H⟩
theorem ex_iand (H : Ex X d M cs L (.int (x &&& y) :: st) h res) : Ex X d M ((pc, .iand, a, b, c0) :: cs) L (.int y :: .int x :: st) h res := by
  obtain ⟨n, H⟩ := H
  exact ⟨n + 1, H⟩
theorem ex_ixor (H : Ex X d M cs L (.int (x ^^^ y) :: st) h res) : Ex X d M ((pc, .ixor, a, b, c0) :: cs) L (.int y :: .int x :: st) h res := by
  obtain ⟨n, H⟩ := H
  exact ⟨n + 1, H⟩
theorem ex_ishr (H : Ex X d M cs L (.int (x >>> (y &&& 31)) :: st) h res) : Ex X d M ((pc, .ishr, a, b, c0) :: cs) L (.int y :: .int x :: st) h res := by
  obtain ⟨n, H⟩ := H
  exact ⟨n + 1, H⟩
theorem ex_idiv (hy : ¬ y = 0) (H : Ex X d M cs L (.int (x / y) :: st) h res) : Ex X d M ((pc, .idiv, a, b, c0) :: cs) L (.int y :: .int x :: st) h res := by
  obtain ⟨n, H⟩ := H
  refine ⟨n + 1, ?_⟩
  show (if y = 0 then none else am_ex am_P am_Mi am_Nf X n d M cs L (.int (x / y) :: st) h) = _
  rw [if_neg hy]
  exact H
theorem ex_irem (hy : ¬ y = 0) (H : Ex X d M cs L (.int (x - x / y * y) :: st) h res) : Ex X d M ((pc, .irem, a, b, c0) :: cs) L (.int y :: .int x :: st) h res := by
  obtain ⟨n, H⟩ := H
  refine ⟨n + 1, ?_⟩
  show (if y = 0 then none else am_ex am_P am_Mi am_Nf X n d M cs L (.int (x - x / y * y) :: st) h) = _
  rw [if_neg hy]
  exact H
theorem ex_dupi (H : Ex X d M cs L (.int x :: .int x :: st) h res) : Ex X d M ((pc, .dup, a, b, c0) :: cs) L (.int x :: st) h res := by
  obtain ⟨n, H⟩ := H
  exact ⟨n + 1, H⟩
theorem ex_dupr {o : Nat} (H : Ex X d M cs L (.ref o :: .ref o :: st) h res) : Ex X d M ((pc, .dup, a, b, c0) :: cs) L (.ref o :: st) h res := by
  obtain ⟨n, H⟩ := H
  exact ⟨n + 1, H⟩
theorem ex_dup2 {o : Nat} (H : Ex X d M cs L (.int x :: .ref o :: .int x :: .ref o :: st) h res) : Ex X d M ((pc, .dup2, a, b, c0) :: cs) L (.int x :: .ref o :: st) h res := by
  obtain ⟨n, H⟩ := H
  exact ⟨n + 1, H⟩
theorem ex_goto {i : Int} (ht : am_at (am_P M) (am_tg pc i) = ct) (H : Ex X d M ct L st h res) : Ex X d M ((pc, .goto i, a, b, c0) :: cs) L st h res := by
  obtain ⟨n, H⟩ := H
  subst ht
  exact ⟨n + 1, H⟩
theorem ex_if_eq_j {i : Int} (hc : x = 0) (ht : am_at (am_P M) (am_tg pc i) = ct) (H : Ex X d M ct L st h res) : Ex X d M ((pc, .ifCond .eq i, a, b, c0) :: cs) L (.int x :: st) h res := by
  obtain ⟨n, H⟩ := H
  subst ht
  refine ⟨n + 1, ?_⟩
  show (if x = 0 then am_ex am_P am_Mi am_Nf X n d M (am_at (am_P M) (am_tg pc i)) L st h else am_ex am_P am_Mi am_Nf X n d M cs L st h) = _
  rw [if_pos hc]
  exact H
theorem ex_if_eq_f {i : Int} (hc : ¬ x = 0) (H : Ex X d M cs L st h res) : Ex X d M ((pc, .ifCond .eq i, a, b, c0) :: cs) L (.int x :: st) h res := by
  obtain ⟨n, H⟩ := H
  refine ⟨n + 1, ?_⟩
  show (if x = 0 then am_ex am_P am_Mi am_Nf X n d M (am_at (am_P M) (am_tg pc i)) L st h else am_ex am_P am_Mi am_Nf X n d M cs L st h) = _
  rw [if_neg hc]
  exact H
theorem ex_if_ne_j {i : Int} (hc : ¬ x = 0) (ht : am_at (am_P M) (am_tg pc i) = ct) (H : Ex X d M ct L st h res) : Ex X d M ((pc, .ifCond .ne i, a, b, c0) :: cs) L (.int x :: st) h res := by
  obtain ⟨n, H⟩ := H
  subst ht
  refine ⟨n + 1, ?_⟩
  show (if x = 0 then am_ex am_P am_Mi am_Nf X n d M cs L st h else am_ex am_P am_Mi am_Nf X n d M (am_at (am_P M) (am_tg pc i)) L st h) = _
  rw [if_neg hc]
  exact H
theorem ex_if_ne_f {i : Int} (hc : x = 0) (H : Ex X d M cs L st h res) : Ex X d M ((pc, .ifCond .ne i, a, b, c0) :: cs) L (.int x :: st) h res := by
  obtain ⟨n, H⟩ := H
  refine ⟨n + 1, ?_⟩
  show (if x = 0 then am_ex am_P am_Mi am_Nf X n d M cs L st h else am_ex am_P am_Mi am_Nf X n d M (am_at (am_P M) (am_tg pc i)) L st h) = _
  rw [if_pos hc]
  exact H
theorem ex_if_lt_j {i : Int} (hc : x < 0) (ht : am_at (am_P M) (am_tg pc i) = ct) (H : Ex X d M ct L st h res) : Ex X d M ((pc, .ifCond .lt i, a, b, c0) :: cs) L (.int x :: st) h res := by
  obtain ⟨n, H⟩ := H
  subst ht
  refine ⟨n + 1, ?_⟩
  show (if x < 0 then am_ex am_P am_Mi am_Nf X n d M (am_at (am_P M) (am_tg pc i)) L st h else am_ex am_P am_Mi am_Nf X n d M cs L st h) = _
  rw [if_pos hc]
  exact H
theorem ex_if_lt_f {i : Int} (hc : ¬ x < 0) (H : Ex X d M cs L st h res) : Ex X d M ((pc, .ifCond .lt i, a, b, c0) :: cs) L (.int x :: st) h res := by
  obtain ⟨n, H⟩ := H
  refine ⟨n + 1, ?_⟩
  show (if x < 0 then am_ex am_P am_Mi am_Nf X n d M (am_at (am_P M) (am_tg pc i)) L st h else am_ex am_P am_Mi am_Nf X n d M cs L st h) = _
  rw [if_neg hc]
  exact H
theorem ex_if_ge_j {i : Int} (hc : 0 ≤ x) (ht : am_at (am_P M) (am_tg pc i) = ct) (H : Ex X d M ct L st h res) : Ex X d M ((pc, .ifCond .ge i, a, b, c0) :: cs) L (.int x :: st) h res := by
  obtain ⟨n, H⟩ := H
  subst ht
  refine ⟨n + 1, ?_⟩
  show (if 0 ≤ x then am_ex am_P am_Mi am_Nf X n d M (am_at (am_P M) (am_tg pc i)) L st h else am_ex am_P am_Mi am_Nf X n d M cs L st h) = _
  rw [if_pos hc]
  exact H
theorem ex_if_ge_f {i : Int} (hc : ¬ 0 ≤ x) (H : Ex X d M cs L st h res) : Ex X d M ((pc, .ifCond .ge i, a, b, c0) :: cs) L (.int x :: st) h res := by
  obtain ⟨n, H⟩ := H
  refine ⟨n + 1, ?_⟩
  show (if 0 ≤ x then am_ex am_P am_Mi am_Nf X n d M (am_at (am_P M) (am_tg pc i)) L st h else am_ex am_P am_Mi am_Nf X n d M cs L st h) = _
  rw [if_neg hc]
  exact H
theorem ex_if_gt_j {i : Int} (hc : 0 < x) (ht : am_at (am_P M) (am_tg pc i) = ct) (H : Ex X d M ct L st h res) : Ex X d M ((pc, .ifCond .gt i, a, b, c0) :: cs) L (.int x :: st) h res := by
  obtain ⟨n, H⟩ := H
  subst ht
  refine ⟨n + 1, ?_⟩
  show (if 0 < x then am_ex am_P am_Mi am_Nf X n d M (am_at (am_P M) (am_tg pc i)) L st h else am_ex am_P am_Mi am_Nf X n d M cs L st h) = _
  rw [if_pos hc]
  exact H
theorem ex_if_gt_f {i : Int} (hc : ¬ 0 < x) (H : Ex X d M cs L st h res) : Ex X d M ((pc, .ifCond .gt i, a, b, c0) :: cs) L (.int x :: st) h res := by
  obtain ⟨n, H⟩ := H
  refine ⟨n + 1, ?_⟩
  show (if 0 < x then am_ex am_P am_Mi am_Nf X n d M (am_at (am_P M) (am_tg pc i)) L st h else am_ex am_P am_Mi am_Nf X n d M cs L st h) = _
  rw [if_neg hc]
  exact H
theorem ex_if_le_j {i : Int} (hc : x ≤ 0) (ht : am_at (am_P M) (am_tg pc i) = ct) (H : Ex X d M ct L st h res) : Ex X d M ((pc, .ifCond .le i, a, b, c0) :: cs) L (.int x :: st) h res := by
  obtain ⟨n, H⟩ := H
  subst ht
  refine ⟨n + 1, ?_⟩
  show (if x ≤ 0 then am_ex am_P am_Mi am_Nf X n d M (am_at (am_P M) (am_tg pc i)) L st h else am_ex am_P am_Mi am_Nf X n d M cs L st h) = _
  rw [if_pos hc]
  exact H
theorem ex_if_le_f {i : Int} (hc : ¬ x ≤ 0) (H : Ex X d M cs L st h res) : Ex X d M ((pc, .ifCond .le i, a, b, c0) :: cs) L (.int x :: st) h res := by
  obtain ⟨n, H⟩ := H
  refine ⟨n + 1, ?_⟩
  show (if x ≤ 0 then am_ex am_P am_Mi am_Nf X n d M (am_at (am_P M) (am_tg pc i)) L st h else am_ex am_P am_Mi am_Nf X n d M cs L st h) = _
  rw [if_neg hc]
  exact H
theorem ex_icmp_eq_j {i : Int} (hc : x = y) (ht : am_at (am_P M) (am_tg pc i) = ct) (H : Ex X d M ct L st h res) : Ex X d M ((pc, .if_icmp .eq i, a, b, c0) :: cs) L (.int y :: .int x :: st) h res := by
  obtain ⟨n, H⟩ := H
  subst ht
  refine ⟨n + 1, ?_⟩
  show (if x = y then am_ex am_P am_Mi am_Nf X n d M (am_at (am_P M) (am_tg pc i)) L st h else am_ex am_P am_Mi am_Nf X n d M cs L st h) = _
  rw [if_pos hc]
  exact H
theorem ex_icmp_eq_f {i : Int} (hc : ¬ x = y) (H : Ex X d M cs L st h res) : Ex X d M ((pc, .if_icmp .eq i, a, b, c0) :: cs) L (.int y :: .int x :: st) h res := by
  obtain ⟨n, H⟩ := H
  refine ⟨n + 1, ?_⟩
  show (if x = y then am_ex am_P am_Mi am_Nf X n d M (am_at (am_P M) (am_tg pc i)) L st h else am_ex am_P am_Mi am_Nf X n d M cs L st h) = _
  rw [if_neg hc]
  exact H
theorem ex_icmp_ne_j {i : Int} (hc : ¬ x = y) (ht : am_at (am_P M) (am_tg pc i) = ct) (H : Ex X d M ct L st h res) : Ex X d M ((pc, .if_icmp .ne i, a, b, c0) :: cs) L (.int y :: .int x :: st) h res := by
  obtain ⟨n, H⟩ := H
  subst ht
  refine ⟨n + 1, ?_⟩
  show (if x = y then am_ex am_P am_Mi am_Nf X n d M cs L st h else am_ex am_P am_Mi am_Nf X n d M (am_at (am_P M) (am_tg pc i)) L st h) = _
  rw [if_neg hc]
  exact H
theorem ex_icmp_ne_f {i : Int} (hc : x = y) (H : Ex X d M cs L st h res) : Ex X d M ((pc, .if_icmp .ne i, a, b, c0) :: cs) L (.int y :: .int x :: st) h res := by
  obtain ⟨n, H⟩ := H
  refine ⟨n + 1, ?_⟩
  show (if x = y then am_ex am_P am_Mi am_Nf X n d M cs L st h else am_ex am_P am_Mi am_Nf X n d M (am_at (am_P M) (am_tg pc i)) L st h) = _
  rw [if_pos hc]
  exact H
theorem ex_icmp_lt_j {i : Int} (hc : x < y) (ht : am_at (am_P M) (am_tg pc i) = ct) (H : Ex X d M ct L st h res) : Ex X d M ((pc, .if_icmp .lt i, a, b, c0) :: cs) L (.int y :: .int x :: st) h res := by
  obtain ⟨n, H⟩ := H
  subst ht
  refine ⟨n + 1, ?_⟩
  show (if x < y then am_ex am_P am_Mi am_Nf X n d M (am_at (am_P M) (am_tg pc i)) L st h else am_ex am_P am_Mi am_Nf X n d M cs L st h) = _
  rw [if_pos hc]
  exact H
theorem ex_icmp_lt_f {i : Int} (hc : ¬ x < y) (H : Ex X d M cs L st h res) : Ex X d M ((pc, .if_icmp .lt i, a, b, c0) :: cs) L (.int y :: .int x :: st) h res := by
  obtain ⟨n, H⟩ := H
  refine ⟨n + 1, ?_⟩
  show (if x < y then am_ex am_P am_Mi am_Nf X n d M (am_at (am_P M) (am_tg pc i)) L st h else am_ex am_P am_Mi am_Nf X n d M cs L st h) = _
  rw [if_neg hc]
  exact H
theorem ex_icmp_ge_j {i : Int} (hc : y ≤ x) (ht : am_at (am_P M) (am_tg pc i) = ct) (H : Ex X d M ct L st h res) : Ex X d M ((pc, .if_icmp .ge i, a, b, c0) :: cs) L (.int y :: .int x :: st) h res := by
  obtain ⟨n, H⟩ := H
  subst ht
  refine ⟨n + 1, ?_⟩
  show (if y ≤ x then am_ex am_P am_Mi am_Nf X n d M (am_at (am_P M) (am_tg pc i)) L st h else am_ex am_P am_Mi am_Nf X n d M cs L st h) = _
  rw [if_pos hc]
  exact H
theorem ex_icmp_ge_f {i : Int} (hc : ¬ y ≤ x) (H : Ex X d M cs L st h res) : Ex X d M ((pc, .if_icmp .ge i, a, b, c0) :: cs) L (.int y :: .int x :: st) h res := by
  obtain ⟨n, H⟩ := H
  refine ⟨n + 1, ?_⟩
  show (if y ≤ x then am_ex am_P am_Mi am_Nf X n d M (am_at (am_P M) (am_tg pc i)) L st h else am_ex am_P am_Mi am_Nf X n d M cs L st h) = _
  rw [if_neg hc]
  exact H
theorem ex_icmp_gt_j {i : Int} (hc : y < x) (ht : am_at (am_P M) (am_tg pc i) = ct) (H : Ex X d M ct L st h res) : Ex X d M ((pc, .if_icmp .gt i, a, b, c0) :: cs) L (.int y :: .int x :: st) h res := by
  obtain ⟨n, H⟩ := H
  subst ht
  refine ⟨n + 1, ?_⟩
  show (if y < x then am_ex am_P am_Mi am_Nf X n d M (am_at (am_P M) (am_tg pc i)) L st h else am_ex am_P am_Mi am_Nf X n d M cs L st h) = _
  rw [if_pos hc]
  exact H
theorem ex_icmp_gt_f {i : Int} (hc : ¬ y < x) (H : Ex X d M cs L st h res) : Ex X d M ((pc, .if_icmp .gt i, a, b, c0) :: cs) L (.int y :: .int x :: st) h res := by
  obtain ⟨n, H⟩ := H
  refine ⟨n + 1, ?_⟩
  show (if y < x then am_ex am_P am_Mi am_Nf X n d M (am_at (am_P M) (am_tg pc i)) L st h else am_ex am_P am_Mi am_Nf X n d M cs L st h) = _
  rw [if_neg hc]
  exact H
theorem ex_icmp_le_j {i : Int} (hc : x ≤ y) (ht : am_at (am_P M) (am_tg pc i) = ct) (H : Ex X d M ct L st h res) : Ex X d M ((pc, .if_icmp .le i, a, b, c0) :: cs) L (.int y :: .int x :: st) h res := by
  obtain ⟨n, H⟩ := H
  subst ht
  refine ⟨n + 1, ?_⟩
  show (if x ≤ y then am_ex am_P am_Mi am_Nf X n d M (am_at (am_P M) (am_tg pc i)) L st h else am_ex am_P am_Mi am_Nf X n d M cs L st h) = _
  rw [if_pos hc]
  exact H
theorem ex_icmp_le_f {i : Int} (hc : ¬ x ≤ y) (H : Ex X d M cs L st h res) : Ex X d M ((pc, .if_icmp .le i, a, b, c0) :: cs) L (.int y :: .int x :: st) h res := by
  obtain ⟨n, H⟩ := H
  refine ⟨n + 1, ?_⟩
  show (if x ≤ y then am_ex am_P am_Mi am_Nf X n d M (am_at (am_P M) (am_tg pc i)) L st h else am_ex am_P am_Mi am_Nf X n d M cs L st h) = _
  rw [if_neg hc]
  exact H
theorem ex_table {df lo hi off : Int} {offs : Array Int} (ho : am_sw df lo hi offs x = off) (ht : am_at (am_P M) (am_tg pc off) = ct) (H : Ex X d M ct L st h res) : Ex X d M ((pc, .tableswitch df lo hi offs, a, b, c0) :: cs) L (.int x :: st) h res := by
  obtain ⟨n, H⟩ := H
  subst ht
  subst ho
  exact ⟨n + 1, H⟩
theorem ex_look {df off : Int} {ps : Array (Int × Int)} (ho : Op.lookupswitch.offset ps.toList df x.toInt = off) (ht : am_at (am_P M) (am_tg pc off) = ct) (H : Ex X d M ct L st h res) : Ex X d M ((pc, .lookupswitch df ps, a, b, c0) :: cs) L (.int x :: st) h res := by
  obtain ⟨n, H⟩ := H
  subst ht
  subst ho
  exact ⟨n + 1, H⟩
theorem am_sw_out {df lo hi : Int} {offs : Array Int} (n : Nat) (hn : hi = lo + n - 1) (hl : -2147483648 ≤ lo) (hh : hi < 2147483648) (hx : ∀ k : Nat, k < n → x ≠ Int32.ofInt (lo + k)) : am_sw df lo hi offs x = df := by
  unfold am_sw
  split
  · rfl
  · rename_i hc
    exfalso
    have h1 : lo ≤ x.toInt := by omega
    have h2 : x.toInt ≤ hi := by omega
    apply hx (x.toInt - lo).toNat (by omega)
    rw [show lo + ((x.toInt - lo).toNat : Int) = x.toInt by omega, Int32.ofInt_toInt]
theorem ex_getI {k o : Nat} (ho : am_is h o (a + 3) = true) (hc : ¬ c0 = 1) (H : Ex X d M cs L (.int (h.2.1 o b) :: st) h res) : Ex X d M ((pc, .getfield k, a, b, c0) :: cs) L (.ref o :: st) h res := by
  obtain ⟨n, H⟩ := H
  refine ⟨n + 1, ?_⟩
  show (if am_is h o (a + 3) = true then (if c0 = 1 then _ else am_ex am_P am_Mi am_Nf X n d M cs L (.int (h.2.1 o b) :: st) h) else none) = _
  rw [if_pos ho, if_neg hc]
  exact H
theorem ex_getR {k o w : Nat} (ho : am_is h o (a + 3) = true) (hc : c0 = 1) (hw : h.2.2 o b = some w) (H : Ex X d M cs L (.ref w :: st) h res) : Ex X d M ((pc, .getfield k, a, b, c0) :: cs) L (.ref o :: st) h res := by
  obtain ⟨n, H⟩ := H
  refine ⟨n + 1, ?_⟩
  show (if am_is h o (a + 3) = true then (if c0 = 1 then am_ex am_P am_Mi am_Nf X n d M cs L (va_rf (h.2.2 o b) :: st) h else _) else none) = _
  rw [if_pos ho, if_pos hc, hw]
  exact H
theorem ex_putI {k o : Nat} (ho : am_is (hS S) o (a + 3) = true) (hc : ¬ c0 = 1) (hx : ¬ (c0 = 2 ∧ ¬ (x = 0 ∨ x = 1))) (H : Ex X d M cs L st (hS (am_upI S.1 o b x, S.2)) res) : Ex X d M ((pc, .putfield k, a, b, c0) :: cs) L (.int x :: .ref o :: st) (hS S) res := by
  obtain ⟨n, H⟩ := H
  refine ⟨n + 1, ?_⟩
  show (if c0 = 1 then am_rr (.int x :: .ref o :: st) _ else (if am_is (hS S) o (a + 3) = true then (if c0 = 2 ∧ ¬ (x = 0 ∨ x = 1) then none else am_ex am_P am_Mi am_Nf X n d M cs L st ((hS S).1, am_upI (hS S).2.1 o b x, (hS S).2.2)) else none)) = _
  rw [if_neg hc, if_pos ho, if_neg hx]
  exact H
theorem ex_iald {o k : Nat} {f : Nat → Int32} (ha : am_arr X h 0 o = some (k, f)) (hj : ¬ (x < 0 ∨ k ≤ x.toNatClampNeg)) (hv : f x.toNatClampNeg = v) (H : Ex X d M cs L (.int v :: st) h res) : Ex X d M ((pc, .iaload, a, b, c0) :: cs) L (.int x :: .ref o :: st) h res := by
  obtain ⟨n, H⟩ := H
  subst hv
  refine ⟨n + 1, ?_⟩
  show (match am_arr X h 0 o with | some (k, f) => if x < 0 ∨ k ≤ x.toNatClampNeg then none else am_ex am_P am_Mi am_Nf X n d M cs L (.int (f x.toNatClampNeg) :: st) h | none => none) = _
  rw [ha]
  show (if x < 0 ∨ k ≤ x.toNatClampNeg then none else am_ex am_P am_Mi am_Nf X n d M cs L (.int (f x.toNatClampNeg) :: st) h) = _
  rw [if_neg hj]
  exact H
theorem ex_bald {o k : Nat} {f : Nat → Int32} (ha : am_arr X h 1 o = some (k, f)) (hj : ¬ (x < 0 ∨ k ≤ x.toNatClampNeg)) (hv : f x.toNatClampNeg = v) (H : Ex X d M cs L (.int v :: st) h res) : Ex X d M ((pc, .baload, a, b, c0) :: cs) L (.int x :: .ref o :: st) h res := by
  obtain ⟨n, H⟩ := H
  subst hv
  refine ⟨n + 1, ?_⟩
  show (match am_arr X h 1 o with | some (k, f) => if x < 0 ∨ k ≤ x.toNatClampNeg then none else am_ex am_P am_Mi am_Nf X n d M cs L (.int (f x.toNatClampNeg) :: st) h | none => none) = _
  rw [ha]
  show (if x < 0 ∨ k ≤ x.toNatClampNeg then none else am_ex am_P am_Mi am_Nf X n d M cs L (.int (f x.toNatClampNeg) :: st) h) = _
  rw [if_neg hj]
  exact H
theorem ex_iast {o k : Nat} (h1 : am_is (hS S) o 0 = true) (h2 : am_len X (hS S) o = some k) (hj : ¬ (y < 0 ∨ k ≤ y.toNatClampNeg)) (H : Ex X d M cs L st (hS (am_upI S.1 o y.toNatClampNeg x, S.2)) res) : Ex X d M ((pc, .iastore, a, b, c0) :: cs) L (.int x :: .int y :: .ref o :: st) (hS S) res := by
  obtain ⟨n, H⟩ := H
  refine ⟨n + 1, ?_⟩
  show (if am_is (hS S) o 0 = true then (match am_len X (hS S) o with | some k => if y < 0 ∨ k ≤ y.toNatClampNeg then none else am_ex am_P am_Mi am_Nf X n d M cs L st ((hS S).1, am_upI (hS S).2.1 o y.toNatClampNeg x, (hS S).2.2) | none => none) else none) = _
  rw [if_pos h1, h2]
  show (if y < 0 ∨ k ≤ y.toNatClampNeg then none else _) = _
  rw [if_neg hj]
  exact H
theorem ex_bast {o k : Nat} (h1 : am_is (hS S) o 1 = true) (h2 : am_len X (hS S) o = some k) (hj : ¬ (y < 0 ∨ k ≤ y.toNatClampNeg)) (hx : x = 0 ∨ x = 1) (H : Ex X d M cs L st (hS (am_upI S.1 o y.toNatClampNeg x, S.2)) res) : Ex X d M ((pc, .bastore, a, b, c0) :: cs) L (.int x :: .int y :: .ref o :: st) (hS S) res := by
  obtain ⟨n, H⟩ := H
  refine ⟨n + 1, ?_⟩
  show (if am_is (hS S) o 1 = true then (match am_len X (hS S) o with | some k => if y < 0 ∨ k ≤ y.toNatClampNeg then none else (if x = 0 ∨ x = 1 then am_ex am_P am_Mi am_Nf X n d M cs L st ((hS S).1, am_upI (hS S).2.1 o y.toNatClampNeg x, (hS S).2.2) else none) | none => none) else none) = _
  rw [if_pos h1, h2]
  show (if y < 0 ∨ k ≤ y.toNatClampNeg then none else (if x = 0 ∨ x = 1 then _ else none)) = _
  rw [if_neg hj, if_pos hx]
  exact H
theorem ex_alen {o k : Nat} (h2 : am_len X h o = some k) (hv : Int32.ofNat k = v) (H : Ex X d M cs L (.int v :: st) h res) : Ex X d M ((pc, .arraylength, a, b, c0) :: cs) L (.ref o :: st) h res := by
  obtain ⟨n, H⟩ := H
  subst hv
  refine ⟨n + 1, ?_⟩
  show (match am_len X h o with | some k => am_ex am_P am_Mi am_Nf X n d M cs L (.int (Int32.ofNat k) :: st) h | none => none) = _
  rw [h2]
  exact H
theorem ex_getst {k : Nat} (H : Ex X d M cs L (.ref (1000000 + a) :: st) h res) : Ex X d M ((pc, .getstatic k, a, b, c0) :: cs) L st h res := by
  obtain ⟨n, H⟩ := H
  exact ⟨n + 1, H⟩
theorem ex_callV {k : Nat} {as : List Value} {w : Option Int32} {h2 : AmH} {st2 : List Value} (e1 : (st.take b).reverse = as) (e2 : st.drop b = rest) (hb : b ≤ st.length) (h8 : am_cats rest ≤ 8) (hrc : am_rcv h 0 (am_Mi a).2.1 as = true) (hc : Ex X d a (am_P a) (am_ini (am_Mi a).1 as) [] h (w, h2)) (e3 : am_push w rest = st2) (H : Ex X (d + 1) M cs L st2 h2 res) : Ex X (d + 1) M ((pc, .invokevirtual k, a, b, c0) :: cs) L st h res := by
  obtain ⟨n, H⟩ := H
  obtain ⟨m, hm⟩ := hc
  subst e1; subst e2; subst e3
  refine ⟨(n + m) + 1, ?_⟩
  show (if b ≤ st.length ∧ am_cats (st.drop b) ≤ 8 ∧ am_rcv h 0 (am_Mi a).2.1 (st.take b).reverse = true then ((am_ex am_P am_Mi am_Nf X (n + m) d a (am_P a) (am_ini (am_Mi a).1 (st.take b).reverse) [] h).bind fun q => am_ex am_P am_Mi am_Nf X (n + m) (d + 1) M cs L (am_push q.1 (st.drop b)) q.2) else none) = _
  rw [if_pos ⟨hb, h8, hrc⟩]
  exact Option.bind_eq_some_iff.mpr ⟨_, am_mono hm (by omega), am_mono H (by omega)⟩
theorem ex_callS {k : Nat} {as : List Value} {w : Option Int32} {h2 : AmH} {st2 : List Value} (e1 : (st.take b).reverse = as) (e2 : st.drop b = rest) (hb : b ≤ st.length) (h8 : am_cats rest ≤ 8) (hc : Ex X d a (am_P a) (am_ini (am_Mi a).1 as) [] h (w, h2)) (e3 : am_push w rest = st2) (H : Ex X (d + 1) M cs L st2 h2 res) : Ex X (d + 1) M ((pc, .invokestatic k, a, b, c0) :: cs) L st h res := by
  obtain ⟨n, H⟩ := H
  obtain ⟨m, hm⟩ := hc
  subst e1; subst e2; subst e3
  refine ⟨(n + m) + 1, ?_⟩
  show (if b ≤ st.length ∧ am_cats (st.drop b) ≤ 8 then ((am_ex am_P am_Mi am_Nf X (n + m) d a (am_P a) (am_ini (am_Mi a).1 (st.take b).reverse) [] h).bind fun q => am_ex am_P am_Mi am_Nf X (n + m) (d + 1) M cs L (am_push q.1 (st.drop b)) q.2) else none) = _
  rw [if_pos ⟨hb, h8⟩]
  exact Option.bind_eq_some_iff.mpr ⟨_, am_mono hm (by omega), am_mono H (by omega)⟩
theorem ex_iret (hk : (am_Mi M).2.2 = 1 ∨ ((am_Mi M).2.2 = 2 ∧ (v = 0 ∨ v = 1))) : Ex X d M ((pc, .ireturn, a, b, c0) :: cs) L [.int v] h (some v, h) := by
  refine ⟨1, ?_⟩
  show (if (am_Mi M).2.2 = 1 ∨ ((am_Mi M).2.2 = 2 ∧ (v = 0 ∨ v = 1)) then some (some v, h) else none) = _
  rw [if_pos hk]
theorem ex_vret (hk : (am_Mi M).2.2 = 0) : Ex X d M ((pc, .return_, a, b, c0) :: cs) L [] h (none, h) := by
  refine ⟨1, ?_⟩
  show (if (am_Mi M).2.2 = 0 then some (none, h) else none) = _
  rw [if_pos hk]
end EX
