/-! A small machine of ours: the instructions that the claim's methods use, over a heap of numbered cells. Its runs are shown (part 04) to be runs of the Java machine. -/
-- code: (pc, instruction, a, b, c): a b c are what the instruction links to
abbrev AmCd : Type := List (Nat × Instr × Nat × Nat × Nat)
-- what cells hold: ints (array elements, int fields) and references
abbrev AmS : Type := (Nat → Nat → Int32) × (Nat → Nat → Option Nat)
-- cells: (0, n) int array, (1, n) boolean array, (2, n) array of references, (3 + class, fields)
abbrev AmH : Type := List (Nat × Nat) × AmS
-- arrays from outside, read only: number e is the reference 1000000 + e
abbrev AmX : Type := Nat → Option (Nat × (Nat → Int32))
def am_upI (I : Nat → Nat → Int32) (a i : Nat) (x : Int32) : Nat → Nat → Int32 := fun k j => if k = a then (if j = i then x else I k j) else I k j
def am_upG (G : Nat → Nat → Option Nat) (a i : Nat) (x : Option Nat) : Nat → Nat → Option Nat := fun k j => if k = a then (if j = i then x else G k j) else G k j
def am_zI (I : Nat → Nat → Int32) (a : Nat) : Nat → Nat → Int32 := fun k j => if k = a then 0 else I k j
def am_zG (G : Nat → Nat → Option Nat) (a : Nat) : Nat → Nat → Option Nat := fun k j => if k = a then none else G k j
-- what stands on the stack
def am_1i {α : Type} (st : List Value) (k : Int32 → List Value → Option α) : Option α := match st with
  | .int x :: r => k x r
  | _ => none
def am_2i {α : Type} (st : List Value) (k : Int32 → Int32 → List Value → Option α) : Option α := match st with
  | .int y :: .int x :: r => k x y r
  | _ => none
def am_1r {α : Type} (st : List Value) (k : Nat → List Value → Option α) : Option α := match st with
  | .ref a :: r => k a r
  | _ => none
def am_ia {α : Type} (st : List Value) (k : Nat → Int32 → List Value → Option α) : Option α := match st with
  | .int i :: .ref a :: r => k a i r
  | _ => none
def am_iia {α : Type} (st : List Value) (k : Nat → Int32 → Int32 → List Value → Option α) : Option α := match st with
  | .int x :: .int i :: .ref a :: r => k a i x r
  | _ => none
def am_ir {α : Type} (st : List Value) (k : Nat → Int32 → List Value → Option α) : Option α := match st with
  | .int x :: .ref a :: r => k a x r
  | _ => none
def am_rr {α : Type} (st : List Value) (k : Nat → Nat → List Value → Option α) : Option α := match st with
  | .ref v :: .ref a :: r => k a v r
  | _ => none
def am_ria {α : Type} (st : List Value) (k : Nat → Int32 → Nat → List Value → Option α) : Option α := match st with
  | .ref v :: .int i :: .ref a :: r => k a i v r
  | _ => none
-- a reference or null
def am_1v {α : Type} (st : List Value) (k : Option Nat → List Value → Option α) : Option α := match st with
  | .ref a :: r => k (some a) r
  | .null :: r => k none r
  | _ => none
def am_li {α : Type} (L : List Value) (i : Nat) (k : Int32 → Option α) : Option α := match L[i]? with
  | some (.int x) => k x
  | _ => none
def am_la {α : Type} (L : List Value) (i : Nat) (k : Option Nat → Option α) : Option α := match L[i]? with
  | some (.ref x) => k (some x)
  | some .null => k none
  | _ => none
def am_st {α : Type} (L : List Value) (i : Nat) (v : Value) (k : List Value → Option α) : Option α := if i < L.length then k (L.set i v) else none
-- from a pc on
def am_at (C : AmCd) (pc : Nat) : AmCd := C.dropWhile (fun e => !(e.1 == pc))
def am_tg (pc : Nat) (off : Int) : Nat := ((pc : Int) + off).toNat
def am_sw (dflt lo hi : Int) (offs : Array Int) (x : Int32) : Int := if x.toInt < lo ∨ hi < x.toInt then dflt else offs.getD (x.toInt - lo).toNat dflt
-- an int array (t = 0) or boolean array (t = 1)
def am_arr (X : AmX) (h : AmH) (t a : Nat) : Option (Nat × (Nat → Int32)) := if a < 1000000 then
    (match h.1[a]? with
    | some (t', n) => if t' = t then some (n, h.2.1 a) else none
    | none => none)
  else (if t = 0 then X (a - 1000000) else none)
-- a cell of kind t
def am_is (h : AmH) (a t : Nat) : Bool := decide (a < 1000000) && (match h.1[a]? with
  | some (t', _) => decide (t' = t)
  | none => false)
def am_len (X : AmX) (h : AmH) (a : Nat) : Option Nat := if a < 1000000 then
    (match h.1[a]? with
    | some (t, n) => if t < 3 then some n else none
    | none => none)
  else (X (a - 1000000)).map (fun q => q.1)
def am_push (v : Option Int32) (r : List Value) : List Value := match v with
  | some x => .int x :: r
  | none => r
def am_ini (maxL : Nat) (args : List Value) : List Value := args ++ List.replicate (maxL - args.length) (.long 0)
def am_cats (st : List Value) : Nat := (st.map fun v => v.category).sum
-- the receiver: kind 0 (virtual): an object of class k
def am_rcv (h : AmH) (kind k : Nat) (args : List Value) : Bool := match kind with
  | 0 => (match args with
    | .ref a :: _ => am_is h a (k + 3)
    | _ => false)
  | 1 => true
  | _ => (match args with
    | .ref _ :: _ => true
    | _ => false)
/-- a run: n instructions at most, d calls deep at most. P: the code of a method; Mi: its locals' number, its class, what it answers (0 nothing, 1 an int, 2 a boolean); Nf: fields of a class -/
def am_ex (P : Nat → AmCd) (Mi : Nat → Nat × Nat × Nat) (Nf : Nat → Nat) (X : AmX) : Nat → Nat → Nat → AmCd → List Value → List Value → AmH → Option (Option Int32 × AmH)
  | 0, _, _, _, _, _, _ => none
  | _ + 1, _, _, [], _, _, _ => none
  | n + 1, d, M, (pc, i, a, b, c) :: cs, L, st, h => match i with
    | .iload k => am_li L k fun x => am_ex P Mi Nf X n d M cs L (.int x :: st) h
    | .iload_n k => am_li L k.val fun x => am_ex P Mi Nf X n d M cs L (.int x :: st) h
    | .aload k => am_la L k fun x => am_ex P Mi Nf X n d M cs L (va_rf x :: st) h
    | .aload_n k => am_la L k.val fun x => am_ex P Mi Nf X n d M cs L (va_rf x :: st) h
    | .istore k => am_1i st fun x r => am_st L k (.int x) fun L' => am_ex P Mi Nf X n d M cs L' r h
    | .istore_n k => am_1i st fun x r => am_st L k.val (.int x) fun L' => am_ex P Mi Nf X n d M cs L' r h
    | .astore k => am_1v st fun x r => am_st L k (va_rf x) fun L' => am_ex P Mi Nf X n d M cs L' r h
    | .astore_n k => am_1v st fun x r => am_st L k.val (va_rf x) fun L' => am_ex P Mi Nf X n d M cs L' r h
    | .iconst v => am_ex P Mi Nf X n d M cs L (.int (Int32.ofInt v) :: st) h
    | .bipush v => am_ex P Mi Nf X n d M cs L (.int (Int8.ofInt v).toInt32 :: st) h
    | .sipush v => am_ex P Mi Nf X n d M cs L (.int (Int16.ofInt v).toInt32 :: st) h
    | .iinc k v => am_li L k fun x => am_st L k (.int (x + Int32.ofInt v)) fun L' => am_ex P Mi Nf X n d M cs L' st h
    | .iadd => am_2i st fun x y r => am_ex P Mi Nf X n d M cs L (.int (x + y) :: r) h
    | .isub => am_2i st fun x y r => am_ex P Mi Nf X n d M cs L (.int (x - y) :: r) h
    | .imul => am_2i st fun x y r => am_ex P Mi Nf X n d M cs L (.int (x * y) :: r) h
    | .idiv => am_2i st fun x y r => if y = 0 then none else am_ex P Mi Nf X n d M cs L (.int (x / y) :: r) h
    | .irem => am_2i st fun x y r => if y = 0 then none else am_ex P Mi Nf X n d M cs L (.int (x - x / y * y) :: r) h
    | .iand => am_2i st fun x y r => am_ex P Mi Nf X n d M cs L (.int (x &&& y) :: r) h
    | .ixor => am_2i st fun x y r => am_ex P Mi Nf X n d M cs L (.int (x ^^^ y) :: r) h
    | .ishr => am_2i st fun x y r => am_ex P Mi Nf X n d M cs L (.int (x >>> (y &&& 31)) :: r) h
    | .dup => (match st with
      | .int x :: r => am_ex P Mi Nf X n d M cs L (.int x :: .int x :: r) h
      | .ref x :: r => am_ex P Mi Nf X n d M cs L (.ref x :: .ref x :: r) h
      | _ => none)
    | .dup2 => am_ia st fun x j r => am_ex P Mi Nf X n d M cs L (.int j :: .ref x :: .int j :: .ref x :: r) h
    | .goto o => am_ex P Mi Nf X n d M (am_at (P M) (am_tg pc o)) L st h
    | .ifCond .eq o => am_1i st fun x r => if x = 0 then am_ex P Mi Nf X n d M (am_at (P M) (am_tg pc o)) L r h else am_ex P Mi Nf X n d M cs L r h
    | .ifCond .ne o => am_1i st fun x r => if x = 0 then am_ex P Mi Nf X n d M cs L r h else am_ex P Mi Nf X n d M (am_at (P M) (am_tg pc o)) L r h
    | .ifCond .lt o => am_1i st fun x r => if x < 0 then am_ex P Mi Nf X n d M (am_at (P M) (am_tg pc o)) L r h else am_ex P Mi Nf X n d M cs L r h
    | .ifCond .ge o => am_1i st fun x r => if 0 ≤ x then am_ex P Mi Nf X n d M (am_at (P M) (am_tg pc o)) L r h else am_ex P Mi Nf X n d M cs L r h
    | .ifCond .gt o => am_1i st fun x r => if 0 < x then am_ex P Mi Nf X n d M (am_at (P M) (am_tg pc o)) L r h else am_ex P Mi Nf X n d M cs L r h
    | .ifCond .le o => am_1i st fun x r => if x ≤ 0 then am_ex P Mi Nf X n d M (am_at (P M) (am_tg pc o)) L r h else am_ex P Mi Nf X n d M cs L r h
    | .if_icmp .eq o => am_2i st fun x y r => if x = y then am_ex P Mi Nf X n d M (am_at (P M) (am_tg pc o)) L r h else am_ex P Mi Nf X n d M cs L r h
    | .if_icmp .ne o => am_2i st fun x y r => if x = y then am_ex P Mi Nf X n d M cs L r h else am_ex P Mi Nf X n d M (am_at (P M) (am_tg pc o)) L r h
    | .if_icmp .lt o => am_2i st fun x y r => if x < y then am_ex P Mi Nf X n d M (am_at (P M) (am_tg pc o)) L r h else am_ex P Mi Nf X n d M cs L r h
    | .if_icmp .ge o => am_2i st fun x y r => if y ≤ x then am_ex P Mi Nf X n d M (am_at (P M) (am_tg pc o)) L r h else am_ex P Mi Nf X n d M cs L r h
    | .if_icmp .gt o => am_2i st fun x y r => if y < x then am_ex P Mi Nf X n d M (am_at (P M) (am_tg pc o)) L r h else am_ex P Mi Nf X n d M cs L r h
    | .if_icmp .le o => am_2i st fun x y r => if x ≤ y then am_ex P Mi Nf X n d M (am_at (P M) (am_tg pc o)) L r h else am_ex P Mi Nf X n d M cs L r h
    | .ifnull o => am_1v st fun x r => (match x with
      | none => am_ex P Mi Nf X n d M (am_at (P M) (am_tg pc o)) L r h
      | some _ => am_ex P Mi Nf X n d M cs L r h)
    | .tableswitch df lo hi offs => am_1i st fun x r => am_ex P Mi Nf X n d M (am_at (P M) (am_tg pc (am_sw df lo hi offs x))) L r h
    | .lookupswitch df ps => am_1i st fun x r => am_ex P Mi Nf X n d M (am_at (P M) (am_tg pc (Op.lookupswitch.offset ps.toList df x.toInt))) L r h
    | .getfield _ => am_1r st fun o r => if am_is h o (a + 3) = true then
        (if c = 1 then am_ex P Mi Nf X n d M cs L (va_rf (h.2.2 o b) :: r) h else am_ex P Mi Nf X n d M cs L (.int (h.2.1 o b) :: r) h) else none
    | .putfield _ => if c = 1 then am_rr st fun o v r => (if am_is h o (a + 3) = true then am_ex P Mi Nf X n d M cs L r (h.1, h.2.1, am_upG h.2.2 o b (some v)) else none)
        else am_ir st fun o x r => (if am_is h o (a + 3) = true then (if c = 2 ∧ ¬ (x = 0 ∨ x = 1) then none else am_ex P Mi Nf X n d M cs L r (h.1, am_upI h.2.1 o b x, h.2.2)) else none)
    | .iaload => am_ia st fun o j r => (match am_arr X h 0 o with
      | some (k, f) => if j < 0 ∨ k ≤ j.toNatClampNeg then none else am_ex P Mi Nf X n d M cs L (.int (f j.toNatClampNeg) :: r) h
      | none => none)
    | .baload => am_ia st fun o j r => (match am_arr X h 1 o with
      | some (k, f) => if j < 0 ∨ k ≤ j.toNatClampNeg then none else am_ex P Mi Nf X n d M cs L (.int (f j.toNatClampNeg) :: r) h
      | none => none)
    | .aaload => am_ia st fun o j r => if am_is h o 2 = true then (match am_len X h o with
      | some k => if j < 0 ∨ k ≤ j.toNatClampNeg then none else am_ex P Mi Nf X n d M cs L (va_rf (h.2.2 o j.toNatClampNeg) :: r) h
      | none => none) else none
    | .iastore => am_iia st fun o j x r => if am_is h o 0 = true then (match am_len X h o with
      | some k => if j < 0 ∨ k ≤ j.toNatClampNeg then none else am_ex P Mi Nf X n d M cs L r (h.1, am_upI h.2.1 o j.toNatClampNeg x, h.2.2)
      | none => none) else none
    | .bastore => am_iia st fun o j x r => if am_is h o 1 = true then (match am_len X h o with
      | some k => if j < 0 ∨ k ≤ j.toNatClampNeg then none else (if x = 0 ∨ x = 1 then am_ex P Mi Nf X n d M cs L r (h.1, am_upI h.2.1 o j.toNatClampNeg x, h.2.2) else none)
      | none => none) else none
    | .aastore => am_ria st fun o j v r => if am_is h o 2 = true ∧ am_is h v (a + 3) = true then (match am_len X h o with
      | some k => if j < 0 ∨ k ≤ j.toNatClampNeg then none else am_ex P Mi Nf X n d M cs L r (h.1, h.2.1, am_upG h.2.2 o j.toNatClampNeg (some v))
      | none => none) else none
    | .arraylength => am_1r st fun o r => (match am_len X h o with
      | some k => am_ex P Mi Nf X n d M cs L (.int (Int32.ofNat k) :: r) h
      | none => none)
    | .new _ => if h.1.length < 1000000 then am_ex P Mi Nf X n d M cs L (.ref h.1.length :: st) (h.1 ++ [(a + 3, Nf a)], am_zI h.2.1 h.1.length, am_zG h.2.2 h.1.length) else none
    | .newarray .int => am_1i st fun x r => if x < 0 ∨ 1000000 < x.toNatClampNeg ∨ 1000000 ≤ h.1.length then none else am_ex P Mi Nf X n d M cs L (.ref h.1.length :: r) (h.1 ++ [(0, x.toNatClampNeg)], am_zI h.2.1 h.1.length, am_zG h.2.2 h.1.length)
    | .newarray .boolean => am_1i st fun x r => if x < 0 ∨ 1000000 < x.toNatClampNeg ∨ 1000000 ≤ h.1.length then none else am_ex P Mi Nf X n d M cs L (.ref h.1.length :: r) (h.1 ++ [(1, x.toNatClampNeg)], am_zI h.2.1 h.1.length, am_zG h.2.2 h.1.length)
    | .anewarray _ => am_1i st fun x r => if x < 0 ∨ 1000000 < x.toNatClampNeg ∨ 1000000 ≤ h.1.length then none else am_ex P Mi Nf X n d M cs L (.ref h.1.length :: r) (h.1 ++ [(2, x.toNatClampNeg)], am_zI h.2.1 h.1.length, am_zG h.2.2 h.1.length)
    | .getstatic _ => am_ex P Mi Nf X n d M cs L (.ref (1000000 + a) :: st) h
    | .invokevirtual _ => if b ≤ st.length ∧ am_cats (st.drop b) ≤ 8 ∧ am_rcv h 0 (Mi a).2.1 (st.take b).reverse = true then
        (match d with
        | 0 => none
        | d' + 1 => (am_ex P Mi Nf X n d' a (P a) (am_ini (Mi a).1 (st.take b).reverse) [] h).bind fun q => am_ex P Mi Nf X n (d' + 1) M cs L (am_push q.1 (st.drop b)) q.2) else none
    | .invokestatic _ => if b ≤ st.length ∧ am_cats (st.drop b) ≤ 8 then
        (match d with
        | 0 => none
        | d' + 1 => (am_ex P Mi Nf X n d' a (P a) (am_ini (Mi a).1 (st.take b).reverse) [] h).bind fun q => am_ex P Mi Nf X n (d' + 1) M cs L (am_push q.1 (st.drop b)) q.2) else none
    | .invokespecial _ => if c = 4 then am_1r st fun _ r => (if am_cats r ≤ 8 ∧ 0 < d then am_ex P Mi Nf X n d M cs L r h else none)
        else if b ≤ st.length ∧ am_cats (st.drop b) ≤ 8 ∧ am_rcv h 2 (Mi a).2.1 (st.take b).reverse = true then
        (match d with
        | 0 => none
        | d' + 1 => (am_ex P Mi Nf X n d' a (P a) (am_ini (Mi a).1 (st.take b).reverse) [] h).bind fun q => am_ex P Mi Nf X n (d' + 1) M cs L (am_push q.1 (st.drop b)) q.2) else none
    | .ireturn => (match st with
      | [.int v] => if (Mi M).2.2 = 1 ∨ ((Mi M).2.2 = 2 ∧ (v = 0 ∨ v = 1)) then some (some v, h) else none
      | _ => none)
    | .return_ => (match st with
      | [] => if (Mi M).2.2 = 0 then some (none, h) else none
      | _ => none)
    | _ => none
