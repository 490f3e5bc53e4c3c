/-! what is decided by program of the tables -/
def am_ln (i : Instr) : Nat := match i with
  | .iload _ => 2
  | .aload _ => 2
  | .istore _ => 2
  | .astore _ => 2
  | .bipush _ => 2
  | .newarray _ => 2
  | .sipush _ => 3
  | .iinc _ _ => 3
  | .goto _ => 3
  | .ifCond _ _ => 3
  | .if_icmp _ _ => 3
  | .ifnull _ => 3
  | .getfield _ => 3
  | .putfield _ => 3
  | .getstatic _ => 3
  | .invokevirtual _ => 3
  | .invokestatic _ => 3
  | .invokespecial _ => 3
  | .new _ => 3
  | .anewarray _ => 3
  | _ => 1
def am_isSw (i : Instr) : Bool := match i with
  | .tableswitch _ _ _ _ => true
  | .lookupswitch _ _ => true
  | _ => false
-- nothing falls through
def am_fin (i : Instr) : Bool := match i with
  | .tableswitch _ _ _ _ => true
  | .lookupswitch _ _ => true
  | .goto _ => true
  | .ireturn => true
  | .return_ => true
  | _ => false
def am_tgOk (pc : Nat) (i : Instr) : Bool := match i with
  | .goto o => decide (0 ≤ (pc : Int) + o)
  | .ifCond _ o => decide (0 ≤ (pc : Int) + o)
  | .if_icmp _ o => decide (0 ≤ (pc : Int) + o)
  | .ifnull o => decide (0 ≤ (pc : Int) + o)
  | .tableswitch df lo hi offs => decide (0 ≤ (pc : Int) + df) && offs.toList.all (fun o => decide (0 ≤ (pc : Int) + o)) && decide (hi - lo + 1 = (offs.size : Int))
  | .lookupswitch df ps => decide (0 ≤ (pc : Int) + df) && ps.toList.all (fun o => decide (0 ≤ (pc : Int) + o.2)) && (ps.toList.zip (ps.toList.drop 1)).all (fun (a, next) => a.1 < next.1)
  | _ => true
def am_res (own : Nat) (ini : Bool) (i : Instr) (a b c : Nat) : Bool := match i with
  | .getfield idx => am_FLp.any (fun q => q.1 == own && q.2.1 == idx && q.2.2.1 == a && q.2.2.2.1 == b) && am_fk a b == c
  | .putfield idx => am_FLp.any (fun q => q.1 == own && q.2.1 == idx && q.2.2.1 == a && q.2.2.2.1 == b) && am_fk a b == c && (!(am_T a b).2.2.2 || (ini && own == a))
  | .invokevirtual idx => am_MLp.any (fun q => q.1 == own && q.2.1 == idx && q.2.2.1 == a) && am_na a == b && am_ct a == 0 && decide (a < 299)
  | .invokestatic idx => am_MLp.any (fun q => q.1 == own && q.2.1 == idx && q.2.2.1 == a) && am_na a == b && am_ct a == 1 && decide (a < 299)
  | .invokespecial idx => if c == 4 then am_OLp.any (fun q => q.1 == own && q.2.1 == idx) else am_na a == b && am_ct a == 2 && decide (a < 299) &&
      (if c == 3 then am_NLp.any (fun q => q.1 == own && q.2.1 == idx && q.2.2.1 == a) else am_MLp.any (fun q => q.1 == own && q.2.1 == idx && q.2.2.1 == a))
  | .new idx => am_KLp.any (fun q => q.1 == own && q.2.1 == idx && q.2.2.1 == a)
  | .anewarray idx => am_KLp.any (fun q => q.1 == own && q.2.1 == idx && q.2.2.1 == 4)
  | .aastore => a == 4
  | .getstatic idx => am_SLp.any (fun q => q.1 == own && q.2.1 == idx && q.2.2.1 == a)
  | _ => true
def am_dec (cc : ByteArray) (pc : Nat) (i : Instr) : Bool := match decode cc pc with
  | .ok (j, ln) => decide (j = i) && (am_isSw i || ln == am_ln i)
  | _ => false
def am_okL (own : Nat) (ini : Bool) (cc : ByteArray) : AmCd → Bool
  | [] => true
  | (pc, i, a, b, c) :: cs => am_dec cc pc i && (am_fin i || (cs.head?.map (fun q => q.1)) == some (pc + am_ln i)) && am_tgOk pc i && am_res own ini i a b c && am_okL own ini cc cs
def am_okM (M : Nat) : Bool := am_okL (am_o M) (am_ct M == 2) (am_b M) (am_P M) && (am_P M).head?.map (fun q => q.1) == some 0 && decide (am_L M ≤ 45) && decide (am_na M ≤ am_L M) && am_Mi M == (am_L M, am_o M, am_kd M) && am_r M == (if am_kd M = 0 then none else if am_kd M = 1 then some .int else some .boolean)
-- one place of a method's code
def am_okA (M i : Nat) : Bool := match (am_P M).drop i with
  | [] => true
  | (pc, j, a, b, c) :: cs => am_dec (am_b M) pc j && (am_fin j || (cs.head?.map (fun q => q.1)) == some (pc + am_ln j)) && am_tgOk pc j && am_res (am_o M) (am_ct M == 2) j a b c
def am_okH (M : Nat) : Bool := (am_P M).head?.map (fun q => q.1) == some 0 && decide (am_L M ≤ 45) && decide (am_na M ≤ am_L M) && am_Mi M == (am_L M, am_o M, am_kd M) && am_r M == (if am_kd M = 0 then none else if am_kd M = 1 then some .int else some .boolean) && am_cn (am_o M) == (am_y M).cls && decide (am_kd M < 3)
