/-! the journal: what a change wrote over, and what undo brings back -/
abbrev Mem : Type := Nat → Nat → Int32
def kp_ok (c : Nat) : Bool := match kp c with
  | some (ar, n) => decide (9 ≤ ar) && decide (ar ≤ 94) && decide (n < 2147483648) && decide (ar ≠ 23) && !(decide (24 ≤ ar) && decide (ar ≤ 29))
  | none => true
theorem kp_all : (List.range 134).all kp_ok = true := by decide +kernel
theorem kp_out {c : Nat} (h : 134 ≤ c) : kp c = none := by
  unfold kp
  rw [ht_gs_out (by omega)]
theorem kp_in {c ar n : Nat} (h : kp c = some (ar, n)) : 9 ≤ ar ∧ ar ≤ 94 ∧ n < 2147483648 ∧ ar ≠ 23 ∧ ¬ (24 ≤ ar ∧ ar ≤ 29) := by
  have hc : c < 134 := by
    rcases Nat.lt_or_ge c 134 with q | q
    · exact q
    · rw [kp_out q] at h
      cases h
  have h1 := am_ra kp_all hc
  unfold kp_ok at h1
  rw [h] at h1
  simp only [Bool.and_eq_true, decide_eq_true_eq, Bool.not_eq_true', Bool.and_eq_false_iff, decide_eq_false_iff_not] at h1
  obtain ⟨⟨⟨⟨a1, a2⟩, a3⟩, a4⟩, a5⟩ := h1
  exact ⟨a1, a2, a3, a4, by omega⟩
theorem kp_k {c ar n : Nat} (h : sh_k c ar n = true) : kp c = some (ar, n) := by
  obtain ⟨h1, h2, h3, h4, h5, h6, h7, h8⟩ := sh_k_of h
  unfold kp
  rw [h2]
  simp only [h5]
  rw [if_pos h]
def u1 (R : Nat → Option Nat) (P N : Nat → Int32) (i : Nat) (I : Mem) : Mem := match R i with
  | some c => (match kp c with
    | some (ar, n) => if P i < 0 then I else if Int32.ofNat n ≤ P i then I else am_upI I ar (P i).toNatClampNeg (N i)
    | none => I)
  | none => I
def bs (R : Nat → Option Nat) (P N : Nat → Int32) : Nat → Mem → Mem
  | 0, I => I
  | k + 1, I => bs R P N k (u1 R P N k I)
theorem u1_congr {R R' : Nat → Option Nat} {P P' N N' : Nat → Int32} {i : Nat} (hR : R' i = R i) (hP : P' i = P i) (hN : N' i = N i) (I : Mem) : u1 R' P' N' i I = u1 R P N i I := by
  unfold u1
  rw [hR, hP, hN]
theorem bs_congr {R R' : Nat → Option Nat} {P P' N N' : Nat → Int32} : ∀ (n : Nat), (∀ i, i < n → R' i = R i ∧ P' i = P i ∧ N' i = N i) → ∀ I : Mem, bs R' P' N' n I = bs R P N n I
  | 0, _, _ => rfl
  | n + 1, h, I => by
    show bs R' P' N' n (u1 R' P' N' n I) = bs R P N n (u1 R P N n I)
    rw [u1_congr (h n (by omega)).1 (h n (by omega)).2.1 (h n (by omega)).2.2, bs_congr n (fun i hi => h i (by omega))]
theorem u1_cell {R : Nat → Option Nat} {P N : Nat → Int32} {i : Nat} {I I' : Mem} {o : Nat} (h : I' o = I o) : u1 R P N i I' o = u1 R P N i I o := by
  unfold u1
  cases R i with
  | none => exact h
  | some c =>
    dsimp only
    cases kp c with
    | none => exact h
    | some p =>
      obtain ⟨ar, n⟩ := p
      show (if P i < 0 then I' else if Int32.ofNat n ≤ P i then I' else am_upI I' ar (P i).toNatClampNeg (N i)) o = (if P i < 0 then I else if Int32.ofNat n ≤ P i then I else am_upI I ar (P i).toNatClampNeg (N i)) o
      split
      · exact h
      · split
        · exact h
        · funext j
          unfold am_upI
          rw [h]
theorem bs_cell {R : Nat → Option Nat} {P N : Nat → Int32} {o : Nat} : ∀ (n : Nat) {I I' : Mem}, I' o = I o → bs R P N n I' o = bs R P N n I o
  | 0, _, _, h => h
  | n + 1, _, _, h => bs_cell n (u1_cell h)
-- the cells of Kept arrays
abbrev kc (o : Nat) : Prop := 9 ≤ o ∧ o ≤ 94 ∧ ¬ (o = 23 ∨ (24 ≤ o ∧ o ≤ 29))
theorem u1_out {R : Nat → Option Nat} {P N : Nat → Int32} {i : Nat} {I : Mem} {o : Nat} (h : ¬ (9 ≤ o ∧ o ≤ 94) ∨ o = 23 ∨ (24 ≤ o ∧ o ≤ 29)) : u1 R P N i I o = I o := by
  unfold u1
  cases R i with
  | none => rfl
  | some c =>
    dsimp only
    cases hk : kp c with
    | none => rfl
    | some p =>
      obtain ⟨ar, n⟩ := p
      have := kp_in hk
      show (if P i < 0 then I else if Int32.ofNat n ≤ P i then I else am_upI I ar (P i).toNatClampNeg (N i)) o = I o
      split
      · rfl
      · split
        · rfl
        · exact am_upI_ne (by omega)
theorem bs_out {R : Nat → Option Nat} {P N : Nat → Int32} {o : Nat} (h : ¬ (9 ≤ o ∧ o ≤ 94) ∨ o = 23 ∨ (24 ≤ o ∧ o ≤ 29)) : ∀ (n : Nat) (I : Mem), bs R P N n I o = I o
  | 0, _ => rfl
  | n + 1, I => (bs_out h n _).trans (u1_out h)
-- what a store into a Kept does
theorem upd_same {f : Nat → Int32} {p : Nat} : upd f p (f p) = f := by
  funext j
  by_cases h : j = p <;> simp [upd, h]
theorem jn_fn {S : AmT} {c : Nat} {p v : Int32} {o : Nat} (h1 : o ≠ 1) (h3 : o ≠ 3) (h4 : o ≠ 4) : (jn S c p v).1 o = S.1 o := by
  funext i
  exact jn_1 h1 h3 h4
theorem ks_fn {S : AmT} {c ar n : Nat} {j v : Int32} {o : Nat} (h1 : o ≠ 1) (h3 : o ≠ 3) (h4 : o ≠ 4) (ha : o ≠ ar) : (ks S c ar n j v).1 o = S.1 o := by
  unfold ks
  split
  · rfl
  · split
    · rfl
    · split
      · rfl
      · show am_upI (jn _ _ _ _).1 ar _ v o = S.1 o
        rw [am_upI_ne ha, jn_fn h1 h3 h4]
theorem nI_in2 {p n : Nat} (h : p < n) (hn : n < 2147483648) : ¬ (nI p < 0) ∧ ¬ (Int32.ofNat n ≤ nI p) ∧ (nI p).toNatClampNeg = p := by
  refine ⟨nI_pos (by omega), nI_ge h hn, nI_clamp (by omega)⟩
theorem ks_at {S : AmT} {c ar n p : Nat} {v : Int32} (hp : p < n) (hn : n < 2147483648) (h1 : ar ≠ 1) (h3 : ar ≠ 3) (h4 : ar ≠ 4) : (ks S c ar n (nI p) v).1 ar = upd (S.1 ar) p v := by
  obtain ⟨a1, a2, a3⟩ := nI_in2 hp hn
  unfold ks
  rw [if_neg a1, if_neg a2, a3]
  split
  · rename_i h
    rw [← h, upd_same]
  · show am_upI (jn _ _ _ _).1 ar p v ar = _
    rw [am_upI_at, jn_fn h1 h3 h4]
theorem ku_fn {S : AmT} {ar n : Nat} {j v : Int32} {o : Nat} (ha : o ≠ ar) : (ku S ar n j v).1 o = S.1 o := by
  unfold ku
  split
  · rfl
  · split
    · rfl
    · exact am_upI_ne ha
theorem ku_at {S : AmT} {ar n p : Nat} {v : Int32} (hp : p < n) (hn : n < 2147483648) : (ku S ar n (nI p) v).1 ar = upd (S.1 ar) p v := by
  obtain ⟨a1, a2, a3⟩ := nI_in2 hp hn
  unfold ku
  rw [if_neg a1, if_neg a2, a3]
  exact am_upI_at
theorem ku_2 {S : AmT} {ar n : Nat} {j v : Int32} : (ku S ar n j v).2 = S.2 := by
  unfold ku
  split
  · rfl
  · split <;> rfl
theorem kg_at {I : Mem} {ar n p : Nat} (hp : p < n) (hn : n < 2147483648) : kg I ar n (nI p) = I ar p := by
  obtain ⟨a1, a2, a3⟩ := nI_in2 hp hn
  unfold kg
  rw [if_neg a1, if_neg a2, a3]
theorem kg_0 {I : Mem} {ar n : Nat} (hp : 0 < n) (hn : n < 2147483648) : kg I ar n 0 = I ar 0 := by
  have := kg_at (I := I) (ar := ar) hp hn
  rwa [nI_0] at this
-- the journal of the change under way: what it would bring back is B
def J (S : AmT) (B : Mem) (k : Nat) : Prop := ∃ nn, nn ≤ k ∧ S.1 1 3 = nI nn ∧ S.1 1 4 = 1 ∧ (∀ i, i < nn → ∃ c p, S.2 i = some c ∧ kp c = some p) ∧ ∀ o, kc o → bs S.2 (S.1 3) (S.1 4) nn S.1 o = B o
def beg (S : AmT) : AmT := (am_upI (am_upI S.1 1 3 0) 1 4 1, S.2)
theorem f58_eq {F : Nat} {S : AmT} : f58 F S = some (beg S) := rfl
theorem beg_fn {S : AmT} {o : Nat} (h : o ≠ 1) : (beg S).1 o = S.1 o := by
  show am_upI (am_upI S.1 1 3 0) 1 4 1 o = _
  rw [am_upI_ne h, am_upI_ne h]
theorem J_beg (S : AmT) : J (beg S) S.1 0 := by
  refine ⟨0, Nat.le_refl _, ?_, ?_, fun i hi => absurd hi (by omega), fun o h1 => ?_⟩
  · show am_upI (am_upI S.1 1 3 0) 1 4 1 1 3 = nI 0
    simp [am_upI, nI_0]
  · show am_upI (am_upI S.1 1 3 0) 1 4 1 1 4 = 1
    simp [am_upI]
  · exact beg_fn (by omega)
theorem J_nn {S : AmT} {B : Mem} {k : Nat} (h : J S B k) (hk : k < 2147483648) : ¬ S.1 1 3 < 0 := by
  obtain ⟨nn, h1, h2, -⟩ := h
  rw [h2]
  exact nI_pos (by omega)
theorem J_mono {S : AmT} {B : Mem} {k k' : Nat} (h : J S B k) (hk : k ≤ k') : J S B k' := by
  obtain ⟨nn, h1, h2⟩ := h
  exact ⟨nn, by omega, h2⟩
theorem J_keep {S S' : AmT} {B : Mem} {k : Nat} (h : J S B k) (h2 : S'.2 = S.2) (h1 : S'.1 1 = S.1 1) (h3 : S'.1 3 = S.1 3) (h4 : S'.1 4 = S.1 4) (hc : ∀ o, kc o → S'.1 o = S.1 o) : J S' B k := by
  obtain ⟨nn, a1, a2, a3, a4, a5⟩ := h
  refine ⟨nn, a1, by rw [h1]; exact a2, by rw [h1]; exact a3, by rw [h2]; exact a4, fun o ho => ?_⟩
  rw [h2, h3, h4, bs_cell nn (hc o ho)]
  exact a5 o ho
theorem J_ks {S : AmT} {B : Mem} {k c ar n : Nat} {j v : Int32} (h : J S B k) (hk : k < 640) (hc : sh_k c ar n = true) : J (ks S c ar n j v) B (k + 1) := by
  have hkp := kp_k hc
  have hin := kp_in hkp
  obtain ⟨nn, a1, a2, a3, a4, a5⟩ := id h
  by_cases c1 : j < 0
  · rw [ks, if_pos c1]
    exact J_mono h (by omega)
  by_cases c2 : Int32.ofNat n ≤ j
  · rw [ks, if_neg c1, if_pos c2]
    exact J_mono h (by omega)
  by_cases c3 : S.1 ar j.toNatClampNeg = v
  · rw [ks, if_neg c1, if_neg c2, if_pos c3]
    exact J_mono h (by omega)
  rw [ks, if_neg c1, if_neg c2, if_neg c3]
  have c4 : ¬ (640 : Int32) ≤ S.1 1 3 := by
    rw [a2]
    exact nI_ge (a := nn) (b := 640) (by omega) (by omega)
  have c5 : (S.1 1 3).toNatClampNeg = nn := by rw [a2]; exact nI_clamp (by omega)
  have ej : jn S c j (S.1 ar j.toNatClampNeg) = (am_upI (am_upI (am_upI S.1 3 nn j) 4 nn (S.1 ar j.toNatClampNeg)) 1 3 (S.1 1 3 + 1), fun i => if i = nn then some c else S.2 i) := by
    unfold jn
    rw [if_neg c4, c5]
  rw [ej]
  have e1 : ∀ o, o ≠ 1 → o ≠ 3 → o ≠ 4 → am_upI (am_upI (am_upI (am_upI S.1 3 nn j) 4 nn (S.1 ar j.toNatClampNeg)) 1 3 (S.1 1 3 + 1)) ar j.toNatClampNeg v o = am_upI S.1 ar j.toNatClampNeg v o := by
    intro o o1 o3 o4
    funext i
    simp [am_upI, o1, o3, o4]
  have e3 : am_upI (am_upI (am_upI (am_upI S.1 3 nn j) 4 nn (S.1 ar j.toNatClampNeg)) 1 3 (S.1 1 3 + 1)) ar j.toNatClampNeg v 3 = upd (S.1 3) nn j := by
    funext i
    have : (3 : Nat) ≠ ar := by omega
    by_cases hi : i = nn <;> simp [am_upI, upd, this, hi]
  have e4 : am_upI (am_upI (am_upI (am_upI S.1 3 nn j) 4 nn (S.1 ar j.toNatClampNeg)) 1 3 (S.1 1 3 + 1)) ar j.toNatClampNeg v 4 = upd (S.1 4) nn (S.1 ar j.toNatClampNeg) := by
    funext i
    have : (4 : Nat) ≠ ar := by omega
    by_cases hi : i = nn <;> simp [am_upI, upd, this, hi]
  refine ⟨nn + 1, by omega, ?_, ?_, ?_, ?_⟩
  · have : (1 : Nat) ≠ ar := by omega
    show am_upI (am_upI (am_upI (am_upI S.1 3 nn j) 4 nn (S.1 ar j.toNatClampNeg)) 1 3 (S.1 1 3 + 1)) ar j.toNatClampNeg v 1 3 = nI (nn + 1)
    simp only [am_upI, this, if_false, if_true]
    rw [a2]
    exact nI_1 nn
  · have : (1 : Nat) ≠ ar := by omega
    show am_upI (am_upI (am_upI (am_upI S.1 3 nn j) 4 nn (S.1 ar j.toNatClampNeg)) 1 3 (S.1 1 3 + 1)) ar j.toNatClampNeg v 1 4 = 1
    simp only [am_upI, this, if_false, if_true]
    simp
    exact a3
  · intro i hi
    by_cases hn : i = nn
    · exact ⟨c, (ar, n), by simp [hn], hkp⟩
    · obtain ⟨c', p', q1, q2⟩ := a4 i (by omega)
      exact ⟨c', p', by simp only [hn, if_false]; exact q1, q2⟩
  · intro o ho
    show bs (fun i => if i = nn then some c else S.2 i) _ _ (nn + 1) _ o = B o
    show bs (fun i => if i = nn then some c else S.2 i) (am_upI (am_upI (am_upI (am_upI S.1 3 nn j) 4 nn (S.1 ar j.toNatClampNeg)) 1 3 (S.1 1 3 + 1)) ar j.toNatClampNeg v 3) (am_upI (am_upI (am_upI (am_upI S.1 3 nn j) 4 nn (S.1 ar j.toNatClampNeg)) 1 3 (S.1 1 3 + 1)) ar j.toNatClampNeg v 4) (nn + 1) (am_upI (am_upI (am_upI (am_upI S.1 3 nn j) 4 nn (S.1 ar j.toNatClampNeg)) 1 3 (S.1 1 3 + 1)) ar j.toNatClampNeg v) o = B o
    rw [e3, e4]
    show bs (fun i => if i = nn then some c else S.2 i) (upd (S.1 3) nn j) (upd (S.1 4) nn (S.1 ar j.toNatClampNeg)) nn (u1 _ _ _ nn _) o = B o
    have eu : u1 (fun i => if i = nn then some c else S.2 i) (upd (S.1 3) nn j) (upd (S.1 4) nn (S.1 ar j.toNatClampNeg)) nn (am_upI (am_upI (am_upI (am_upI S.1 3 nn j) 4 nn (S.1 ar j.toNatClampNeg)) 1 3 (S.1 1 3 + 1)) ar j.toNatClampNeg v) = am_upI (am_upI (am_upI (am_upI (am_upI S.1 3 nn j) 4 nn (S.1 ar j.toNatClampNeg)) 1 3 (S.1 1 3 + 1)) ar j.toNatClampNeg v) ar j.toNatClampNeg (S.1 ar j.toNatClampNeg) := by
      unfold u1
      simp only [if_true]
      rw [hkp]
      simp only [pk_us]
      rw [if_neg c1, if_neg c2]
    rw [eu]
    rw [bs_congr (R := S.2) (P := S.1 3) (N := S.1 4) nn (fun i hi => ⟨by simp [Nat.ne_of_lt hi], pk_un (Nat.ne_of_lt hi), pk_un (Nat.ne_of_lt hi)⟩)]
    rw [← a5 o ho]
    refine bs_cell nn ?_
    by_cases hq : o = ar
    · subst hq
      funext i
      have n1 : o ≠ 1 := by omega
      have n3 : o ≠ 3 := by omega
      have n4 : o ≠ 4 := by omega
      by_cases hi : i = j.toNatClampNeg
      · subst hi
        simp [am_upI]
      · simp [am_upI, hi, n1, n3, n4]
    · rw [am_upI_ne hq, e1 o (by omega) (by omega) (by omega), am_upI_ne hq]
