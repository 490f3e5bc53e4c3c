/-! running the class, then the model, over views of the memory -/
theorem nI_mul (a b : Nat) : nI a * nI b = nI (a * b) := (Int32.ofNat_mul a b).symm
theorem nI_sub {a b : Nat} (h : b ≤ a) : nI a - nI b = nI (a - b) := by
  have e : nI a = nI (a - b) + nI b := by
    rw [nI_add]
    congr 1
    omega
  rw [e]
  exact Int32.add_sub_cancel _ _
theorem b2_id {C : Option (Int32 × AmT)} : am_b2 C (fun v S => some (v, S)) = C := by
  cases C <;> rfl
theorem i32_le_nI {x : Int32} {n : Nat} (hn : n < 2147483648) (h0 : ¬ x < 0) (h : ¬ nI n < x) : ∃ j, j ≤ n ∧ x = nI j := by
  obtain ⟨j, hj, rfl⟩ := nI_of h0
  refine ⟨j, ?_, rfl⟩
  rcases Nat.lt_or_ge n j with q | q
  · exact absurd (nI_lt q (by omega)) h
  · exact q
theorem i32_btw {x : Int32} {a b : Nat} (hb : b < 2147483648) (ha : a ≤ b) (h0 : ¬ x < nI a) (h : ¬ nI b < x) : ∃ j, a ≤ j ∧ j ≤ b ∧ x = nI j := by
  have h1 : ¬ x < 0 := fun q => h0 (by
    rw [Int32.lt_iff_toInt_lt] at q ⊢
    rw [nI_toInt (by omega)]
    rw [Int32.toInt_zero] at q
    omega)
  obtain ⟨j, hj, rfl⟩ := i32_le_nI hb h1 h
  refine ⟨j, ?_, hj, rfl⟩
  rcases Nat.lt_or_ge j a with q | q
  · exact absurd (nI_lt q (by omega)) h0
  · exact q
-- the class leaves the model's cells
def fr (S S1 : AmT) : Prop := ∀ o, 95 ≤ o → S1.1 o = S.1 o
theorem fr_refl (S : AmT) : fr S S := fun _ _ => rfl
theorem hf_in {k : Nat} (h : ¬ hf k = 0) : 96 ≤ k ∧ k ≤ 124 := by
  refine Classical.byContradiction fun q => h (hf_out ?_)
  rw [hl_29]
  simp only [List.mem_cons, List.not_mem_nil, or_false]
  omega
def mi (k j : Nat) : Prop := k = 95 ∨ 125 ≤ k ∨ j < hf k
def mz (I : Mem) : Mem := fun k j => if k < 95 then 0 else if k = 95 ∨ 125 ≤ k then I k j else if j < hf k then I k j else 0
theorem mi_k {k j : Nat} (h : mi k j) : 95 ≤ k := by
  rcases h with h | h | h
  · omega
  · omega
  · have := hf_in (k := k) (by omega)
    omega
theorem mz_at {I : Mem} {k j : Nat} (h : mi k j) : mz I k j = I k j := by
  have hk := mi_k h
  unfold mz
  rw [if_neg (by omega)]
  rcases h with h | h | h
  · rw [if_pos (Or.inl h)]
  · rw [if_pos (Or.inr h)]
  · rw [if_neg (by have := hf_in (k := k) (by omega); omega), if_pos h]
theorem mz_up {I : Mem} {k i : Nat} {x : Int32} (h : mi k i) : mz (am_upI I k i x) = am_upI (mz I) k i x := by
  funext k' j
  by_cases hk : k' = k
  · subst hk
    by_cases hj : j = i
    · subst hj
      rw [mz_at h]
      simp [am_upI]
    · have e1 : am_upI I k' i x k' j = I k' j := by simp [am_upI, hj]
      have e2 : am_upI (mz I) k' i x k' j = mz I k' j := by simp [am_upI, hj]
      rw [e2]
      unfold mz
      rw [e1]
  · rw [am_upI_ne hk]
    unfold mz
    rw [am_upI_ne hk]
theorem mz_mv {I : Mem} {o : Nat} (h1 : 96 ≤ o) (h2 : o ≤ 124) : mz I o = mv I o := by
  funext j
  unfold mz mv
  rw [if_neg (by omega), if_neg (by omega)]
theorem mw_up2 {I : Mem} {k i : Nat} {x : Int32} (h : mi k i) : mw (am_upI I k i x) = mw I := by
  by_cases hh : hf k = 0
  · exact mw_out hh
  · have := hf_in hh
    rcases h with h | h | h
    · omega
    · omega
    · exact mw_up h
theorem Cur_congr_m {A m m' : Mem} {nj nf ns ng nb : Nat} (h : ∀ o, 96 ≤ o → o ≤ 124 → m' o = m o) (hC : Cur A m nj nf ns ng nb) : Cur A m' nj nf ns ng nb := by
  unfold Cur at hC ⊢
  rw [h 96 (by omega) (by omega), h 97 (by omega) (by omega), h 98 (by omega) (by omega), h 99 (by omega) (by omega), h 100 (by omega) (by omega), h 101 (by omega) (by omega), h 102 (by omega) (by omega),
    h 103 (by omega) (by omega), h 104 (by omega) (by omega), h 105 (by omega) (by omega), h 106 (by omega) (by omega), h 107 (by omega) (by omega), h 108 (by omega) (by omega), h 109 (by omega) (by omega),
    h 110 (by omega) (by omega), h 111 (by omega) (by omega), h 112 (by omega) (by omega), h 113 (by omega) (by omega), h 114 (by omega) (by omega), h 115 (by omega) (by omega), h 116 (by omega) (by omega),
    h 117 (by omega) (by omega), h 118 (by omega) (by omega), h 119 (by omega) (by omega), h 120 (by omega) (by omega), h 121 (by omega) (by omega), h 122 (by omega) (by omega), h 123 (by omega) (by omega), h 124 (by omega) (by omega)]
  exact hC
theorem Rel_z {S : AmT} {t : Nat} (h : Rel S t) : ∃ nj nf ns ng nb, Cur S.1 (mz S.1) nj nf ns ng nb := by
  obtain ⟨⟨nj, nf, ns, ng, nb, hC⟩, -⟩ := h
  exact ⟨nj, nf, ns, ng, nb, Cur_congr_m (fun o h1 h2 => mz_mv h1 h2) hC⟩
-- what is only counted, over two views
def Tl (A m : Mem) (t : Nat) : Prop := A 5 2 = m 95 30 ∧ A 5 3 = m 95 31 ∧ A 5 4 = m 95 32 ∧ A 5 5 = m 95 33 ∧ A 5 6 = m 95 34 ∧ A 5 7 = m 95 35 ∧ (∃ tc, tc ≤ 2000 * t ∧ A 5 1 = nI tc ∧ m 95 36 = nI tc) ∧ ∀ j, j < 40 → A 6 j = m 125 j
theorem Tl_of {I : Mem} {t : Nat} (h : Tal I t) : Tl I (mz I) t := by
  unfold Tl
  rw [mz_at (Or.inl rfl), mz_at (Or.inl rfl), mz_at (Or.inl rfl), mz_at (Or.inl rfl), mz_at (Or.inl rfl), mz_at (Or.inl rfl), mz_at (Or.inl rfl)]
  obtain ⟨h1, h2, h3, h4, h5, h6, h7, h8⟩ := h
  exact ⟨h1, h2, h3, h4, h5, h6, h7, fun j hj => (h8 j hj).trans (mz_at (Or.inr (Or.inl (by omega)))).symm⟩
theorem Tl_to {I A : Mem} {t : Nat} (h5 : I 5 = A 5) (h6 : I 6 = A 6) (h : Tl A (mz I) t) : Tal I t := by
  unfold Tl at h
  rw [mz_at (Or.inl rfl), mz_at (Or.inl rfl), mz_at (Or.inl rfl), mz_at (Or.inl rfl), mz_at (Or.inl rfl), mz_at (Or.inl rfl), mz_at (Or.inl rfl)] at h
  obtain ⟨h1, h2, h3, h4, h5', h6', h7, h8⟩ := h
  unfold Tal
  rw [h5, h6]
  exact ⟨h1, h2, h3, h4, h5', h6', h7, fun j hj => (h8 j hj).trans (mz_at (Or.inr (Or.inl (by omega))))⟩
theorem Tl_mono {A m : Mem} {t t' : Nat} (h : Tl A m t) (ht : t ≤ t') : Tl A m t' := by
  obtain ⟨h1, h2, h3, h4, h5, h6, ⟨tc, h7, h8⟩, h9⟩ := h
  exact ⟨h1, h2, h3, h4, h5, h6, ⟨tc, by omega, h8⟩, h9⟩
theorem Tl_congr {A A' m m' : Mem} {t : Nat} (h : Tl A m t) (h5 : A' 5 = A 5) (h6 : A' 6 = A 6) (h95 : ∀ j, 30 ≤ j → j ≤ 36 → m' 95 j = m 95 j) (h125 : m' 125 = m 125) : Tl A' m' t := by
  unfold Tl at h ⊢
  rw [h5, h6, h125, h95 30 (by omega) (by omega), h95 31 (by omega) (by omega), h95 32 (by omega) (by omega), h95 33 (by omega) (by omega), h95 34 (by omega) (by omega), h95 35 (by omega) (by omega), h95 36 (by omega) (by omega)]
  exact h
-- the model's side
def My (S1 S : AmT) (m W : Mem) : Prop := S.2 = S1.2 ∧ (∀ o, o ≤ 94 → S.1 o = S1.1 o) ∧ mz S.1 = m ∧ mw S.1 = W
theorem My_rd {S1 S : AmT} {m W : Mem} {k j : Nat} (h : My S1 S m W) (hi : mi k j) : S.1 k j = m k j := by
  rw [← h.2.2.1, mz_at hi]
theorem My_up {S1 S : AmT} {m W : Mem} {k i : Nat} {x : Int32} (h : My S1 S m W) (hi : mi k i) : My S1 (am_upI S.1 k i x, S.2) (am_upI m k i x) W := by
  have hk := mi_k hi
  refine ⟨h.1, fun o ho => ?_, ?_, ?_⟩
  · show am_upI S.1 k i x o = _
    rw [am_upI_ne (by omega)]
    exact h.2.1 o ho
  · show mz (am_upI S.1 k i x) = _
    rw [mz_up hi, h.2.2.1]
  · show mw (am_upI S.1 k i x) = _
    rw [mw_up2 hi, h.2.2.2]
def MG (S1 : AmT) (W : Mem) (M : Option (Int32 × AmT)) (Q : Int32 → Mem → Prop) : Prop := ∃ v S2 m, M = some (v, S2) ∧ My S1 S2 m W ∧ Q v m
theorem MG_ret {S1 S : AmT} {m W : Mem} {v : Int32} {Q : Int32 → Mem → Prop} (h : My S1 S m W) (H : Q v m) : MG S1 W (some (v, S)) Q := ⟨v, S, m, rfl, h, H⟩
theorem MG_b2 {S1 : AmT} {W : Mem} {C : Option (Int32 × AmT)} {K : Int32 → AmT → Option (Int32 × AmT)} {Q1 Q : Int32 → Mem → Prop} (h : MG S1 W C Q1) (H : ∀ v S m, My S1 S m W → Q1 v m → MG S1 W (K v S) Q) : MG S1 W (am_b2 C K) Q := by
  obtain ⟨v, S, m, rfl, h1, h2⟩ := h
  exact H v S m h1 h2
theorem MG_up {S1 S : AmT} {m W : Mem} {k p : Nat} {x : Int32} {K : AmT → Option (Int32 × AmT)} {Q : Int32 → Mem → Prop} (h : My S1 S m W) (hi : mi k p) (H : ∀ S', My S1 S' (am_upI m k p x) W → MG S1 W (K S') Q) : MG S1 W (am_lt ((am_upI S.1 k p x, S.2) : AmT) K) Q := H _ (My_up h hi)
theorem MG_cu {S1 S : AmT} {m W : Mem} {k p n : Nat} {j x : Int32} {K : AmT → Option (Int32 × AmT)} {Q : Int32 → Mem → Prop} (h : My S1 S m W) (hj : j = nI p) (hi : p < hf k) (hn : p < n) (hn2 : n < 2147483648) (H : ∀ S', My S1 S' (am_upI m k p x) W → MG S1 W (K S') Q) : MG S1 W (am_ck j n (am_lt ((am_upI S.1 k j.toNatClampNeg x, S.2) : AmT) K)) Q := by
  subst hj
  rw [ck_at hn hn2, nI_clamp (by omega)]
  exact H _ (My_up h (Or.inr (Or.inr hi)))
theorem MG_f {F : Nat} {S1 S : AmT} {m W : Mem} {n : Int32} {Q : Int32 → Mem → Prop} (h : My S1 S m W) (H : Q (-10 - n) (am_upI (am_upI m 95 30 (m 95 30 + 1)) 95 31 n)) : MG S1 W (am_b2 (f203 F n S) fun v S2 => some (v, S2)) Q := by
  rw [b2_id]
  unfold f203
  refine MG_up h (Or.inl rfl) fun S' h' => ?_
  refine MG_up h' (Or.inl rfl) fun S'' h'' => ?_
  rw [My_rd h (Or.inl rfl)] at h''
  exact MG_ret h'' H
-- the class's side, behind begin()
def Ky (S0 S : AmT) (A : Mem) (k : Nat) : Prop := J S S0.1 k ∧ (∀ o, 5 ≤ o → o ≤ 94 → S.1 o = A o) ∧ ∀ o, 95 ≤ o → S.1 o = S0.1 o
theorem Ky_beg (S : AmT) : Ky S (beg S) S.1 0 := ⟨J_beg S, fun o h1 _ => beg_fn (by omega), fun o h1 => beg_fn (by omega)⟩
theorem Ky_kg {S0 S : AmT} {A : Mem} {k ar n p : Nat} (h : Ky S0 S A k) (ha : 5 ≤ ar ∧ ar ≤ 94) (hp : p < n) (hn : n < 2147483648) : kg S.1 ar n (nI p) = A ar p := by
  rw [kg_at hp hn, h.2.1 ar ha.1 ha.2]
theorem Ky_k0 {S0 S : AmT} {A : Mem} {k ar n : Nat} (h : Ky S0 S A k) (ha : 5 ≤ ar ∧ ar ≤ 94) (hp : 0 < n) (hn : n < 2147483648) : kg S.1 ar n 0 = A ar 0 := by
  rw [← nI_0]
  exact Ky_kg h ha hp hn
theorem Ky_rd {S0 S : AmT} {A : Mem} {k o j : Nat} (h : Ky S0 S A k) (h1 : 5 ≤ o) (h2 : o ≤ 94) : S.1 o j = A o j := by rw [h.2.1 o h1 h2]
theorem Ky_mono {S0 S : AmT} {A : Mem} {k k' : Nat} (h : Ky S0 S A k) (hk : k ≤ k') : Ky S0 S A k' := ⟨J_mono h.1 hk, h.2⟩
theorem Ky_ks {S0 S : AmT} {A : Mem} {k c ar n p : Nat} {v : Int32} (h : Ky S0 S A k) (hk : k < 640) (hc : sh_k c ar n = true) (hp : p < n) : Ky S0 (ks S c ar n (nI p) v) (am_upI A ar p v) (k + 1) := by
  have hin := kp_in (kp_k hc)
  refine ⟨J_ks h.1 hk hc, fun o h1 h2 => ?_, fun o h1 => ?_⟩
  · by_cases ho : o = ar
    · subst ho
      rw [ks_at hp hin.2.2.1 (by omega) (by omega) (by omega), am_upI_at, h.2.1 o h1 h2]
    · rw [ks_fn (by omega) (by omega) (by omega) ho, am_upI_ne ho, h.2.1 o h1 h2]
  · rw [ks_fn (by omega) (by omega) (by omega) (by omega), h.2.2 o h1]
theorem Ky_up {S0 S : AmT} {A : Mem} {k o i : Nat} {x : Int32} (h : Ky S0 S A k) (ho : o = 5 ∨ o = 6 ∨ o = 23 ∨ (24 ≤ o ∧ o ≤ 29)) : Ky S0 (am_upI S.1 o i x, S.2) (am_upI A o i x) k := by
  refine ⟨J_keep h.1 rfl (am_upI_ne (by omega)) (am_upI_ne (by omega)) (am_upI_ne (by omega)) (fun o' h' => am_upI_ne (by omega)), fun o' h1 h2 => ?_, fun o' h1 => ?_⟩
  · show am_upI S.1 o i x o' = _
    by_cases hq : o' = o
    · subst hq
      rw [am_upI_at, am_upI_at, h.2.1 o' h1 h2]
    · rw [am_upI_ne hq, am_upI_ne hq, h.2.1 o' h1 h2]
  · show am_upI S.1 o i x o' = _
    rw [am_upI_ne (by omega), h.2.2 o' h1]
def KG (S0 : AmT) (n : Nat) (C : Option (Int32 × AmT)) (Q : Int32 → AmT → Mem → Prop) : Prop := ∃ v S1 A, C = some (v, S1) ∧ Ky S0 S1 A n ∧ Q v S1 A
theorem KG_ret {S0 S : AmT} {A : Mem} {k n : Nat} {v : Int32} {Q : Int32 → AmT → Mem → Prop} (h : Ky S0 S A k) (hk : k ≤ n) (H : Q v S A) : KG S0 n (some (v, S)) Q := ⟨v, S, A, rfl, Ky_mono h hk, H⟩
theorem KG_b2 {S0 : AmT} {n n1 : Nat} {C : Option (Int32 × AmT)} {K : Int32 → AmT → Option (Int32 × AmT)} {Q1 Q : Int32 → AmT → Mem → Prop} (h : KG S0 n1 C Q1) (H : ∀ v S A, Ky S0 S A n1 → Q1 v S A → KG S0 n (K v S) Q) : KG S0 n (am_b2 C K) Q := by
  obtain ⟨v, S, A, rfl, h1, h2⟩ := h
  exact H v S A h1 h2
theorem KG_ks {S0 S : AmT} {A : Mem} {k c ar n p N : Nat} {j v : Int32} {K : AmT → Option (Int32 × AmT)} {Q : Int32 → AmT → Mem → Prop} (h : Ky S0 S A k) (hk : k < 640) (hc : sh_k c ar n = true) (hj : j = nI p) (hp : p < n) (H : ∀ S', Ky S0 S' (am_upI A ar p v) (k + 1) → KG S0 N (K S') Q) : KG S0 N (am_nn S (am_lt (ks S c ar n j v) K)) Q := by
  subst hj
  rw [nn_at h.1 (by omega)]
  exact H _ (Ky_ks h hk hc hp)
theorem KG_k0 {S0 S : AmT} {A : Mem} {k c ar n N : Nat} {v : Int32} {K : AmT → Option (Int32 × AmT)} {Q : Int32 → AmT → Mem → Prop} (h : Ky S0 S A k) (hk : k < 640) (hc : sh_k c ar n = true) (hp : 0 < n) (H : ∀ S', Ky S0 S' (am_upI A ar 0 v) (k + 1) → KG S0 N (K S') Q) : KG S0 N (am_nn S (am_lt (ks S c ar n 0 v) K)) Q := KG_ks (p := 0) h hk hc nI_0.symm hp H
/-- answer(): a number that is no FINDING -/
theorem KG_a {F : Nat} {S0 S : AmT} {A : Mem} {k n : Nat} {x : Int32} {Q : Int32 → AmT → Mem → Prop} (h : Ky S0 S A k) (hk : k ≤ n) (hx : -11 < x) (H : Q x S A) : KG S0 n (am_b2 (f129 F x S) fun v S2 => some (v, S2)) Q := by
  rw [b2_id, f129_ok hx]
  exact KG_ret h hk H
theorem KG_f {F : Nat} {S0 S : AmT} {A : Mem} {k n : Nat} {x : Int32} {Q : Int32 → AmT → Mem → Prop} (h : Ky S0 S A k) (hk : k ≤ n) (hx : ¬ -11 < x) (H : ∀ S', Ky S0 S' (am_upI (am_upI A 5 2 (A 5 2 + 1)) 5 3 (-10 - x)) n → Q x S' (am_upI (am_upI A 5 2 (A 5 2 + 1)) 5 3 (-10 - x))) : KG S0 n (am_b2 (f129 F x S) fun v S2 => some (v, S2)) Q := by
  have h2 : Ky S0 (cf S (-10 - x)) (am_upI (am_upI A 5 2 (A 5 2 + 1)) 5 3 (-10 - x)) n := by
    have := Ky_up (o := 5) (i := 3) (x := -10 - x) (Ky_up (o := 5) (i := 2) (x := S.1 5 2 + 1) (Ky_mono h hk) (Or.inl rfl)) (Or.inl rfl)
    rw [Ky_rd h (by omega) (by omega)] at this
    have e : cf S (-10 - x) = (am_upI (am_upI S.1 5 2 (A 5 2 + 1)) 5 3 (-10 - x), S.2) := by
      unfold cf
      rw [Ky_rd h (by omega) (by omega)]
    rw [e]
    exact this
  rw [b2_id, f129_find hx]
  exact KG_ret h2 (Nat.le_refl _) (H _ h2)
-- class, then model
def RG (S : AmT) (t : Nat) (C : Option (Int32 × AmT)) (M : AmT → Option (Int32 × AmT)) : Prop := ∃ v S1, C = some (v, S1) ∧ fr S S1 ∧ ∃ S2, M S1 = some (v, S2) ∧ Rel S2 (t + 1)
theorem Fp_of {fc fm : AmT → Option (Int32 × AmT)} (H : ∀ (S : AmT) (t : Nat), t ≤ 600 → Rel S t → RG S t (fc S) (fun S1 => fm S1)) : FpStep fc fm := by
  intro S t ht hR
  obtain ⟨v, S1, h1, -, S2, h2, h3⟩ := H S t ht hR
  exact ⟨v, S1, S2, h1, h2, h3⟩
theorem RG_ret {S : AmT} {t : Nat} {v : Int32} (hR : Rel S t) : RG S t (some (v, S)) (fun S1 => some (v, S1)) := ⟨v, S, rfl, fr_refl S, S, rfl, Rel_mono hR (by omega)⟩
theorem RG_f {F : Nat} {S : AmT} {t : Nat} {n x : Int32} (hR : Rel S t) (hx : ¬ -11 < x) (hn : -10 - x = n) (hn' : -10 - n = x) : RG S t (am_b2 (f129 F x S) fun v S2 => some (v, S2)) (fun S1 => am_b2 (f203 F n S1) fun v S2 => some (v, S2)) := by
  refine ⟨x, cf S n, ?_, fun o ho => cf_fn (by omega), mf (cf S n) n, ?_, Rel_find hR⟩
  · rw [b2_id, f129_find hx, hn]
  · dsimp only
    rw [b2_id, f203_eq, hn']
theorem RG_cm {S : AmT} {t : Nat} {C C' : Option (Int32 × AmT)} {M M' : AmT → Option (Int32 × AmT)} (hC : C = C') (hM : ∀ S1, fr S S1 → M S1 = M' S1) (H : RG S t C' M') : RG S t C M := by
  obtain ⟨v, S1, h1, h2, S2, h3, h4⟩ := H
  exact ⟨v, S1, hC.trans h1, h2, S2, (hM S1 h2).trans h3, h4⟩
theorem RG_c {S : AmT} {t : Nat} {C C' : Option (Int32 × AmT)} {M : AmT → Option (Int32 × AmT)} (hC : C = C') (H : RG S t C' M) : RG S t C M := RG_cm hC (fun _ _ => rfl) H
theorem RG_m {S : AmT} {t : Nat} {C : Option (Int32 × AmT)} {M M' : AmT → Option (Int32 × AmT)} (hM : ∀ S1, fr S S1 → M S1 = M' S1) (H : RG S t C M') : RG S t C M := RG_cm rfl hM H
/-- a test that both make: P where it says yes -/
def Gd (S : AmT) (fc fm : AmT → Option (Int32 × AmT)) (P : Prop) : Prop := (P ∧ fc S = some (1, S) ∧ ∀ S1, fr S S1 → fm S1 = some (1, S1)) ∨ (fc S = some (0, S) ∧ ∀ S1, fr S S1 → fm S1 = some (0, S1))
theorem RG_g1 {S : AmT} {t : Nat} {fc fm K M : AmT → Option (Int32 × AmT)} {P : Prop} {e : Int32} (hg : Gd S fc fm P) (hR : Rel S t) (H : P → RG S t (K S) M) : RG S t (am_b2 (fc S) fun v S2 => if v = 0 then some (e, S2) else K S2) (fun S1 => am_b2 (fm S1) fun v S2 => if v = 0 then some (e, S2) else M S2) := by
  rcases hg with ⟨hP, h1, h2⟩ | ⟨h1, h2⟩
  · refine RG_cm (by rw [h1, b2_at, if_neg (by decide)]) (fun S1 hf => ?_) (H hP)
    rw [h2 S1 hf, b2_at, if_neg (by decide)]
  · refine RG_cm (by rw [h1, b2_at, if_pos rfl]) (fun S1 hf => ?_) (RG_ret hR)
    rw [h2 S1 hf, b2_at, if_pos rfl]
theorem RG_jam {F : Nat} {S : AmT} {t : Nat} {K M : AmT → Option (Int32 × AmT)} (hR : Rel S t) (H : RG S t (K S) M) : RG S t (am_b2 (f81 F S) fun v S2 => if v = 0 then K S2 else some (-4, S2)) (fun S1 => am_b2 (f202 F S1) fun v S2 => if v = 0 then M S2 else some (-4, S2)) := by
  obtain ⟨hj1, hj2⟩ := Rel_jam hR
  rcases hj2 with h | h
  · refine RG_cm (by rw [f81_eq, b2_at, if_pos h, if_pos rfl]) (fun S1 hf => ?_) H
    rw [f202_eq, b2_at, hf 96 (by omega), hj1, h]
    rfl
  · refine RG_cm (by rw [f81_eq, b2_at, h]; rfl) (fun S1 hf => ?_) (RG_ret (v := -4) hR)
    rw [f202_eq, b2_at, hf 96 (by omega), hj1, h]
    rfl
theorem Gd_in {F : Nat} {S : AmT} {x la lb : Int32} (a b : Nat) (ha : la = nI a) (hb : lb = nI b) (hab : a ≤ b ∧ b < 2147483648) : Gd S (fun S => f194 F x la lb S) (fun S => f197 F x la lb S) (∃ w, a ≤ w ∧ w ≤ b ∧ x = nI w) := by
  subst ha hb
  unfold Gd
  by_cases c1 : x < nI a
  · refine Or.inr ⟨?_, fun S1 _ => ?_⟩
    · dsimp only
      rw [f194_eq, if_pos c1]
    · dsimp only
      rw [f197_eq, if_pos c1]
  by_cases c2 : nI b < x
  · refine Or.inr ⟨?_, fun S1 _ => ?_⟩
    · dsimp only
      rw [f194_eq, if_neg c1, if_pos c2]
    · dsimp only
      rw [f197_eq, if_neg c1, if_pos c2]
  refine Or.inl ⟨i32_btw hab.2 hab.1 c1 c2, ?_, fun S1 _ => ?_⟩
  · dsimp only
    rw [f194_eq, if_neg c1, if_neg c2]
  · dsimp only
    rw [f197_eq, if_neg c1, if_neg c2]
theorem RG_chg {F : Nat} {S : AmT} {t : Nat} {K M : AmT → Option (Int32 × AmT)} {nj nf ns ng nb : Nat} (hF : 6000 ≤ F) (hR : Rel S t) (hCz : Cur S.1 (mz S.1) nj nf ns ng nb)
    (H : ∀ m0, Cur S.1 m0 nj nf ns ng nb → Tl S.1 m0 t → m0 95 29 = 1 → (∀ k j, mi k j → k ≠ 95 → m0 k j = S.1 k j) → ∀ S', Ky S S' S.1 0 → KG S 640 (K S') (fun v S1 A => ∀ S2, My S1 S2 m0 (mv S.1) → MG S1 (mv S.1) (M S2) (fun v' m => v' = v ∧ (∃ nj nf ns ng nb, Cur A m nj nf ns ng nb) ∧ Tl A m (t + 1) ∧ m 95 29 = 1))) :
    RG S t ((f58 F S).bind K) (fun S1 => (f201 F S1).bind M) := by
  obtain ⟨v, S1, A, hC, hK, hM⟩ := H (am_upI (mz S.1) 95 29 1) (Cur_congr_m (fun o o1 o2 => am_upI_ne (by omega)) hCz) (Tl_congr (Tl_of hR.2.1) rfl rfl (fun j j1 j2 => by simp [am_upI, show j ≠ 29 by omega]) (am_upI_ne (by omega))) (by simp [am_upI]) (fun k j hi hk => (congrFun (am_upI_ne hk) j).trans (mz_at hi)) _ (Ky_beg S)
  obtain ⟨-, -, hb, -⟩ := id hR
  have hb1 : bools S1.1 := by
    unfold bools
    rw [hK.2.2 116 (by omega), hK.2.2 122 (by omega), hK.2.2 124 (by omega)]
    exact hb
  refine ⟨v, S1, hC, hK.2.2, ?_⟩
  have h0 : My S1 (chg S1) (am_upI (mz S.1) 95 29 1) (mv S.1) := by
    have e1 := (mv_cells (I := S.1) (I' := S1.1) (fun o o1 _ => hK.2.2 o (by omega))).1
    refine ⟨rfl, fun o ho => chg_fn (by rw [hl_29]; simp only [List.mem_cons, List.not_mem_nil, or_false]; omega) (by omega), ?_, by rw [mw_chg, e1]⟩
    show mz (am_upI (cpP S1.1 (hl 29)) 95 29 1) = _
    rw [mz_up (Or.inl rfl)]
    congr 1
    funext k j
    by_cases hi : mi k j
    · rw [mz_at hi, mz_at hi]
      by_cases h95 : k = 95 ∨ 125 ≤ k
      · rw [cpP_bool (by rw [hl_29]; simp only [List.mem_cons, List.not_mem_nil, or_false]; omega), hK.2.2 k (by omega)]
      · have hj : j < hf k := by
          rcases hi with q | q | q
          · omega
          · omega
          · exact q
        have h2 := chg_at (S := S1) hj
        have h3 : (chg S1).1 k j = cpP S1.1 (hl 29) k j := congrFun (am_upI_ne (by omega)) j
        rw [← h3, h2, hK.2.2 k (mi_k hi)]
    · have hn : ∀ I : Mem, mz I k j = 0 := fun I => by
        unfold mz
        by_cases q : k < 95
        · rw [if_pos q]
        · rw [if_neg q, if_neg (fun z => hi (by rcases z with z | z; exact Or.inl z; exact Or.inr (Or.inl z))), if_neg (fun z => hi (Or.inr (Or.inr z)))]
      rw [hn, hn]
  obtain ⟨v', S3, m, e1, e2, rfl, ⟨nj, nf, ns, ng, nb, hc⟩, htl, h29⟩ := hM _ h0
  refine ⟨S3, ?_, ?_⟩
  · dsimp only
    rw [f201_eq hF hb1, bind_at]
    exact e1
  · obtain ⟨a1, a2, a3, a4⟩ := e2
    refine Rel_chg hR ?_ a4 ?_ ⟨nj, nf, ns, ng, nb, ?_⟩ ?_
    · exact J_keep hK.1 a1 (a2 1 (by omega)) (a2 3 (by omega)) (a2 4 (by omega)) (fun o ho => a2 o (by omega))
    · rw [← a3, mz_at (Or.inl rfl)] at h29
      exact h29
    · refine Cur_congr_m (fun o o1 o2 => (mz_mv o1 o2).symm) ?_
      rw [a3]
      exact Cur_congr (fun o ho => (a2 o (by omega)).trans (hK.2.1 o (by omega) (by omega))) hc
    · refine Tl_to (A := A) ((a2 5 (by omega)).trans (hK.2.1 5 (by omega) (by omega))) ((a2 6 (by omega)).trans (hK.2.1 6 (by omega) (by omega))) ?_
      rw [a3]
      exact htl

theorem RG_ite {S : AmT} {t : Nat} {P : Prop} [Decidable P] {q : AmT → Prop} [∀ S1, Decidable (q S1)] {C1 C2 : Option (Int32 × AmT)} {M1 M2 : AmT → Option (Int32 × AmT)} (hq : ∀ S1, fr S S1 → (q S1 ↔ P)) (H1 : P → RG S t C1 M1) (H2 : ¬ P → RG S t C2 M2) : RG S t (if P then C1 else C2) (fun S1 => if q S1 then M1 S1 else M2 S1) := by
  by_cases h : P
  · exact RG_cm (if_pos h) (fun S1 hf => if_pos ((hq S1 hf).mpr h)) (H1 h)
  · exact RG_cm (if_neg h) (fun S1 hf => if_neg (fun z => h ((hq S1 hf).mp z))) (H2 h)
theorem RG_itn {S : AmT} {t : Nat} {P : Prop} [Decidable P] {q : AmT → Prop} [∀ S1, Decidable (q S1)] {C1 C2 : Option (Int32 × AmT)} {M1 M2 : AmT → Option (Int32 × AmT)} (hq : ∀ S1, fr S S1 → (q S1 ↔ ¬ P)) (H1 : P → RG S t C1 M2) (H2 : ¬ P → RG S t C2 M1) : RG S t (if P then C1 else C2) (fun S1 => if q S1 then M1 S1 else M2 S1) := by
  by_cases h : P
  · exact RG_cm (if_pos h) (fun S1 hf => if_neg (fun z => (hq S1 hf).mp z h)) (H1 h)
  · exact RG_cm (if_neg h) (fun S1 hf => if_pos ((hq S1 hf).mpr h)) (H2 h)
theorem i32_m1 {x : Int32} {n : Nat} (hn : n < 2147483648) : nI n - 1 < x ↔ nI n ≤ x := by
  cases n with
  | zero =>
    rw [nI_0, Int32.lt_iff_toInt_lt, Int32.le_iff_toInt_le]
    have e : ((0 : Int32) - 1).toInt = -1 := by decide
    rw [e, Int32.toInt_zero]
    omega
  | succ k =>
    have e : nI (k + 1) - 1 = nI k := nI_sub (a := k + 1) (b := 1) (by omega)
    rw [e, Int32.lt_iff_toInt_lt, Int32.le_iff_toInt_le, nI_toInt (by omega), nI_toInt (by omega)]
    omega
theorem Gd_has {F : Nat} {S : AmT} {x : Int32} {ar q n : Nat} (h1 : S.1 ar 0 = nI n) (h2 : S.1 96 q = nI n) (hn : n < 2147483648) : Gd S (fun S => if x < 0 then (some (0, S)) else (if (kg S.1 ar 1 0) ≤ x then (some (0, S)) else (some (1, S)))) (fun S => am_b2 (f197 F x 0 ((S.1 96 q) - 1) S) fun v S2 => am_b01 v (some (v, S2))) (∃ j, j < n ∧ x = nI j) := by
  unfold Gd
  dsimp only
  rw [kg_0 (by decide) (by decide), h1]
  by_cases c1 : x < 0
  · refine Or.inr ⟨if_pos c1, fun S1 _ => ?_⟩
    rw [f197_eq, if_pos c1]
    rfl
  by_cases c2 : nI n ≤ x
  · refine Or.inr ⟨by rw [if_neg c1, if_pos c2], fun S1 hf => ?_⟩
    rw [f197_eq, if_neg c1, hf 96 (by omega), h2, if_pos ((i32_m1 hn).mpr c2)]
    rfl
  refine Or.inl ⟨?_, by rw [if_neg c1, if_neg c2], fun S1 hf => ?_⟩
  · obtain ⟨j, hj, rfl⟩ := nI_of c1
    refine ⟨j, ?_, rfl⟩
    rcases Nat.lt_or_ge j n with z | z
    · exact z
    · exact absurd (nI_le z hj) c2
  · rw [f197_eq, if_neg c1, hf 96 (by omega), h2, if_neg (fun z => c2 ((i32_m1 hn).mp z))]
    rfl
