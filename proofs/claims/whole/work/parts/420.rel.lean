/-! what the class's arrays and the model's have to do with each other -/
-- the model's arrays: as they are now, as they were before the latest change
def mv (I : Mem) : Mem := fun k j => if j < hf k then I k j else 0
def mw (I : Mem) : Mem := fun k j => if j < hf k then I k (hf k + j) else 0
def chg (S : AmT) : AmT := (am_upI (cpP S.1 (hl 29)) 95 29 1, S.2)
theorem f201_eq {F : Nat} (hF : 6000 ≤ F) {S : AmT} (hb : bools S.1) : f201 F S = some (chg S) := by
  obtain ⟨I, R⟩ := S
  unfold f201
  rw [kf_all hF hb]
  rfl
theorem hl_29 : hl 29 = [124, 123, 122, 121, 120, 119, 118, 117, 116, 115, 114, 113, 112, 111, 110, 109, 108, 107, 106, 105, 104, 103, 102, 101, 100, 99, 98, 97, 96] := by decide
theorem hf_out {k : Nat} (h : k ∉ hl 29) : hf k = 0 := by
  unfold hf
  cases hq : hfs.find? (fun q => q.1 == k) with
  | none => rfl
  | some q =>
    exfalso
    apply h
    have h1 := List.find?_some hq
    have h2 := List.mem_of_find?_eq_some hq
    have h3 : q.1 = k := by simpa using h1
    rw [← h3]
    exact List.mem_reverse.mpr (List.mem_map.mpr ⟨q, h2, rfl⟩)
theorem hf_95 : hf 95 = 0 := by decide
theorem mv_chg {S : AmT} : mv (chg S).1 = mv S.1 := by
  funext k j
  unfold mv
  by_cases hj : j < hf k
  · rw [if_pos hj, if_pos hj]
    have hk : k ≠ 95 := fun z => by rw [z, hf_95] at hj; omega
    show am_upI _ 95 29 1 k j = _
    rw [am_upI_ne hk]
    unfold cpP
    rw [if_neg (by omega)]
  · rw [if_neg hj, if_neg hj]
theorem mw_chg {S : AmT} : mw (chg S).1 = mv S.1 := by
  funext k j
  unfold mv mw
  by_cases hj : j < hf k
  · rw [if_pos hj, if_pos hj]
    have hk : k ≠ 95 := fun z => by rw [z, hf_95] at hj; omega
    have hm : k ∈ hl 29 := Classical.byContradiction fun z => by rw [hf_out z] at hj; omega
    show am_upI _ 95 29 1 k (hf k + j) = _
    rw [am_upI_ne hk]
    unfold cpP
    rw [if_pos ⟨hm, by omega, by omega⟩, Nat.add_sub_cancel_left]
  · rw [if_neg hj, if_neg hj]
theorem chg_fn {S : AmT} {o : Nat} (h : o ∉ hl 29) (h95 : o ≠ 95) : (chg S).1 o = S.1 o := by
  show am_upI _ 95 29 1 o = _
  rw [am_upI_ne h95]
  exact cpP_bool h
theorem chg_at {S : AmT} {k j : Nat} (hj : j < hf k) : (chg S).1 k j = S.1 k j := by
  have h := congrFun (congrFun (mv_chg (S := S)) k) j
  unfold mv at h
  rwa [if_pos hj, if_pos hj] at h
theorem mv_at {I : Mem} {k j : Nat} (h : j < hf k) : mv I k j = I k j := by
  unfold mv
  rw [if_pos h]
theorem mv_up {I : Mem} {k i : Nat} {x : Int32} (h : i < hf k) : mv (am_upI I k i x) = am_upI (mv I) k i x := by
  funext k' j
  unfold mv am_upI
  by_cases hk : k' = k
  · subst hk
    by_cases hj : j = i
    · subst hj
      simp [h]
    · simp [hj]
  · simp [hk]
theorem mw_up {I : Mem} {k i : Nat} {x : Int32} (h : i < hf k) : mw (am_upI I k i x) = mw I := by
  funext k' j
  unfold mw am_upI
  by_cases hk : k' = k
  · subst hk
    by_cases hj : j < hf k'
    · have : hf k' + j ≠ i := by omega
      simp [hj, this]
    · simp [hj]
  · simp [hk]
theorem mv_out {I : Mem} {k i : Nat} {x : Int32} (h : hf k = 0) : mv (am_upI I k i x) = mv I := by
  funext k' j
  unfold mv am_upI
  by_cases hk : k' = k
  · subst hk
    simp [h]
  · simp [hk]
theorem mw_out {I : Mem} {k i : Nat} {x : Int32} (h : hf k = 0) : mw (am_upI I k i x) = mw I := by
  funext k' j
  unfold mw am_upI
  by_cases hk : k' = k
  · subst hk
    simp [h]
  · simp [hk]
theorem mv_cells {I I' : Mem} (h : ∀ o, 96 ≤ o → o ≤ 124 → I' o = I o) : mv I' = mv I ∧ mw I' = mw I := by
  have hz : ∀ k, ¬ (96 ≤ k ∧ k ≤ 124) → hf k = 0 := fun k hk => hf_out (by rw [hl_29]; simp only [List.mem_cons, List.not_mem_nil, or_false]; omega)
  refine ⟨?_, ?_⟩ <;> funext k j
  · unfold mv
    by_cases hk : 96 ≤ k ∧ k ≤ 124
    · rw [h k hk.1 hk.2]
    · rw [hz k hk]
      simp
  · unfold mw
    by_cases hk : 96 ≤ k ∧ k ≤ 124
    · rw [h k hk.1 hk.2]
    · rw [hz k hk]
      simp
-- jobs
def LT (a21 m102 : Nat → Int32) (q : Nat) : Prop := a21 q = m102 q ∧ ∃ v, 32 ≤ v ∧ v ≤ 126 ∧ a21 q = nI v
def RW (a19 a21 m101 m102 : Nat → Int32) (r : Nat) : Prop := (a19 r = -1 ∧ m101 r = -1) ∨ ∃ c, c ≤ 10 ∧ a19 r = nI c ∧ m101 r = nI c ∧ ∀ k, k < c → LT a21 m102 (10 * r + k)
def PG (a17 a19 a21 m100 m101 m102 : Nat → Int32) (s : Nat) : Prop := (a17 s = -1 ∧ m100 s = -1) ∨ ∃ r, r ≤ 8 ∧ a17 s = nI r ∧ m100 s = nI r ∧ ∀ i, i < r → RW a19 a21 m101 m102 (8 * s + i)
def GJ (a9 : Int32) (a11 a13 a15 a17 a19 a21 : Nat → Int32) (m0 : Int32) (m97 m98 m99 m100 m101 m102 : Nat → Int32) (nj : Nat) : Prop :=
  nj ≤ 3 ∧ a9 = nI nj ∧ m0 = nI nj ∧ ∀ j, j < 3 → a11 j = m98 j ∧ a13 j = m99 j ∧ a15 j = m97 j ∧ ∃ l w p, l ≤ 8 ∧ w ≤ 10 ∧ p ≤ 24 ∧ a11 j = nI l ∧ a13 j = nI w ∧ a15 j = nI p ∧ (nj ≤ j → p = 0) ∧ ∀ s, 24 * j ≤ s → s < 24 * j + p → PG a17 a19 a21 m100 m101 m102 s
-- folds
def fd_th (k : Nat) : Int32 := match k with
  | 0 => 1
  | 1 => 2
  | 2 => 3
  | 3 => 2
  | _ => 4
def fd_tr (k : Nat) : Int32 := match k with
  | 0 => 0
  | 1 => 1
  | 2 => 1
  | 3 => 2
  | _ => 3
def FD (a33 a35 a37 a39 a41 a43 a45 : Nat → Int32) (f : Nat) : Prop :=
  (∃ k x, k ≤ 4 ∧ x ≤ 1 ∧ a33 f = nI k ∧ a35 f = nI x ∧ a37 f = 0 ∧ a39 f = 0 ∧ a41 f = 1 ∧ a43 f = fd_th k ∧ a45 f = fd_tr k) ∨
  (∃ p q u v, p < f ∧ q < f ∧ u + v ≤ 8 ∧ 1 ≤ u ∧ 1 ≤ v ∧ a33 f = 5 ∧ a35 f = 0 ∧ a37 f = nI p ∧ a39 f = nI q ∧ a41 p = nI u ∧ a41 q = nI v ∧ a41 f = nI (u + v) ∧ a43 f = a43 p * a43 q ∧ a45 f = a45 p + a45 q)
def GF (a31 : Int32) (a33 a35 a37 a39 a41 a43 a45 : Nat → Int32) (m1 : Int32) (m103 m104 m105 m106 m107 : Nat → Int32) (nf : Nat) : Prop :=
  nf ≤ 16 ∧ a31 = nI nf ∧ m1 = nI nf ∧ (∀ f, f < 16 → a33 f = m103 f ∧ a35 f = m104 f ∧ a37 f = m105 f ∧ a39 f = m106 f ∧ a41 f = m107 f ∧ (nf ≤ f → a35 f = 0 ∧ a37 f = 0 ∧ a39 f = 0)) ∧ ∀ f, f < nf → FD a33 a35 a37 a39 a41 a43 a45 f
-- sheets
def GS (a48 : Int32) (a50 a52 a54 a56 a58 a60 a62 a64 a66 a68 : Nat → Int32) (m2 : Int32) (m108 m109 m110 m111 m112 m113 m114 m115 m116 m117 m118 : Nat → Int32) (nj nf ns : Nat) : Prop :=
  ns ≤ 8 ∧ a48 = nI ns ∧ m2 = nI ns ∧
  (∀ s, s < 8 → a50 s = m108 s ∧ a52 s = m109 s ∧ a54 s = m110 s ∧ a62 s = m111 s ∧ a64 s = m112 s ∧ a66 s = m113 s ∧ a68 s = m114 s) ∧
  (∀ j, j < 128 → a56 j = m116 j ∧ (a56 j = 0 ∨ a56 j = 1)) ∧
  (∀ j, j < 1024 → ∃ p u, p ≤ 24 ∧ u ≤ 1 ∧ a58 j = nI (2 * p + u) ∧ m117 j = nI p ∧ m118 j = nI u) ∧
  (∀ s, s < ns → (∃ j, j < nj ∧ a50 s = nI j) ∧ (∃ r, r ≤ 8 ∧ a52 s = nI r) ∧ (∃ c, c ≤ 8 ∧ a54 s = nI c) ∧ ((a60 s = 0 ∧ m115 s = -1) ∨ (a60 s = 1 ∧ ∃ g, g < 4 ∧ m115 s = nI g)) ∧ (a62 s = -1 ∨ ∃ f, f < nf ∧ a62 s = nI f) ∧ (a64 s = -1 ∨ ∃ p, p ≤ 6 ∧ a64 s = nI p)) ∧
  (∀ s, ns ≤ s → s < 8 → a60 s = 0 ∧ a68 s = 0 ∧ (∀ i, i < 16 → a56 (16 * s + i) = 0) ∧ ∀ i, i < 128 → a58 (128 * s + i) = 0)
-- signatures, the book
def GB (a71 : Int32) (a73 a75 a77 a79 : Nat → Int32) (a81 : Int32) (a83 : Nat → Int32) (a85 : Int32) (m3 m4 m5 : Int32) (m119 m120 m121 m122 m123 : Nat → Int32) (ns ng nb : Nat) : Prop :=
  ng ≤ 4 ∧ a71 = nI ng ∧ m3 = nI ng ∧ a81 = nI nb ∧ m4 = nI nb ∧ a85 = m5 ∧ (a85 = -1 ∨ ∃ s, s < ns ∧ a85 = nI s) ∧
  (∀ g, g < 4 → a73 g = m119 g ∧ a75 g = m120 g ∧ a79 g = m122 g ∧ a83 g = m123 g ∧ (a79 g = 0 ∨ a79 g = 1) ∧ (ng ≤ g → a75 g = 0 ∧ a79 g = 0)) ∧
  (∀ j, j < 16 → a77 j = m121 j) ∧
  (∀ g, g < ng → (a73 g = 0 ∨ a73 g = 1) ∧ ∃ c, c ≤ 4 ∧ a75 g = nI c ∧ ∀ i, i < c → ∃ s, s < ns ∧ a77 (4 * g + i) = nI s) ∧
  (∀ b, b < nb → ∃ g, g < ng ∧ a83 b = nI g) ∧
  nb = (a79 0).toNatClampNeg + (a79 1).toNatClampNeg + (a79 2).toNatClampNeg + (a79 3).toNatClampNeg
-- the press
def GP (a88 : Nat → Int32) (a90 a92 a94 : Int32) (m124 : Nat → Int32) (m6 m7 m8 : Int32) : Prop :=
  (∀ j, j < 5 → a88 j = m124 j ∧ (a88 j = 0 ∨ a88 j = 1)) ∧ a90 = m7 ∧ (a90 = 0 ∨ a90 = 1) ∧ a92 = m8 ∧ (a92 = 0 ∨ a92 = 1) ∧ a94 = m6 ∧ ∃ n, n ≤ 9 ∧ a94 = nI n
def Cur (A m : Mem) (nj nf ns ng nb : Nat) : Prop :=
  GJ (A 9 0) (A 11) (A 13) (A 15) (A 17) (A 19) (A 21) (m 96 0) (m 97) (m 98) (m 99) (m 100) (m 101) (m 102) nj ∧
  GF (A 31 0) (A 33) (A 35) (A 37) (A 39) (A 41) (A 43) (A 45) (m 96 1) (m 103) (m 104) (m 105) (m 106) (m 107) nf ∧
  GS (A 48 0) (A 50) (A 52) (A 54) (A 56) (A 58) (A 60) (A 62) (A 64) (A 66) (A 68) (m 96 2) (m 108) (m 109) (m 110) (m 111) (m 112) (m 113) (m 114) (m 115) (m 116) (m 117) (m 118) nj nf ns ∧
  GB (A 71 0) (A 73) (A 75) (A 77) (A 79) (A 81 0) (A 83) (A 85 0) (m 96 3) (m 96 4) (m 96 5) (m 119) (m 120) (m 121) (m 122) (m 123) ns ng nb ∧
  GP (A 88) (A 90 0) (A 92 0) (A 94 0) (m 124) (m 96 6) (m 96 7) (m 96 8)
-- what is only counted; t bounds the trace
def Tal (I : Mem) (t : Nat) : Prop := I 5 2 = I 95 30 ∧ I 5 3 = I 95 31 ∧ I 5 4 = I 95 32 ∧ I 5 5 = I 95 33 ∧ I 5 6 = I 95 34 ∧ I 5 7 = I 95 35 ∧ (∃ tc, tc ≤ 2000 * t ∧ I 5 1 = nI tc ∧ I 95 36 = nI tc) ∧ ∀ j, j < 40 → I 6 j = I 125 j
def Rel (S : AmT) (t : Nat) : Prop :=
  (∃ nj nf ns ng nb, Cur S.1 (mv S.1) nj nf ns ng nb) ∧ Tal S.1 t ∧ bools S.1 ∧ (S.1 1 4 = 0 ∨ S.1 1 4 = 1) ∧ S.1 95 29 = S.1 1 4 ∧
  (S.1 1 4 = 1 → ∃ B, J S B 640 ∧ ∃ nj nf ns ng nb, Cur B (mw S.1) nj nf ns ng nb)
theorem Cur_congr {A A' m : Mem} {nj nf ns ng nb : Nat} (h : ∀ o, kc o → A' o = A o) (hC : Cur A m nj nf ns ng nb) : Cur A' m nj nf ns ng nb := by
  unfold Cur at hC ⊢
  rw [h 9 (by omega), h 11 (by omega), h 13 (by omega), h 15 (by omega), h 17 (by omega), h 19 (by omega), h 21 (by omega),
    h 31 (by omega), h 33 (by omega), h 35 (by omega), h 37 (by omega), h 39 (by omega), h 41 (by omega), h 43 (by omega), h 45 (by omega),
    h 48 (by omega), h 50 (by omega), h 52 (by omega), h 54 (by omega), h 56 (by omega), h 58 (by omega), h 60 (by omega), h 62 (by omega), h 64 (by omega), h 66 (by omega), h 68 (by omega),
    h 71 (by omega), h 73 (by omega), h 75 (by omega), h 77 (by omega), h 79 (by omega), h 81 (by omega), h 83 (by omega), h 85 (by omega),
    h 88 (by omega), h 90 (by omega), h 92 (by omega), h 94 (by omega)]
  exact hC
theorem bools_of {I I0 : Mem} (h0 : bools I0) (hv : ∀ j, (j < 128 → I 116 j = 0 ∨ I 116 j = 1)) (hv2 : ∀ j, j < 4 → I 122 j = 0 ∨ I 122 j = 1) (hv3 : ∀ j, j < 5 → I 124 j = 0 ∨ I 124 j = 1) (hw : mw I = mv I0) : bools I := by
  have key : ∀ K j, j < hf K → I K (hf K + j) = I0 K j := fun K j hj => by
    have := congrFun (congrFun hw K) j
    unfold mw mv at this
    rwa [if_pos hj, if_pos hj] at this
  refine ⟨fun j hj => ?_, fun j hj => ?_, fun j hj => ?_⟩
  · by_cases h : j < 128
    · exact hv j h
    · have := key 116 (j - 128) (by show j - 128 < 128; omega)
      rw [show hf 116 + (j - 128) = j by show 128 + (j - 128) = j; omega] at this
      rw [this]
      exact h0.1 _ (by omega)
  · by_cases h : j < 4
    · exact hv2 j h
    · have := key 122 (j - 4) (by show j - 4 < 4; omega)
      rw [show hf 122 + (j - 4) = j by show 4 + (j - 4) = j; omega] at this
      rw [this]
      exact h0.2.1 _ (by omega)
  · by_cases h : j < 5
    · exact hv3 j h
    · have := key 124 (j - 5) (by show j - 5 < 5; omega)
      rw [show hf 124 + (j - 5) = j by show 5 + (j - 5) = j; omega] at this
      rw [this]
      exact h0.2.2 _ (by omega)
/-- behind a change: the relation, where the journal brings back what was -/
theorem Rel_chg {S S2 : AmT} {t : Nat} (hR : Rel S t) (hJ : J S2 S.1 640) (hW : mw S2.1 = mv S.1) (hH : S2.1 95 29 = 1) (hC : ∃ nj nf ns ng nb, Cur S2.1 (mv S2.1) nj nf ns ng nb) (hT : Tal S2.1 (t + 1)) : Rel S2 (t + 1) := by
  obtain ⟨⟨nj, nf, ns, ng, nb, hC0⟩, hT0, hb0, h14, h29, hB⟩ := hR
  obtain ⟨nn, a1, a2, a3, a4, a5⟩ := id hJ
  refine ⟨hC, hT, ?_, Or.inr a3, by rw [hH, a3], fun _ => ⟨S.1, hJ, nj, nf, ns, ng, nb, by rw [hW]; exact hC0⟩⟩
  obtain ⟨nj', nf', ns', ng', nb', c1, c2, c3, c4, c5⟩ := hC
  refine bools_of hb0 (fun j hj => ?_) (fun j hj => ?_) (fun j hj => ?_) hW
  · have h1 := c3.2.2.2.2.1 j hj
    rw [← mv_at (I := S2.1) (k := 116) (by exact hj), ← h1.1]
    exact h1.2
  · have h1 := c4.2.2.2.2.2.2.2.1 j hj
    rw [← mv_at (I := S2.1) (k := 122) (by exact hj), ← h1.2.2.1]
    exact h1.2.2.2.2.1
  · have h1 := c5.1 j hj
    rw [← mv_at (I := S2.1) (k := 124) (by exact hj), ← h1.1]
    exact h1.2
