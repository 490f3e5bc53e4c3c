/-! calls: lay, read, wrap -/
theorem fin_f0 {A m : Mem} {t nj nf ns ng nb : Nat} {n x : Int32} (hC : Cur A m nj nf ns ng nb) (hT : Tl A m t) (h29 : m 95 29 = 1) (h1 : -10 - n = x) (h2 : -10 - x = n) : -10 - n = x ∧ (∃ nj nf ns ng nb, Cur (am_upI (am_upI A 5 2 (A 5 2 + 1)) 5 3 (-10 - x)) (am_upI (am_upI m 95 30 (m 95 30 + 1)) 95 31 n) nj nf ns ng nb) ∧ Tl (am_upI (am_upI A 5 2 (A 5 2 + 1)) 5 3 (-10 - x)) (am_upI (am_upI m 95 30 (m 95 30 + 1)) 95 31 n) t ∧ (am_upI (am_upI m 95 30 (m 95 30 + 1)) 95 31 n) 95 29 = 1 := by
  refine ⟨h1, ⟨nj, nf, ns, ng, nb, ?_⟩, ?_, ?_⟩
  · refine Cur_congr (A := A) (fun o ho => ?_) (Cur_congr_m (fun o o1 o2 => ?_) hC)
    · rw [am_upI_ne (by omega), am_upI_ne (by omega)]
    · rw [am_upI_ne (by omega), am_upI_ne (by omega)]
  · rw [h2]
    exact Tl_f0 hT
  · simp only [am_upI_at, am_upI_ne, pk_us, pk_un, ne_eq, Nat.reduceEqDiff, not_false_eq_true]
    exact h29
theorem Cur_cells {A A' m m' : Mem} {nj nf ns ng nb : Nat} (hC : Cur A m nj nf ns ng nb) (h : ∀ o, kc o → o ≠ 58 → A' o = A o) (hm : ∀ o, 96 ≤ o → o ≤ 124 → o ≠ 117 → o ≠ 118 → m' o = m o) (hE : CE A' m') (h58 : ∀ j, 128 * ns ≤ j → A' 58 j = A 58 j) : Cur A' m' nj nf ns ng nb := by
  obtain ⟨c1, c2, c3, c4, c5⟩ := hC
  unfold Cur
  rw [h 9 (by omega) (by omega), h 11 (by omega) (by omega), h 13 (by omega) (by omega), h 15 (by omega) (by omega), h 17 (by omega) (by omega), h 19 (by omega) (by omega), h 21 (by omega) (by omega),
    h 31 (by omega) (by omega), h 33 (by omega) (by omega), h 35 (by omega) (by omega), h 37 (by omega) (by omega), h 39 (by omega) (by omega), h 41 (by omega) (by omega), h 43 (by omega) (by omega), h 45 (by omega) (by omega),
    h 48 (by omega) (by omega), h 50 (by omega) (by omega), h 52 (by omega) (by omega), h 54 (by omega) (by omega), h 56 (by omega) (by omega), h 60 (by omega) (by omega), h 62 (by omega) (by omega), h 64 (by omega) (by omega), h 66 (by omega) (by omega), h 68 (by omega) (by omega),
    h 71 (by omega) (by omega), h 73 (by omega) (by omega), h 75 (by omega) (by omega), h 77 (by omega) (by omega), h 79 (by omega) (by omega), h 81 (by omega) (by omega), h 83 (by omega) (by omega), h 85 (by omega) (by omega),
    h 88 (by omega) (by omega), h 90 (by omega) (by omega), h 92 (by omega) (by omega), h 94 (by omega) (by omega)]
  rw [hm 96 (by omega) (by omega) (by omega) (by omega), hm 97 (by omega) (by omega) (by omega) (by omega), hm 98 (by omega) (by omega) (by omega) (by omega), hm 99 (by omega) (by omega) (by omega) (by omega), hm 100 (by omega) (by omega) (by omega) (by omega), hm 101 (by omega) (by omega) (by omega) (by omega), hm 102 (by omega) (by omega) (by omega) (by omega),
    hm 103 (by omega) (by omega) (by omega) (by omega), hm 104 (by omega) (by omega) (by omega) (by omega), hm 105 (by omega) (by omega) (by omega) (by omega), hm 106 (by omega) (by omega) (by omega) (by omega), hm 107 (by omega) (by omega) (by omega) (by omega), hm 108 (by omega) (by omega) (by omega) (by omega), hm 109 (by omega) (by omega) (by omega) (by omega),
    hm 110 (by omega) (by omega) (by omega) (by omega), hm 111 (by omega) (by omega) (by omega) (by omega), hm 112 (by omega) (by omega) (by omega) (by omega), hm 113 (by omega) (by omega) (by omega) (by omega), hm 114 (by omega) (by omega) (by omega) (by omega), hm 115 (by omega) (by omega) (by omega) (by omega), hm 116 (by omega) (by omega) (by omega) (by omega),
    hm 119 (by omega) (by omega) (by omega) (by omega), hm 120 (by omega) (by omega) (by omega) (by omega), hm 121 (by omega) (by omega) (by omega) (by omega), hm 122 (by omega) (by omega) (by omega) (by omega), hm 123 (by omega) (by omega) (by omega) (by omega), hm 124 (by omega) (by omega) (by omega) (by omega)]
  exact ⟨c1, c2, GS_cell c3 hE h58, c4, c5⟩
theorem Ky_Sg {S0 S S' : AmT} {A : Mem} {k sh : Nat} (h : Ky S0 S A k) (hs : Sg S S' sh) : Ky S0 S' S'.1 k := by
  refine ⟨J_keep h.1 hs.1 (hs.2.1 1 (by omega) (by omega) (by omega) (by omega)) (hs.2.1 3 (by omega) (by omega) (by omega) (by omega)) (hs.2.1 4 (by omega) (by omega) (by omega) (by omega)) (fun o ho => hs.2.1 o (by omega) (by omega) (by omega) (by omega)), fun _ _ _ => rfl, fun o ho => ?_⟩
  rw [hs.2.1 o (by omega) (by omega) (by omega) (by omega)]
  exact h.2.2 o ho
-- faces of a sheet, as a list
def fcs (s : Nat) (L : List Lf) (a n : Nat) : List Ft := (List.range n).map fun k => (s, a + k, L.getD ((a + k) / 2) (0, 0))
theorem fcs_len {s a n : Nat} {L : List Lf} : (fcs s L a n).length = n := by
  unfold fcs
  rw [List.length_map, List.length_range]
theorem fcs_succ {s a n : Nat} {L : List Lf} : fcs s L a (n + 1) = fcs s L a n ++ [(s, a + n, L.getD ((a + n) / 2) (0, 0))] := by
  unfold fcs
  rw [List.range_succ, List.map_append]
  rfl
theorem getD_of {L : List Lf} {k : Nat} {y : Lf} (h : L[k]? = some y) : L.getD k (0, 0) = y := by
  rw [List.getD_eq_getElem?_getD, h]
  rfl
theorem fcs_at {s a n i : Nat} {L : List Lf} {t : Ft} (h : (fcs s L a n)[i]? = some t) : i < n ∧ t = (s, a + i, L.getD ((a + i) / 2) (0, 0)) := by
  have hi : i < n := by
    rcases Nat.lt_or_ge i n with z | z
    · exact z
    · rw [List.getElem?_eq_none (by rw [fcs_len]; exact z)] at h
      exact absurd h (by simp)
  refine ⟨hi, ?_⟩
  unfold fcs at h
  rw [List.getElem?_map, List.getElem?_range hi] at h
  simpa using h.symm
theorem fcs_mem {s a n : Nat} {L : List Lf} {t : Ft} (h : t ∈ fcs s L a n) : ∃ i, i < n ∧ t = (s, a + i, L.getD ((a + i) / 2) (0, 0)) := by
  obtain ⟨i, hi⟩ := List.getElem?_of_mem h
  exact ⟨i, fcs_at hi⟩
-- what the model's lists leave
def FX (m m' : Mem) : Prop := (∀ o, o ≠ 95 → o ≠ 129 → o ≠ 130 → o ≠ 131 → m' o = m o) ∧ ∀ j, j ≠ 47 → m' 95 j = m 95 j
theorem FX_refl (m : Mem) : FX m m := ⟨fun _ _ _ _ _ => rfl, fun _ _ => rfl⟩
theorem FX_trans {m m' m'' : Mem} (h : FX m m') (h' : FX m' m'') : FX m m'' := ⟨fun o a b c d => (h'.1 o a b c d).trans (h.1 o a b c d), fun j a => (h'.2 j a).trans (h.2 j a)⟩
theorem MG_259 {F : Nat} {S1 S : AmT} {m W : Mem} {T : List Ft} {s k : Nat} {y : Lf} {K : AmT → Option (Int32 × AmT)} {Q : Int32 → Mem → Prop} (h : My S1 S m W) (hFA : FA m T) (hT : T.length < 2048) (H : ∀ S' m', My S1 S' m' W → FX m m' → FA m' (T ++ [(s, k, y)]) → MG S1 W (K S') Q) : MG S1 W ((f259 F (nI s) (nI k) (nI (fen y (k % 2))) S).bind K) Q := by
  have e0 : S.1 95 47 = nI T.length := (My_rd h (Or.inl rfl)).trans hFA.1
  have h1 := My_up (k := 129) (i := T.length) (x := nI s) h (Or.inr (Or.inl (by omega)))
  have h2 := My_up (k := 130) (i := T.length) (x := nI k) h1 (Or.inr (Or.inl (by omega)))
  have h3 := My_up (k := 131) (i := T.length) (x := nI (fen y (k % 2))) h2 (Or.inr (Or.inl (by omega)))
  have h4 := My_up (k := 95) (i := 47) (x := nI (T.length + 1)) h3 (Or.inl rfl)
  have e2 : f259 F (nI s) (nI k) (nI (fen y (k % 2))) S = some (am_upI (am_upI (am_upI (am_upI S.1 129 T.length (nI s)) 130 T.length (nI k)) 131 T.length (nI (fen y (k % 2)))) 95 47 (nI (T.length + 1)), S.2) := by
    have c1 : ∀ (I : Mem), (am_upI I 129 T.length (nI s)) 95 47 = I 95 47 := fun I => by rw [am_upI_ne (by decide)]
    have c2 : ∀ (I : Mem), (am_upI I 130 T.length (nI k)) 95 47 = I 95 47 := fun I => by rw [am_upI_ne (by decide)]
    have c3 : ∀ (I : Mem), (am_upI I 131 T.length (nI (fen y (k % 2)))) 95 47 = I 95 47 := fun I => by rw [am_upI_ne (by decide)]
    unfold f259
    rw [e0, ck_at hT (by omega), nI_clamp (by omega)]
    dsimp only [am_lt]
    rw [c1, e0, ck_at hT (by omega), nI_clamp (by omega), c2, c1, e0, ck_at hT (by omega), nI_clamp (by omega), c3, c2, c1, e0, nI_1]
  rw [e2, bind_at]
  refine H _ _ h4 ⟨fun o o1 o2 o3 o4 => by rw [am_upI_ne o1, am_upI_ne o4, am_upI_ne o3, am_upI_ne o2], fun j hj => by rw [am_upI_at, pk_un hj, am_upI_ne (by decide), am_upI_ne (by decide), am_upI_ne (by decide)]⟩ ⟨?_, fun i t ht => ?_⟩
  · rw [am_upI_at, pk_us, List.length_append]
    rfl
  · by_cases c : i < T.length
    · rw [List.getElem?_append_left c] at ht
      have := hFA.2 i t ht
      refine ⟨?_, ?_, ?_⟩
      · rw [am_upI_ne (by decide), am_upI_ne (by decide), am_upI_ne (by decide), am_upI_at, pk_un (by omega)]
        exact this.1
      · rw [am_upI_ne (by decide), am_upI_ne (by decide), am_upI_at, pk_un (by omega), am_upI_ne (by decide)]
        exact this.2.1
      · rw [am_upI_ne (by decide), am_upI_at, pk_un (by omega), am_upI_ne (by decide), am_upI_ne (by decide)]
        exact this.2.2
    · rw [List.getElem?_append_right (by omega)] at ht
      have hi : i = T.length := by
        rcases Nat.lt_or_ge (i - T.length) 1 with z | z
        · omega
        · rw [List.getElem?_eq_none (by simpa using z)] at ht
          exact absurd ht (by simp)
      subst hi
      have ht : (s, k, y) = t := by simpa using ht
      subst ht
      refine ⟨?_, ?_, ?_⟩
      · rw [am_upI_ne (by decide), am_upI_ne (by decide), am_upI_ne (by decide), am_upI_at, pk_us]
      · rw [am_upI_ne (by decide), am_upI_ne (by decide), am_upI_at, pk_us]
      · rw [am_upI_ne (by decide), am_upI_at, pk_us]
theorem lp_260 {F : Nat} {S1 : AmT} {W m0 : Mem} {s : Nat} {L : List Lf} (hL : L.length ≤ 64) : ∀ (r k N : Nat) (S : AmT) (m : Mem), k + r = 2 * L.length → r < N → My S1 S m W → FX m0 m → MP m 0 L → FA m (fcs s L 0 k) → MG S1 W (g260_21 F N (nI s) 0 (nI k) S) (fun v m' => v = 0 ∧ FX m0 m' ∧ FA m' (fcs s L 0 (2 * L.length)))
  | r, k, 0, S, m, h1, h2, h3, h4, h5, h6 => absurd h2 (by omega)
  | 0, k, N + 1, S, m, h1, h2, h3, h4, h5, h6 => by
    have hk : k = 2 * L.length := by omega
    subst hk
    unfold g260_21
    rw [if_pos rfl, My_rd h3 (Or.inr (Or.inl (by omega))), h5.1, show (2 : Int32) * nI L.length = nI (2 * L.length) from nI_mul 2 _, if_pos (Int32.le_refl _)]
    exact MG_ret h3 ⟨rfl, h4, h6⟩
  | r + 1, k, N + 1, S, m, h1, h2, h3, h4, h5, h6 => by
    obtain ⟨y, hy, hyL⟩ := L_at (L := L) (k := k) (by omega)
    unfold g260_21
    rw [if_pos rfl, My_rd h3 (Or.inr (Or.inl (by omega))), h5.1, show (2 : Int32) * nI L.length = nI (2 * L.length) from nI_mul 2 _, if_neg (nI_ge (by omega) (by omega)), f241_eq h5 (fun j => My_rd h3 (Or.inr (Or.inl (by omega)))) (by omega) hL hy, b2_at]
    refine MG_259 h3 h6 (by rw [fcs_len]; omega) fun S' m' h' hx hFA => ?_
    rw [nI_1]
    refine lp_260 hL r (k + 1) N S' m' (by omega) (by omega) h' (FX_trans h4 hx) ?_ ?_
    · unfold MP
      rw [hx.1 127 (by decide) (by decide) (by decide) (by decide), hx.1 128 (by decide) (by decide) (by decide) (by decide)]
      exact h5
    · rw [fcs_succ, Nat.zero_add, getD_of hy]
      exact hFA
theorem fcs_ok {A : Mem} {s ns R C : Nat} {L : List Lf} (hs : s < ns) (hR : R ≤ 8) (hC : C ≤ 8) (e52 : A 52 s = nI R) (e54 : A 54 s = nI C) (hP : ∀ y, y ∈ L → y.1 / 8 < R ∧ y.1 % 8 < C) (hL : CLm A s L) {a n : Nat} (han : a + n ≤ 2 * L.length) : ∀ t, t ∈ fcs s L a n → okt A ns t := by
  intro t ht
  obtain ⟨i, hi, rfl⟩ := fcs_mem ht
  obtain ⟨y, hy, hyL⟩ := L_at (L := L) (k := a + i) (by omega)
  rw [getD_of hy]
  exact ⟨hs, ⟨R, C, hR, hC, e52, e54, hP y hyL⟩, L, hL, (by show a + i < _; omega), hy⟩
def FWx (m m' : Mem) : Prop := (∀ o, 96 ≤ o → o ≤ 124 → m' o = m o) ∧ (∀ j, 29 ≤ j → j ≤ 35 → m' 95 j = m 95 j) ∧ m' 95 36 = m 95 36 ∧ m' 125 = m 125
/-- a sheet is folded and its faces are listed, in both -/
theorem fl {F : Nat} (hF : 6000 ≤ F) {A m0 : Mem} {nj nf ns ng nb f s tc : Nat} {S : AmT} (hC : Cur A m0 nj nf ns ng nb) (hf : f < nf) (hs : s < ns) (hA : ∀ o, 33 ≤ o → o ≤ 54 → S.1 o = A o) (h51 : S.1 5 1 = nI tc) (htc : tc + 32 ≤ 1900000) :
    ∃ v S' tc' L, f29 F (nI f) (kg S.1 52 8 (nI s)) (kg S.1 54 8 (nI s)) (nI s) S = some (v, S') ∧ Sg S S' s ∧ S'.1 5 1 = nI tc' ∧ tc' ≤ tc + 32 ∧
      ((∃ e, (e = 7 ∨ e = 8) ∧ v = -10 - nI e ∧ ∀ (S1 : AmT) (W : Mem) (Sm : AmT) (m : Mem), My S1 Sm m W → (∀ o, 96 ≤ o → o ≤ 124 → m o = m0 o) → TR S m tc → MG S1 W (f260 F (nI s) (nI f) Sm) (fun v' m2 => (∀ o, 96 ≤ o → o ≤ 124 → m2 o = m0 o) ∧ (∀ j, 29 ≤ j → j ≤ 35 → m2 95 j = m 95 j) ∧ TR S' m2 tc' ∧ v' = nI e)) ∨
       (v = nI (2 * L.length) ∧ L.length ≤ 64 ∧ (∀ t, t ∈ fcs s L 0 (2 * L.length) → okt S'.1 ns t) ∧ ∀ (S1 : AmT) (W : Mem) (Sm : AmT) (m : Mem), My S1 Sm m W → (∀ o, 96 ≤ o → o ≤ 124 → m o = m0 o) → m 95 47 = 0 → TR S m tc → MG S1 W (f260 F (nI s) (nI f) Sm) (fun v' m2 => (∀ o, 96 ≤ o → o ≤ 124 → m2 o = m0 o) ∧ (∀ j, 29 ≤ j → j ≤ 35 → m2 95 j = m 95 j) ∧ TR S' m2 tc' ∧ v' = 0 ∧ FA m2 (fcs s L 0 (2 * L.length))))) := by
  have hns := hC.2.2.1.1
  obtain ⟨-, ⟨a1, a2, a3, -⟩, -, ⟨R, hR, e52⟩, ⟨C, hCC, e54⟩, -⟩ := Cur_sheet hC hs
  obtain ⟨v, S', tc', L, e1, e2, e3, e4, e5⟩ := fg hF hC hf (sh := s) (S := S) (by omega) hR hCC (fun o o1 o2 => hA o o1 (by omega)) h51 htc
  have s52 : S'.1 52 s = nI R := by rw [e2.2.1 52 (by omega) (by omega) (by omega) (by omega), hA 52 (by omega) (by omega), e52]
  have s54 : S'.1 54 s = nI C := by rw [e2.2.1 54 (by omega) (by omega) (by omega) (by omega), hA 54 (by omega) (by omega), e54]
  have hmo : ∀ {S1 : AmT} {W : Mem} {Sm : AmT} {m : Mem}, My S1 Sm m W → (∀ o, 96 ≤ o → o ≤ 124 → m o = m0 o) → f260 F (nI s) (nI f) Sm = am_b2 (f240 F (nI f) (nI R) (nI C) Sm) fun v1 S2 => g260_21 F F (nI s) v1 0 S2 := by
    intro S1 W Sm m hy hm
    have e109 : Sm.1 109 s = nI R := by rw [My_rd hy (mi_h (show s < 8 by omega)), hm 109 (by omega) (by omega), ← a2, e52]
    have e110 : Sm.1 110 s = nI C := by rw [My_rd hy (mi_h (show s < 8 by omega)), hm 110 (by omega) (by omega), ← a3, e54]
    unfold f260
    rw [ck_at (by omega) (by omega), ck_at (by omega) (by omega), nI_clamp (by omega), e109, e110]
  refine ⟨v, S', tc', L, ?_, e2, e3, e4, ?_⟩
  · rw [kg_at (by omega) (by omega), kg_at (by omega) (by omega), hA 52 (by omega) (by omega), hA 54 (by omega) (by omega), e52, e54, e1]
  · rcases e5 with ⟨e, he, rfl, e6⟩ | ⟨rfl, hlen, hP, hab, hCL, e6⟩
    · refine Or.inl ⟨e, he, rfl, fun S1 W Sm m hy hm htr => ?_⟩
      rw [hmo hy hm]
      refine MG_b2 (e6 S1 W Sm m hy hm htr) fun v' S2 m2 h2 hq => ?_
      obtain ⟨w1, w2, rfl⟩ := hq
      obtain ⟨N, hN⟩ : ∃ N, F = N + 1 := ⟨F - 1, by omega⟩
      have key : g260_21 F F (nI s) (nI e) 0 S2 = some (nI e, S2) := by
        have : ∀ N, 0 < N → g260_21 F N (nI s) (nI e) 0 S2 = some (nI e, S2) := fun N hN => by
          cases N with
          | zero => omega
          | succ N =>
            unfold g260_21
            rw [if_neg (nI_ne0 (by omega) (by omega))]
        exact this F (by omega)
      rw [key]
      exact MG_ret h2 ⟨fun o o1 o2 => by rw [w1.1 o (by omega) (by omega) (by omega) (by omega) (by omega), hm o o1 o2], fun j j1 j2 => w1.2 j (by omega) (by omega) (by omega) (by omega), w2, rfl⟩
    · refine Or.inr ⟨rfl, hCL.1, fcs_ok hs hR hCC s52 s54 hP (CLm_of hCL) (by omega), fun S1 W Sm m hy hm h47 htr => ?_⟩
      rw [hmo hy hm]
      refine MG_b2 (e6 S1 W Sm m hy hm htr) fun v' S2 m2 h2 hq => ?_
      obtain ⟨w1, w2, rfl, w3⟩ := hq
      have hFA : FA m2 (fcs s L 0 0) := ⟨(w1.2 47 (by omega) (by omega) (by omega) (by omega)).trans h47, fun i t ht => absurd ht (by simp [fcs])⟩
      obtain ⟨v', S3, m3, x1, x2, rfl, x3, x4⟩ := lp_260 hCL.1 (2 * L.length) 0 F S2 m2 (by omega) (by have := hCL.1; omega) h2 (FX_refl m2) w3 hFA
      refine ⟨0, S3, m3, x1, x2, fun o o1 o2 => ?_, fun j j1 j2 => ?_, ?_, rfl, x4⟩
      · rw [x3.1 o (by omega) (by omega) (by omega) (by omega), w1.1 o (by omega) (by omega) (by omega) (by omega) (by omega), hm o o1 o2]
      · rw [x3.2 j (by omega), w1.2 j (by omega) (by omega) (by omega) (by omega)]
      · exact TR_m w2 (x3.2 36 (by omega)) (x3.1 125 (by omega) (by omega) (by omega) (by omega))
theorem st_lay {F : Nat} (hF : 6000 ≤ F) (x1 x2 x3 : Int32) : FpStep (f168 F x1 x2 x3) (f264 F x1 x2 x3) := by
  refine Fp_of fun S t ht hR => ?_
  obtain ⟨nj, nf, ns, ng, nb, hC⟩ := Rel_z hR
  have hns := hC.2.2.1.1
  unfold f168 f264
  refine RG_jam hR ?_
  refine RG_g1 (Gd_sheet hC) hR ?_
  rintro ⟨s, hs, rfl⟩
  refine RG_g1 (Gd_fold hC) hR ?_
  rintro ⟨f, hf, rfl⟩
  refine RG_g1 (Gd_in 1 24 rfl rfl (by omega)) hR ?_
  rintro ⟨x, hx1, hx2, rfl⟩
  refine RG_chg hF hR hC fun m0 hm hT h29 hz S' hK => ?_
  have eK : ∀ o, 5 ≤ o → o ≤ 94 → S'.1 o = S.1 o := hK.2.1
  have hT' : Tl S'.1 m0 t := Tl_congr hT (eK 5 (by omega) (by omega)) (eK 6 (by omega) (by omega)) (fun _ _ _ => rfl) rfl
  obtain ⟨tc, htc, htr⟩ := Tl_tc hT'
  obtain ⟨v, S'', tc', L, e1, e2, e3, e4, e5⟩ := fl hF hm hf hs (S := S') (fun o o1 o2 => eK o (by omega) (by omega)) htr.1 (by omega)
  have hK2 := Ky_Sg hK e2
  have hT2 : ∀ m2, (∀ j, 29 ≤ j → j ≤ 35 → m2 95 j = m0 95 j) → TR S'' m2 tc' → Tl S''.1 m2 (t + 1) := fun m2 q1 q2 => Tl_tr hT' e2.2.2.1 (fun j j1 j2 => q1 j (by omega) (by omega)) q2 (by omega)
  have hkc : ∀ o, kc o → S''.1 o = S.1 o := fun o ho => by rw [e2.2.1 o (by omega) (by omega) (by omega) (by omega), eK o (by omega) (by omega)]
  have hCur : ∀ m2, (∀ o, 96 ≤ o → o ≤ 124 → m2 o = m0 o) → Cur S''.1 m2 nj nf ns ng nb := fun m2 q => Cur_congr hkc (Cur_congr_m q hm)
  unfold f110
  rw [e1, b2_at]
  rcases e5 with ⟨e, he, rfl, e6⟩ | ⟨rfl, hl, hok, e6⟩
  · have hneg : g110_30 F F (nI s) (nI x) (-10 - nI e) 0 S'' = some (-10 - nI e, S'') := by
      have : ∀ N, 0 < N → g110_30 F N (nI s) (nI x) (-10 - nI e) 0 S'' = some (-10 - nI e, S'') := fun N hN => by
        cases N with
        | zero => omega
        | succ N =>
          unfold g110_30
          rw [if_pos (by rcases he with rfl | rfl <;> decide)]
      exact this F (by omega)
    have hx : ¬ (-11 : Int32) < -10 - nI e ∧ -10 - (-10 - nI e) = nI e ∧ ¬ nI e ≤ 0 := by rcases he with rfl | rfl <;> decide
    rw [hneg, b2_at]
    refine KG_f hK2 (by omega) hx.1 fun S3 h3 S4 hM => ?_
    refine MG_up hM (Or.inl rfl) fun S5 h5 => ?_
    refine MG_b2 (e6 _ _ S5 _ h5 (fun o o1 o2 => am_upI_ne (by omega)) (TR_m htr (by simp only [am_upI_at, am_upI_ne, pk_us, pk_un, ne_eq, Nat.reduceEqDiff, not_false_eq_true]) (by simp only [am_upI_at, am_upI_ne, pk_us, pk_un, ne_eq, Nat.reduceEqDiff, not_false_eq_true]))) fun v' S6 m6 h6 hq => ?_
    obtain ⟨q1, q2, q3, rfl⟩ := hq
    rw [if_neg hx.2.2]
    have q2' : ∀ j, 29 ≤ j → j ≤ 35 → m6 95 j = m0 95 j := fun j j1 j2 => by rw [q2 j j1 j2, am_upI_at, pk_un (by omega)]
    exact MG_f h6 (fin_f0 (hCur m6 q1) (hT2 m6 q2' q3) ((q2' 29 (by omega) (by omega)).trans h29) rfl hx.2.1)
  · obtain ⟨v, S3, A3, z1, z2, z3, z4, z5, z6⟩ := lay_lp hF (hCur m0 (fun _ _ _ => rfl)) ⟨hx1, hx2⟩ (by rw [fcs_len]; omega) hok (fun N i S => g110_30 F N (nI s) (nI x) (nI (2 * L.length)) (nI i) S)
      (fun N S A k _ _ => by
        rw [fcs_len]
        unfold g110_30
        rw [if_pos (Int32.le_refl _)])
      (fun N i S A k t _ _ ht => by
        obtain ⟨hi, rfl⟩ := fcs_at ht
        rw [g110_30]
        rw [if_neg (nI_ge hi (by omega)), nI_add, Nat.zero_add, nI_1])
      (2 * L.length) 0 F S'' S''.1 0 (by rw [fcs_len]; omega) (by omega) hK2 (fun _ _ => rfl) (by omega)
    have z1' : g110_30 F F (nI s) (nI x) (nI (2 * L.length)) 0 S'' = some (v, S3) := z1
    rw [z1', b2_at]
    have h56 : ∀ o, o ≠ 58 → A3 o = S''.1 o := z3
    have hmod : ∀ (S4 S5 : AmT) (Q : Int32 → Mem → Prop), My S4 S5 m0 (mv S.1) → (∀ v' m', (∃ m1, Cur A3 m1 nj nf ns ng nb ∧ Tl A3 m1 (t + 1) ∧ m1 95 29 = 1 ∧ ((v = nI (2 * L.length) ∧ v' = nI (2 * L.length) ∧ m' = m1) ∨ (v = -11 ∧ v' = -11 ∧ m' = am_upI (am_upI m1 95 30 (m1 95 30 + 1)) 95 31 1))) → Q v' m') → MG S4 (mv S.1) (am_lt ((am_upI S5.1 95 47 0, S5.2) : AmT) fun S14 => am_b2 (f260 F (nI s) (nI f) S14) fun v15 S16 => if v15 ≤ 0 then (am_b2 (f262 F (nI x) S16) fun v18 S19 => some (v18, S19)) else (am_b2 (f203 F v15 S16) fun v20 S21 => some (v20, S21))) Q := by
      intro S4 S5 Q hM H
      refine MG_up hM (Or.inl rfl) fun S6 h6 => ?_
      refine MG_b2 (e6 _ _ S6 _ h6 (fun o o1 o2 => am_upI_ne (by omega)) (by simp only [am_upI_at, am_upI_ne, pk_us, pk_un, ne_eq, Nat.reduceEqDiff, not_false_eq_true]) (TR_m htr (by simp only [am_upI_at, am_upI_ne, pk_us, pk_un, ne_eq, Nat.reduceEqDiff, not_false_eq_true]) (by simp only [am_upI_at, am_upI_ne, pk_us, pk_un, ne_eq, Nat.reduceEqDiff, not_false_eq_true]))) fun v' S7 m7 h7 hq => ?_
      obtain ⟨q1, q2, q3, rfl, q4⟩ := hq
      rw [if_pos (Int32.le_refl _), b2_id]
      unfold f262
      have q2' : ∀ j, 29 ≤ j → j ≤ 35 → m7 95 j = m0 95 j := fun j j1 j2 => by rw [q2 j j1 j2, am_upI_at, pk_un (by omega)]
      have hCE : CE S''.1 m7 := Cur_cell (hCur m7 q1)
      obtain ⟨v', S8, m8, w1, w2, m9, w3, w4, w5⟩ := z6 S4 (mv S.1) S7 m7 F h7 (fun o o1 o2 o3 o4 => q1 o o1 o2) q4 hCE (by omega)
      rw [fcs_len] at w5
      refine ⟨v', S8, m8, w1, w2, H v' m8 ⟨m9, ?_, ?_, ?_, w5⟩⟩
      · exact Cur_cells (hCur m7 q1) (fun o ho h58 => h56 o h58) (fun o o1 o2 o3 o4 => w3 o o3 o4) w4 z4
      · exact Tl_congr (hT2 m7 q2' q3) (h56 5 (by omega)) (h56 6 (by omega)) (fun j j1 j2 => by rw [w3 95 (by omega) (by omega)]) (w3 125 (by omega) (by omega))
      · rw [w3 95 (by omega) (by omega), q2' 29 (by omega) (by omega)]
        exact h29
    rw [fcs_len] at z5
    rcases z5 with hv | hv
    · subst hv
      refine KG_a z2 (by omega) (nI_gt (by omega)) fun S4 hM => ?_
      refine hmod _ S4 _ hM fun v' m' hq => ?_
      obtain ⟨m1, c1, c2, c3, c4⟩ := hq
      rcases c4 with ⟨-, rfl, rfl⟩ | ⟨c, -⟩
      · exact ⟨rfl, ⟨nj, nf, ns, ng, nb, c1⟩, c2, c3⟩
      · exact absurd c (fun z => absurd (z ▸ nI_gt (n := 2 * L.length) (by omega) : (-11 : Int32) < -11) (by decide))
    · subst hv
      refine KG_f z2 (by omega) (by decide) fun S4 h4 S5 hM => ?_
      refine hmod _ S5 _ hM fun v' m' hq => ?_
      obtain ⟨m1, c1, c2, c3, c4⟩ := hq
      rcases c4 with ⟨c, -⟩ | ⟨-, rfl, rfl⟩
      · exact absurd c.symm (fun z => absurd (z ▸ nI_gt (n := 2 * L.length) (by omega) : (-11 : Int32) < -11) (by decide))
      · exact fin_f0 (n := 1) c1 c2 c3 (by decide) (by decide)
