/-! folding: from the grid to the leaves, in both -/
theorem nI_ne1 {a : Nat} (h : a ≠ 1) (ha : a < 2147483648) : ¬ nI a = (1 : Int32) := fun z => h ((nI_eq (b := 1) ha (by omega)).mp z)
theorem lp_70 {F : Nat} : ∀ (N i : Nat) (S : AmT), i ≤ 64 → 64 < N + i → (∀ j, j < i → S.1 27 j = nI j ∧ S.1 28 j = -1 ∧ S.1 29 j = 0) → ∃ S', g70_30 F N (nI i) S = some S' ∧ F3 S S' ∧ ∀ j, j < 64 → S'.1 27 j = nI j ∧ S'.1 28 j = -1 ∧ S'.1 29 j = 0
  | 0, i, S, h1, h2, h => absurd h2 (by omega)
  | N + 1, i, S, h1, h2, h => by
    unfold g70_30
    by_cases q : i = 64
    · subst q
      rw [if_pos (show (64 : Int32) ≤ nI 64 from Int32.le_refl _)]
      exact ⟨S, rfl, F3_refl S, h⟩
    · rw [if_neg (show ¬ (64 : Int32) ≤ nI i from nI_ge (b := 64) (by omega) (by omega)), ck_at (by omega) (by omega), nI_clamp (by omega), nI_1]
      dsimp only [am_lt]
      rw [ck_at (by omega) (by omega), ck_at (by omega) (by omega)]
      obtain ⟨S', e1, e2, e3⟩ := lp_70 N (i + 1) (am_upI (am_upI (am_upI S.1 27 i (nI i)) 28 i (-1)) 29 i 0, S.2) (by omega) (by omega) (fun j hj => by
        by_cases c : j = i
        · subst c
          simp only [am_upI_at, am_upI_ne, pk_us, pk_un, ne_eq, Nat.reduceEqDiff, not_false_eq_true]
          exact ⟨trivial, trivial, trivial⟩
        · have := h j (by omega)
          refine ⟨?_, ?_, ?_⟩
          · show am_upI (am_upI (am_upI S.1 27 i (nI i)) 28 i (-1)) 29 i 0 27 j = _
            rw [am_upI_ne (by decide), am_upI_ne (by decide), am_upI_at, pk_un c]
            exact this.1
          · show am_upI (am_upI (am_upI S.1 27 i (nI i)) 28 i (-1)) 29 i 0 28 j = _
            rw [am_upI_ne (by decide), am_upI_at, pk_un c, am_upI_ne (by decide)]
            exact this.2.1
          · show am_upI (am_upI (am_upI S.1 27 i (nI i)) 28 i (-1)) 29 i 0 29 j = _
            rw [am_upI_at, pk_un c, am_upI_ne (by decide), am_upI_ne (by decide)]
            exact this.2.2)
      refine ⟨S', e1, ?_, e3⟩
      have f0 : F3 S (am_upI (am_upI (am_upI S.1 27 i (nI i)) 28 i (-1)) 29 i 0, S.2) := ⟨rfl, fun o a b c => by
        show am_upI (am_upI (am_upI S.1 27 i (nI i)) 28 i (-1)) 29 i 0 o = _
        rw [am_upI_ne c, am_upI_ne b, am_upI_ne a]⟩
      exact F3_trans f0 e2
def gr0 : Nat → Nat → List Lf := fun r c => [(8 * (0 + r) + (0 + c), 0)]
/-- spread() -/
theorem f70_ok {F : Nat} (hF : 6000 ≤ F) {S : AmT} {R C : Nat} (hR : R ≤ 8) (hC : C ≤ 8) : ∃ S', f70 F (nI R) (nI C) S = some S' ∧ S'.2 = S.2 ∧ (∀ o, (o < 25 ∨ 29 < o) → S'.1 o = S.1 o) ∧ CS (R, C) S' 0 0 R C gr0 := by
  obtain ⟨S', e1, e2, e3⟩ := lp_70 (F := F) F 0 (am_upI (am_upI (am_upI (am_upI S.1 25 0 0) 25 1 0) 26 0 (nI R)) 26 1 (nI C), S.2) (by omega) (by omega) (fun j hj => absurd hj (by omega))
  refine ⟨S', ?_, e2.1, fun o ho => ?_, ?_⟩
  · unfold f70
    rw [← e1]
    rfl
  · rw [e2.2 o (by omega) (by omega) (by omega)]
    show am_upI (am_upI (am_upI (am_upI S.1 25 0 0) 25 1 0) 26 0 (nI R)) 26 1 (nI C) o = _
    rw [am_upI_ne (by omega), am_upI_ne (by omega), am_upI_ne (by omega), am_upI_ne (by omega)]
  · unfold CS
    rw [e2.2 25 (by decide) (by decide) (by decide), e2.2 26 (by decide) (by decide) (by decide)]
    refine ⟨by simp only [am_upI_at, am_upI_ne, pk_us, pk_un, ne_eq, Nat.reduceEqDiff, not_false_eq_true]; rfl, by simp only [am_upI_at, am_upI_ne, pk_us, pk_un, ne_eq, Nat.reduceEqDiff, not_false_eq_true]; rfl, by simp only [am_upI_at, am_upI_ne, pk_us, pk_un, ne_eq, Nat.reduceEqDiff, not_false_eq_true], by simp only [am_upI_at, am_upI_ne, pk_us, pk_un, ne_eq, Nat.reduceEqDiff, not_false_eq_true], by omega, by omega, ⟨1, fun _ _ _ _ => rfl, Nat.one_mul _, fun r c hr hc y hy => ?_⟩, fun i => i < 64, fun i => [(i, 0)], fun i => i, fun i hi => ⟨hi, ⟨?_, hi, (show (0 : Nat) < 4 by omega), ?_, ?_⟩, fun y hy => ?_, ?_⟩, fun l t hl ht _ => ⟨?_, rfl⟩⟩
    · unfold gr0 at hy
      rw [List.mem_singleton] at hy
      rw [hy]
      show (8 * (0 + r) + (0 + c)) / 8 < R ∧ (8 * (0 + r) + (0 + c)) % 8 < C
      omega
    · exact (e3 i hi).1
    · exact (e3 i hi).2.2
    · exact (e3 i hi).2.1
    · rw [List.mem_singleton] at hy
      rw [hy]
    · simp
    · show 8 * (0 + l) + (0 + t) < 64
      omega
def MB (m : Mem) (R C r c : Nat) : Prop := ∀ r' c', r' < R → c' < C → (r' < r ∨ (r' = r ∧ c' < c)) → m 127 (8 * r' + c') = 1 ∧ m 128 (64 * (8 * r' + c')) = nI (8 * r' + c')
theorem lp_234b {F : Nat} {S1 : AmT} {m0 W : Mem} {R C r : Nat} {k12 : Int32 → Int32 → Int32 → AmT → Option AmT} {Q : Mem → Prop} (hR : R ≤ 8) (hC : C ≤ 8) (hr : r < R) (H : ∀ S' m', My S1 S' m' W → (∀ o, o ≠ 127 → o ≠ 128 → m' o = m0 o) → MB m' R C (r + 1) 0 → MO S1 W (k12 (nI R) (nI C) (nI (r + 1)) S') Q) :
    ∀ (N c : Nat) (S : AmT) (m : Mem), c ≤ C → C < N + c → My S1 S m W → (∀ o, o ≠ 127 → o ≠ 128 → m o = m0 o) → MB m R C r c → MO S1 W (g234_20 F k12 N (nI R) (nI C) (nI r) (nI c) S) Q
  | 0, c, S, m, h1, h2, h, hm, hB => absurd h2 (by omega)
  | N + 1, c, S, m, h1, h2, h, hm, hB => by
    unfold g234_20
    by_cases q : c = C
    · subst q
      rw [if_pos (nI_le (Nat.le_refl _) (by omega)), nI_1]
      exact H S m h hm (fun r' c' a1 a2 a3 => hB r' c' a1 a2 (by omega))
    · have e1 : (8 : Int32) * nI r + nI c = nI (8 * r + c) := by rw [show (8 : Int32) * nI r = nI (8 * r) from nI_mul 8 r, nI_add]
      have e2 : (64 : Int32) * nI (8 * r + c) = nI (64 * (8 * r + c)) := nI_mul 64 _
      rw [if_neg (nI_ge (by omega) (by omega)), e1, e2, ck_at (by omega) (by omega), nI_clamp (by omega)]
      refine MO_up h (Or.inr (Or.inl (by omega))) fun S2 h2 => ?_
      rw [ck_at (by omega) (by omega), nI_clamp (by omega)]
      refine MO_up h2 (Or.inr (Or.inl (by omega))) fun S3 h3 => ?_
      rw [nI_1]
      refine lp_234b hR hC hr H N (c + 1) S3 _ (by omega) (by omega) h3 (fun o o1 o2 => by rw [am_upI_ne o2, am_upI_ne o1, hm o o1 o2]) fun r' c' a1 a2 a3 => ?_
      by_cases z : r' = r ∧ c' = c
      · obtain ⟨rfl, rfl⟩ := z
        refine ⟨?_, ?_⟩
        · rw [am_upI_ne (by decide), am_upI_at, pk_us]
        · rw [am_upI_at, pk_us]
      · obtain ⟨b1, b2⟩ := hB r' c' a1 a2 (by omega)
        refine ⟨?_, ?_⟩
        · rw [am_upI_ne (by decide), am_upI_at, pk_un (by omega)]
          exact b1
        · rw [am_upI_at, pk_un (by omega), am_upI_ne (by decide)]
          exact b2
theorem lp_234 {F : Nat} (hF : 6000 ≤ F) {S1 : AmT} {m0 W : Mem} {R C : Nat} {Q : Mem → Prop} (hR : R ≤ 8) (hC : C ≤ 8) (H : ∀ m', (∀ o, o ≠ 127 → o ≠ 128 → m' o = m0 o) → MB m' R C R 0 → Q m') :
    ∀ (N r : Nat) (S : AmT) (m : Mem), r ≤ R → R < N + r → My S1 S m W → (∀ o, o ≠ 127 → o ≠ 128 → m o = m0 o) → MB m R C r 0 → MO S1 W (g234_12 F N (nI R) (nI C) (nI r) S) Q
  | 0, r, S, m, h1, h2, h, hm, hB => absurd h2 (by omega)
  | N + 1, r, S, m, h1, h2, h, hm, hB => by
    unfold g234_12
    by_cases q : r = R
    · subst q
      rw [if_pos (nI_le (Nat.le_refl _) (by omega))]
      exact ⟨S, m, rfl, h, H m hm hB⟩
    · rw [if_neg (nI_ge (by omega) (by omega))]
      exact lp_234b hR hC (show r < R by omega) (fun S' m' h' hm' hB' => lp_234 hF hR hC H N (r + 1) S' m' (by omega) (by omega) h' hm' hB') F 0 S m (by omega) (by omega) h hm hB
/-- beginGrid() -/
theorem MO_234 {F : Nat} (hF : 6000 ≤ F) {S1 S : AmT} {m W : Mem} {R C : Nat} (hR : R ≤ 8) (hC : C ≤ 8) (h : My S1 S m W) : MO S1 W (f234 F (nI R) (nI C) S) (fun m' => (∀ o, o ≠ 95 → o ≠ 127 → o ≠ 128 → m' o = m o) ∧ (∀ j, j ≠ 40 → j ≠ 41 → m' 95 j = m 95 j) ∧ MR m' R C gr0) := by
  unfold f234
  refine MO_up h (Or.inl rfl) fun S2 h2 => ?_
  refine MO_up h2 (Or.inl rfl) fun S3 h3 => ?_
  refine lp_234 hF hR hC (fun m' a1 a2 => ⟨fun o o1 o2 o3 => ?_, fun j j1 j2 => ?_, ?_, ?_, fun l t hl ht => ?_⟩) F 0 S3 _ (by omega) (by omega) h3 (fun _ _ _ => rfl) (fun r' c' _ _ z => absurd z (by omega))
  · rw [a1 o o2 o3, am_upI_ne o1, am_upI_ne o1]
  · rw [a1 95 (by decide) (by decide), am_upI_at, pk_un j2, am_upI_at, pk_un j1]
  · rw [a1 95 (by decide) (by decide)]
    simp only [am_upI_at, am_upI_ne, pk_us, pk_un, ne_eq, Nat.reduceEqDiff, not_false_eq_true]
  · rw [a1 95 (by decide) (by decide)]
    simp only [am_upI_at, am_upI_ne, pk_us, pk_un, ne_eq, Nat.reduceEqDiff, not_false_eq_true]
  · obtain ⟨b1, b2⟩ := a2 l t hl ht (by omega)
    unfold gr0 pcl
    rw [if_neg (by decide), Nat.zero_add, Nat.zero_add]
    refine ⟨b1, fun d y hy => ?_⟩
    cases d with
    | zero =>
      have hy : (8 * l + t, 0) = y := by simpa using hy
      rw [← hy, show enc (8 * l + t, 0) = nI (8 * l + t) from by unfold enc; simp]
      exact b2
    | succ d => exact absurd hy (by simp)
theorem lp_79 {F sh : Nat} (hsh : sh < 8) : ∀ (L : List Lf) (N i : Nat) (x : Int32) (S : AmT), chn (S.1 28) (S.1 29) x L → i + L.length ≤ 64 → L.length < N → ∃ S', g79_15 F N (nI (64 * sh)) x (nI i) S = some (nI (i + L.length), S') ∧ S'.2 = S.2 ∧ (∀ o, o ≠ 23 → S'.1 o = S.1 o) ∧ (∀ q, (q < 64 * sh + i ∨ 64 * sh + 64 ≤ q) → S'.1 23 q = S.1 23 q) ∧ ∀ d y, L[d]? = some y → S'.1 23 (64 * sh + i + d) = nI (4 * y.1 + y.2)
  | L, 0, i, x, S, h, h1, h2 => absurd h2 (by omega)
  | [], N + 1, i, x, S, h, h1, h2 => by
    unfold g79_15
    rw [show x = -1 from h, f298_no, b2_at, if_pos rfl]
    exact ⟨S, rfl, rfl, fun _ _ => rfl, fun _ _ => rfl, fun d y hy => absurd hy (by simp)⟩
  | y :: r, N + 1, i, x, S, h, h1, h2 => by
    obtain ⟨a1, a2, a3, a4, a5⟩ := h
    rw [List.length_cons] at h1 h2
    unfold g79_15
    subst a1
    have e1 : nI y.1 * 4 + nI y.2 = nI (4 * y.1 + y.2) := by
      rw [show nI y.1 * 4 = nI (y.1 * 4) from nI_mul _ 4, nI_add, Nat.mul_comm]
    rw [f298_yes a2, b2_at, if_neg (by decide), if_neg (show ¬ (64 : Int32) ≤ nI i from nI_ge (b := 64) (by omega) (by omega)), if_neg (nI_pos (by omega)), nI_add, if_neg (show ¬ (512 : Int32) ≤ nI (64 * sh + i) from nI_ge (b := 512) (by omega) (by omega)), ck_at a2 (by omega), ck_at (by omega) (by omega), nI_clamp (by omega), nI_clamp (by omega), a4, e1]
    dsimp only [am_lt]
    rw [ck_at a2 (by omega), nI_1]
    obtain ⟨S', b1, b2, b3, b4, b5⟩ := lp_79 hsh r N (i + 1) (am_upI S.1 23 (64 * sh + i) (nI (4 * y.1 + y.2)) 28 y.1) (am_upI S.1 23 (64 * sh + i) (nI (4 * y.1 + y.2)), S.2) (by
      show chn (am_upI S.1 23 (64 * sh + i) (nI (4 * y.1 + y.2)) 28) (am_upI S.1 23 (64 * sh + i) (nI (4 * y.1 + y.2)) 29) (am_upI S.1 23 (64 * sh + i) (nI (4 * y.1 + y.2)) 28 y.1) r
      rw [am_upI_ne (by decide), am_upI_ne (by decide)]
      exact a5) (by omega) (by omega)
    have b3' : ∀ o, o ≠ 23 → S'.1 o = S.1 o := fun o ho => by rw [b3 o ho]; exact am_upI_ne ho
    refine ⟨S', ?_, b2, b3', fun q hq => ?_, fun d z hz => ?_⟩
    · rw [b1, List.length_cons, show i + 1 + r.length = i + (r.length + 1) by omega]
    · rw [b4 q (by omega)]
      show am_upI S.1 23 (64 * sh + i) (nI (4 * y.1 + y.2)) 23 q = _
      rw [am_upI_at, pk_un (by omega)]
    · cases d with
      | zero =>
        have hz : y = z := by simpa using hz
        subst hz
        rw [b4 _ (by omega)]
        show am_upI S.1 23 (64 * sh + i) (nI (4 * y.1 + y.2)) 23 (64 * sh + i + 0) = _
        rw [am_upI_at, Nat.add_zero, pk_us]
      | succ d =>
        rw [show 64 * sh + i + (d + 1) = 64 * sh + (i + 1) + d by omega]
        exact b5 d z (by simpa using hz)
def Sg (S S' : AmT) (sh : Nat) : Prop := S'.2 = S.2 ∧ (∀ o, o ≠ 5 → o ≠ 6 → o ≠ 23 → (o < 25 ∨ 29 < o) → S'.1 o = S.1 o) ∧ (∀ j, j ≠ 1 → S'.1 5 j = S.1 5 j) ∧ ∀ q, (q < 64 * sh ∨ 64 * sh + 64 ≤ q) → S'.1 23 q = S.1 23 q
def CL (S : AmT) (sh : Nat) (L : List Lf) : Prop := L.length ≤ 64 ∧ (∀ y, y ∈ L → y.1 < 64 ∧ y.2 < 4) ∧ ∀ d y, L[d]? = some y → S.1 23 (64 * sh + d) = nI (4 * y.1 + y.2)
/-- what the model's fold of a grid says -/
def fgM (F f R C : Nat) (m0 : Mem) (S S' : AmT) (tc tc' : Nat) (P : Int32 → Mem → Prop) : Prop := ∀ (S1 : AmT) (W : Mem) (Sm : AmT) (m : Mem), My S1 Sm m W → (∀ o, 96 ≤ o → o ≤ 124 → m o = m0 o) → TR S m tc → MG S1 W (f240 F (nI f) (nI R) (nI C) Sm) (fun v' m2 => Wx m m2 ∧ TR S' m2 tc' ∧ P v' m2)
theorem fg {F : Nat} (hF : 6000 ≤ F) {A m0 : Mem} {nj nf ns ng nb f sh R C tc : Nat} {S : AmT} (hC : Cur A m0 nj nf ns ng nb) (hf : f < nf) (hsh : sh < 8) (hR8 : R ≤ 8) (hC8 : C ≤ 8) (hA : ∀ o, 33 ≤ o → o ≤ 39 → S.1 o = A o) (h51 : S.1 5 1 = nI tc) (htc : tc + 32 ≤ 1900000) :
    ∃ v S' tc' L, f29 F (nI f) (nI R) (nI C) (nI sh) S = some (v, S') ∧ Sg S S' sh ∧ S'.1 5 1 = nI tc' ∧ tc' ≤ tc + 32 ∧ ((∃ e, (e = 7 ∨ e = 8) ∧ v = -10 - nI e ∧ fgM F f R C m0 S S' tc tc' (fun v' _ => v' = nI e)) ∨ (v = nI (2 * L.length) ∧ L.length = R * C ∧ (∀ y, y ∈ L → y.1 / 8 < R ∧ y.1 % 8 < C) ∧ (∃ G', absF A 10 f (R, C, gr0) = some (1, 1, G') ∧ L = G' 0 0) ∧ CL S' sh L ∧ fgM F f R C m0 S S' tc tc' (fun v' m2 => v' = 0 ∧ MP m2 0 L))) := by
  obtain ⟨hn, -, fd⟩ := Cur_fold hC hf
  obtain ⟨u, hu1, hu2, eu⟩ := FD_many fd
  obtain ⟨Sa, s1, s2, s3, s4⟩ := f70_ok (F := F) hF (S := S) hR8 hC8
  have ha1 : Sa.1 5 1 = nI tc := by rw [s3 5 (by omega), h51]
  obtain ⟨v, S', tc', sr', sc', R', C', G', e1, e2, e3, e4, e5, e6⟩ := fw hF hC f u hf eu hu2 10 0 tc Sa 0 0 R C gr0 (by omega) (by omega) (fun o o1 o2 => by rw [s3 o (by omega), hA o o1 o2]) s4 ha1 (by omega)
  have hsf : ∀ o, o ≠ 5 → o ≠ 6 → (o < 25 ∨ 29 < o) → S'.1 o = S.1 o := fun o o1 o2 o3 => by rw [e2.2.1 o o1 o2 o3, s3 o (by omega)]
  have hs5 : ∀ j, j ≠ 1 → S'.1 5 j = S.1 5 j := fun j hj => by rw [e2.2.2 j hj, s3 5 (by omega)]
  have hmod : ∀ {S1 : AmT} {W : Mem} {Sm : AmT} {m : Mem} {Q : Int32 → Mem → Prop}, My S1 Sm m W → (∀ o, 96 ≤ o → o ≤ 124 → m o = m0 o) → TR S m tc → (v = -17 → ∀ m2, Wx m m2 → TR S' m2 tc' → Q 7 m2) → (v = 1 → ∀ m2, Wx m m2 → TR S' m2 tc' → MR m2 R' C' G' → Q (if R' = 1 ∧ C' = 1 then 0 else 8) m2) → (v = 1 → R' ≤ 8 ∧ C' ≤ 8) → MG S1 W (f240 F (nI f) (nI R) (nI C) Sm) Q := by
    intro S1 W Sm m Q hy hm htr H1 H2 r8
    unfold f240
    refine MG_bq (MO_234 hF hR8 hC8 hy) fun S2 m2 h2 hq => ?_
    obtain ⟨q1, q2, q3⟩ := hq
    refine MG_up h2 (Or.inl rfl) fun S3 h3 => ?_
    refine MG_230 (w := 0) h3 (by simp only [am_upI_at, am_upI_ne, pk_us, pk_un, ne_eq, Nat.reduceEqDiff, not_false_eq_true]; rfl) (by omega) fun S4 h4 => ?_
    obtain ⟨n, hnF⟩ : ∃ n, F = (n + 1) + (2 * u - 1) := ⟨F - (2 * u - 1) - 1, by omega⟩
    have hx : Wx m (am_upI (am_upI (am_upI m2 95 39 0) 126 0 (nI f)) 95 39 (nI (0 + 1))) := Wx_trans ⟨fun o o1 _ _ o4 o5 => q1 o o1 o4 o5, fun j _ _ j3 j4 => q2 j j3 j4⟩ (Wx_trans Wx_39 (Wx_trans Wx_126 Wx_39))
    have key := e6 S1 W Q 0 (n + 1) S4 _ (by omega) h4 (fun o o1 o2 => by rw [hx.1 o (by omega) (by omega) (by omega) (by omega) (by omega), hm o o1 o2]) (by simp only [am_upI_at, am_upI_ne, pk_us, pk_un, ne_eq, Nat.reduceEqDiff, not_false_eq_true]) (by simp only [am_upI_at, am_upI_ne, pk_us, pk_un, ne_eq, Nat.reduceEqDiff, not_false_eq_true]) (MR_congr (by simp only [am_upI_at, am_upI_ne, pk_us, pk_un, ne_eq, Nat.reduceEqDiff, not_false_eq_true]) (by simp only [am_upI_at, am_upI_ne, pk_us, pk_un, ne_eq, Nat.reduceEqDiff, not_false_eq_true]) (by simp only [am_upI_at, am_upI_ne, pk_us, pk_un, ne_eq, Nat.reduceEqDiff, not_false_eq_true]) (by simp only [am_upI_at, am_upI_ne, pk_us, pk_un, ne_eq, Nat.reduceEqDiff, not_false_eq_true]) q3) ?_ (fun z m3 x1 x2 => H1 z m3 (Wx_trans hx x1) x2) (fun z S5 m5 y1 y2 y3 y4 y5 y6 => ?_)
    · rw [← hnF] at key
      exact key
    · refine ⟨ha1, ?_, fun j hj => ?_⟩
      · simp only [am_upI_at, am_upI_ne, pk_us, pk_un, ne_eq, Nat.reduceEqDiff, not_false_eq_true]
        rw [q2 36 (by decide) (by decide)]
        exact htr.2.1
      · simp only [am_upI_at, am_upI_ne, pk_us, pk_un, ne_eq, Nat.reduceEqDiff, not_false_eq_true]
        rw [q1 125 (by decide) (by decide) (by decide), s3 6 (by omega)]
        exact htr.2.2 j hj
    · have hq5 := H2 z m5 (Wx_trans hx y2) y6 y5
      obtain ⟨r8, c8⟩ := r8 z
      unfold g240_16
      rw [My_rd y1 (Or.inl rfl), y3, if_pos (show nI 0 ≤ (0 : Int32) from Int32.le_refl _), My_rd y1 (Or.inl rfl), y5.1, My_rd y1 (Or.inl rfl), y5.2.1]
      by_cases c1 : R' = 1
      · rw [if_pos (show nI R' = 1 from by rw [c1]; rfl)]
        by_cases c2 : C' = 1
        · rw [if_pos (show nI C' = 1 from by rw [c2]; rfl)]
          rw [if_pos ⟨c1, c2⟩] at hq5
          exact MG_ret y1 hq5
        · rw [if_neg (nI_ne1 c2 (by omega))]
          rw [if_neg (fun z => c2 z.2)] at hq5
          exact MG_ret y1 hq5
      · rw [if_neg (nI_ne1 c1 (by omega))]
        rw [if_neg (fun z => c1 z.1)] at hq5
        exact MG_ret y1 hq5
  have hcl : f29 F (nI f) (nI R) (nI C) (nI sh) S = if 0 ≤ v then (am_b2 (f71 F S') fun v5 S6 => if v5 = 0 then (some (-18, S6)) else (am_b2 (f79 F (nI sh * 64) S6) fun v8 S9 => some (2 * v8, S9))) else some (v, S') := by
    unfold f29
    rw [s1, bind_at, show (0 : Int32) = nI 0 from rfl, e1, b2_at]
  have hSg : Sg S S' sh := ⟨e2.1.trans s2, fun o o1 o2 _ o4 => hsf o o1 o2 o4, hs5, fun q _ => by rw [hsf 23 (by omega) (by omega) (by omega)]⟩
  rcases e5 with ⟨hv, hab⟩ | ⟨hv, hcs, hab⟩
  · refine ⟨-17, S', tc', [], ?_, hSg, e3, by omega, Or.inl ⟨7, Or.inl rfl, by decide, fun S1 W Sm m hy hm htr => ?_⟩⟩
    · rw [hcl, hv, if_neg (by decide)]
    · exact hmod hy hm htr (fun _ m2 x1 x2 => ⟨x1, x2, rfl⟩) (fun z => absurd (hv.symm.trans z) (by decide)) (fun z => absurd (hv.symm.trans z) (by decide))
  · obtain ⟨c1, c2, c3, c4, c5, c6, ⟨z0, cu, cz, cp⟩, c7⟩ := id hcs
    rw [hcl, hv, if_pos (by decide)]
    unfold f71
    rw [c3, c4]
    by_cases o : R' = 1 ∧ C' = 1
    · obtain ⟨o1, o2⟩ := o
      subst o1 o2
      rw [if_pos (show nI 1 = 1 from rfl), if_pos (show nI 1 = 1 from rfl), b2_at, if_neg (by decide)]
      unfold f79
      have hp : f78 F 0 0 S' = some (nI (8 * (sr' + 0) + (sc' + 0)), S') := f78_eq (r := 0) (c := 0) c1 c2 (by omega)
      obtain ⟨hlen, hgood⟩ := CS_GL hcs 0 0 (by omega) (by omega)
      obtain ⟨live, pl, own, hLV, hV⟩ := c7
      obtain ⟨v1, v2⟩ := hV 0 0 (by omega) (by omega) trivial
      have hch := (hLV _ v1).2.1
      rw [v2] at hch
      obtain ⟨S'', z1, z2, z3, z4, z5⟩ := lp_79 (F := F) hsh (G' 0 0) F 0 _ S' hch (by omega) (by omega)
      rw [hp, b2_at, ck_at (by omega) (by omega), nI_clamp (by omega), show nI sh * 64 = nI (64 * sh) from by rw [show nI sh * 64 = nI (sh * 64) from nI_mul _ 64, Nat.mul_comm]]
      have ep : pcl 1 sr' sc' 0 0 = 8 * (sr' + 0) + (sc' + 0) := rfl
      rw [ep] at z1
      have z1' : g79_15 F F (nI (64 * sh)) (S'.1 27 (8 * (sr' + 0) + (sc' + 0))) 0 S' = some (nI (0 + (G' 0 0).length), S'') := z1
      rw [z1', b2_at]
      refine ⟨_, S'', tc', G' 0 0, rfl, ⟨z2.trans hSg.1, fun o p1 p2 p3 p4 => by rw [z3 o p3, hsf o p1 p2 p4], fun j hj => by rw [z3 5 (by decide), hs5 j hj], fun q hq => ?_⟩, by rw [z3 5 (by decide), e3], by omega, Or.inr ⟨?_, ?_, cp 0 0 (by omega) (by omega), ⟨G', hab, rfl⟩, ⟨hlen, hgood, fun d y hy => ?_⟩, fun S1 W Sm m hy hm htr => ?_⟩⟩
      · rw [z4 q (by omega), hsf 23 (by omega) (by omega) (by omega)]
      · rw [Nat.zero_add]
        exact nI_mul 2 _
      · rw [cu 0 0 (by omega) (by omega)]
        have cz' : z0 * (1 * 1) = R * C := cz
        omega
      · have := z5 d y hy
        rwa [Nat.add_zero] at this
      · refine hmod hy hm htr (fun z => absurd (hv.symm.trans z) (by decide)) (fun _ m2 x1 x2 x3 => ⟨x1, ?_, ?_, ?_⟩) (fun _ => ⟨by omega, by omega⟩)
        · unfold TR
          rw [z3 5 (by decide), z3 6 (by decide)]
          exact x2
        · rw [if_pos ⟨rfl, rfl⟩]
        · exact x3.2.2 0 0 (by omega) (by omega)
    · refine ⟨-18, S', tc', [], ?_, hSg, e3, by omega, Or.inl ⟨8, Or.inr rfl, by decide, fun S1 W Sm m hy hm htr => ?_⟩⟩
      · by_cases c1' : R' = 1
        · rw [if_pos (show nI R' = 1 from by rw [c1']; rfl), if_neg (nI_ne1 (fun z => o ⟨c1', z⟩) (by omega))]
          rfl
        · rw [if_neg (nI_ne1 c1' (by omega))]
          rfl
      · refine hmod hy hm htr (fun z => absurd (hv.symm.trans z) (by decide)) (fun _ m2 x1 x2 x3 => ⟨x1, x2, ?_⟩) (fun _ => ⟨by omega, by omega⟩)
        rw [if_neg o]
        rfl
