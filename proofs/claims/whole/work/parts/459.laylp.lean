/-! faces of sheets: where they lie; laying pages on them -/
abbrev Ft : Type := Nat × Nat × Lf
def CLm (I : Mem) (sh : Nat) (L : List Lf) : Prop := L.length ≤ 64 ∧ (∀ y, y ∈ L → y.1 < 64 ∧ y.2 < 4) ∧ ∀ d y, L[d]? = some y → I 23 (64 * sh + d) = nI (4 * y.1 + y.2)
def fdn (t : Ft) : Nat := fce 0 t.2.2 (t.2.1 % 2)
def frr (t : Ft) : Nat := 16 * t.1 + 8 * fdn t + t.2.2.1 / 8
def fpl (t : Ft) : Nat := 8 * frr t + t.2.2.1 % 8
def fup (t : Ft) : Nat := t.2.2.2 % 2
-- a face that the class has found, on its sheet
def okt (A : Mem) (ns : Nat) (t : Ft) : Prop := t.1 < ns ∧ (∃ R C, R ≤ 8 ∧ C ≤ 8 ∧ A 52 t.1 = nI R ∧ A 54 t.1 = nI C ∧ t.2.2.1 / 8 < R ∧ t.2.2.1 % 8 < C) ∧ ∃ L, CLm A t.1 L ∧ t.2.1 < 2 * L.length ∧ L[t.2.1 / 2]? = some t.2.2
theorem okt_y {A : Mem} {ns : Nat} {t : Ft} (h : okt A ns t) : t.2.2.1 < 64 ∧ t.2.2.2 < 4 ∧ t.2.1 < 128 := by
  obtain ⟨-, -, L, h1, h2, h3⟩ := h
  have := h1.2.1 t.2.2 (List.mem_of_getElem? h3)
  have := h1.1
  omega
theorem fdn_le {A : Mem} {ns : Nat} {t : Ft} (h : okt A ns t) : fdn t ≤ 1 := by
  have hy := okt_y h
  have key : ∀ l : Fin 4, ∀ b : Fin 2, (l.val / 2) ^^^ b.val ≤ 1 := by decide
  exact key ⟨t.2.2.2, hy.2.1⟩ ⟨t.2.1 % 2, by omega⟩
theorem frr_lt {A : Mem} {ns : Nat} {t : Ft} (hns : ns ≤ 8) (h : okt A ns t) : frr t < 16 * ns ∧ frr t < 128 ∧ fpl t < 128 * ns ∧ fpl t < 1024 := by
  have h1 := fdn_le h
  have h2 := okt_y h
  have h3 := h.1
  unfold fpl frr
  omega
theorem CLm_to {A : Mem} {S : AmT} {sh : Nat} {L : List Lf} (e : S.1 23 = A 23) (h : CLm A sh L) : CL S sh L := by
  unfold CL
  rw [e]
  exact h
theorem CLm_of {S : AmT} {sh : Nat} {L : List Lf} (h : CL S sh L) : CLm S.1 sh L := h
theorem f112_eq {F ns : Nat} {A : Mem} {S : AmT} {t : Ft} (hns : ns ≤ 8) (h : okt A ns t) (e23 : S.1 23 = A 23) (e52 : S.1 52 = A 52) (e54 : S.1 54 = A 54) : f112 F (nI t.1) (nI t.2.1) S = some (if S.1 56 (frr t) = 0 then nI (fpl t) else -11, S) := by
  have hfr := frr_lt hns h
  obtain ⟨h1, ⟨R, C, hR, hC, a52, a54, p1, p2⟩, L, hL, hk, hy⟩ := id h
  have hCL := CLm_to e23 hL
  unfold f112
  rw [show f31 F (nI t.1) (nI t.2.1) 0 S = _ from f31_eq (w := 0) (by omega) hCL hk hy (by omega), b2_at, show f31 F (nI t.1) (nI t.2.1) 1 S = _ from f31_eq (w := 1) (by omega) hCL hk hy (by omega), b2_at, show f31 F (nI t.1) (nI t.2.1) 2 S = _ from f31_eq (w := 2) (by omega) hCL hk hy (by omega), b2_at, b2_id]
  show f104 F (nI t.1) (nI (fdn t)) (nI (t.2.2.1 / 8)) (nI (t.2.2.1 % 8)) S = _
  unfold f104 f101 f102
  rw [if_neg (nI_pos (by omega)), kg_at (by omega) (by omega), e52, a52, if_neg (nI_ge p1 (by omega)), b2_at, if_neg (by decide), f100_eq, b2_at]
  show (am_b2 (if kg S.1 56 128 (nI (frr t)) = 0 then _ else _) _) = _
  rw [kg_at hfr.2.1 (by omega)]
  by_cases q : S.1 56 (frr t) = 0
  · rw [if_pos q, if_pos q, b2_at, if_pos rfl, if_neg (nI_pos (by omega)), kg_at (by omega) (by omega), e54, a54, if_pos (nI_lt p2 (by omega))]
    rw [f100_eq, b2_at]
    show some (nI (frr t) * 8 + nI (t.2.2.1 % 8), S) = _
    rw [show nI (frr t) * 8 = nI (frr t * 8) from nI_mul _ 8, nI_add, Nat.mul_comm]
    rfl
  · rw [if_neg q, if_neg q]
    rfl
/-- readFace() -/
theorem f114_eq {F ns : Nat} {A : Mem} {S : AmT} {t : Ft} (hns : ns ≤ 8) (h : okt A ns t) (e23 : S.1 23 = A 23) (e52 : S.1 52 = A 52) (e54 : S.1 54 = A 54) : f114 F (nI t.1) (nI t.2.1) S = some (if S.1 56 (frr t) = 0 then S.1 58 (fpl t) / 2 else -11, S) := by
  have hfr := frr_lt hns h
  unfold f114
  rw [f112_eq hns h e23 e52 e54, b2_at]
  by_cases q : S.1 56 (frr t) = 0
  · rw [if_pos q, if_pos q, if_pos (nI_le0 (by omega))]
    unfold f106
    rw [b2_at, kg_at hfr.2.2.2 (by omega)]
  · rw [if_neg q, if_neg q, if_neg (by decide)]
def pgx (p x : Nat) : Nat := if p < x then 0 else x
theorem f35_eq {F j nj p x : Nat} {S : AmT} (hj : j < nj) (hnj : nj ≤ 3) (hp : p ≤ 24) (hx : 1 ≤ x) (hx2 : x < 2147483648) (e9 : S.1 9 0 = nI nj) (e15 : S.1 15 j = nI p) : f35 F (nI j) (nI x) S = some (if p < x then 0 else 1, S) := by
  unfold f35 f34
  rw [if_neg (nI_pos (by omega)), kg_0 (by decide) (by decide), e9, if_neg (nI_ge hj (by omega)), b2_at, if_neg (by decide), if_neg (show ¬ nI x < (1 : Int32) from fun z => by
    have := (nI_ltI (b := 1) hx2 (by omega)).mp z
    omega), kg_at (by omega) (by omega), e15]
  by_cases q : p < x
  · rw [if_pos q, if_pos (nI_lt q hx2)]
  · rw [if_neg q, if_neg (fun z => q ((nI_ltI (by omega) hx2).mp z))]
/-- layFace() -/
theorem f111_eq {F ns k x p j nj : Nat} {A A0 : Mem} {S0 S : AmT} {t : Ft} (hns : ns ≤ 8) (h : okt A0 ns t) (hK : Ky S0 S A k) (hk : k < 640) (hA : ∀ o, o ≠ 58 → A o = A0 o) (hj : j < nj) (hnj : nj ≤ 3) (hp : p ≤ 24) (hx : 1 ≤ x) (hx2 : x < 2147483648) (e9 : A0 9 0 = nI nj) (e50 : A0 50 t.1 = nI j) (e15 : A0 15 j = nI p) :
    (A0 56 (frr t) ≠ 0 ∧ f111 F (nI t.1) (nI t.2.1) (nI x) S = some (-11, S)) ∨ (A0 56 (frr t) = 0 ∧ ∃ S', f111 F (nI t.1) (nI t.2.1) (nI x) S = some (1, S') ∧ Ky S0 S' (am_upI A 58 (fpl t) (nI (2 * pgx p x + fup t))) (k + 1)) := by
  have hfr := frr_lt hns h
  have eS : ∀ o, 5 ≤ o → o ≤ 94 → o ≠ 58 → S.1 o = A0 o := fun o o1 o2 o3 => (hK.2.1 o o1 o2).trans (hA o o3)
  have e23 := eS 23 (by omega) (by omega) (by omega)
  have e112 := f112_eq (F := F) (S := S) hns h e23 (eS 52 (by omega) (by omega) (by omega)) (eS 54 (by omega) (by omega) (by omega))
  rw [eS 56 (by omega) (by omega) (by omega)] at e112
  unfold f111
  rw [e112, b2_at]
  by_cases q : A0 56 (frr t) = 0
  · refine Or.inr ⟨q, ?_⟩
    obtain ⟨h1, -, L, hL, hkL, hy⟩ := id h
    have e3 : f31 F (nI t.1) (nI t.2.1) 3 S = some (nI (fup t), S) := f31_eq (w := 3) (by omega) (CLm_to e23 hL) hkL hy (by omega)
    have key : ∀ s0 : Nat, s0 = pgx p x → ∃ S', g111_40 F (nI t.1) (nI t.2.1) (nI (fpl t)) (nI s0) S = some (1, S') ∧ Ky S0 S' (am_upI A 58 (fpl t) (nI (2 * pgx p x + fup t))) (k + 1) := by
      intro s0 hs0
      subst hs0
      unfold g111_40 f105
      rw [e3, b2_at, b2_id, nn_at hK.1 (by omega), show (2 : Int32) * nI (pgx p x) = nI (2 * pgx p x) from nI_mul 2 _, nI_add]
      exact ⟨_, rfl, Ky_ks hK hk rfl hfr.2.2.2⟩
    rw [if_pos q, if_pos (nI_le0 (by omega)), kg_at (by omega) (by omega), eS 50 (by omega) (by omega) (by omega), e50, f35_eq hj hnj hp hx hx2 ((congrFun (eS 9 (by omega) (by omega) (by omega)) 0).trans e9) ((congrFun (eS 15 (by omega) (by omega) (by omega)) j).trans e15), b2_at]
    by_cases c : p < x
    · rw [if_pos c, if_pos rfl]
      exact key 0 (by unfold pgx; rw [if_pos c])
    · rw [if_neg c, if_neg (by decide)]
      exact key x (by unfold pgx; rw [if_neg c])
  · exact Or.inl ⟨q, by rw [if_neg q, if_neg (by decide)]⟩
-- the model's list of faces
def FA (m : Mem) (T : List Ft) : Prop := m 95 47 = nI T.length ∧ ∀ i t, T[i]? = some t → m 129 i = nI t.1 ∧ m 130 i = nI t.2.1 ∧ m 131 i = nI (fen t.2.2 (t.2.1 % 2))
theorem FA_congr {m m' : Mem} {T : List Ft} (h47 : m' 95 47 = m 95 47) (h129 : m' 129 = m 129) (h130 : m' 130 = m 130) (h131 : m' 131 = m 131) (h : FA m T) : FA m' T := by
  unfold FA
  rw [h47, h129, h130, h131]
  exact h
-- cells
def CE (A m : Mem) : Prop := ∀ j, j < 1024 → ∃ p u, p ≤ 24 ∧ u ≤ 1 ∧ A 58 j = nI (2 * p + u) ∧ m 117 j = nI p ∧ m 118 j = nI u
theorem CE_up {A m : Mem} {q p u : Nat} (h : CE A m) (hp : p ≤ 24) (hu : u ≤ 1) : CE (am_upI A 58 q (nI (2 * p + u))) (am_upI (am_upI m 117 q (nI p)) 118 q (nI u)) := by
  have := cell_up (q := q) h hp hu
  unfold CE
  simp only [am_upI_at, am_upI_ne, pk_us, pk_un, ne_eq, Nat.reduceEqDiff, not_false_eq_true]
  exact this
theorem CE_congr {A A' m m' : Mem} (h58 : A' 58 = A 58) (h117 : m' 117 = m 117) (h118 : m' 118 = m 118) (h : CE A m) : CE A' m' := by
  unfold CE
  rw [h58, h117, h118]
  exact h
/-- pages are laid on faces, one after another -/
theorem lay_lp {F : Nat} (hF : 6000 ≤ F) {A0 m0 : Mem} {nj nf ns ng nb x : Nat} {S0 : AmT} {T : List Ft} (hC : Cur A0 m0 nj nf ns ng nb) (hx : 1 ≤ x ∧ x ≤ 24) (hT : T.length ≤ 512) (hok : ∀ t, t ∈ T → okt A0 ns t) (lp : Nat → Nat → AmT → Option (Int32 × AmT))
    (l0 : ∀ N S A k, Ky S0 S A k → (∀ o, o ≠ 58 → A o = A0 o) → lp (N + 1) T.length S = some (nI T.length, S))
    (l1 : ∀ N i S A k t, Ky S0 S A k → (∀ o, o ≠ 58 → A o = A0 o) → T[i]? = some t → lp (N + 1) i S = am_b2 (f111 F (nI t.1) (nI t.2.1) (nI (x + i)) S) fun v S' => if 0 ≤ v then lp N (i + 1) S' else some (v, S')) :
    ∀ (r i N : Nat) (S : AmT) (A : Mem) (k : Nat), i + r = T.length → r < N → Ky S0 S A k → (∀ o, o ≠ 58 → A o = A0 o) → k + r ≤ 640 →
      ∃ v S' A', lp N i S = some (v, S') ∧ Ky S0 S' A' (k + r) ∧ (∀ o, o ≠ 58 → A' o = A0 o) ∧ (∀ j, 128 * ns ≤ j → A' 58 j = A 58 j) ∧ (v = nI T.length ∨ v = -11) ∧
        ∀ (S1 : AmT) (W : Mem) (Sm : AmT) (m : Mem) (N' : Nat), My S1 Sm m W → (∀ o, 96 ≤ o → o ≤ 124 → o ≠ 117 → o ≠ 118 → m o = m0 o) → FA m T → CE A m → r < N' → MG S1 W (g262_2 F N' (nI x) (nI i) Sm) (fun v' m' => ∃ m1, (∀ o, o ≠ 117 → o ≠ 118 → m1 o = m o) ∧ CE A' m1 ∧ ((v = nI T.length ∧ v' = nI T.length ∧ m' = m1) ∨ (v = -11 ∧ v' = -11 ∧ m' = am_upI (am_upI m1 95 30 (m1 95 30 + 1)) 95 31 1)))
  | r, i, 0, S, A, k, h1, h2, h3, h4, h5 => absurd h2 (by omega)
  | 0, i, N + 1, S, A, k, h1, h2, h3, h4, h5 => by
    have hi : i = T.length := by omega
    subst hi
    refine ⟨nI T.length, S, A, l0 N S A k h3 h4, h3, h4, fun _ _ => rfl, Or.inl rfl, fun S1 W Sm m N' hy hm hFA hCE hN => ?_⟩
    obtain ⟨N', rfl⟩ : ∃ n, N' = n + 1 := ⟨N' - 1, by omega⟩
    unfold g262_2
    rw [My_rd hy (Or.inl rfl), hFA.1, if_pos (Int32.le_refl _)]
    exact MG_ret hy ⟨m, fun _ _ _ => rfl, hCE, Or.inl ⟨rfl, rfl, rfl⟩⟩
  | r + 1, i, N + 1, S, A, k, h1, h2, h3, h4, h5 => by
    have hi : i < T.length := by omega
    have ht : T[i]? = some T[i] := List.getElem?_eq_getElem hi
    have htm : T[i] ∈ T := List.getElem_mem hi
    revert ht htm
    generalize T[i] = t
    intro ht htm
    have hokt := hok t htm
    have hns := hC.2.2.1.1
    have hfr := frr_lt hns hokt
    have hy3 := okt_y hokt
    obtain ⟨-, ⟨a1, a2, a3, -⟩, ⟨j, hj, e50⟩, -⟩ := Cur_sheet hC hokt.1
    obtain ⟨hnj, e9, em0, hjob⟩ := hC.1
    obtain ⟨b1, b2, b3, l', w', p, hl', hw', hp, c1, c2, c3, -⟩ := hjob j (by omega)
    -- the model's step
    have hmod : ∀ (S1 : AmT) (W : Mem) (Sm : AmT) (m : Mem) (N' : Nat) (Q : Int32 → Mem → Prop), My S1 Sm m W → (∀ o, 96 ≤ o → o ≤ 124 → o ≠ 117 → o ≠ 118 → m o = m0 o) → FA m T → (A0 56 (frr t) ≠ 0 → Q (-11) (am_upI (am_upI m 95 30 (m 95 30 + 1)) 95 31 1)) → (A0 56 (frr t) = 0 → ∀ S2, My S1 S2 (am_upI (am_upI m 117 (fpl t) (nI (pgx p (x + i)))) 118 (fpl t) (nI (fup t))) W → MG S1 W (g262_2 F N' (nI x) (nI (i + 1)) S2) Q) → MG S1 W (g262_2 F (N' + 1) (nI x) (nI i) Sm) Q := by
      intro S1 W Sm m N' Q hy hm hFA H1 H2
      obtain ⟨f1, f2, f3⟩ := hFA.2 i t ht
      have e129 : Sm.1 129 i = nI t.1 := (My_rd hy (Or.inr (Or.inl (by omega)))).trans f1
      have e131 : Sm.1 131 i = nI (fen t.2.2 (t.2.1 % 2)) := (My_rd hy (Or.inr (Or.inl (by omega)))).trans f3
      have e116 : Sm.1 116 (frr t) = A0 56 (frr t) := by
        rw [My_rd hy (mi_h (show frr t < 128 from hfr.2.1)), hm 116 (by omega) (by omega) (by omega) (by omega)]
        exact (Cur_torn hC _ hfr.2.1).1.symm
      have e108 : Sm.1 108 t.1 = nI j := by
        rw [My_rd hy (mi_h (show t.1 < 8 by have := hokt.1; omega)), hm 108 (by omega) (by omega) (by omega) (by omega), ← a1, e50]
      have e97 : Sm.1 97 j = nI p := by
        rw [My_rd hy (mi_h (show j < 3 by omega)), hm 97 (by omega) (by omega) (by omega) (by omega), ← b3, c3]
      unfold g262_2
      rw [My_rd hy (Or.inl rfl), hFA.1, if_neg (nI_ge hi (by omega)), ck_at (by omega) (by omega), ck_at (by omega) (by omega), nI_clamp (by omega), e131, e129, f242_eq hy3.1 hy3.2.1 (by omega), b2_at, f243_eq hy3.1 hy3.2.1 (by omega), b2_at, f250_eq, b2_at]
      show MG S1 W (am_ck (nI (frr t)) 256 (if Sm.1 116 (nI (frr t)).toNatClampNeg = 0 then _ else _)) Q
      rw [ck_at (by omega) (by omega), nI_clamp (by omega), e116]
      by_cases q : A0 56 (frr t) = 0
      · rw [if_pos q, f242_eq hy3.1 hy3.2.1 (by omega), b2_at, f243_eq hy3.1 hy3.2.1 (by omega), b2_at, f244_eq hy3.1 hy3.2.1 (by omega), b2_at, f251_eq, b2_at]
        show MG S1 W (am_ck (nI t.1) 16 (am_ck (Sm.1 108 (nI t.1).toNatClampNeg) 6 (if Sm.1 97 (Sm.1 108 (nI t.1).toNatClampNeg).toNatClampNeg < nI x + nI i then g262_107 F (fun x1 x2 S => g262_2 F N' x1 x2 S) (nI x) (nI i) (nI (fen t.2.2 (t.2.1 % 2))) (nI (fpl t)) (nI (fpl t)) 0 Sm else g262_107 F (fun x1 x2 S => g262_2 F N' x1 x2 S) (nI x) (nI i) (nI (fen t.2.2 (t.2.1 % 2))) (nI (fpl t)) (nI (fpl t)) (nI x + nI i) Sm))) Q
        have htns := hokt.1
        rw [ck_at (by omega) (by omega), nI_clamp (n := t.1) (by omega), e108, ck_at (by omega) (by omega), nI_clamp (n := j) (by omega), e97, nI_add]
        have key : ∀ s2 : Nat, s2 = pgx p (x + i) → MG S1 W (g262_107 F (fun x1 x2 S => g262_2 F N' x1 x2 S) (nI x) (nI i) (nI (fen t.2.2 (t.2.1 % 2))) (nI (fpl t)) (nI (fpl t)) (nI s2) Sm) Q := by
          intro s2 hs2
          subst hs2
          unfold g262_107
          refine MG_cu hy rfl (show fpl t < 1024 from hfr.2.2.2) (by omega) (by omega) fun S2 h2 => ?_
          rw [f245_eq hy3.1 hy3.2.1 (by omega), b2_at]
          refine MG_cu h2 rfl (show fpl t < 1024 from hfr.2.2.2) (by omega) (by omega) fun S3 h3 => ?_
          rw [nI_1]
          exact H2 q S3 h3
        by_cases c : p < x + i
        · rw [if_pos (nI_lt c (by omega))]
          exact key 0 (by unfold pgx; rw [if_pos c])
        · rw [if_neg (fun z => c ((nI_ltI (by omega) (by omega)).mp z))]
          exact key (x + i) (by unfold pgx; rw [if_neg c])
      · rw [if_neg q]
        exact MG_f hy (H1 q)
    rcases f111_eq (F := F) (x := x + i) hns hokt h3 (by omega) h4 hj hnj hp (by omega) (by omega) e9 e50 c3 with ⟨q, e⟩ | ⟨q, S', e, hK'⟩
    · refine ⟨-11, S, A, ?_, Ky_mono h3 (by omega), h4, fun _ _ => rfl, Or.inr rfl, fun S1 W Sm m N' hy hm hFA hCE hN => ?_⟩
      · rw [l1 N i S A k t h3 h4 ht, e, b2_at, if_neg (by decide)]
      · obtain ⟨N', rfl⟩ : ∃ n, N' = n + 1 := ⟨N' - 1, by omega⟩
        exact hmod S1 W Sm m N' _ hy hm hFA (fun _ => ⟨m, fun _ _ _ => rfl, hCE, Or.inr ⟨rfl, rfl, rfl⟩⟩) (fun z => absurd z q)
    · have hA' : ∀ o, o ≠ 58 → am_upI A 58 (fpl t) (nI (2 * pgx p (x + i) + fup t)) o = A0 o := fun o ho => by rw [am_upI_ne ho, h4 o ho]
      obtain ⟨v, S2, A2, z1, z2, z3, z4, z5, z6⟩ := lay_lp hF hC hx hT hok lp l0 l1 r (i + 1) N S' _ (k + 1) (by omega) (by omega) hK' hA' (by omega)
      refine ⟨v, S2, A2, ?_, Ky_mono z2 (by omega), z3, fun j hj => ?_, z5, fun S1 W Sm m N' hy hm hFA hCE hN => ?_⟩
      · rw [l1 N i S A k t h3 h4 ht, e, b2_at, if_pos (by decide), z1]
      · rw [z4 j hj, am_upI_at, pk_un (by omega)]
      · obtain ⟨N', rfl⟩ : ∃ n, N' = n + 1 := ⟨N' - 1, by omega⟩
        refine hmod S1 W Sm m N' _ hy hm hFA (fun z => absurd q z) fun _ S3 h3' => ?_
        have hpg : pgx p (x + i) ≤ 24 := by
          unfold pgx
          split <;> omega
        have hup : fup t ≤ 1 := by
          unfold fup
          omega
        obtain ⟨v', S4, m4, w1, w2, m5, w3, w4, w5⟩ := z6 S1 W S3 _ N' h3' (fun o o1 o2 o3 o4 => by rw [am_upI_ne o4, am_upI_ne o3, hm o o1 o2 o3 o4]) (FA_congr (by simp only [am_upI_at, am_upI_ne, pk_us, pk_un, ne_eq, Nat.reduceEqDiff, not_false_eq_true]) (by simp only [am_upI_at, am_upI_ne, pk_us, pk_un, ne_eq, Nat.reduceEqDiff, not_false_eq_true]) (by simp only [am_upI_at, am_upI_ne, pk_us, pk_un, ne_eq, Nat.reduceEqDiff, not_false_eq_true]) (by simp only [am_upI_at, am_upI_ne, pk_us, pk_un, ne_eq, Nat.reduceEqDiff, not_false_eq_true]) hFA) (CE_up hCE hpg hup) (by omega)
        exact ⟨v', S4, m4, w1, w2, m5, fun o o1 o2 => by rw [w3 o o1 o2, am_upI_ne o2, am_upI_ne o1], w4, w5⟩
