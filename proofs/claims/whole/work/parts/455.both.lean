/-! folding: a plain fold, in both -/
def MR (m : Mem) (R C : Nat) (G : Nat → Nat → List Lf) : Prop := m 95 40 = nI R ∧ m 95 41 = nI C ∧ MV m 1 R C G
theorem MR_congr {m m' : Mem} {R C : Nat} {G : Nat → Nat → List Lf} (h40 : m' 95 40 = m 95 40) (h41 : m' 95 41 = m 95 41) (h1 : m' 127 = m 127) (h2 : m' 128 = m 128) (h : MR m R C G) : MR m' R C G := ⟨h40.trans h.1, h41.trans h.2.1, MV_congr h1 h2 h.2.2⟩
theorem MV_ax {m : Mem} {ax R C : Nat} {G : Nat → Nat → List Lf} (h : MV m 1 R C G) : MV m ax (al ax R C) (an ax R C) (vw ax G) := by
  intro l t hl ht
  unfold al at hl
  unfold an at ht
  unfold vw pcl
  by_cases q : ax = 0
  · rw [if_pos q] at hl ht
    rw [if_pos q, if_pos q]
    exact h t l ht hl
  · rw [if_neg q] at hl ht
    rw [if_neg q, if_neg q]
    exact h l t hl ht
theorem MV_back {m : Mem} {ax R C k w : Nat} {G : Nat → Nat → List Lf} (h : MV m ax (al ax R C) (olf k w) (bV ax k w (vw ax G))) : MV m 1 (bR ax k w R) (bC ax k w C) (bG ax k w G) := by
  intro l t hl ht
  unfold bR at hl
  unfold bC at ht
  unfold bG
  unfold vw
  show MP m (8 * (0 + l) + (0 + t)) _
  by_cases q : ax = 0
  · rw [if_pos q] at hl ht
    rw [if_pos q]
    have := h t l (by unfold al; rw [if_pos q]; exact ht) hl
    unfold pcl at this
    rw [if_pos q] at this
    exact this
  · rw [if_neg q] at hl ht
    rw [if_neg q]
    have := h l t (by unfold al; rw [if_neg q]; exact hl) ht
    unfold pcl at this
    rw [if_neg q] at this
    exact this
def GL (R C : Nat) (G : Nat → Nat → List Lf) : Prop := ∀ r c, r < R → c < C → (G r c).length ≤ 64 ∧ ∀ y, y ∈ G r c → y.1 < 64 ∧ y.2 < 4
theorem CS_GL {N : Nat × Nat} {S : AmT} {sr sc R C : Nat} {G : Nat → Nat → List Lf} (h : CS N S sr sc R C G) : GL R C G := fun r c hr hc => CV_len h.2.2.2.2.2.2.2 hr hc trivial
theorem Vs_un {fl : Nat} {src dst : Nat → Nat} {V : Nat → Nat → List Lf} {l t : Nat} : ∀ j, (∀ i, i < j → t ≠ dst i) → Vs fl src dst V j l t = V l t
  | 0, _ => rfl
  | j + 1, h => by
    show trn fl (src j) (dst j) (Vs fl src dst V j) l t = _
    unfold trn
    rw [if_neg (h j (by omega)), Vs_un j (fun i hi => h i (by omega))]
theorem ok_of {ax R C k w : Nat} {G : Nat → Nat → List Lf} (hk : 1 ≤ k ∧ k ≤ 3) (hG : GL R C G) (hG' : GL (bR ax k w R) (bC ax k w C) (bG ax k w G)) : okV ax (al ax R C) (an ax R C) k w (vw ax G) := by
  intro l t hl ht
  have h0 : (vw ax G l t).length ≤ 64 ∧ ∀ y, y ∈ vw ax G l t → y.1 < 64 ∧ y.2 < 4 := by
    unfold al at hl
    unfold an at ht
    unfold vw
    by_cases q : ax = 0
    · rw [if_pos q] at hl ht ⊢
      exact hG t l ht hl
    · rw [if_neg q] at hl ht ⊢
      exact hG l t hl ht
  refine ⟨?_, h0.2⟩
  by_cases c : osk k w ≤ t ∧ t < osk k w + olf k w
  · unfold al at hl
    unfold GL bR bC bG bV vw at hG'
    by_cases q : ax = 0
    · simp only [q, if_true] at hG' hl
      have := (hG' (t - osk k w) l (by omega) hl).1
      rw [show osk k w + (t - osk k w) = t by omega] at this
      subst q
      exact this
    · simp only [q, if_false] at hG' hl
      have := (hG' l (t - osk k w) hl (by omega)).1
      rw [show osk k w + (t - osk k w) = t by omega] at this
      have e : vw ax G = fun l t => G l t := by
        funext l t
        unfold vw
        rw [if_neg q]
      rw [e]
      exact this
  · rw [Vs_un (ocn k w) (fun i hi z => by
      have := o_dst hk hi
      omega)]
    exact h0.1
theorem m_bend {F : Nat} (hF : 6000 ≤ F) {S1 S : AmT} {m W : Mem} {k ax R C : Nat} {G : Nat → Nat → List Lf} {Q : Int32 → Mem → Prop} (hk : 1 ≤ k ∧ k ≤ 3) (hax : ax ≤ 1) (h8 : R ≤ 8 ∧ C ≤ 8) (h : My S1 S m W) (hM : MR m R C G) (hok : an ax R C % (k + 1) = 0 → okV ax (al ax R C) (an ax R C) k (an ax R C / (k + 1)) (vw ax G))
    (H1 : an ax R C % (k + 1) ≠ 0 → Q 0 m) (H2 : an ax R C % (k + 1) = 0 → ∀ m', (∀ o, o ≠ 95 → o ≠ 127 → o ≠ 128 → m' o = m o) → (∀ j, j ≠ 40 → j ≠ 41 → m' 95 j = m 95 j) → MR m' (bR ax k (an ax R C / (k + 1)) R) (bC ax k (an ax R C / (k + 1)) C) (bG ax k (an ax R C / (k + 1)) G) → Q 1 m') : MG S1 W (f238 F (nI k) (nI ax) S) Q := by
  have hn8 : an ax R C ≤ 8 := by
    unfold an
    split <;> omega
  have hl8 : al ax R C ≤ 8 := by
    unfold al
    split <;> omega
  have key : MG S1 W (g238_52 F (nI k) (nI ax) (nI (an ax R C)) (nI (al ax R C)) (nI (k + 1)) S) Q := by
    have nz : ∀ K : Option (Int32 × AmT), am_nz (nI (k + 1)) K = K := fun K => by
      unfold am_nz
      rw [if_neg (fun z => by
        have := (nI_eq (a := k + 1) (b := 0) (by omega) (by omega)).mp z
        omega)]
    unfold g238_52
    rw [nz, nz, nI_rem (by omega) (by omega) (by omega)]
    by_cases q : an ax R C % (k + 1) = 0
    · rw [if_pos (by rw [q]; rfl), nI_div hn8 (by omega)]
      have hn : an ax R C = (k + 1) * (an ax R C / (k + 1)) := by
        have := Nat.div_add_mod (an ax R C) (k + 1)
        omega
      have hok' := hok q
      refine lp_238 hF hax hk hn hn8 hl8 hok' (fun S2 m2 h2 hK => ?_) F 0 S m (by omega) (by omega) h ⟨fun _ _ _ => rfl, ?_⟩
      · have hsw : osk k (an ax R C / (k + 1)) + olf k (an ax R C / (k + 1)) ≤ an ax R C := by
          have := o_sl (k := k) (w := an ax R C / (k + 1)) hk
          rwa [← hn] at this
        refine MG_bq (Q1 := fun m' => (∀ o, o ≠ 95 → o ≠ 127 → o ≠ 128 → m' o = m2 o) ∧ m' 95 = upd (m2 95) (40 + ax) (nI (olf k (an ax R C / (k + 1)))) ∧ MV m' ax (al ax R C) (olf k (an ax R C / (k + 1))) (fun l t => Vs (flx ax) (osr k (an ax R C / (k + 1))) (ods k (an ax R C / (k + 1))) (vw ax G) (ocn k (an ax R C / (k + 1))) l (osk k (an ax R C / (k + 1)) + t))) ?_ (fun S3 m3 h3 hq => ?_)
        · have kq : MO S1 W (g237_20 F F (nI ax) (nI (osk k (an ax R C / (k + 1)))) (nI (olf k (an ax R C / (k + 1)))) (nI (al ax R C)) (nI 0) S2) (fun m' => (∀ o, o ≠ 95 → o ≠ 127 → o ≠ 128 → m' o = m2 o) ∧ m' 95 = upd (m2 95) (40 + ax) (nI (olf k (an ax R C / (k + 1)))) ∧ MV m' ax (al ax R C) (olf k (an ax R C / (k + 1))) (fun l t => Vs (flx ax) (osr k (an ax R C / (k + 1))) (ods k (an ax R C / (k + 1))) (vw ax G) (ocn k (an ax R C / (k + 1))) l (osk k (an ax R C / (k + 1)) + t))) := by
            refine lp_237 hF hax hn8 hl8 hsw (fun l t hl ht => (hok' l t hl ht).1) (fun m' a1 a2 a3 => ⟨a1, a2, a3⟩) F 0 S2 m2 (by omega) (by omega) h2 (fun _ _ _ => rfl) fun l t hl ht => ?_
            have := hK.2 l t hl ht
            unfold kap at this
            dsimp only at this
            rw [if_pos hl] at this
            unfold sU kap
            rw [if_neg (show ¬ l < 0 by omega), show (if l = 0 then 0 else 0) = 0 by split <;> rfl, if_neg (show ¬ t < 0 by omega)]
            exact this
          unfold f237 g237_15
          have e95 : m2 95 = m 95 := hK.1 95 (by decide) (by decide)
          rcases (show ax = 0 ∨ ax = 1 by omega) with rfl | rfl
          · rw [if_pos (show nI 0 = 0 from rfl), My_rd h2 (Or.inl rfl), show m2 95 41 = nI C from (congrFun e95 41).trans hM.2.1]
            exact kq
          · rw [if_neg (by decide), My_rd h2 (Or.inl rfl), show m2 95 40 = nI R from (congrFun e95 40).trans hM.1]
            exact kq
        · obtain ⟨q1, q2, q3⟩ := hq
          have e95 : m2 95 = m 95 := hK.1 95 (by decide) (by decide)
          refine MG_ret h3 (H2 q m3 (fun o o1 o2 o3 => by rw [q1 o o1 o2 o3, hK.1 o o2 o3]) (fun j j1 j2 => by rw [q2, pk_un (by omega), e95]) ⟨?_, ?_, MV_back q3⟩)
          · rw [q2, e95]
            unfold bR
            rcases (show ax = 0 ∨ ax = 1 by omega) with rfl | rfl
            · rw [pk_us, if_pos rfl]
            · rw [pk_un (by decide), if_neg (by decide)]
              exact hM.1
          · rw [q2, e95]
            unfold bC
            rcases (show ax = 0 ∨ ax = 1 by omega) with rfl | rfl
            · rw [pk_un (by decide), if_pos rfl]
              exact hM.2.1
            · rw [pk_us, if_neg (by decide)]
      · intro l t hl ht
        have e : kap (ocn k (an ax R C / (k + 1))) 0 0 l = 0 := by
          unfold kap
          rw [if_neg (by omega)]
          split <;> rfl
        dsimp only
        rw [e]
        exact MV_ax hM.2.2 l t hl ht
    · rw [if_neg (nI_ne0 (Nat.pos_of_ne_zero q) (by have := Nat.mod_lt (an ax R C) (show 0 < k + 1 by omega); omega))]
      exact MG_ret h (H1 q)
  unfold f238 g238_15 g238_31
  unfold al an at key
  rcases (show ax = 0 ∨ ax = 1 by omega) with rfl | rfl
  · rw [if_pos (show nI 0 = 0 from rfl), if_pos (show nI 0 = 0 from rfl), My_rd h (Or.inl rfl), My_rd h (Or.inl rfl), hM.1, hM.2.1]
    rw [if_pos rfl, if_pos rfl] at key
    rcases (show k = 1 ∨ k = 2 ∨ k = 3 by omega) with rfl | rfl | rfl <;> exact key
  · rw [if_neg (show ¬ nI 1 = 0 by decide), if_neg (show ¬ nI 1 = 0 by decide), My_rd h (Or.inl rfl), My_rd h (Or.inl rfl), hM.1, hM.2.1]
    rw [if_neg (by decide), if_neg (by decide)] at key
    rcases (show k = 1 ∨ k = 2 ∨ k = 3 by omega) with rfl | rfl | rfl <;> exact key
-- the trace, in both
def TR (S : AmT) (m : Mem) (tc : Nat) : Prop := S.1 5 1 = nI tc ∧ m 95 36 = nI tc ∧ ∀ j, j < 40 → S.1 6 j = m 125 j
theorem TR_nt {S S' : AmT} {m : Mem} {tc : Nat} {x : Int32} (h : TR S m tc) (hn : NT S S' tc x) : TR S' (am_upI (am_upI m 125 (tc % 40) x) 95 36 (nI (tc + 1))) (tc + 1) := by
  refine ⟨by rw [hn.2, pk_us], by rw [am_upI_at, pk_us], fun j hj => ?_⟩
  rw [hn.1, am_upI_ne (by decide), am_upI_at]
  by_cases q : j = tc % 40
  · subst q
    rw [pk_us, pk_us]
  · rw [pk_un q, pk_un q]
    exact h.2.2 j hj
theorem TR_m {S : AmT} {m m' : Mem} {tc : Nat} (h : TR S m tc) (h36 : m' 95 36 = m 95 36) (h125 : m' 125 = m 125) : TR S m' tc := by
  unfold TR
  rw [h36, h125]
  exact h
theorem MG_233 {F : Nat} {S1 S : AmT} {m W : Mem} {tc : Nat} {x : Int32} {K : AmT → Option (Int32 × AmT)} {Q : Int32 → Mem → Prop} (h : My S1 S m W) (ht : m 95 36 = nI tc) (htc : tc < 2000000) (H : ∀ S', My S1 S' (am_upI (am_upI m 125 (tc % 40) x) 95 36 (nI (tc + 1))) W → MG S1 W (K S') Q) : MG S1 W ((f233 F x S).bind K) Q := by
  have e0 : S.1 95 36 = nI tc := (My_rd h (Or.inl rfl)).trans ht
  have h1 := My_up (k := 125) (i := tc % 40) (x := x) h (Or.inr (Or.inl (by omega)))
  have h2 := My_up (k := 95) (i := 36) (x := nI (tc + 1)) h1 (Or.inl rfl)
  have e1 : nI tc - nI tc / 40 * 40 = nI (tc % 40) := nI_rem (d := 40) (by omega) (by omega) (by omega)
  have e2 : f233 F x S = some (am_upI (am_upI S.1 125 (tc % 40) x) 95 36 (nI (tc + 1)), S.2) := by
    unfold f233
    rw [e0, e1, ck_at (by omega) (by omega), nI_clamp (by omega)]
    show some ((am_upI (am_upI S.1 125 (tc % 40) x) 95 36 ((am_upI S.1 125 (tc % 40) x) 95 36 + 1), S.2) : AmT) = _
    rw [am_upI_ne (by decide), e0, nI_1]
  rw [e2, bind_at]
  exact H _ h2
def Mfr (m m' : Mem) : Prop := (∀ o, o ≠ 95 → o ≠ 125 → o ≠ 127 → o ≠ 128 → m' o = m o) ∧ ∀ j, j ≠ 36 → j ≠ 40 → j ≠ 41 → m' 95 j = m 95 j
theorem Mfr_nt {m : Mem} {i : Nat} {x y : Int32} : Mfr m (am_upI (am_upI m 125 i x) 95 36 y) := ⟨fun o o1 o2 _ _ => by rw [am_upI_ne o1, am_upI_ne o2], fun j j1 _ _ => by rw [am_upI_at, pk_un j1, am_upI_ne (by decide)]⟩
theorem Mfr_trans {m m' m'' : Mem} (h : Mfr m m') (h' : Mfr m' m'') : Mfr m m'' := ⟨fun o a b c d => (h'.1 o a b c d).trans (h.1 o a b c d), fun j a b c => (h'.2 j a b c).trans (h.2 j a b c)⟩
-- the same, of grids alone
abbrev Gr : Type := Nat × Nat × (Nat → Nat → List Lf)
def bnd1 (k ax : Nat) (X : Gr) : Option Gr := if an ax X.1 X.2.1 % (k + 1) = 0 then some (bR ax k (an ax X.1 X.2.1 / (k + 1)) X.1, bC ax k (an ax X.1 X.2.1 / (k + 1)) X.2.1, bG ax k (an ax X.1 X.2.1 / (k + 1)) X.2.2) else none
def absP (k ax : Nat) (X : Gr) : Option Gr := if k = 0 then some X else if k = 4 then (bnd1 3 ax X).bind (bnd1 1 ax) else bnd1 k ax X
def absF (A : Mem) : Nat → Nat → Gr → Option Gr
  | 0, _, _ => none
  | D + 1, f, X => if A 33 f = 5 then (absF A D (A 37 f).toNatClampNeg X).bind (absF A D (A 39 f).toNatClampNeg) else absP (A 33 f).toNatClampNeg (A 35 f).toNatClampNeg X
/-- one plain fold with its note -/
theorem jb {N : Nat × Nat} {F : Nat} (hF : 6000 ≤ F) {k ax sr sc R C tc : Nat} {G : Nat → Nat → List Lf} {S : AmT} (hk : 1 ≤ k ∧ k ≤ 3) (hax : ax ≤ 1) (h : CS N S sr sc R C G) (ht : S.1 5 1 = nI tc) (htc : tc < 2000000) :
    ∃ v S' sr' sc' R' C' G', cfn F k (nI ax) S = some (v, S') ∧ Sf S S' ∧ S'.1 5 1 = nI (tc + 1) ∧ ((v = -17 ∧ bnd1 k ax (R, C, G) = none) ∨ (v = 1 ∧ CS N S' sr' sc' R' C' G' ∧ bnd1 k ax (R, C, G) = some (R', C', G'))) ∧ ∀ (S1 : AmT) (W : Mem) (Sm : AmT) (m : Mem), My S1 Sm m W → MR m R C G → TR S m tc → MG S1 W ((f233 F (nI (k + 1)) Sm).bind fun S2 => f238 F (nI k) (nI ax) S2) (fun v' m2 => Mfr m m2 ∧ TR S' m2 (tc + 1) ∧ ((v = -17 ∧ v' = 0) ∨ (v = 1 ∧ v' = 1 ∧ MR m2 R' C' G'))) := by
  obtain ⟨S', s1, s2, s3⟩ := c_bend hF hk hax h ht htc
  have e51 : S'.1 5 1 = nI (tc + 1) := by rw [s2.2, pk_us]
  obtain ⟨-, -, -, -, c5, c6, -, -⟩ := id h
  rcases s3 with ⟨q, e⟩ | ⟨q, e, sr', sc', hc'⟩
  · refine ⟨-17, S', 0, 0, 0, 0, G, e, s1, e51, Or.inl ⟨rfl, if_neg q⟩, fun S1 W Sm m hy hm htr => ?_⟩
    refine MG_233 hy htr.2.1 htc fun S2 h2 => ?_
    refine m_bend hF hk hax ⟨by omega, by omega⟩ h2 (MR_congr (by simp only [am_upI_at, am_upI_ne, pk_us, pk_un, ne_eq, Nat.reduceEqDiff, not_false_eq_true]) (by simp only [am_upI_at, am_upI_ne, pk_us, pk_un, ne_eq, Nat.reduceEqDiff, not_false_eq_true]) (by simp only [am_upI_at, am_upI_ne, pk_us, pk_un, ne_eq, Nat.reduceEqDiff, not_false_eq_true]) (by simp only [am_upI_at, am_upI_ne, pk_us, pk_un, ne_eq, Nat.reduceEqDiff, not_false_eq_true]) hm) (fun z => absurd z q) (fun _ => ⟨Mfr_nt, TR_nt htr s2, Or.inl ⟨rfl, rfl⟩⟩) (fun z => absurd z q)
  · refine ⟨1, S', sr', sc', _, _, _, e, s1, e51, Or.inr ⟨rfl, hc', if_pos q⟩, fun S1 W Sm m hy hm htr => ?_⟩
    refine MG_233 hy htr.2.1 htc fun S2 h2 => ?_
    refine m_bend hF hk hax ⟨by omega, by omega⟩ h2 (MR_congr (by simp only [am_upI_at, am_upI_ne, pk_us, pk_un, ne_eq, Nat.reduceEqDiff, not_false_eq_true]) (by simp only [am_upI_at, am_upI_ne, pk_us, pk_un, ne_eq, Nat.reduceEqDiff, not_false_eq_true]) (by simp only [am_upI_at, am_upI_ne, pk_us, pk_un, ne_eq, Nat.reduceEqDiff, not_false_eq_true]) (by simp only [am_upI_at, am_upI_ne, pk_us, pk_un, ne_eq, Nat.reduceEqDiff, not_false_eq_true]) hm) (fun _ => ok_of hk (CS_GL h) (CS_GL hc')) (fun z => absurd q z) (fun _ m' a1 a2 a3 => ⟨Mfr_trans Mfr_nt ⟨fun o o1 o2 o3 o4 => a1 o o1 o3 o4, fun j j1 j2 j3 => a2 j j2 j3⟩, TR_m (TR_nt htr s2) (a2 36 (by decide) (by decide)) (a1 125 (by decide) (by decide) (by decide)), Or.inr ⟨rfl, rfl, a3⟩⟩)
