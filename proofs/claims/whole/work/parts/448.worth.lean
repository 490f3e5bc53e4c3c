/-! calls: worth, creep -/
def cmb (e : Nat) (v x : Int32) : Int32 := if e = 0 then v * x else v + x
def wrt (A : Mem) (e f : Nat) : Int32 := if e = 0 then A 43 f else A 45 f
def Wq (m m' : Mem) (w : Nat) : Prop := (∀ o, o ≠ 95 → o ≠ 126 → m' o = m o) ∧ (∀ j, j ≠ 39 → m' 95 j = m 95 j) ∧ m' 95 39 = nI w ∧ ∀ i, i < w → m' 126 i = m 126 i
theorem MG_230 {F : Nat} {S1 S : AmT} {m W : Mem} {w : Nat} {x : Int32} {K : AmT → Option (Int32 × AmT)} {Q : Int32 → Mem → Prop} (h : My S1 S m W) (hw : m 95 39 = nI w) (hw2 : w < 64) (H : ∀ S', My S1 S' (am_upI (am_upI m 126 w x) 95 39 (nI (w + 1))) W → MG S1 W (K S') Q) : MG S1 W ((f230 F x S).bind K) Q := by
  have e0 : S.1 95 39 = nI w := (My_rd h (Or.inl rfl)).trans hw
  have h1 := My_up (k := 126) (i := w) (x := x) h (Or.inr (Or.inl (by omega)))
  have e1 : (am_upI S.1 126 w x) 95 39 = nI w := by rw [am_upI_ne (by decide), e0]
  have h2 := My_up (k := 95) (i := 39) (x := nI (w + 1)) h1 (Or.inl rfl)
  have e2 : f230 F x S = some (am_upI (am_upI S.1 126 w x) 95 39 (nI (w + 1)), S.2) := by
    unfold f230
    rw [e0, ck_at hw2 (by omega), nI_clamp (by omega)]
    show some ((am_upI (am_upI S.1 126 w x) 95 39 ((am_upI S.1 126 w x) 95 39 + 1), S.2) : AmT) = _
    rw [e1, nI_1]
  rw [e2, bind_at]
  exact H _ h2
theorem wk_pop {F n : Nat} {S1 S : AmT} {m W : Mem} {w f e : Nat} {v : Int32} {Q : Int32 → Mem → Prop} (h : My S1 S m W) (hw : m 95 39 = nI (w + 1)) (hw2 : w < 64) (hf2 : f < 16) (hf : m 126 w = nI f)
    (H : ∀ S5, My S1 S5 (am_upI m 95 39 (nI w)) W → MG S1 W (if m 103 f = 5 then ((f230 F (m 106 f) S5).bind fun S14 => ((f230 F (m 105 f) S14).bind fun S15 => g231_20 F n (nI e) v S15)) else (if nI e = 0 then (if m 103 f = 0 then g231_20 F n (nI e) (v * 1) S5 else (if m 103 f = 2 then g231_20 F n (nI e) (v * 3) S5 else (if m 103 f = 4 then g231_20 F n (nI e) (v * 4) S5 else g231_20 F n (nI e) (v * 2) S5))) else (if m 103 f = 0 then g231_20 F n (nI e) (v + 0) S5 else (if m 103 f = 3 then g231_20 F n (nI e) (v + 2) S5 else (if m 103 f = 4 then g231_20 F n (nI e) (v + 3) S5 else g231_20 F n (nI e) (v + 1) S5))))) Q) : MG S1 W (g231_20 F (n + 1) (nI e) v S) Q := by
  have e0 : S.1 95 39 = nI (w + 1) := (My_rd h (Or.inl rfl)).trans hw
  have e00 : nI (w + 1) - 1 = nI w := nI_sub (a := w + 1) (b := 1) (by omega)
  unfold g231_20
  rw [e0, if_neg (nI_nle (by omega) (by omega)), e00]
  refine MG_up h (Or.inl rfl) fun S5 h5 => ?_
  have e1 : S5.1 95 39 = nI w := (My_rd h5 (Or.inl rfl)).trans (by simp only [am_upI_at, am_upI_ne, pk_us, pk_un, ne_eq, Nat.reduceEqDiff, not_false_eq_true])
  have e2 : S5.1 126 w = nI f := (My_rd h5 (Or.inr (Or.inl (by omega)))).trans (by simp only [am_upI_at, am_upI_ne, pk_us, pk_un, ne_eq, Nat.reduceEqDiff, not_false_eq_true]; exact hf)
  have e3 : S5.1 103 f = m 103 f := (My_rd h5 (mi_h hf2)).trans (by simp only [am_upI_at, am_upI_ne, pk_us, pk_un, ne_eq, Nat.reduceEqDiff, not_false_eq_true])
  have e4 : S5.1 106 f = m 106 f := (My_rd h5 (mi_h hf2)).trans (by simp only [am_upI_at, am_upI_ne, pk_us, pk_un, ne_eq, Nat.reduceEqDiff, not_false_eq_true])
  rw [e1, ck_at hw2 (by omega), nI_clamp (n := w) (by omega), e2, ck_at (by omega) (by omega), ck_at (by omega) (by omega), nI_clamp (n := f) (by omega), e3, e4]
  have := H S5 h5
  by_cases q : m 103 f = 5
  · rw [if_pos q] at this ⊢
    have e5 : f230 F (m 106 f) S5 = some (am_upI (am_upI S5.1 126 w (m 106 f)) 95 39 (nI w + 1), S5.2) := by
      unfold f230
      rw [e1, ck_at hw2 (by omega), nI_clamp (by omega)]
      show some ((am_upI (am_upI S5.1 126 w (m 106 f)) 95 39 ((am_upI S5.1 126 w (m 106 f)) 95 39 + 1), S5.2) : AmT) = _
      rw [show (am_upI S5.1 126 w (m 106 f)) 95 39 = nI w from by rw [am_upI_ne (by decide), e1]]
    rw [e5, bind_at] at this ⊢
    have e6 : S5.1 105 f = m 105 f := (My_rd h5 (mi_h hf2)).trans (by simp only [am_upI_at, am_upI_ne, pk_us, pk_un, ne_eq, Nat.reduceEqDiff, not_false_eq_true])
    rw [ck_at (by omega) (by omega), show (((am_upI (am_upI S5.1 126 w (m 106 f)) 95 39 (nI w + 1), S5.2) : AmT).1 105 f) = m 105 f from by
      show am_upI (am_upI S5.1 126 w (m 106 f)) 95 39 (nI w + 1) 105 f = _
      rw [am_upI_ne (by decide), am_upI_ne (by decide), e6]]
    exact this
  · rw [if_neg q] at this ⊢
    exact this
theorem wk {F : Nat} {S1 : AmT} {A m0 W : Mem} {nj nf ns ng nb e : Nat} {Q : Int32 → Mem → Prop} (hC : Cur A m0 nj nf ns ng nb) (he : e ≤ 1) : ∀ (f u : Nat), f < nf → A 41 f = nI u → u ≤ 8 → ∀ (w n : Nat) (v : Int32) (S : AmT) (m : Mem), w + u ≤ 64 → My S1 S m W → (∀ o, 96 ≤ o → o ≤ 124 → m o = m0 o) → m 95 39 = nI (w + 1) → m 126 w = nI f → (∀ S' m', My S1 S' m' W → Wq m m' w → MG S1 W (g231_20 F n (nI e) (cmb e v (wrt A e f)) S') Q) → MG S1 W (g231_20 F (n + (2 * u - 1)) (nI e) v S) Q := by
  intro f
  induction f using Nat.strongRecOn with
  | ind f ih =>
    intro u hf hu hu8 w n v S m hwu h hm hw hfw H
    obtain ⟨hn, ⟨a1, a2, a3, a4, a5⟩, fd⟩ := Cur_fold hC hf
    rcases fd with ⟨k, x, h1, h2, h3, h4, h5, h6, h7, h8, h9⟩ | ⟨p, q, u1, u2, h1, h2, h3, h3a, h3b, h4, h5, h6, h7, h8, h9, h10, h11, h12⟩
    · have hu1 : u = 1 := by
        rw [h7] at hu
        exact ((nI_eq (a := 1) (by omega) (by omega)).mp hu).symm
      subst hu1
      have e3 : m 103 f = nI k := by rw [hm 103 (by omega) (by omega), ← a1, h3]
      refine wk_pop h hw (by omega) (by omega) hfw fun S5 h5' => ?_
      have hq : Wq m (am_upI m 95 39 (nI w)) w := ⟨fun o o1 o2 => am_upI_ne o1, fun j hj => by rw [am_upI_at, pk_un hj], by rw [am_upI_at, pk_us], fun i hi => by rw [am_upI_ne (by decide)]⟩
      have := H S5 _ h5' hq
      rw [e3]
      unfold cmb wrt at this
      rw [h8, h9] at this
      rcases (show e = 0 ∨ e = 1 by omega) with rfl | rfl
      · rcases (show k = 0 ∨ k = 1 ∨ k = 2 ∨ k = 3 ∨ k = 4 by omega) with rfl | rfl | rfl | rfl | rfl <;> exact this
      · rcases (show k = 0 ∨ k = 1 ∨ k = 2 ∨ k = 3 ∨ k = 4 by omega) with rfl | rfl | rfl | rfl | rfl <;> exact this
    · have hu1 : u = u1 + u2 := by
        rw [h10] at hu
        exact ((nI_eq (by omega) (by omega)).mp hu).symm
      subst hu1
      have e3 : m 103 f = 5 := by rw [hm 103 (by omega) (by omega), ← a1, h4]
      have e5 : m 105 f = nI p := by rw [hm 105 (by omega) (by omega), ← a3, h6]
      have e6 : m 106 f = nI q := by rw [hm 106 (by omega) (by omega), ← a4, h7]
      rw [show n + (2 * (u1 + u2) - 1) = (n + (2 * u2 - 1) + (2 * u1 - 1)) + 1 by omega]
      refine wk_pop h hw (by omega) (by omega) hfw fun S5 h5' => ?_
      rw [if_pos e3, e5, e6]
      refine MG_230 (w := w) h5' (by simp only [am_upI_at, am_upI_ne, pk_us, pk_un, ne_eq, Nat.reduceEqDiff, not_false_eq_true]) (by omega) fun S6 h6' => ?_
      refine MG_230 (w := w + 1) h6' (by simp only [am_upI_at, am_upI_ne, pk_us, pk_un, ne_eq, Nat.reduceEqDiff, not_false_eq_true]) (by omega) fun S7 h7' => ?_
      refine ih p h1 u1 (by omega) h8 (by omega) (w + 1) (n + (2 * u2 - 1)) v S7 _ (by omega) h7' (fun o o1 o2 => ?_) (by simp only [am_upI_at, am_upI_ne, pk_us, pk_un, ne_eq, Nat.reduceEqDiff, not_false_eq_true]) ?_ fun S8 m8 h8' hq8 => ?_
      · rw [am_upI_ne (by omega), am_upI_ne (by omega), am_upI_ne (by omega), am_upI_ne (by omega), am_upI_ne (by omega), hm o o1 o2]
      · simp only [am_upI_at, am_upI_ne, pk_us, pk_un, ne_eq, Nat.reduceEqDiff, not_false_eq_true]
      · refine ih q h2 u2 (by omega) h9 (by omega) w n _ S8 m8 (by omega) h8' (fun o o1 o2 => ?_) hq8.2.2.1 ?_ fun S9 m9 h9' hq9 => ?_
        · rw [hq8.1 o (by omega) (by omega), am_upI_ne (by omega), am_upI_ne (by omega), am_upI_ne (by omega), am_upI_ne (by omega), am_upI_ne (by omega), hm o o1 o2]
        · rw [hq8.2.2.2 w (by omega)]
          rw [am_upI_ne (by decide), am_upI_at, pk_un (by omega), am_upI_ne (by decide), am_upI_at, pk_us]
        · have hq : Wq m m9 w := by
            refine ⟨fun o o1 o2 => ?_, fun j hj => ?_, hq9.2.2.1, fun i hi => ?_⟩
            · rw [hq9.1 o o1 o2, hq8.1 o o1 o2, am_upI_ne o1, am_upI_ne o2, am_upI_ne o1, am_upI_ne o2, am_upI_ne o1]
            · rw [hq9.2.1 j hj, hq8.2.1 j hj, am_upI_at, pk_un hj, am_upI_ne (by decide), am_upI_at, pk_un hj, am_upI_ne (by decide), am_upI_at, pk_un hj]
            · rw [hq9.2.2.2 i hi, hq8.2.2.2 i (by omega), am_upI_ne (by decide), am_upI_at, pk_un (by omega), am_upI_ne (by decide), am_upI_at, pk_un (by omega), am_upI_ne (by decide)]
          have := H S9 m9 h9' hq
          have ec : cmb e (cmb e v (wrt A e p)) (wrt A e q) = cmb e v (wrt A e f) := by
            unfold cmb wrt
            by_cases q0 : e = 0
            · simp only [if_pos q0]
              rw [h11, Int32.mul_assoc]
            · simp only [if_neg q0]
              rw [h12, Int32.add_assoc]
          rw [ec]
          exact this
/-- worthOf() -/
theorem MG_231 {F : Nat} (hF : 6000 ≤ F) {S1 S : AmT} {A m0 m W : Mem} {nj nf ns ng nb e f : Nat} {K : Int32 → AmT → Option (Int32 × AmT)} {Q : Int32 → Mem → Prop} (hC : Cur A m0 nj nf ns ng nb) (he : e ≤ 1) (hf : f < nf) (h : My S1 S m W) (hm : ∀ o, 96 ≤ o → o ≤ 124 → m o = m0 o) (H : ∀ S' m', My S1 S' m' W → (∀ o, o ≠ 95 → o ≠ 126 → m' o = m o) → (∀ j, j ≠ 39 → m' 95 j = m 95 j) → MG S1 W (K (wrt A e f) S') Q) : MG S1 W (am_b2 (f231 F (nI f) (nI e) S) K) Q := by
  obtain ⟨hn, -, fd⟩ := Cur_fold hC hf
  obtain ⟨u, hu1, hu2, eu⟩ := FD_many fd
  have key : ∀ s0 : Int32, cmb e s0 (wrt A e f) = wrt A e f → MG S1 W (am_b2 (g231_9 F (nI f) (nI e) s0 S) K) Q := by
    intro s0 hs0
    refine MG_b2 (Q1 := fun v m' => v = wrt A e f ∧ (∀ o, o ≠ 95 → o ≠ 126 → m' o = m o) ∧ ∀ j, j ≠ 39 → m' 95 j = m 95 j) ?_ (fun v S' m' h' hq => by
      obtain ⟨rfl, q1, q2⟩ := hq
      exact H S' m' h' q1 q2)
    unfold g231_9
    refine MG_up h (Or.inl rfl) fun S2 h2 => ?_
    refine MG_230 (w := 0) h2 (by simp only [am_upI_at, am_upI_ne, pk_us, pk_un, ne_eq, Nat.reduceEqDiff, not_false_eq_true]; exact nI_0.symm) (by omega) fun S3 h3 => ?_
    obtain ⟨n, rfl⟩ : ∃ n, F = (n + 1) + (2 * u - 1) := ⟨F - (2 * u - 1) - 1, by omega⟩
    refine wk hC he f u hf eu hu2 0 (n + 1) s0 S3 _ (by omega) h3 (fun o o1 o2 => ?_) (by simp only [am_upI_at, am_upI_ne, pk_us, pk_un, ne_eq, Nat.reduceEqDiff, not_false_eq_true]) (by simp only [am_upI_at, am_upI_ne, pk_us, pk_un, ne_eq, Nat.reduceEqDiff, not_false_eq_true]) fun S4 m4 h4 hq => ?_
    · rw [am_upI_ne (by omega), am_upI_ne (by omega), am_upI_ne (by omega), hm o o1 o2]
    · unfold g231_20
      rw [My_rd h4 (Or.inl rfl), hq.2.2.1, if_pos (by rw [nI_0]; exact Int32.le_refl _), hs0]
      refine MG_ret h4 ⟨rfl, fun o o1 o2 => ?_, fun j hj => ?_⟩
      · rw [hq.1 o o1 o2, am_upI_ne o1, am_upI_ne o2, am_upI_ne o1]
      · rw [hq.2.1 j hj, am_upI_at, pk_un hj, am_upI_ne (by decide), am_upI_at, pk_un hj]
  unfold f231
  rcases (show e = 0 ∨ e = 1 by omega) with rfl | rfl
  · rw [if_pos nI_0]
    exact key 1 (by unfold cmb; rw [if_pos rfl]; exact Int32.one_mul _)
  · rw [if_neg (by decide)]
    exact key 0 (by unfold cmb; rw [if_neg (by omega)]; exact Int32.zero_add _)
theorem st_worth {F : Nat} (hF : 6000 ≤ F) (x1 x2 : Int32) : FpStep (f158 F x1 x2) (f232 F x1 x2) := by
  refine Fp_of fun S t ht hR => ?_
  obtain ⟨nj, nf, ns, ng, nb, hC⟩ := Rel_z hR
  have hn := hC.2.1.1
  unfold f158 f232
  refine RG_g1 (Gd_fold hC) hR ?_
  rintro ⟨f, hf, rfl⟩
  refine RG_g1 (Gd_in 0 1 rfl rfl (by omega)) hR ?_
  rintro ⟨e, -, he, rfl⟩
  refine RG_qq hR ⟨wrt S.1 e f, S, S.1, ?_, Kq_0 S, fun h0 => ?_⟩
  · unfold f23 f24 wrt
    rcases (show e = 0 ∨ e = 1 by omega) with rfl | rfl
    · rw [if_pos nI_0, b2_at, kg_at (by omega) (by omega), if_pos rfl]
    · rw [if_neg (by decide), b2_at, kg_at (by omega) (by omega), if_neg (by omega)]
  · refine MG_231 hF hC he hf h0 (fun _ _ _ => rfl) fun S' m' h' q1 q2 => ?_
    refine MG_ret h' ⟨rfl, fun o o1 o2 => q1 o (by omega) (by omega), ?_, q2 29 (by omega)⟩
    exact Tl_mono (Tl_congr (Tl_of hR.2.1) rfl rfl (fun j j1 j2 => q2 j (by omega)) (q1 125 (by omega) (by omega))) (by omega)
theorem st_creep {F : Nat} (hF : 6000 ≤ F) (x1 x2 x3 : Int32) : FpStep (f175 F x1 x2 x3) (f273 F x1 x2 x3) := by
  refine Fp_of fun S t ht hR => ?_
  obtain ⟨nj, nf, ns, ng, nb, hC⟩ := Rel_z hR
  have hn := hC.2.1.1
  have hng := hC.2.2.2.1.1
  unfold f175 f273
  refine RG_g1 (Gd_sig hC) hR ?_
  rintro ⟨g, hg, rfl⟩
  refine RG_g1 (Gd_fold hC) hR ?_
  rintro ⟨f, hf, rfl⟩
  obtain ⟨-, -, -, ⟨-, -, -, -, -, -, -, g8, -, g10, -, -⟩, -⟩ := id hC
  obtain ⟨hway, c, hc, e75, -⟩ := g10 g hg
  have e120 : ∀ S1, fr S S1 → S1.1 120 g = nI c := fun S1 h => by rw [h 120 (by omega), ← mz_at (I := S.1) (k := 120) (mi_h (by show g < 4; omega)), ← (g8 g (by omega)).2.1, e75]
  have e119 : ∀ S1, fr S S1 → S1.1 119 g = S.1 73 g := fun S1 h => by rw [h 119 (by omega), ← mz_at (I := S.1) (k := 119) (mi_h (by show g < 4; omega)), ← (g8 g (by omega)).1]
  have hmod : ∀ S1, fr S S1 → (am_ck (nI g) 8 (am_b2 (f197 F x3 0 ((S1.1 120 (nI g).toNatClampNeg) - 1) S1) fun v7 S8 => if v7 = 0 then (am_b2 (f203 F 2 S8) fun v13 S14 => some (v13, S14)) else (am_ck (nI g) 8 (if (S8.1 119 (nI g).toNatClampNeg) = 1 then (am_b2 (f231 F (nI f) 0 S8) fun v11 S12 => some ((x3 * v11), S12)) else (some (0, S8)))))) = (if x3 < 0 then (am_b2 (f203 F 2 S1) fun v13 S14 => some (v13, S14)) else if nI c ≤ x3 then (am_b2 (f203 F 2 S1) fun v13 S14 => some (v13, S14)) else if S.1 73 g = 1 then (am_b2 (f231 F (nI f) 0 S1) fun v11 S12 => some ((x3 * v11), S12)) else some (0, S1)) := by
    intro S1 h
    rw [ck_at (by omega) (by omega), nI_clamp (by omega), e120 S1 h, f197_eq, b2_at, ck_at (by omega) (by omega)]
    by_cases c1 : x3 < 0
    · rw [if_pos c1, if_pos c1]
      rfl
    · rw [if_neg c1, if_neg c1]
      by_cases c2 : nI c ≤ x3
      · rw [if_pos ((i32_m1 (by omega)).mpr c2), if_pos c2]
        rfl
      · rw [if_neg (fun z => c2 ((i32_m1 (by omega)).mp z)), if_neg c2, if_neg (by decide), e119 S1 h]
  refine RG_m hmod ?_
  refine RG_ite (fun S1 _ => Iff.rfl) (fun h => ?_) (fun h => ?_)
  · exact RG_f hR (by decide) (by decide) (by decide)
  unfold f4
  rw [b2_at, kg_at (by omega) (by omega), e75]
  by_cases c2 : x3 < nI c
  case neg =>
    refine RG_mp (fun S1 _ => Int32.not_lt.mp c2) ?_
    rw [if_neg c2]
    exact RG_f hR (by decide) (by decide) (by decide)
  refine RG_mn (fun S1 _ => Int32.not_le.mpr c2) ?_
  rw [if_pos c2]
  unfold f5
  rw [kg_at (by omega) (by omega)]
  by_cases c3 : S.1 73 g = 1
  case neg =>
    refine RG_mn (fun S1 _ => c3) ?_
    rw [if_neg c3, b2_at, if_pos rfl]
    exact RG_ret hR
  refine RG_mp (fun S1 _ => c3) ?_
  rw [if_pos c3, b2_at, if_neg (by decide)]
  refine RG_qq hR ⟨x3 * wrt S.1 0 f, S, S.1, ?_, Kq_0 S, fun h0 => ?_⟩
  · unfold f23 wrt
    rw [b2_at, kg_at (by omega) (by omega), if_pos rfl]
  · refine MG_231 (e := 0) hF hC (by omega) hf h0 (fun _ _ _ => rfl) fun S' m' h' q1 q2 => ?_
    refine MG_ret h' ⟨rfl, fun o o1 o2 => q1 o (by omega) (by omega), ?_, q2 29 (by omega)⟩
    exact Tl_mono (Tl_congr (Tl_of hR.2.1) rfl rfl (fun j j1 j2 => q2 j (by omega)) (q1 125 (by omega) (by omega))) (by omega)
