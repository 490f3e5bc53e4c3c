/-! folding: a whole fold, in both -/
def Wx (m m' : Mem) : Prop := (∀ o, o ≠ 95 → o ≠ 125 → o ≠ 126 → o ≠ 127 → o ≠ 128 → m' o = m o) ∧ ∀ j, j ≠ 36 → j ≠ 39 → j ≠ 40 → j ≠ 41 → m' 95 j = m 95 j
theorem Wx_trans {m m' m'' : Mem} (h : Wx m m') (h' : Wx m' m'') : Wx m m'' := ⟨fun o a b c d e => (h'.1 o a b c d e).trans (h.1 o a b c d e), fun j a b c d => (h'.2 j a b c d).trans (h.2 j a b c d)⟩
theorem Wx_f {m m' : Mem} (h : Mfr m m') : Wx m m' := ⟨fun o a b _ c d => h.1 o a b c d, fun j a _ b c => h.2 j a b c⟩
theorem Wx_39 {m : Mem} {x : Int32} : Wx m (am_upI m 95 39 x) := ⟨fun o a _ _ _ _ => am_upI_ne a, fun j _ a _ _ => by rw [am_upI_at, pk_un a]⟩
theorem Wx_126 {m : Mem} {i : Nat} {x : Int32} : Wx m (am_upI m 126 i x) := ⟨fun o _ _ a _ _ => am_upI_ne a, fun j _ _ _ _ => by rw [am_upI_ne (by decide)]⟩
theorem fw_pop {F n : Nat} {S1 S : AmT} {m W : Mem} {w f : Nat} {Q : Int32 → Mem → Prop} (h : My S1 S m W) (hw : m 95 39 = nI (w + 1)) (hw2 : w < 64) (hf2 : f < 16) (hf : m 126 w = nI f)
    (H : ∀ S5, My S1 S5 (am_upI m 95 39 (nI w)) W → MG S1 W (if m 103 f = 5 then ((f233 F 6 S5).bind fun S12 => ((f230 F (S12.1 106 f) S12).bind fun S13 => ((f230 F (S13.1 105 f) S13).bind fun S14 => g240_16 F n S14))) else (am_b2 (f239 F (nI f) S5) fun v9 S10 => if v9 = 0 then (some (7, S10)) else g240_16 F n S10)) Q) : MG S1 W (g240_16 F (n + 1) S) Q := by
  have e0 : S.1 95 39 = nI (w + 1) := (My_rd h (Or.inl rfl)).trans hw
  have e00 : nI (w + 1) - 1 = nI w := nI_sub (a := w + 1) (b := 1) (by omega)
  unfold g240_16 g240_98
  rw [e0, if_neg (nI_nle (by omega) (by omega)), e00]
  refine MG_up h (Or.inl rfl) fun S5 h5 => ?_
  have e1 : S5.1 95 39 = nI w := (My_rd h5 (Or.inl rfl)).trans (by simp only [am_upI_at, am_upI_ne, pk_us, pk_un, ne_eq, Nat.reduceEqDiff, not_false_eq_true])
  have e2 : S5.1 126 w = nI f := (My_rd h5 (Or.inr (Or.inl (by omega)))).trans (by simp only [am_upI_at, am_upI_ne, pk_us, pk_un, ne_eq, Nat.reduceEqDiff, not_false_eq_true]; exact hf)
  have e3 : S5.1 103 f = m 103 f := (My_rd h5 (mi_h hf2)).trans (by simp only [am_upI_at, am_upI_ne, pk_us, pk_un, ne_eq, Nat.reduceEqDiff, not_false_eq_true])
  rw [e1, ck_at hw2 (by omega), nI_clamp (n := w) (by omega), e2, ck_at (by omega) (by omega), nI_clamp (n := f) (by omega), e3]
  have := H S5 h5
  have ck : ∀ K : Option (Int32 × AmT), am_ck (nI f) 32 K = K := fun K => ck_at (by omega) (by omega)
  simp only [ck]
  exact this
/-- folds(): a plain fold of the model, where the class has made it -/
def fdq (v : Int32) (S' : AmT) (tc' : Nat) (R' C' : Nat) (G' : Nat → Nat → List Lf) (m : Mem) (v' : Int32) (m2 : Mem) : Prop := Mfr m m2 ∧ TR S' m2 tc' ∧ ((v = -17 ∧ v' = 0) ∨ (v = 1 ∧ v' = 1 ∧ MR m2 R' C' G'))
theorem fp {N : Nat × Nat} {F : Nat} (hF : 6000 ≤ F) {A m0 : Mem} {k ax f D dep sr sc R C tc : Nat} {G : Nat → Nat → List Lf} {S : AmT} (hf : f < 16) (hk : k ≤ 4) (hax : ax ≤ 1) (a33 : S.1 33 f = nI k) (a35 : S.1 35 f = nI ax) (m103 : m0 103 f = nI k) (m104 : m0 104 f = nI ax) (hdep : dep ≤ 8) (h : CS N S sr sc R C G) (ht : S.1 5 1 = nI tc) (htc : tc + 4 ≤ 2000000) :
    ∃ v S' tc' sr' sc' R' C' G', f30 F (D + 1) (nI f) (nI dep) S = some (v, S') ∧ Sf S S' ∧ S'.1 5 1 = nI tc' ∧ tc' ≤ tc + 3 ∧ ((v = -17 ∧ absP k ax (R, C, G) = none) ∨ (v = 1 ∧ CS N S' sr' sc' R' C' G' ∧ absP k ax (R, C, G) = some (R', C', G'))) ∧ ∀ (S1 : AmT) (W : Mem) (Sm : AmT) (m : Mem), My S1 Sm m W → (∀ o, 96 ≤ o → o ≤ 124 → m o = m0 o) → MR m R C G → TR S m tc → MG S1 W (f239 F (nI f) Sm) (fdq v S' tc' R' C' G' m) := by
  have ek : ∀ I : Mem, kg I 33 16 (nI f) = I 33 f := fun I => kg_at (by omega) (by omega)
  have ea : ∀ I : Mem, kg I 35 16 (nI f) = I 35 f := fun I => kg_at (by omega) (by omega)
  have r103 : ∀ {S1 : AmT} {W : Mem} {Sm : AmT} {m : Mem}, My S1 Sm m W → (∀ o, 96 ≤ o → o ≤ 124 → m o = m0 o) → Sm.1 103 f = nI k ∧ Sm.1 104 f = nI ax := fun hy hm => ⟨by rw [My_rd hy (mi_h hf), hm 103 (by omega) (by omega), m103], by rw [My_rd hy (mi_h hf), hm 104 (by omega) (by omega), m104]⟩
  unfold f30
  rw [if_pos (show nI dep ≤ (8 : Int32) from nI_le (b := 8) hdep (by omega)), ek, a33]
  simp only [ea, a35]
  rcases (show k = 0 ∨ (k = 1 ∨ k = 2 ∨ k = 3) ∨ k = 4 by omega) with rfl | hk3 | rfl
  · obtain ⟨f1, n1, u1⟩ := nt_ok (S := S) (tc := tc) (x := 1)
    refine ⟨1, (am_upI (am_upI S.1 6 (tc % 40) 1) 5 1 (nI (tc + 1)), S.2), tc + 1, sr, sc, R, C, G, ?_, f1, by rw [n1.2, pk_us], by omega, Or.inr ⟨rfl, CS_I (fun o o1 o2 => u1 o (by omega) (by omega)) h, rfl⟩, fun S1 W Sm m hy hm hmr htr => ?_⟩
    · rw [if_neg (by decide), if_neg (by decide), if_neg (by decide), if_neg (by decide), if_neg (by decide), f131_eq ht (by omega), bind_at]
    · unfold f239
      rw [ck_at (by omega) (by omega), ck_at (by omega) (by omega), nI_clamp (by omega), (r103 hy hm).1]
      refine MG_233 hy htr.2.1 (by omega) fun S2 h2 => ?_
      rw [if_pos (show nI 0 = 0 from rfl)]
      exact MG_ret h2 ⟨Mfr_nt, TR_nt htr n1, Or.inr ⟨rfl, rfl, MR_congr (by simp only [am_upI_at, am_upI_ne, pk_us, pk_un, ne_eq, Nat.reduceEqDiff, not_false_eq_true]) (by simp only [am_upI_at, am_upI_ne, pk_us, pk_un, ne_eq, Nat.reduceEqDiff, not_false_eq_true]) (by simp only [am_upI_at, am_upI_ne, pk_us, pk_un, ne_eq, Nat.reduceEqDiff, not_false_eq_true]) (by simp only [am_upI_at, am_upI_ne, pk_us, pk_un, ne_eq, Nat.reduceEqDiff, not_false_eq_true]) hmr⟩⟩
  · obtain ⟨v, S', sr', sc', R', C', G', e1, e2, e3, e4, e5⟩ := jb hF (k := k) (by omega) hax h ht (by omega)
    have eP : absP k ax (R, C, G) = bnd1 k ax (R, C, G) := by
      unfold absP
      rw [if_neg (by omega), if_neg (by omega)]
    rw [← eP] at e4
    refine ⟨v, S', tc + 1, sr', sc', R', C', G', ?_, e2, e3, by omega, e4, fun S1 W Sm m hy hm hmr htr => ?_⟩
    · rw [← e1, cfn_1, cfn_2, cfn_3, b2_id, b2_id, b2_id]
      rcases hk3 with rfl | rfl | rfl
      · rw [if_pos (show nI 1 = 1 from rfl)]
      · rw [if_neg (by decide), if_pos (show nI 2 = 2 from rfl)]
      · rw [if_neg (by decide), if_neg (by decide), if_pos (show nI 3 = 3 from rfl)]
    · have hj := e5 S1 W Sm m hy hmr htr
      unfold f239
      rw [ck_at (by omega) (by omega), ck_at (by omega) (by omega), nI_clamp (by omega), (r103 hy hm).1, (r103 hy hm).2, nI_1]
      have e0 : ¬ nI k = 0 := by rcases hk3 with rfl | rfl | rfl <;> decide
      have e4' : ¬ nI k = 4 := by rcases hk3 with rfl | rfl | rfl <;> decide
      simp only [if_neg e0, if_neg e4']
      obtain ⟨v', S2, m2, x1, x2, x3⟩ := hj
      cases hz : f233 F (nI (k + 1)) Sm with
      | none =>
        rw [hz] at x1
        exact absurd x1 (by simp)
      | some S3 =>
        rw [hz, bind_at] at x1
        rw [bind_at, x1, b2_at]
        have hv : v' = 0 ∨ v' = 1 := by
          rcases x3.2.2 with q | q
          · exact Or.inl q.2
          · exact Or.inr q.2.1
        rw [b01_at hv]
        exact MG_ret x2 x3
  · obtain ⟨f1, n1, u1⟩ := nt_ok (S := S) (tc := tc) (x := 5)
    have ef := f131_eq (F := F) (x := 5) ht (show tc < 2000000 by omega)
    revert f1 n1 u1 ef
    generalize ((am_upI (am_upI S.1 6 (tc % 40) 5) 5 1 (nI (tc + 1)), S.2) : AmT) = Sa
    intro f1 n1 u1 ef
    have h51 : Sa.1 5 1 = nI (tc + 1) := by rw [n1.2, pk_us]
    have a35' : ∀ S' : AmT, Sf Sa S' → S'.1 35 f = nI ax := fun S' hs => by rw [hs.2.1 35 (by omega) (by omega) (by omega), u1 35 (by omega) (by omega), a35]
    obtain ⟨v, S', sr', sc', R', C', G', e1, e2, e3, e4, e5⟩ := jb hF (k := 3) (by omega) hax (CS_I (fun o o1 o2 => u1 o (by omega) (by omega)) h) h51 (by omega)
    have hmod : ∀ {S1 : AmT} {W : Mem} {Sm : AmT} {m : Mem} {Q : Int32 → Mem → Prop}, My S1 Sm m W → (∀ o, 96 ≤ o → o ≤ 124 → m o = m0 o) → MR m R C G → TR S m tc → (∀ (v' : Int32) S6 m6, My S1 S6 m6 W → Mfr m m6 → TR S' m6 (tc + 2) → ((v = -17 ∧ v' = 0) ∨ (v = 1 ∧ v' = 1 ∧ MR m6 R' C' G')) → MG S1 W (if v' = 0 then some (0, S6) else ((f233 F 2 S6).bind fun S8 => am_b2 (f238 F 1 (nI ax) S8) fun v9 S10 => am_b01 v9 (some (v9, S10)))) Q) → MG S1 W (f239 F (nI f) Sm) Q := by
      intro S1 W Sm m Q hy hm hmr htr H
      unfold f239
      rw [ck_at (by omega) (by omega), ck_at (by omega) (by omega), nI_clamp (by omega), (r103 hy hm).1, (r103 hy hm).2]
      refine MG_233 hy htr.2.1 (by omega) fun S2 h2 => ?_
      rw [if_neg (by decide), if_pos (show nI 4 = 4 from rfl)]
      have htr2 : TR Sa (am_upI (am_upI m 125 (tc % 40) (nI 4 + 1)) 95 36 (nI (tc + 1))) (tc + 1) := TR_nt htr n1
      obtain ⟨v', S6, m6, x1, x2, x3⟩ := e5 S1 W S2 _ h2 (MR_congr (by simp only [am_upI_at, am_upI_ne, pk_us, pk_un, ne_eq, Nat.reduceEqDiff, not_false_eq_true]) (by simp only [am_upI_at, am_upI_ne, pk_us, pk_un, ne_eq, Nat.reduceEqDiff, not_false_eq_true]) (by simp only [am_upI_at, am_upI_ne, pk_us, pk_un, ne_eq, Nat.reduceEqDiff, not_false_eq_true]) (by simp only [am_upI_at, am_upI_ne, pk_us, pk_un, ne_eq, Nat.reduceEqDiff, not_false_eq_true]) hmr) htr2
      cases hz : f233 F 4 S2 with
      | none =>
        rw [show nI (3 + 1) = 4 from rfl, hz] at x1
        exact absurd x1 (by simp)
      | some S3 =>
        rw [show nI (3 + 1) = 4 from rfl, hz, bind_at] at x1
        rw [bind_at, show (3 : Int32) = nI 3 from rfl, x1, b2_at]
        exact H v' S6 m6 x2 (Mfr_trans Mfr_nt x3.1) x3.2.1 x3.2.2
    have hcl : (if nI 4 = 1 then (am_b2 (f72 F (nI ax) S) fun v3 S4 => some (v3, S4)) else if nI 4 = 2 then (am_b2 (f73 F (nI ax) S) fun v6 S7 => some (v6, S7)) else if nI 4 = 3 then (am_b2 (f74 F (nI ax) S) fun v9 S10 => some (v9, S10)) else if nI 4 = 4 then ((f131 F 5 S).bind fun S12 => am_b2 (f74 F (S12.1 35 f) S12) fun v13 S14 => if 0 ≤ v13 then (am_b2 (f72 F (S14.1 35 f) S14) fun v16 S17 => some (v16, S17)) else (some (v13, S14))) else if nI 4 = 5 then ((f131 F 6 S).bind fun S19 => am_b2 (f30 F D (kg S19.1 37 16 (nI f)) (nI dep + 1) S19) fun v20 S21 => if 0 ≤ v20 then (am_b2 (f30 F D (kg S21.1 39 16 (nI f)) (nI dep + 1) S21) fun v23 S24 => some (v23, S24)) else (some (v20, S21))) else ((f131 F 1 S).bind fun S25 => some (1, S25))) = if 0 ≤ v then cfn F 1 (nI ax) S' else some (v, S') := by
      rw [if_neg (by decide), if_neg (by decide), if_neg (by decide), if_pos (show nI 4 = 4 from rfl), ef, bind_at, a35' Sa (Sf_refl _), cfn_3, e1, b2_at, a35' S' e2, b2_id, cfn_1]
    rw [hcl]
    rcases e4 with ⟨hv, hab⟩ | ⟨hv, hc', hab⟩
    · refine ⟨v, S', tc + 2, sr', sc', R', C', G', ?_, Sf_trans f1 e2, e3, by omega, Or.inl ⟨hv, by show (bnd1 3 ax (R, C, G)).bind (bnd1 1 ax) = none; rw [hab]; rfl⟩, fun S1 W Sm m hy hm hmr htr => ?_⟩
      · rw [hv, if_neg (by decide)]
      · refine hmod hy hm hmr htr fun v' S6 m6 h6 x1 x2 x3 => ?_
        rcases x3 with ⟨-, rfl⟩ | ⟨z, -⟩
        · rw [if_pos rfl]
          exact MG_ret h6 ⟨x1, x2, Or.inl ⟨hv, rfl⟩⟩
        · rw [hv] at z
          exact absurd z (by decide)
    · obtain ⟨v2, S'', sr2, sc2, R2, C2, G2, y1, y2, y3, y4, y5⟩ := jb hF (k := 1) (by omega) hax hc' e3 (by omega)
      refine ⟨v2, S'', tc + 3, sr2, sc2, R2, C2, G2, ?_, Sf_trans f1 (Sf_trans e2 y2), y3, by omega, (show (v2 = -17 ∧ (bnd1 3 ax (R, C, G)).bind (bnd1 1 ax) = none) ∨ (v2 = 1 ∧ CS N S'' sr2 sc2 R2 C2 G2 ∧ (bnd1 3 ax (R, C, G)).bind (bnd1 1 ax) = some (R2, C2, G2)) from by rw [hab]; exact y4), fun S1 W Sm m hy hm hmr htr => ?_⟩
      · rw [hv, if_pos (by decide), y1]
      · refine hmod hy hm hmr htr fun v' S6 m6 h6 x1 x2 x3 => ?_
        rcases x3 with ⟨z, -⟩ | ⟨-, rfl, hmr6⟩
        · rw [hv] at z
          exact absurd z (by decide)
        · rw [if_neg (by decide)]
          obtain ⟨v3, S9, m9, z1, z2, z3⟩ := y5 S1 W S6 m6 h6 hmr6 x2
          cases hz : f233 F 2 S6 with
          | none =>
            rw [show nI (1 + 1) = 2 from rfl, hz] at z1
            exact absurd z1 (by simp)
          | some S3 =>
            rw [show nI (1 + 1) = 2 from rfl, hz, bind_at] at z1
            rw [bind_at, show (1 : Int32) = nI 1 from rfl, z1, b2_at]
            have hv3 : v3 = 0 ∨ v3 = 1 := by
              rcases z3.2.2 with q | q
              · exact Or.inl q.2
              · exact Or.inr q.2.1
            rw [b01_at hv3]
            exact MG_ret z2 ⟨Mfr_trans x1 z3.1, z3.2.1, z3.2.2⟩
/-- perform() and the model's stack -/
theorem fw {N : Nat × Nat} {F : Nat} (hF : 6000 ≤ F) {A m0 : Mem} {nj nf ns ng nb : Nat} (hC : Cur A m0 nj nf ns ng nb) : ∀ (f u : Nat), f < nf → A 41 f = nI u → u ≤ 8 → ∀ (D dep tc : Nat) (S : AmT) (sr sc R C : Nat) (G : Nat → Nat → List Lf), u ≤ D → dep + u ≤ 9 → (∀ o, 33 ≤ o → o ≤ 39 → S.1 o = A o) → CS N S sr sc R C G → S.1 5 1 = nI tc → tc + 4 * u ≤ 1900000 →
    ∃ v S' tc' sr' sc' R' C' G', f30 F D (nI f) (nI dep) S = some (v, S') ∧ Sf S S' ∧ S'.1 5 1 = nI tc' ∧ tc' + 1 ≤ tc + 4 * u ∧ ((v = -17 ∧ absF A D f (R, C, G) = none) ∨ (v = 1 ∧ CS N S' sr' sc' R' C' G' ∧ absF A D f (R, C, G) = some (R', C', G'))) ∧
      ∀ (S1 : AmT) (W : Mem) (Q : Int32 → Mem → Prop) (w n : Nat) (Sm : AmT) (m : Mem), w + u ≤ 64 → My S1 Sm m W → (∀ o, 96 ≤ o → o ≤ 124 → m o = m0 o) → m 95 39 = nI (w + 1) → m 126 w = nI f → MR m R C G → TR S m tc → (v = -17 → ∀ m2, Wx m m2 → TR S' m2 tc' → Q 7 m2) → (v = 1 → ∀ S2 m2, My S1 S2 m2 W → Wx m m2 → m2 95 39 = nI w → (∀ i, i < w → m2 126 i = m 126 i) → MR m2 R' C' G' → TR S' m2 tc' → MG S1 W (g240_16 F n S2) Q) → MG S1 W (g240_16 F (n + (2 * u - 1)) Sm) Q := by
  intro f
  induction f using Nat.strongRecOn with
  | ind f ih =>
    intro u hf hu hu8 D dep tc S sr sc R C G hD hdep hA hcs h51 htc
    obtain ⟨hn, ⟨a1, a2, a3, a4, a5⟩, fd⟩ := Cur_fold hC hf
    rcases fd with ⟨k, x, h1, h2, h3, h4, h5, h6, h7, h8, h9⟩ | ⟨p, q, u1, u2, h1, h2, h3, h3a, h3b, h4, h5, h6, h7, h8, h9, h10, h11, h12⟩
    · have hu1 : u = 1 := by
        rw [h7] at hu
        exact ((nI_eq (a := 1) (by omega) (by omega)).mp hu).symm
      subst hu1
      obtain ⟨D, rfl⟩ : ∃ D', D = D' + 1 := ⟨D - 1, by omega⟩
      obtain ⟨v, S', tc', sr', sc', R', C', G', e1, e2, e3, e4, e5, e6⟩ := fp (D := D) (f := f) hF (A := A) (m0 := m0) (by omega) h1 h2 (by rw [hA 33 (by omega) (by omega), h3]) (by rw [hA 35 (by omega) (by omega), h4]) (by rw [← a1, h3]) (by rw [← a2, h4]) (show dep ≤ 8 by omega) hcs h51 (by omega)
      have eF : absF A (D + 1) f (R, C, G) = absP k x (R, C, G) := by
        unfold absF
        rw [h3, h4, if_neg (fun z => by
          have := (nI_eq (b := 5) (by omega) (by omega)).mp z
          omega), nI_clamp (by omega), nI_clamp (by omega)]
      rw [← eF] at e5
      refine ⟨v, S', tc', sr', sc', R', C', G', e1, e2, e3, by omega, e5, fun S1 W Q w n Sm m hw hy hm h39 h126 hmr htr H1 H2 => ?_⟩
      refine fw_pop hy h39 (by omega) (by omega) h126 fun S5 hy5 => ?_
      have e103 : m 103 f = nI k := by rw [hm 103 (by omega) (by omega), ← a1, h3]
      rw [e103, if_neg (fun z => by
        have := (nI_eq (b := 5) (by omega) (by omega)).mp z
        omega)]
      refine MG_b2 (e6 S1 W S5 _ hy5 (fun o o1 o2 => by rw [am_upI_ne (by omega), hm o o1 o2]) (MR_congr (by simp only [am_upI_at, am_upI_ne, pk_us, pk_un, ne_eq, Nat.reduceEqDiff, not_false_eq_true]) (by simp only [am_upI_at, am_upI_ne, pk_us, pk_un, ne_eq, Nat.reduceEqDiff, not_false_eq_true]) (by simp only [am_upI_at, am_upI_ne, pk_us, pk_un, ne_eq, Nat.reduceEqDiff, not_false_eq_true]) (by simp only [am_upI_at, am_upI_ne, pk_us, pk_un, ne_eq, Nat.reduceEqDiff, not_false_eq_true]) hmr) (TR_m htr (by simp only [am_upI_at, am_upI_ne, pk_us, pk_un, ne_eq, Nat.reduceEqDiff, not_false_eq_true]) (by simp only [am_upI_at, am_upI_ne, pk_us, pk_un, ne_eq, Nat.reduceEqDiff, not_false_eq_true]))) fun v' S6 m6 hy6 hq => ?_
      obtain ⟨q1, q2, q3⟩ := hq
      have hx : Wx m m6 := Wx_trans Wx_39 (Wx_f q1)
      rcases q3 with ⟨z, rfl⟩ | ⟨z, rfl, hmr6⟩
      · rw [if_pos rfl]
        exact MG_ret hy6 (H1 z m6 hx q2)
      · rw [if_neg (by decide)]
        refine H2 z S6 m6 hy6 hx (by rw [q1.2 39 (by decide) (by decide) (by decide)]; simp only [am_upI_at, am_upI_ne, pk_us, pk_un, ne_eq, Nat.reduceEqDiff, not_false_eq_true]) (fun i hi => by rw [q1.1 126 (by decide) (by decide) (by decide) (by decide)]; simp only [am_upI_at, am_upI_ne, pk_us, pk_un, ne_eq, Nat.reduceEqDiff, not_false_eq_true]) hmr6 q2
    · have hu1 : u = u1 + u2 := by
        rw [h10] at hu
        exact ((nI_eq (by omega) (by omega)).mp hu).symm
      subst hu1
      obtain ⟨D, rfl⟩ : ∃ D', D = D' + 1 := ⟨D - 1, by omega⟩
      obtain ⟨f1, n1, u1'⟩ := nt_ok (S := S) (tc := tc) (x := 6)
      have ef := f131_eq (F := F) (x := 6) h51 (show tc < 2000000 by omega)
      revert f1 n1 u1' ef
      generalize ((am_upI (am_upI S.1 6 (tc % 40) 6) 5 1 (nI (tc + 1)), S.2) : AmT) = Sa
      intro f1 n1 u1' ef
      have ha1 : Sa.1 5 1 = nI (tc + 1) := by rw [n1.2, pk_us]
      have hAa : ∀ o, 33 ≤ o → o ≤ 39 → Sa.1 o = A o := fun o o1 o2 => by rw [u1' o (by omega) (by omega), hA o o1 o2]
      obtain ⟨v, S', tc', sr', sc', R', C', G', e1, e2, e3, e4, e5, e6⟩ := ih p h1 u1 (by omega) h8 (by omega) D (dep + 1) (tc + 1) Sa sr sc R C G (by omega) (by omega) hAa (CS_I (fun o o1 o2 => u1' o (by omega) (by omega)) hcs) ha1 (by omega)
      have hA' : ∀ o, 33 ≤ o → o ≤ 39 → S'.1 o = A o := fun o o1 o2 => by rw [e2.2.1 o (by omega) (by omega) (by omega), hAa o o1 o2]
      have hcl : f30 F (D + 1) (nI f) (nI dep) S = if 0 ≤ v then f30 F D (nI q) (nI (dep + 1)) S' else some (v, S') := by
        have x33 : kg S.1 33 16 (nI f) = 5 := by rw [kg_at (by omega) (by omega), hA 33 (by omega) (by omega), h4]
        have x37 : kg Sa.1 37 16 (nI f) = nI p := by rw [kg_at (by omega) (by omega), hAa 37 (by omega) (by omega), h6]
        have x39 : kg S'.1 39 16 (nI f) = nI q := by rw [kg_at (by omega) (by omega), hA' 39 (by omega) (by omega), h7]
        rw [f30]
        rw [if_pos (show nI dep ≤ (8 : Int32) from nI_le (b := 8) (by omega) (by omega)), x33, if_neg (by decide), if_neg (by decide), if_neg (by decide), if_neg (by decide), if_pos rfl, ef, bind_at, x37, nI_1, e1, b2_at, x39, b2_id]
      -- the model, up to the second
      have hmod : ∀ (S1 : AmT) (W : Mem) (Q : Int32 → Mem → Prop) (w n : Nat) (Sm : AmT) (m : Mem), w + (u1 + u2) ≤ 64 → My S1 Sm m W → (∀ o, 96 ≤ o → o ≤ 124 → m o = m0 o) → m 95 39 = nI (w + 1) → m 126 w = nI f → MR m R C G → TR S m tc → (v = -17 → ∀ m2, Wx m m2 → TR S' m2 tc' → Q 7 m2) → (v = 1 → ∀ S2 m2, My S1 S2 m2 W → Wx m m2 → (∀ o, 96 ≤ o → o ≤ 124 → m2 o = m0 o) → m2 95 39 = nI (w + 1) → (∀ i, i < w → m2 126 i = m 126 i) → m2 126 w = nI q → MR m2 R' C' G' → TR S' m2 tc' → MG S1 W (g240_16 F n S2) Q) → MG S1 W (g240_16 F (n + (2 * u1 - 1) + 1) Sm) Q := by
        intro S1 W Q w n Sm m hw hy hm h39 h126 hmr htr H1 H2
        refine fw_pop hy h39 (by omega) (by omega) h126 fun S5 hy5 => ?_
        have e103 : m 103 f = 5 := by rw [hm 103 (by omega) (by omega), ← a1, h4]
        have e105 : m 105 f = nI p := by rw [hm 105 (by omega) (by omega), ← a3, h6]
        have e106 : m 106 f = nI q := by rw [hm 106 (by omega) (by omega), ← a4, h7]
        rw [if_pos e103]
        refine MG_233 hy5 (by simp only [am_upI_at, am_upI_ne, pk_us, pk_un, ne_eq, Nat.reduceEqDiff, not_false_eq_true]; exact htr.2.1) (show tc < 2000000 by omega) fun S6 hy6 => ?_
        rw [show S6.1 106 f = nI q from (My_rd hy6 (mi_h (show f < 16 by omega))).trans (by simp only [am_upI_at, am_upI_ne, pk_us, pk_un, ne_eq, Nat.reduceEqDiff, not_false_eq_true]; exact e106)]
        refine MG_230 (w := w) hy6 (by simp only [am_upI_at, am_upI_ne, pk_us, pk_un, ne_eq, Nat.reduceEqDiff, not_false_eq_true]) (by omega) fun S7 hy7 => ?_
        rw [show S7.1 105 f = nI p from (My_rd hy7 (mi_h (show f < 16 by omega))).trans (by simp only [am_upI_at, am_upI_ne, pk_us, pk_un, ne_eq, Nat.reduceEqDiff, not_false_eq_true]; exact e105)]
        refine MG_230 (w := w + 1) hy7 (by simp only [am_upI_at, am_upI_ne, pk_us, pk_un, ne_eq, Nat.reduceEqDiff, not_false_eq_true]) (by omega) fun S8 hy8 => ?_
        have hx8 : Wx m (am_upI (am_upI (am_upI (am_upI (am_upI (am_upI (am_upI m 95 39 (nI w)) 125 (tc % 40) 6) 95 36 (nI (tc + 1))) 126 w (nI q)) 95 39 (nI (w + 1))) 126 (w + 1) (nI p)) 95 39 (nI (w + 1 + 1))) := Wx_trans Wx_39 (Wx_trans (Wx_f Mfr_nt) (Wx_trans Wx_126 (Wx_trans Wx_39 (Wx_trans Wx_126 Wx_39))))
        refine e6 S1 W Q (w + 1) n S8 _ (by omega) hy8 (fun o o1 o2 => ?_) (by simp only [am_upI_at, am_upI_ne, pk_us, pk_un, ne_eq, Nat.reduceEqDiff, not_false_eq_true]) (by simp only [am_upI_at, am_upI_ne, pk_us, pk_un, ne_eq, Nat.reduceEqDiff, not_false_eq_true]) (MR_congr (by simp only [am_upI_at, am_upI_ne, pk_us, pk_un, ne_eq, Nat.reduceEqDiff, not_false_eq_true]) (by simp only [am_upI_at, am_upI_ne, pk_us, pk_un, ne_eq, Nat.reduceEqDiff, not_false_eq_true]) (by simp only [am_upI_at, am_upI_ne, pk_us, pk_un, ne_eq, Nat.reduceEqDiff, not_false_eq_true]) (by simp only [am_upI_at, am_upI_ne, pk_us, pk_un, ne_eq, Nat.reduceEqDiff, not_false_eq_true]) hmr) (TR_m (TR_nt (TR_m htr (m' := am_upI m 95 39 (nI w)) (by simp only [am_upI_at, am_upI_ne, pk_us, pk_un, ne_eq, Nat.reduceEqDiff, not_false_eq_true]) (by simp only [am_upI_at, am_upI_ne, pk_us, pk_un, ne_eq, Nat.reduceEqDiff, not_false_eq_true])) n1) (by simp only [am_upI_at, am_upI_ne, pk_us, pk_un, ne_eq, Nat.reduceEqDiff, not_false_eq_true]) (by simp only [am_upI_at, am_upI_ne, pk_us, pk_un, ne_eq, Nat.reduceEqDiff, not_false_eq_true])) (fun z m2 x1 x2 => H1 z m2 (Wx_trans hx8 x1) x2) (fun z S2 m2 y1 y2 y3 y4 y5 y6 => ?_)
        · rw [hx8.1 o (by omega) (by omega) (by omega) (by omega) (by omega), hm o o1 o2]
        · refine H2 z S2 m2 y1 (Wx_trans hx8 y2) (fun o o1 o2 => ?_) y3 (fun i hi => ?_) ?_ y5 y6
          · rw [y2.1 o (by omega) (by omega) (by omega) (by omega) (by omega), hx8.1 o (by omega) (by omega) (by omega) (by omega) (by omega), hm o o1 o2]
          · rw [y4 i (by omega)]
            rw [am_upI_ne (by decide), am_upI_at, pk_un (by omega), am_upI_ne (by decide), am_upI_at, pk_un (by omega), am_upI_ne (by decide), am_upI_ne (by decide), am_upI_ne (by decide)]
          · rw [y4 w (by omega)]
            rw [am_upI_ne (by decide), am_upI_at, pk_un (by omega), am_upI_ne (by decide), am_upI_at, pk_us]
      have eF : absF A (D + 1) f (R, C, G) = (absF A D p (R, C, G)).bind (absF A D q) := by
        rw [absF]
        rw [if_pos h4, h6, h7, nI_clamp (by omega), nI_clamp (by omega)]
      rcases e5 with ⟨hv, hab⟩ | ⟨hv, hc', hab⟩
      · refine ⟨v, S', tc', sr', sc', R', C', G', ?_, Sf_trans f1 e2, e3, by omega, Or.inl ⟨hv, by rw [eF, hab]; rfl⟩, fun S1 W Q w n Sm m hw hy hm h39 h126 hmr htr H1 H2 => ?_⟩
        · rw [hcl, hv, if_neg (by decide)]
        · rw [show n + (2 * (u1 + u2) - 1) = (n + 2 * u2 - 1) + (2 * u1 - 1) + 1 by omega]
          exact hmod S1 W Q w _ Sm m hw hy hm h39 h126 hmr htr H1 (fun z => absurd (hv.symm.trans z) (by decide))
      · obtain ⟨v2, S2', tc2, sr2, sc2, R2, C2, G2, z1, z2, z3, z4, z5, z6⟩ := ih q h2 u2 (by omega) h9 (by omega) D (dep + 1) tc' S' sr' sc' R' C' G' (by omega) (by omega) hA' hc' e3 (by omega)
        refine ⟨v2, S2', tc2, sr2, sc2, R2, C2, G2, ?_, Sf_trans f1 (Sf_trans e2 z2), z3, by omega, (by rw [eF, hab]; exact z5), fun S1 W Q w n Sm m hw hy hm h39 h126 hmr htr H1 H2 => ?_⟩
        · rw [hcl, hv, if_pos (by decide), z1]
        · rw [show n + (2 * (u1 + u2) - 1) = (n + (2 * u2 - 1)) + (2 * u1 - 1) + 1 by omega]
          refine hmod S1 W Q w _ Sm m hw hy hm h39 h126 hmr htr (fun z => absurd (hv.symm.trans z) (by decide)) fun _ S3 m3 y1 y2 y3 y4 y5 y6 y7 y8 => ?_
          refine z6 S1 W Q w n S3 m3 (by omega) y1 y3 y4 y6 y7 y8 (fun z m2 x1 x2 => H1 z m2 (Wx_trans y2 x1) x2) (fun z S4 m4 p1 p2 p3 p4 p5 p6 => H2 z S4 m4 p1 (Wx_trans y2 p2) p3 (fun i hi => by rw [p4 i hi, y5 i hi]) p5 p6)
