/-! calls: step: a station -/
def TT (A m : Mem) (n : Nat) : Prop := A 5 2 = m 95 30 ∧ A 5 3 = m 95 31 ∧ A 5 4 = m 95 32 ∧ A 5 5 = m 95 33 ∧ A 5 6 = m 95 34 ∧ A 5 7 = m 95 35 ∧ (∃ tc, tc ≤ n ∧ A 5 1 = nI tc ∧ m 95 36 = nI tc) ∧ ∀ j, j < 40 → A 6 j = m 125 j
theorem TT_mono {A m : Mem} {n n' : Nat} (h : TT A m n) (hn : n ≤ n') : TT A m n' := by
  obtain ⟨h1, h2, h3, h4, h5, h6, ⟨tc, h7, h8⟩, h9⟩ := h
  exact ⟨h1, h2, h3, h4, h5, h6, ⟨tc, by omega, h8⟩, h9⟩
theorem TT_congr {A A' m m' : Mem} {n : Nat} (h : TT A m n) (h5 : A' 5 = A 5) (h6 : A' 6 = A 6) (h95 : ∀ j, 30 ≤ j → j ≤ 36 → m' 95 j = m 95 j) (h125 : m' 125 = m 125) : TT A' m' n := by
  unfold TT at h ⊢
  rw [h5, h6, h125, h95 30 (by omega) (by omega), h95 31 (by omega) (by omega), h95 32 (by omega) (by omega), h95 33 (by omega) (by omega), h95 34 (by omega) (by omega), h95 35 (by omega) (by omega), h95 36 (by omega) (by omega)]
  exact h
theorem TT_f {A m : Mem} {n : Nat} {x : Int32} (hT : TT A m n) : TT (am_upI (am_upI A 5 2 (A 5 2 + 1)) 5 3 x) (am_upI (am_upI m 95 30 (m 95 30 + 1)) 95 31 x) n := by
  obtain ⟨a1, a2, a3, a4, a5, a6, ⟨tc, a7, a8, a9⟩, a10⟩ := hT
  unfold TT
  simp only [am_upI_at, am_upI_ne, pk_us, pk_un, ne_eq, Nat.reduceEqDiff, not_false_eq_true]
  exact ⟨by rw [a1], trivial, a3, a4, a5, a6, ⟨tc, a7, a8, a9⟩, a10⟩
/-- the work of a station, in both -/
theorem wrk {F : Nat} (hF : 6000 ≤ F) {S0 S : AmT} {A m : Mem} {k n nj nf ns ng nb s j : Nat} (hj : j ≤ 4) (hs : s < ns) (hK : Ky S0 S A k) (hk : k < 640) (hC : Cur A m nj nf ns ng nb) (hT : TT A m n) (hn : n + 32 ≤ 1900000) (h29 : m 95 29 = 1) :
    ∃ e v S' A', f89 F (nI s) (nI j) S = some (v, S') ∧ Ky S0 S' A' (k + 1) ∧ (∀ o, kc o → o ≠ 90 → A' o = A o) ∧ ((e = 0 ∧ 0 ≤ v) ∨ (1 ≤ e ∧ e ≤ 9 ∧ v = -10 - nI e)) ∧
      ∀ (S1 : AmT) (W : Mem) (Sm : AmT), My S1 Sm m W → MG S1 W (f285 F (nI s) (nI j) Sm) (fun v' m2 => v' = nI e ∧ Cur A' m2 nj nf ns ng nb ∧ TT A' m2 (n + 32) ∧ m2 95 29 = 1) := by
  have hns := hC.2.2.1.1
  have eS : ∀ o, 5 ≤ o → o ≤ 94 → S.1 o = A o := hK.2.1
  obtain ⟨-, ⟨a1, a2, a3, a4, -⟩, -, ⟨R, hR, e52⟩, ⟨C, hCC, e54⟩, -, hfold, -⟩ := Cur_sheet hC hs
  have e109 : m 109 s = nI R := by rw [← a2, e52]
  have e110 : m 110 s = nI C := by rw [← a3, e54]
  have r111 : ∀ {S1 : AmT} {W : Mem} {Sm : AmT}, My S1 Sm m W → Sm.1 111 s = A 62 s := fun hy => by rw [My_rd hy (mi_h (show s < 8 by omega)), ← a4]
  rcases (show j = 0 ∨ (j = 1 ∨ j = 2) ∨ j = 3 ∨ j = 4 by omega) with rfl | hj12 | rfl | rfl
  · -- FEED
    obtain ⟨c1, c2, c3, c4, g1, g2, g3, g4⟩ := id hC
    have hCu : ∀ m2 : Mem, (m2 = am_upI m 96 7 0) → Cur (am_upI A 90 0 0) m2 nj nf ns ng nb := by
      rintro m2 rfl
      unfold Cur
      simp only [am_upI_at, am_upI_ne, pk_us, pk_un, ne_eq, Nat.reduceEqDiff, not_false_eq_true]
      exact ⟨c1, c2, c3, c4, g1, rfl, Or.inl rfl, g4⟩
    have hTu : TT (am_upI A 90 0 0) (am_upI m 96 7 0) (n + 32) := TT_mono (TT_congr hT (am_upI_ne (by decide)) (am_upI_ne (by decide)) (fun j _ _ => by rw [am_upI_ne (by decide)]) (am_upI_ne (by decide))) (by omega)
    have hks : ∀ s0 : Int32, g90_16 F s0 S = some (if s0 = 0 then 1 else -19, ks S 89 90 1 0 0) := fun s0 => by
      unfold g90_16
      rw [nn_at hK.1 (by omega)]
      show (if s0 = 0 then some ((1 : Int32), ks S 89 90 1 0 0) else some (-19, ks S 89 90 1 0 0)) = _
      by_cases q : s0 = 0
      · rw [if_pos q, if_pos q]
      · rw [if_neg q, if_neg q]
    have hK' : Ky S0 (ks S 89 90 1 0 0) (am_upI A 90 0 0) (k + 1) := by
      have := Ky_ks (c := 89) (ar := 90) (n := 1) (p := 0) (v := 0) hK hk rfl (by omega)
      rwa [nI_0] at this
    have hmo : ∀ {S1 : AmT} {W : Mem} {Sm : AmT}, My S1 Sm m W → ∀ (s0 : Int32) (e : Nat), (if s0 = 0 then (0 : Int32) else 9) = nI e → MG S1 W (g285_48 F s0 Sm) (fun v' m2 => v' = nI e ∧ Cur (am_upI A 90 0 0) m2 nj nf ns ng nb ∧ TT (am_upI A 90 0 0) m2 (n + 32) ∧ m2 95 29 = 1) := by
      intro S1 W Sm hy s0 e he
      unfold g285_48
      rw [tz7]
      refine MG_up hy (mi_h (by decide)) fun S5 h5 => ?_
      have hfin : nI e = nI e ∧ Cur (am_upI A 90 0 0) (am_upI m 96 7 0) nj nf ns ng nb ∧ TT (am_upI A 90 0 0) (am_upI m 96 7 0) (n + 32) ∧ (am_upI m 96 7 0) 95 29 = 1 := ⟨rfl, hCu _ rfl, hTu, by rw [am_upI_ne (by decide)]; exact h29⟩
      by_cases q : s0 = 0
      · rw [if_pos q] at he ⊢
        exact MG_ret h5 ⟨he, hfin.2⟩
      · rw [if_neg q] at he ⊢
        exact MG_ret h5 ⟨he, hfin.2⟩
    unfold f89 f90
    rw [if_pos (show nI 0 = 0 from rfl), b2_id, kg_0 (by decide) (by decide), eS 90 (by omega) (by omega)]
    have hkc : ∀ o, kc o → o ≠ 90 → am_upI A 90 0 0 o = A o := fun o _ ho => am_upI_ne ho
    rcases g3 with g3 | g3
    · refine ⟨0, 1, _, _, by rw [if_pos g3, hks, if_pos rfl], hK', hkc, Or.inl ⟨rfl, by decide⟩, fun S1 W Sm hy => ?_⟩
      unfold f285
      rw [if_pos (show nI 0 = 0 from rfl), My_rd hy (mi_h (by decide)), ← g2, g3, if_neg (by decide)]
      exact hmo hy 0 0 rfl
    · refine ⟨9, -19, _, _, by rw [if_neg (by rw [g3]; decide), hks, if_neg (by decide)], hK', hkc, Or.inr ⟨by omega, by omega, by decide⟩, fun S1 W Sm hy => ?_⟩
      unfold f285
      rw [if_pos (show nI 0 = 0 from rfl), My_rd hy (mi_h (by decide)), ← g2, g3, if_pos rfl]
      exact hmo hy 1 9 rfl
  · -- FRONT, BACK
    have hin := ink_all hF hC hs (show j - 1 ≤ 1 by omega) hR hCC e52 e54 e109 e110 R 0 F F S A (by omega) (by omega) (by omega) hK ⟨fun _ _ => rfl, fun _ _ => rfl⟩
    obtain ⟨e, v, S', A', z1, z2, z3, z4, z5⟩ := hin
    have hc1 : f89 F (nI s) (nI j) S = g91_2 F F (nI s) (nI (j - 1)) (nI 0) S := by
      unfold f89 f91
      rcases hj12 with rfl | rfl
      · rw [if_neg (by decide), if_pos (show nI 1 = 1 from rfl), b2_id]
        rfl
      · rw [if_neg (by decide), if_neg (by decide), if_pos (show nI 2 = 2 from rfl), b2_id]
        rfl
    have hm1 : ∀ Sm : AmT, f285 F (nI s) (nI j) Sm = g284_2 F F (nI s) (nI (j - 1)) (nI 0) Sm := fun Sm => by
      unfold f285 g285_68 f284
      rcases hj12 with rfl | rfl
      · rw [if_neg (by decide), if_pos (show nI 1 = 1 from rfl), b2_id]
        rfl
      · rw [if_neg (by decide), if_neg (by decide), if_pos (show nI 2 = 2 from rfl), b2_id]
        rfl
    refine ⟨e, v, S', A', by rw [hc1]; exact z1, Ky_mono z2 (by omega), fun o ho _ => z3.1 o (by omega), ?_, fun S1 W Sm hy => ?_⟩
    · rcases z4 with ⟨rfl, rfl⟩ | ⟨h1, h2⟩
      · exact Or.inl ⟨rfl, by decide⟩
      · exact Or.inr ⟨by omega, by omega, h2⟩
    · rw [hm1 Sm]
      obtain ⟨v', S2, m2, x1, x2, x3, x4⟩ := z5 S1 W Sm m hy ⟨fun _ _ => rfl, fun _ _ _ => rfl, hT.2.2.2.1.symm⟩
      refine ⟨v', S2, m2, x1, x2, x3, Cur_congr (fun o ho => z3.1 o (by omega)) (Cur_congr_m (fun o o1 o2 => x4.1 o (by omega)) hC), ?_, (x4.2.1 29 (by omega) (by omega)).trans h29⟩
      obtain ⟨h1, h2, h3, h4, h5, h6, ⟨tc, h7, h8, h9⟩, h10⟩ := hT
      unfold TT
      rw [z3.2 1 (by omega), z3.2 2 (by omega), z3.2 3 (by omega), z3.2 4 (by omega), z3.2 6 (by omega), z3.2 7 (by omega), z3.1 6 (by omega), x4.2.1 30 (by omega) (by omega), x4.2.1 31 (by omega) (by omega), x4.2.1 32 (by omega) (by omega), x4.2.1 34 (by omega) (by omega), x4.2.1 35 (by omega) (by omega), x4.2.1 36 (by omega) (by omega), x4.1 125 (by omega)]
      exact ⟨h1, h2, h3, x4.2.2.symm, h5, h6, ⟨tc, by omega, h8, h9⟩, h10⟩
  · -- FOLD
    have hc1 : f89 F (nI s) (nI 3) S = am_b2 (f21 F (A 62 s) S) fun v13 S14 => if v13 = 0 then some (-11, S14) else (am_b2 (f97 F (nI s) S14) fun v16 S17 => am_b2 (f98 F (nI s) S17) fun v18 S19 => am_b2 (f29 F (A 62 s) v16 v18 (nI s) S19) fun v20 S21 => some (v20, S21)) := by
      unfold f89 f119
      rw [if_neg (by decide), if_neg (by decide), if_neg (by decide), if_pos (show nI 3 = 3 from rfl), b2_at, kg_at (by omega) (by omega), eS 62 (by omega) (by omega)]
    have hm1 : ∀ {S1 : AmT} {W : Mem} {Sm : AmT}, My S1 Sm m W → f285 F (nI s) (nI 3) Sm = if 0 ≤ A 62 s then f240 F (A 62 s) (nI R) (nI C) Sm else some (1, Sm) := fun {S1 W Sm} hy => by
      have x109 : Sm.1 109 s = nI R := by rw [My_rd hy (mi_h (show s < 8 by omega)), e109]
      have x110 : Sm.1 110 s = nI C := by rw [My_rd hy (mi_h (show s < 8 by omega)), e110]
      unfold f285
      rw [if_neg (by decide), if_neg (by decide), if_neg (by decide), if_pos (show nI 3 = 3 from rfl), ck_at (by omega) (by omega), nI_clamp (by omega), r111 hy, ck_at (by omega) (by omega), ck_at (by omega) (by omega), ck_at (by omega) (by omega), x109, x110, b2_id]
    rcases hfold with h62 | ⟨f, hf, h62⟩
    · refine ⟨1, -11, S, A, ?_, Ky_mono hK (by omega), fun _ _ _ => rfl, Or.inr ⟨by omega, by omega, by decide⟩, fun S1 W Sm hy => ?_⟩
      · rw [hc1, h62]
        rfl
      · rw [hm1 hy, h62, if_neg (by decide)]
        exact MG_ret hy ⟨rfl, hC, TT_mono hT (by omega), h29⟩
    · have hnf := hC.2.1.1
      obtain ⟨tc, htc, h51, hm36⟩ := hT.2.2.2.2.2.2.1
      have hS51 : S.1 5 1 = nI tc := by rw [eS 5 (by omega) (by omega), h51]
      obtain ⟨R', C', v, S', tc', x52, x54, x109, x110, e1, e2, e3, e4, e5⟩ := fs1 hF hC hf hs (S := S) (fun o ho => eS o (by omega) (by omega)) hS51 (by omega)
      rw [x52] at e52
      rw [x54] at e54
      have hc2 : f89 F (nI s) (nI 3) S = some (v, S') := by
        have e21 : f21 F (nI f) S = some (1, S) := by
          unfold f21
          rw [if_neg (nI_pos (by omega)), kg_0 (by decide) (by decide), eS 31 (by omega) (by omega), hC.2.1.2.1, if_neg (nI_ge hf (by omega))]
        unfold f97 f98 at hc1
        rw [hc1, h62, e21, b2_at, if_neg (by decide), b2_at, b2_at, kg_at (by omega) (by omega), eS 52 (by omega) (by omega), x52, kg_at (by omega) (by omega), eS 54 (by omega) (by omega), x54, e1, b2_at]
      have htr : TR S m tc := ⟨hS51, hm36, fun j hj => by rw [eS 6 (by omega) (by omega)]; exact hT.2.2.2.2.2.2.2 j hj⟩
      have hfin : ∀ m2, Wx m m2 → TR S' m2 tc' → Cur S'.1 m2 nj nf ns ng nb ∧ TT S'.1 m2 (n + 32) ∧ m2 95 29 = 1 := fun m2 w1 w2 => by
        refine ⟨Cur_congr (fun o ho => by rw [e2.2.1 o (by omega) (by omega) (by omega) (by omega), eS o (by omega) (by omega)]) (Cur_congr_m (fun o o1 o2 => w1.1 o (by omega) (by omega) (by omega) (by omega) (by omega)) hC), ?_, (w1.2 29 (by omega) (by omega) (by omega) (by omega)).trans h29⟩
        have e5' : ∀ j, j ≠ 1 → S'.1 5 j = A 5 j := fun j hj => by rw [e2.2.2.1 j hj, eS 5 (by omega) (by omega)]
        obtain ⟨h1, h2, h3, h4, h5, h6, -, -⟩ := hT
        unfold TT
        rw [e5' 2 (by omega), e5' 3 (by omega), e5' 4 (by omega), e5' 5 (by omega), e5' 6 (by omega), e5' 7 (by omega), w1.2 30 (by omega) (by omega) (by omega) (by omega), w1.2 31 (by omega) (by omega) (by omega) (by omega), w1.2 32 (by omega) (by omega) (by omega) (by omega), w1.2 33 (by omega) (by omega) (by omega) (by omega), w1.2 34 (by omega) (by omega) (by omega) (by omega), w1.2 35 (by omega) (by omega) (by omega) (by omega)]
        exact ⟨h1, h2, h3, h4, h5, h6, ⟨tc', by omega, w2.1, w2.2.1⟩, w2.2.2⟩
      have hRC : nI R' = nI R ∧ nI C' = nI C := ⟨e52, e54⟩
      rcases e5 with ⟨e, he, rfl, e6⟩ | ⟨rfl, hgood, e6⟩
      · refine ⟨e, _, S', S'.1, hc2, Ky_mono (Ky_Sg hK e2) (by omega), fun o ho _ => by rw [e2.2.1 o (by omega) (by omega) (by omega) (by omega), eS o (by omega) (by omega)], Or.inr ⟨by omega, by omega, rfl⟩, fun S1 W Sm hy => ?_⟩
        rw [hm1 hy, h62, if_pos (nI_le0 (by omega)), ← hRC.1, ← hRC.2]
        obtain ⟨v', S2, m2, y1, y2, y3, y4, y5⟩ := e6 S1 W Sm m hy (fun _ _ _ => rfl) htr
        exact ⟨v', S2, m2, y1, y2, y5, hfin m2 y3 y4⟩
      · have hl := hgood.1.1
        refine ⟨0, _, S', S'.1, hc2, Ky_mono (Ky_Sg hK e2) (by omega), fun o ho _ => by rw [e2.2.1 o (by omega) (by omega) (by omega) (by omega), eS o (by omega) (by omega)], Or.inl ⟨rfl, nI_le0 (by omega)⟩, fun S1 W Sm hy => ?_⟩
        rw [hm1 hy, h62, if_pos (nI_le0 (by omega)), ← hRC.1, ← hRC.2]
        obtain ⟨v', S2, m2, y1, y2, y3, y4, y5, -⟩ := e6 S1 W Sm m hy (fun _ _ _ => rfl) htr
        exact ⟨v', S2, m2, y1, y2, y5, hfin m2 y3 y4⟩
  · -- TRIM
    obtain ⟨-, -, -, -, -, -, -, -, -, g6, n9, hn9, g7⟩ := id hC
    have hc1 : f89 F (nI s) (nI 4) S = am_b2 (f21 F (A 62 s) S) fun v3 S4 => if v3 = 0 then some (-11, S4) else (am_b2 (f24 F (A 62 s) S4) fun v6 S7 => if v6 ≤ kg S4.1 94 1 0 then some (1, S7) else some (-13, S7)) := by
      unfold f89 f92 f119
      rw [if_neg (by decide), if_neg (by decide), if_neg (by decide), if_neg (by decide), b2_id, b2_at, kg_at (by omega) (by omega), eS 62 (by omega) (by omega)]
    have hm1 : ∀ {S1 : AmT} {W : Mem} {Sm : AmT}, My S1 Sm m W → f285 F (nI s) (nI 4) Sm = if 0 ≤ A 62 s then (am_b2 (f231 F (A 62 s) 1 Sm) fun v14 S15 => if v14 ≤ A 94 0 then some (0, S15) else some (3, S15)) else some (1, Sm) := fun {S1 W Sm} hy => by
      have x96 : Sm.1 96 6 = A 94 0 := by rw [My_rd hy (mi_h (by decide)), ← g6]
      unfold f285
      rw [if_neg (by decide), if_neg (by decide), if_neg (by decide), if_neg (by decide), ck_at (by omega) (by omega), nI_clamp (by omega), r111 hy, ck_at (by omega) (by omega), x96]
    rcases hfold with h62 | ⟨f, hf, h62⟩
    · refine ⟨1, -11, S, A, ?_, Ky_mono hK (by omega), fun _ _ _ => rfl, Or.inr ⟨by omega, by omega, by decide⟩, fun S1 W Sm hy => ?_⟩
      · rw [hc1, h62]
        rfl
      · rw [hm1 hy, h62, if_neg (by decide)]
        exact MG_ret hy ⟨rfl, hC, TT_mono hT (by omega), h29⟩
    · have hnf := hC.2.1.1
      have e21 : f21 F (nI f) S = some (1, S) := by
        unfold f21
        rw [if_neg (nI_pos (by omega)), kg_0 (by decide) (by decide), eS 31 (by omega) (by omega), hC.2.1.2.1, if_neg (nI_ge hf (by omega))]
      have hc2 : f89 F (nI s) (nI 4) S = if A 45 f ≤ A 94 0 then some (1, S) else some (-13, S) := by
        unfold f24 at hc1
        rw [hc1, h62, e21, b2_at, if_neg (by decide), b2_at, kg_at (by omega) (by omega), eS 45 (by omega) (by omega), kg_0 (by decide) (by decide), eS 94 (by omega) (by omega)]
      have hm2 : ∀ {S1 : AmT} {W : Mem} {Sm : AmT} (Q : Int32 → Mem → Prop), My S1 Sm m W → (∀ m2, (∀ o, o ≠ 95 → o ≠ 126 → m2 o = m o) → (∀ j, j ≠ 39 → m2 95 j = m 95 j) → Q (if A 45 f ≤ A 94 0 then 0 else 3) m2) → MG S1 W (f285 F (nI s) (nI 4) Sm) Q := by
        intro S1 W Sm Q hy H
        rw [hm1 hy, h62, if_pos (nI_le0 (by omega))]
        refine MG_231 (e := 1) hF hC (by omega) hf hy (fun _ _ _ => rfl) fun S' m' h' q1 q2 => ?_
        have := H m' q1 q2
        show MG S1 W (if A 45 f ≤ A 94 0 then some (0, S') else some (3, S')) Q
        by_cases q : A 45 f ≤ A 94 0
        · rw [if_pos q] at this ⊢
          exact MG_ret h' this
        · rw [if_neg q] at this ⊢
          exact MG_ret h' this
      have hfin : ∀ m2 : Mem, (∀ o, o ≠ 95 → o ≠ 126 → m2 o = m o) → (∀ j, j ≠ 39 → m2 95 j = m 95 j) → Cur A m2 nj nf ns ng nb ∧ TT A m2 (n + 32) ∧ m2 95 29 = 1 := fun m2 q1 q2 => ⟨Cur_congr_m (fun o o1 o2 => q1 o (by omega) (by omega)) hC, TT_mono (TT_congr hT rfl rfl (fun j j1 j2 => q2 j (by omega)) (q1 125 (by omega) (by omega))) (by omega), (q2 29 (by omega)).trans h29⟩
      by_cases q : A 45 f ≤ A 94 0
      · refine ⟨0, 1, S, A, by rw [hc2, if_pos q], Ky_mono hK (by omega), fun _ _ _ => rfl, Or.inl ⟨rfl, by decide⟩, fun S1 W Sm hy => hm2 _ hy fun m2 q1 q2 => ?_⟩
        rw [if_pos q]
        exact ⟨rfl, hfin m2 q1 q2⟩
      · refine ⟨3, -13, S, A, by rw [hc2, if_neg q], Ky_mono hK (by omega), fun _ _ _ => rfl, Or.inr ⟨by omega, by omega, by decide⟩, fun S1 W Sm hy => hm2 _ hy fun m2 q1 q2 => ?_⟩
        rw [if_neg q]
        exact ⟨rfl, hfin m2 q1 q2⟩
