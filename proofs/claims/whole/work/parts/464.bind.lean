/-! calls: bind, leaf -/
theorem nI_dv128 {s k : Nat} (hs : s < 8) (hk : k < 128) : nI (128 * s + k) / 128 = nI s ∧ nI (128 * s + k) - nI (128 * s + k) / 128 * 128 = nI k := by
  refine ⟨?_, ?_⟩
  · show nI (128 * s + k) / nI 128 = _
    rw [pk_div (by omega) (by omega) (by omega)]
    congr 1
    omega
  · show nI (128 * s + k) - nI (128 * s + k) / nI 128 * nI 128 = _
    rw [nI_rem (by omega) (by omega) (by omega)]
    congr 1
    omega
theorem goodS_c {A I I' : Mem} {f s : Nat} (h : I' 23 = I 23) (hg : goodS A f I s) : goodS A f I' s := by
  obtain ⟨h1, h2⟩ := hg
  refine ⟨?_, h2⟩
  unfold CLm
  rw [h]
  exact h1
theorem fnd_at {T : List Ft} {k : Nat} {t : Ft} (hk : k < 2147483648) (h : T[k]? = some t) : fnd T (nI k) = nI (128 * t.1 + t.2.1) := by
  unfold fnd fndN
  rw [if_neg (nI_pos hk), nI_clamp hk, h]
theorem fnd_out {T : List Ft} {k : Nat} (hk : k < 2147483648) (h : T.length ≤ k) : fnd T (nI k) = -12 := by
  unfold fnd fndN
  rw [if_neg (nI_pos hk), nI_clamp hk, List.getElem?_eq_none h]
theorem FA_nil {m : Mem} (h : m 95 47 = 0) : FA m [] := ⟨h, fun i t ht => absurd ht (by simp)⟩
theorem st_bind {F : Nat} (hF : 6000 ≤ F) (x1 x2 x3 : Int32) : FpStep (f173 F x1 x2 x3) (f271 F x1 x2 x3) := by
  refine Fp_of fun S t ht hR => ?_
  obtain ⟨nj, nf, ns, ng, nb, hC⟩ := Rel_z hR
  have hns := hC.2.2.1.1
  unfold f173 f271
  refine RG_jam hR ?_
  refine RG_g1 (Gd_sig hC) hR ?_
  rintro ⟨g, hg, rfl⟩
  refine RG_g1 (Gd_fold hC) hR ?_
  rintro ⟨f, hf, rfl⟩
  refine RG_g1 (Gd_in 1 24 rfl rfl (by omega)) hR ?_
  rintro ⟨x, hx1, hx2, rfl⟩
  refine RG_chg hF hR hC fun m0 hm hT h29 hz S' hK => ?_
  obtain ⟨w, c, sq, hsg⟩ := Cur_sgn hm hg
  have eK : ∀ o, 5 ≤ o → o ≤ 94 → S'.1 o = S.1 o := hK.2.1
  have hT' : Tl S'.1 m0 t := Tl_congr hT (eK 5 (by omega) (by omega)) (eK 6 (by omega) (by omega)) (fun _ _ _ => rfl) rfl
  obtain ⟨tc, htc, htr⟩ := Tl_tc hT'
  obtain ⟨v, S'', tc', e1, e2, e3, e4, e5⟩ := sg hF hm hf hsg (S := S') (fun o ho => eK o (by omega) (by omega)) htr.1 (by omega)
  have hK2 := Ky_Sh hK e2
  have hT2 : ∀ m2, (∀ j, 29 ≤ j → j ≤ 35 → m2 95 j = m0 95 j) → TR S'' m2 tc' → Tl S''.1 m2 (t + 1) := fun m2 q1 q2 => Tl_tr hT' e2.2.2 (fun j j1 j2 => q1 j (by omega) (by omega)) q2 (by omega)
  have hkc : ∀ o, kc o → S''.1 o = S.1 o := fun o ho => by rw [e2.2.1 o (by omega) (by omega) (by omega) (by omega), eK o (by omega) (by omega)]
  have hCur : ∀ m2, (∀ o, 96 ≤ o → o ≤ 124 → m2 o = m0 o) → Cur S''.1 m2 nj nf ns ng nb := fun m2 q => Cur_congr hkc (Cur_congr_m q hm)
  unfold f10
  rw [e1, b2_at]
  rcases e5 with ⟨e, he, rfl, e6⟩ | ⟨rfl, hlen, hgood, -, e6⟩
  · have hneg : g10_11 F F (nI g) (nI x) (-10 - nI e) 0 S'' = some (-10 - nI e, S'') := by
      have : ∀ N, 0 < N → g10_11 F N (nI g) (nI x) (-10 - nI e) 0 S'' = some (-10 - nI e, S'') := fun N hN => by
        cases N with
        | zero => omega
        | succ N =>
          unfold g10_11
          rw [if_pos (by rcases he with rfl | rfl <;> decide)]
      exact this F (by omega)
    have hx : ¬ (-11 : Int32) < -10 - nI e ∧ -10 - (-10 - nI e) = nI e ∧ ¬ nI e ≤ 0 := by rcases he with rfl | rfl <;> decide
    rw [hneg, b2_at]
    refine KG_f hK2 (by omega) hx.1 fun S3 h3 S4 hM => ?_
    refine MG_up hM (Or.inl rfl) fun S5 h5 => ?_
    refine MG_b2 (e6 _ _ S5 _ h5 (fun o o1 o2 => am_upI_ne (by omega)) (TR_m htr (by simp only [am_upI_at, am_upI_ne, pk_us, pk_un, ne_eq, Nat.reduceEqDiff, not_false_eq_true]) (by simp only [am_upI_at, am_upI_ne, pk_us, pk_un, ne_eq, Nat.reduceEqDiff, not_false_eq_true]))) fun v' S6 m6 h6 hq => ?_
    obtain ⟨q1, q2, q3, rfl⟩ := hq
    rw [if_neg hx.2.2]
    have q2' : ∀ j, 29 ≤ j → j ≤ 35 → m6 95 j = m0 95 j := fun j j1 j2 => by rw [q2 j j1 j2, am_upI_at, pk_un (by omega)]
    exact MG_f h6 (fin_f0 (hCur m6 q1) (hT2 m6 q2' q3) ((q2' 29 (by omega) (by omega)).trans h29) rfl hx.2.1)
  · have hok : ∀ t, t ∈ sgT S.1 f w c sq → okt S''.1 ns t := sgT_ok (hkc 52 (by omega)) (hkc 54 (by omega)) (fun j hj => (hsg.2.2.2.2.2.2.2 j hj).1) hgood
    revert hok hlen e6
    have hTT : ∃ T, T = sgT S.1 f w c sq := ⟨_, rfl⟩
    obtain ⟨T, hTT⟩ := hTT
    rw [← hTT]
    intro hlen e6 hok
    obtain ⟨v, S3, A3, z1, z2, z3, z4, z5, z6⟩ := lay_lp hF (hCur m0 (fun _ _ _ => rfl)) ⟨hx1, hx2⟩ hlen hok (fun N i S => g10_11 F N (nI g) (nI x) (nI T.length) (nI i) S)
      (fun N S A k _ _ => by
        unfold g10_11
        rw [if_pos (Int32.le_refl _)])
      (fun N i Sx A k tt hKx hAx htt => by
        have hi : i < T.length := by
          rcases Nat.lt_or_ge i T.length with z | z
          · exact z
          · rw [List.getElem?_eq_none z] at htt
            exact absurd htt (by simp)
        have hokt := hok tt (List.mem_of_getElem? htt)
        have ho1 := hokt.1
        have ho2 := okt_y hokt
        have e9 := f9_eq (F := F) hF (S := Sx) (x := nI i) (f := f) hns hsg (fun o ho h58 => by rw [hKx.2.1 o (by omega) (by omega), hAx o h58, hkc o ho]) (fun j hj => goodS_c (by rw [hKx.2.1 23 (by omega) (by omega), hAx 23 (by omega)]) (hgood j hj))
        rw [← hTT, fnd_at (by omega) htt] at e9
        obtain ⟨d1, d2⟩ := nI_dv128 (s := tt.1) (k := tt.2.1) (by omega) (by omega)
        rw [g10_11]
        unfold g10_60
        rw [if_neg (nI_ge hi (by omega)), e9, b2_at, if_pos (nI_le0 (by omega)), d2, d1, nI_add, nI_1])
      T.length 0 F S'' S''.1 0 (by omega) (by omega) hK2 (fun _ _ => rfl) (by omega)
    have z1' : g10_11 F F (nI g) (nI x) (nI T.length) 0 S'' = some (v, S3) := z1
    rw [z1', b2_at]
    have h56 : ∀ o, o ≠ 58 → A3 o = S''.1 o := z3
    have hmod : ∀ (S4 S5 : AmT) (Q : Int32 → Mem → Prop), My S4 S5 m0 (mv S.1) → (∀ v' m', (∃ m1, Cur A3 m1 nj nf ns ng nb ∧ Tl A3 m1 (t + 1) ∧ m1 95 29 = 1 ∧ ((v = nI T.length ∧ v' = nI T.length ∧ m' = m1) ∨ (v = -11 ∧ v' = -11 ∧ m' = am_upI (am_upI m1 95 30 (m1 95 30 + 1)) 95 31 1))) → Q v' m') → MG S4 (mv S.1) (am_lt ((am_upI S5.1 95 47 0, S5.2) : AmT) fun S14 => am_b2 (f261 F (nI g) (nI f) S14) fun v15 S16 => if v15 ≤ 0 then (am_b2 (f262 F (nI x) S16) fun v18 S19 => some (v18, S19)) else (am_b2 (f203 F v15 S16) fun v20 S21 => some (v20, S21))) Q := by
      intro S4 S5 Q hM H
      refine MG_up hM (Or.inl rfl) fun S6 h6 => ?_
      refine MG_b2 (e6 _ _ S6 _ [] h6 (fun o o1 o2 => am_upI_ne (by omega)) (FA_nil (by simp only [am_upI_at, am_upI_ne, pk_us, pk_un, ne_eq, Nat.reduceEqDiff, not_false_eq_true])) (by rw [List.length_nil]; omega) (TR_m htr (by simp only [am_upI_at, am_upI_ne, pk_us, pk_un, ne_eq, Nat.reduceEqDiff, not_false_eq_true]) (by simp only [am_upI_at, am_upI_ne, pk_us, pk_un, ne_eq, Nat.reduceEqDiff, not_false_eq_true]))) fun v' S7 m7 h7 hq => ?_
      obtain ⟨q1, q2, q3, rfl, q4⟩ := hq
      rw [List.nil_append] at q4
      rw [if_pos (Int32.le_refl _), b2_id]
      unfold f262
      have q2' : ∀ j, 29 ≤ j → j ≤ 35 → m7 95 j = m0 95 j := fun j j1 j2 => by rw [q2 j j1 j2, am_upI_at, pk_un (by omega)]
      have hCE : CE S''.1 m7 := Cur_cell (hCur m7 q1)
      obtain ⟨v', S8, m8, w1, w2, m9, w3, w4, w5⟩ := z6 S4 (mv S.1) S7 m7 F h7 (fun o o1 o2 o3 o4 => q1 o o1 o2) q4 hCE (by omega)
      refine ⟨v', S8, m8, w1, w2, H v' m8 ⟨m9, ?_, ?_, ?_, w5⟩⟩
      · exact Cur_cells (hCur m7 q1) (fun o ho h58 => h56 o h58) (fun o o1 o2 o3 o4 => w3 o o3 o4) w4 z4
      · exact Tl_congr (hT2 m7 q2' q3) (h56 5 (by omega)) (h56 6 (by omega)) (fun j j1 j2 => by rw [w3 95 (by omega) (by omega)]) (w3 125 (by omega) (by omega))
      · rw [w3 95 (by omega) (by omega), q2' 29 (by omega) (by omega)]
        exact h29
    rcases z5 with hv | hv
    · subst hv
      refine KG_a z2 (by omega) (nI_gt (by omega)) fun S4 hM => ?_
      refine hmod _ S4 _ hM fun v' m' hq => ?_
      obtain ⟨m1, c1, c2, c3, c4⟩ := hq
      rcases c4 with ⟨-, rfl, rfl⟩ | ⟨c, -⟩
      · exact ⟨rfl, ⟨nj, nf, ns, ng, nb, c1⟩, c2, c3⟩
      · exact absurd c (fun z => absurd (z ▸ nI_gt (n := T.length) (by omega) : (-11 : Int32) < -11) (by decide))
    · subst hv
      refine KG_f z2 (by omega) (by decide) fun S4 h4 S5 hM => ?_
      refine hmod _ S5 _ hM fun v' m' hq => ?_
      obtain ⟨m1, c1, c2, c3, c4⟩ := hq
      rcases c4 with ⟨c, -⟩ | ⟨-, rfl, rfl⟩
      · exact absurd c.symm (fun z => absurd (z ▸ nI_gt (n := T.length) (by omega) : (-11 : Int32) < -11) (by decide))
      · exact fin_f0 (n := 1) c1 c2 c3 (by decide) (by decide)
theorem st_leaf {F : Nat} (hF : 6000 ≤ F) (x1 x2 x3 x4 : Int32) : FpStep (f174 F x1 x2 x3 x4) (f272 F x1 x2 x3 x4) := by
  refine Fp_of fun S t ht hR => ?_
  obtain ⟨nj, nf, ns, ng, nb, hC⟩ := Rel_z hR
  have hns := hC.2.2.1.1
  unfold f174 f272
  refine RG_g1 (Gd_sig hC) hR ?_
  rintro ⟨g, hg, rfl⟩
  refine RG_g1 (Gd_fold hC) hR ?_
  rintro ⟨f, hf, rfl⟩
  refine RG_g1 (Gd_in 0 1 rfl rfl (by omega)) hR ?_
  rintro ⟨u, -, hu, rfl⟩
  obtain ⟨w, c, sq, hsg⟩ := Cur_sgn hC hg
  have hTl := Tl_of hR.2.1
  obtain ⟨tc, htc, htr⟩ := Tl_tc hTl
  obtain ⟨v, S', tc', e1, e2, e3, e4, e5⟩ := sg hF hC hf hsg (S := S) (fun _ _ => rfl) htr.1 (by omega)
  have hfr5 := e2.2.2
  have hfrm : ∀ o, 96 ≤ o → o ≤ 124 → am_upI (mz S.1) 95 47 0 o = mz S.1 o := fun o o1 o2 => am_upI_ne (by omega)
  have htr' : TR S (am_upI (mz S.1) 95 47 0) tc := TR_m htr (by simp only [am_upI_at, am_upI_ne, pk_us, pk_un, ne_eq, Nat.reduceEqDiff, not_false_eq_true]) (by simp only [am_upI_at, am_upI_ne, pk_us, pk_un, ne_eq, Nat.reduceEqDiff, not_false_eq_true])
  have h95 : ∀ m2 : Mem, (∀ j, 29 ≤ j → j ≤ 35 → m2 95 j = am_upI (mz S.1) 95 47 0 95 j) → ∀ j, 29 ≤ j → j ≤ 35 → m2 95 j = mz S.1 95 j := fun m2 h j j1 j2 => by rw [h j j1 j2, am_upI_at, pk_un (by omega)]
  have hkc : ∀ o, kc o → S'.1 o = S.1 o := fun o ho => e2.2.1 o (by omega) (by omega) (by omega) (by omega)
  rw [e1, b2_at]
  rcases e5 with ⟨e, he, rfl, e6⟩ | ⟨rfl, hlen, hgood, -, e6⟩
  · obtain ⟨n1, n2⟩ := neg10 (e := e) (by omega)
    unfold g174_67
    rw [if_neg n1, if_neg n1]
    refine RG_foldf (F := F) (e := e) hR (by omega) (S' := S') rfl (Kq_Sh e2) fun S1 q1 q2 q3 h0 => ?_
    refine MG_up h0 (Or.inl rfl) fun S5 h5 => ?_
    refine MG_b2 (e6 S1 _ S5 _ h5 hfrm htr') fun v' S6 m6 h6 hq => ?_
    obtain ⟨w1, w2, w3, rfl⟩ := hq
    unfold g272_73
    rw [if_neg n2, if_neg n2]
    exact MGf_fin (by omega) h6 w1 (h95 m6 w2 29 (by omega) (by omega)) (Tl_tr hTl hfr5 (fun j j1 j2 => h95 m6 w2 j (by omega) (by omega)) w3 (by omega))
  · have hok : ∀ t, t ∈ sgT S.1 f w c sq → okt S'.1 ns t := sgT_ok (hkc 52 (by omega)) (hkc 54 (by omega)) (fun j hj => (hsg.2.2.2.2.2.2.2 j hj).1) hgood
    have e9 := f9_eq (F := F) hF (S := S') (x := x3) (f := f) hns hsg (fun o ho _ => hkc o ho) hgood
    revert hok hlen e6 e9
    have hTT : ∃ T, T = sgT S.1 f w c sq := ⟨_, rfl⟩
    obtain ⟨T, hTT⟩ := hTT
    rw [← hTT]
    intro hlen e6 hok e9
    rw [if_pos (nI_le0 (by omega)), e9, b2_at]
    have hpre : ∀ (S1 : AmT) (Q : Int32 → Mem → Prop), My S1 S1 (mz S.1) (mw S.1) → (∀ S2 m2, My S1 S2 m2 (mw S.1) → (∀ o, 96 ≤ o → o ≤ 124 → m2 o = mz S.1 o) → (∀ j, 29 ≤ j → j ≤ 35 → m2 95 j = mz S.1 95 j) → TR S' m2 tc' → FA m2 T → MG S1 (mw S.1) (if (if x3 < 0 then (0 : Int32) else if nI T.length - 1 < x3 then 0 else 1) = 0 then g272_73 F x3 (nI u) 2 S2 else g272_73 F x3 (nI u) 0 S2) Q) → MG S1 (mw S.1) (am_lt ((am_upI S1.1 95 47 0, S1.2) : AmT) fun S10 => am_b2 (f261 F (nI g) (nI f) S10) fun v11 S12 => if v11 ≤ 0 then (am_b2 (f197 F x3 0 ((S12.1 95 47) - 1) S12) fun v14 S15 => if v14 = 0 then (g272_73 F x3 (nI u) 2 S15) else (g272_73 F x3 (nI u) 0 S15)) else (g272_73 F x3 (nI u) v11 S12)) Q := by
      intro S1 Q h0 H
      refine MG_up h0 (Or.inl rfl) fun S5 h5 => ?_
      refine MG_b2 (e6 S1 _ S5 _ [] h5 hfrm (FA_nil (by simp only [am_upI_at, am_upI_ne, pk_us, pk_un, ne_eq, Nat.reduceEqDiff, not_false_eq_true])) (by rw [List.length_nil]; omega) htr') fun v' S6 m6 h6 hq => ?_
      obtain ⟨w1, w2, w3, rfl, w4⟩ := hq
      rw [List.nil_append] at w4
      rw [if_pos (Int32.le_refl _), My_rd h6 (Or.inl rfl), w4.1, f197_eq, b2_at]
      exact H S6 m6 h6 w1 (h95 m6 w2) w3 w4
    have hbad : (if x3 < 0 then (0 : Int32) else if nI T.length - 1 < x3 then 0 else 1) = 0 → fnd T x3 = -12 → RG S t (g174_67 F (nI u) (fnd T x3) S') (fun S1 => am_lt ((am_upI S1.1 95 47 0, S1.2) : AmT) fun S10 => am_b2 (f261 F (nI g) (nI f) S10) fun v11 S12 => if v11 ≤ 0 then (am_b2 (f197 F x3 0 ((S12.1 95 47) - 1) S12) fun v14 S15 => if v14 = 0 then (g272_73 F x3 (nI u) 2 S15) else (g272_73 F x3 (nI u) 0 S15)) else (g272_73 F x3 (nI u) v11 S12)) := by
      intro hz hfn
      unfold g174_67
      rw [hfn, if_neg (by decide)]
      refine RG_foldf (F := F) (e := 2) hR (by omega) (S' := S') rfl (Kq_Sh e2) fun S1 q1 q2 q3 h0 => ?_
      refine hpre S1 _ h0 fun S2 m2 h2 w1 w2 w3 w4 => ?_
      rw [if_pos hz]
      unfold g272_73
      rw [if_neg (by decide)]
      exact MGf_fin (e := 2) (by omega) h2 w1 (w2 29 (by omega) (by omega)) (Tl_tr hTl hfr5 (fun j j1 j2 => w2 j (by omega) (by omega)) w3 (by omega))
    by_cases c1 : x3 < 0
    · exact hbad (if_pos c1) (by unfold fnd; rw [if_pos c1])
    obtain ⟨k, hk, rfl⟩ := nI_of c1
    by_cases c2 : k < T.length
    case neg =>
      exact hbad (by rw [if_neg c1, if_pos ((i32_m1 (by omega)).mpr (nI_le (by omega) hk))]) (fnd_out hk (by omega))
    obtain ⟨tt, htt⟩ := at_ex c2
    have hokt := hok tt (List.mem_of_getElem? htt)
    have ho1 := hokt.1
    have ho2 := okt_y hokt
    obtain ⟨d1, d2⟩ := nI_dv128 (s := tt.1) (k := tt.2.1) (by omega) (by omega)
    unfold g174_67
    rw [fnd_at hk htt, if_pos (nI_le0 (by omega)), d2, d1]
    have hfin : ∀ S2 m2, My S' S2 m2 (mw S.1) → (∀ o, 96 ≤ o → o ≤ 124 → m2 o = mz S.1 o) → (∀ j, 29 ≤ j → j ≤ 35 → m2 95 j = mz S.1 95 j) → TR S' m2 tc' → (∀ o, 96 ≤ o → o ≤ 124 → m2 o = mz S.1 o) ∧ Tl S'.1 m2 (t + 1) ∧ m2 95 29 = mz S.1 95 29 := fun S2 m2 h2 w1 w2 w3 => ⟨w1, Tl_tr hTl hfr5 (fun j j1 j2 => w2 j (by omega) (by omega)) w3 (by omega), w2 29 (by omega) (by omega)⟩
    have hif : (if nI k < 0 then (0 : Int32) else if nI T.length - 1 < nI k then 0 else 1) ≠ 0 := by
      rw [if_neg c1, if_neg (fun z => nI_ge c2 (by omega) ((i32_m1 (by omega)).mp z))]
      decide
    rcases (show u = 0 ∨ u = 1 by omega) with rfl | rfl
    · rw [if_pos (show nI 0 = 0 from rfl)]
      refine RG_qq hR ⟨_, S', S'.1, rfl, Kq_Sh e2, fun h0 => hpre S' _ h0 fun S2 m2 h2 w1 w2 w3 w4 => ?_⟩
      obtain ⟨f1, f2, f3⟩ := w4.2 k tt htt
      unfold g272_73
      rw [if_neg hif, if_pos (Int32.le_refl _), if_pos (show nI 0 = 0 from rfl), ck_at (by omega) (by omega), nI_clamp hk, My_rd h2 (Or.inr (Or.inl (by omega))), f1]
      exact MG_ret h2 ⟨rfl, hfin S2 m2 h2 w1 w2 w3⟩
    · rw [if_neg (by decide)]
      refine RG_qq hR ⟨_, S', S'.1, rfl, Kq_Sh e2, fun h0 => hpre S' _ h0 fun S2 m2 h2 w1 w2 w3 w4 => ?_⟩
      obtain ⟨f1, f2, f3⟩ := w4.2 k tt htt
      unfold g272_73
      rw [if_neg hif, if_pos (Int32.le_refl _), if_neg (by decide), ck_at (by omega) (by omega), nI_clamp hk, My_rd h2 (Or.inr (Or.inl (by omega))), f2]
      exact MG_ret h2 ⟨rfl, hfin S2 m2 h2 w1 w2 w3⟩
