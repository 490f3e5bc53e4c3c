/-! calls: join, the rest -/
theorem upd_upd {f : Nat → Int32} {k : Nat} {x y : Int32} : upd (upd f k x) k y = upd f k y := by
  funext j
  by_cases h : j = k
  · subst h
    rw [pk_us, pk_us]
  · rw [pk_un h, pk_un h, pk_un h]
theorem PG_copy {a17 a19 a21 m100 m101 m102 f17 f19 f21 g100 g101 g102 : Nat → Int32} {fr to R : Nat} (h : PG a17 a19 a21 m100 m101 m102 fr) (h1 : f17 to = a17 fr) (h2 : g100 to = m100 fr) (hR : ∀ r, a17 fr = nI r → r ≤ 8 → r = R) (h3 : ∀ i, i < R → Pcp f19 f21 a19 a21 to fr i) (h4 : ∀ i, i < 8 → g101 (8 * to + i) = m101 (8 * fr + i)) (h5 : ∀ q, q < 80 → g102 (80 * to + q) = m102 (80 * fr + q)) : PG f17 f19 f21 g100 g101 g102 to := by
  rcases h with ⟨z1, z2⟩ | ⟨r, hr, z1, z2, z3⟩
  · exact Or.inl ⟨h1.trans z1, h2.trans z2⟩
  · have := hR r z1 hr
    subst this
    refine Or.inr ⟨r, hr, h1.trans z1, h2.trans z2, fun i hi => ?_⟩
    obtain ⟨p1, p2⟩ := h3 i hi
    rcases z3 i hi with ⟨y1, y2⟩ | ⟨c, hc, y1, y2, y3⟩
    · exact Or.inl ⟨p1.trans y1, (h4 i (by omega)).trans y2⟩
    · refine Or.inr ⟨c, hc, p1.trans y1, (h4 i (by omega)).trans y2, fun k hk => ?_⟩
      have e := h5 (10 * i + k) (by omega)
      rw [show 80 * to + (10 * i + k) = 10 * (8 * to + i) + k by omega, show 80 * fr + (10 * i + k) = 10 * (8 * fr + i) + k by omega] at e
      have := y3 k hk
      unfold LT at this ⊢
      rw [p2 c k y1 hc hk, e]
      exact this
theorem lp_join {F : Nat} (hF : 6000 ≤ F) {S0 : AmT} {W A0 m0 : Mem} {nj nf ns ng nb t a b pa pb : Nat} (hC0 : Cur A0 m0 nj nf ns ng nb) (ha : a < nj) (hb : b < nj) (h15a : A0 15 a = nI pa) (h15b : A0 15 b = nI pb) (hsum : pa + pb ≤ 24) (hT : Tl A0 m0 t) (h29 : m0 95 29 = 1) :
    ∀ (n k : Nat) (S : AmT) (A m : Mem), k ≤ pb → pb < n + k → Kz S0 S A → JI A0 m0 a pa k A m →
      ∃ v S1 A' B, g55_22 F n (nI a) (nI b) (nI pa) (nI pb) (nI (k + 1)) S = some (v, S1) ∧ J S1 B 640 ∧ (∀ o, 5 ≤ o → o ≤ 94 → S1.1 o = A' o) ∧ (∀ o, 95 ≤ o → S1.1 o = S0.1 o) ∧ Cur B m0 nj nf ns ng nb ∧ ∀ S2, My S1 S2 m W → MG S1 W (g223_59 F n (nI a) (nI b) (nI pb) (nI (k + 1)) S2) (RgQ v A' t)
  | 0, k, S, A, m, g1, g2, hK, hJ => absurd g2 (by omega)
  | n + 1, k, S, A, m, g1, g2, hK, hJ => by
    have hnj := hC0.1.1
    obtain ⟨j1, j2, j3, j4, j5⟩ := id hJ
    unfold g55_22 g223_59
    by_cases hk : k = pb
    · subst hk
      have hst := Ky_ks (S0 := (S.1, S.2)) (A := A) (k := 0) (c := 14) (ar := 15) (n := 3) (p := a) (v := nI (pa + k)) ⟨Kz_J hK, hK.2.2.1, fun o ho => rfl⟩ (by omega) rfl (by omega)
      refine ⟨nI (pa + k), ks S 14 15 3 (nI a) (nI (pa + k)), am_upI A 15 a (nI (pa + k)), S.1, ?_, J_mono hst.1 (by omega), hst.2.1, fun o ho => (hst.2.2 o ho).trans (hK.2.2.2 o ho), ?_, fun S2 hM => ?_⟩
      · rw [if_pos (nI_lt (by omega) (by omega)), nn_at (Kz_J hK) (by omega), nI_add]
      · refine Cur_congr (A := cst (cst (cst A0 17 (A 17)) 19 (A 19)) 21 (A 21)) (fun o ho => ?_) ?_
        · rw [hK.2.2.1 o (by omega) (by omega)]
          by_cases q1 : o = 21
          · subst q1
            rw [cst_at]
          by_cases q2 : o = 19
          · subst q2
            rw [cst_ne (by decide), cst_at]
          by_cases q3 : o = 17
          · subst q3
            rw [cst_ne (by decide), cst_ne (by decide), cst_at]
          rw [cst_ne q1, cst_ne q2, cst_ne q3, j1 o (by omega) (by omega) q3 q2 q1]
        · obtain ⟨⟨d1, d2, d3, d4⟩, c2, c3, c4, c5⟩ := id hC0
          unfold Cur
          simp only [cst_at, cst_ne, am_upI_at, am_upI_ne, pk_us, pk_un, ne_eq, Nat.reduceEqDiff, not_false_eq_true]
          refine ⟨⟨d1, d2, d3, fun j hj => ?_⟩, c2, c3, c4, c5⟩
          obtain ⟨e1, e2, e3, l', v', p', k1, k2, k3, k4, k5, k6, k7, k8⟩ := d4 j hj
          refine ⟨e1, e2, e3, l', v', p', k1, k2, k3, k4, k5, k6, k7, fun s s1 s2 => ?_⟩
          have hpa : j = a → p' = pa := fun q => by
            subst q
            rw [h15a] at k6
            exact ((nI_eq (by omega) (by omega)).mp k6).symm
          obtain ⟨y1, -, y3⟩ := j4 s (by omega) (by
            by_cases q : j = a
            · have := hpa q
              subst q
              omega
            · omega)
          refine PG_mono (k8 s s1 s2) y1 rfl fun i hi hw => RW_mono hw (y3 i hi).1 rfl fun q hq hl => ?_
          unfold LT at hl ⊢
          rw [((y3 i hi).2.2 q hq).1]
          exact hl
      · have e97 : S2.1 97 a = nI (pa + k) := by
          rw [My_rd hM (mi_h (by show a < 3; omega)), j3, pk_us]
        rw [if_pos (nI_lt (by omega) (by omega)), ck_at (by omega) (by omega), nI_clamp (by omega), e97]
        refine MG_ret hM ⟨rfl, ⟨nj, nf, ns, ng, nb, ?_⟩, ?_, ?_⟩
        · refine Cur_congr (A := cst (cst (cst (am_upI A0 15 a (nI (pa + k))) 17 (A 17)) 19 (A 19)) 21 (A 21)) (fun o ho => ?_) (Cur_congr_m (m := cst (cst (cst (am_upI m0 97 a (nI (pa + k))) 100 (m 100)) 101 (m 101)) 102 (m 102)) (fun o o1 o2 => ?_) ?_)
          · by_cases q1 : o = 21
            · subst q1
              rw [cst_at, am_upI_ne (by decide)]
            by_cases q2 : o = 19
            · subst q2
              rw [cst_ne (by decide), cst_at, am_upI_ne (by decide)]
            by_cases q3 : o = 17
            · subst q3
              rw [cst_ne (by decide), cst_ne (by decide), cst_at, am_upI_ne (by decide)]
            rw [cst_ne q1, cst_ne q2, cst_ne q3]
            by_cases q4 : o = 15
            · subst q4
              rw [am_upI_at, am_upI_at, j1 15 (by omega) (by omega) (by omega) (by omega) (by omega)]
            · rw [am_upI_ne q4, am_upI_ne q4, j1 o (by omega) (by omega) q3 q2 q1]
          · by_cases q1 : o = 102
            · subst q1
              rw [cst_at]
            by_cases q2 : o = 101
            · subst q2
              rw [cst_ne (by decide), cst_at]
            by_cases q3 : o = 100
            · subst q3
              rw [cst_ne (by decide), cst_ne (by decide), cst_at]
            rw [cst_ne q1, cst_ne q2, cst_ne q3]
            by_cases q4 : o = 97
            · subst q4
              rw [am_upI_at, j3]
            · rw [am_upI_ne q4, j2 o q4 q3 q2 q1]
          · obtain ⟨⟨d1, d2, d3, d4⟩, c2, c3, c4, c5⟩ := id hC0
            unfold Cur
            simp only [cst_at, cst_ne, am_upI_at, am_upI_ne, pk_us, pk_un, ne_eq, Nat.reduceEqDiff, not_false_eq_true]
            refine ⟨⟨d1, d2, d3, fun j hj => ?_⟩, c2, c3, c4, c5⟩
            obtain ⟨e1, e2, e3, l', v', p', k1, k2, k3, k4, k5, k6, k7, k8⟩ := d4 j hj
            by_cases q : j = a
            · subst q
              have hpa : p' = pa := by
                rw [h15a] at k6
                exact ((nI_eq (by omega) (by omega)).mp k6).symm
              subst hpa
              rw [pk_us, pk_us]
              refine ⟨e1, e2, rfl, l', v', p' + k, k1, k2, by omega, k4, k5, rfl, fun z => absurd ha (by omega), fun s s1 s2 => ?_⟩
              by_cases q2 : s < 24 * j + p'
              · exact JI_PG hJ (by omega) (Or.inl q2) (k8 s s1 q2)
              · have := j5 (s - (24 * j + p')) (by omega)
                rwa [show 24 * j + p' + (s - (24 * j + p')) = s by omega] at this
            · rw [pk_un q, pk_un q]
              exact ⟨e1, e2, e3, l', v', p', k1, k2, k3, k4, k5, k6, k7, fun s s1 s2 => JI_PG hJ (by omega) (by omega) (k8 s s1 s2)⟩
        · refine Tl_mono (Tl_congr hT ?_ ?_ (fun j _ _ => ?_) ?_) (by omega)
          · rw [am_upI_ne (by decide), j1 5 (by omega) (by omega) (by omega) (by omega) (by omega)]
          · rw [am_upI_ne (by decide), j1 6 (by omega) (by omega) (by omega) (by omega) (by omega)]
          · rw [j2 95 (by omega) (by omega) (by omega) (by omega)]
          · rw [j2 125 (by omega) (by omega) (by omega) (by omega)]
        · rw [j2 95 (by omega) (by omega) (by omega) (by omega), h29]
    -- one more page
    have hfr : 24 * b + k < 24 * a + pa ∨ 24 * a + pa + k < 24 * b + k := by
      by_cases q : b = a
      · subst q
        rw [h15a] at h15b
        have := (nI_eq (by omega) (by omega)).mp h15b
        omega
      · omega
    obtain ⟨l, w, p, b1, b2, b3, b4, b5, b6, b7, b8, b9, b10, b11⟩ := Cur_job hC0 (j := b) (by omega)
    have hpb : p = pb := by
      rw [h15b] at b6
      exact ((nI_eq (by omega) (by omega)).mp b6).symm
    subst hpb
    have hP := JI_PG hJ (by omega) (by omega) (b11 (24 * b + k) (by omega) (by omega))
    obtain ⟨R, hR, hst, hc, hRr⟩ := PG_stop hP
    have e39 : f39 F (nI a) (nI pa + nI (k + 1)) S = some (nI (24 * a + pa + k), S) := by
      rw [nI_add, show pa + (k + 1) = (pa + k) + 1 by omega, f39_eq, Nat.add_assoc]
    rw [if_neg (nI_nlt (by omega) (by omega)), f39_eq, b2_at, e39, b2_at]
    unfold f56
    rw [Kz_kg hK (by omega) (by omega) (by omega)]
    have h1 := Kz_ku (v := A 17 (24 * b + k)) hK (show 5 ≤ 17 ∧ 17 ≤ 94 by omega) (show 24 * a + pa + k < 72 by omega) (by omega)
    obtain ⟨S1, A1, y1, y2, f19, f21, rfl, y3, y4, y5⟩ := lp_56a hF (A := am_upI A 17 (24 * a + pa + k) (A 17 (24 * b + k))) (fr := 24 * b + k) (to := 24 * a + pa + k) (R := R) (by omega) (by omega) (by omega) hR (by rw [am_upI_at, pk_un (by omega)]; exact hst) (by rw [am_upI_ne (by decide)]; exact hc) F 0 _ (A 19) (A 21) (by omega) (by omega) (by
      have e : cst (cst (am_upI A 17 (24 * a + pa + k) (A 17 (24 * b + k))) 19 (A 19)) 21 (A 21) = am_upI A 17 (24 * a + pa + k) (A 17 (24 * b + k)) := by
        funext o
        by_cases q1 : o = 21
        · subst q1
          rw [cst_at, am_upI_ne (by decide)]
        by_cases q2 : o = 19
        · subst q2
          rw [cst_ne (by decide), cst_at, am_upI_ne (by decide)]
        rw [cst_ne q1, cst_ne q2]
      rw [e]
      exact h1) (fun r _ => by rw [am_upI_ne (by decide)]) (fun q _ => by rw [am_upI_ne (by decide)]) (fun i hi => absurd hi (by omega))
    rw [am_upI_ne (by decide)] at y3 y4 y5
    rw [am_upI_ne (by decide)] at y5
    have hz : g56_18 F F (nI (24 * b + k)) (nI (24 * a + pa + k)) 0 (ku S 17 72 (nI (24 * a + pa + k)) (A 17 (24 * b + k))) = some S1 := y1
    rw [show am_lt (ku S 17 72 (nI (24 * a + pa + k)) (A 17 (24 * b + k))) (fun S1 => g56_18 F F (nI (24 * b + k)) (nI (24 * a + pa + k)) 0 S1) = some S1 from hz, bind_at, nI_1]
    generalize hA2 : cst (cst (am_upI A 17 (24 * a + pa + k) (A 17 (24 * b + k))) 19 f19) 21 f21 = A2 at y2
    generalize hm2 : cst (cst (am_upI (am_upI m 97 a (nI (pa + k + 1))) 100 (24 * a + pa + k) (m 100 (24 * b + k))) 101 (cpy (m 101) (8 * (24 * a + pa + k)) (8 * (24 * b + k)) 8)) 102 (cpy (m 102) (80 * (24 * a + pa + k)) (80 * (24 * b + k)) 80) = m2
    have A17 : A2 17 = upd (A 17) (24 * a + pa + k) (A 17 (24 * b + k)) := by rw [← hA2, cst_ne (by decide), cst_ne (by decide), am_upI_at]
    have A19 : A2 19 = f19 := by rw [← hA2, cst_ne (by decide), cst_at]
    have A21 : A2 21 = f21 := by rw [← hA2, cst_at]
    have m100 : m2 100 = upd (m 100) (24 * a + pa + k) (m 100 (24 * b + k)) := by rw [← hm2, cst_ne (by decide), cst_ne (by decide), am_upI_at, am_upI_ne (by decide)]
    have m101 : m2 101 = cpy (m 101) (8 * (24 * a + pa + k)) (8 * (24 * b + k)) 8 := by rw [← hm2, cst_ne (by decide), cst_at]
    have m102 : m2 102 = cpy (m 102) (80 * (24 * a + pa + k)) (80 * (24 * b + k)) 80 := by rw [← hm2, cst_at]
    have hJ2 : JI A0 m0 a pa (k + 1) A2 m2 := by
      refine ⟨fun o o1 o2 q1 q2 q3 => ?_, fun o q1 q2 q3 q4 => ?_, ?_, fun s hs hs2 => ?_, fun k' hk' => ?_⟩
      · rw [← hA2, cst_ne q3, cst_ne q2, am_upI_ne q1, j1 o o1 o2 q1 q2 q3]
      · rw [← hm2, cst_ne q4, cst_ne q3, am_upI_ne q2, am_upI_ne q1, j2 o q1 q2 q3 q4]
      · rw [← hm2, cst_ne (by decide), cst_ne (by decide), am_upI_ne (by decide), am_upI_at, j3, upd_upd, Nat.add_assoc]
      · obtain ⟨z1, z2, z3⟩ := j4 s hs (by omega)
        rw [A17, A19, A21, m100, m101, m102, pk_un (by omega), pk_un (by omega)]
        refine ⟨z1, z2, fun i hi => ?_⟩
        obtain ⟨z4, z5, z6⟩ := z3 i hi
        refine ⟨(y3 _ (by omega)).trans z4, (cpy_out (by omega)).trans z5, fun q hq => ?_⟩
        obtain ⟨z7, z8⟩ := z6 q hq
        exact ⟨(y4 _ (by omega)).trans z7, (cpy_out (by omega)).trans z8⟩
      · rw [A17, A19, A21, m100, m101, m102]
        by_cases q : k' = k
        · subst q
          exact PG_copy (R := R) hP pk_us pk_us hRr y5 (fun i hi => cpy_in hi) (fun q hq => cpy_in hq)
        · refine PG_mono (j5 k' (by omega)) (pk_un (by omega)) (pk_un (by omega)) fun i hi hw => RW_mono hw (y3 _ (by omega)) (cpy_out (by omega)) fun q hq hl => ?_
          unfold LT at hl ⊢
          rw [y4 _ (by omega), cpy_out (by omega)]
          exact hl
    obtain ⟨v, S3, A3, B, x1, x2, x3, x4, x5, x6⟩ := lp_join hF hC0 ha hb h15a h15b hsum hT h29 n (k + 1) S1 A2 m2 (by omega) (by omega) y2 hJ2
    refine ⟨v, S3, A3, B, x1, x2, x3, x4, x5, fun S2 hM => ?_⟩
    have q97 : S2.1 97 a = nI (pa + k) := by rw [My_rd hM (mi_h (by show a < 3; omega)), j3, pk_us]
    rw [if_neg (nI_nlt (by omega) (by omega)), ck_at (by omega) (by omega), ck_at (by omega) (by omega), nI_clamp (n := a) (by omega), q97, nI_1]
    refine MG_up hM (mi_h (by show a < 3; omega)) fun S4 h4 => ?_
    have q97' : S4.1 97 a = nI (pa + k + 1) := (My_rd h4 (mi_h (by show a < 3; omega))).trans (by simp only [am_upI_at, am_upI_ne, pk_us, pk_un, ne_eq, Nat.reduceEqDiff, not_false_eq_true])
    rw [f207_eq, b2_at, ck_at (by omega) (by omega), q97', f207_eq, b2_at, ck_at (by omega) (by omega), nI_clamp (n := 24 * b + k) (by omega), My_rd h4 (mi_h (by show 24 * b + k < 72; omega)), am_upI_ne (by decide)]
    refine MG_cu (p := 24 * a + pa + k) h4 (by rw [Nat.add_assoc]) (by show 24 * a + pa + k < 72; omega) (by omega) (by omega) fun S5 h5 => ?_
    rw [← Nat.add_assoc]
    refine lp_223a (fr := 24 * b + k) (to := 24 * a + pa + k) (A := am_upI (am_upI m 97 a (nI (pa + k + 1))) 100 (24 * a + pa + k) (m 100 (24 * b + k))) (by omega) (by omega) (by omega) (fun S6 h6 => ?_) F 0 S5 (by omega) (by omega) (by rw [cpy_0, cst_id]; exact h5)
    rw [am_upI_ne (by decide), am_upI_ne (by decide)] at h6
    refine lp_223b (fr := 24 * b + k) (to := 24 * a + pa + k) (A := cst (am_upI (am_upI m 97 a (nI (pa + k + 1))) 100 (24 * a + pa + k) (m 100 (24 * b + k))) 101 (cpy (m 101) (8 * (24 * a + pa + k)) (8 * (24 * b + k)) 8)) (by omega) (by omega) (by omega) (fun S7 h7 => ?_) F 0 S6 (by omega) (by omega) (by rw [cpy_0, cst_id]; exact h6)
    rw [cst_ne (by decide), am_upI_ne (by decide), am_upI_ne (by decide), hm2] at h7
    rw [nI_1]
    exact x6 S7 h7
theorem st_join {F : Nat} (hF : 6000 ≤ F) (x1 x2 : Int32) : FpStep (f153 F x1 x2) (f223 F x1 x2) := by
  refine Fp_of fun S t ht hR => ?_
  obtain ⟨nj, nf, ns, ng, nb, hC⟩ := Rel_z hR
  have hn := hC.1.1
  unfold f153 f223
  refine RG_jam hR ?_
  refine RG_g1 (Gd_job hC) hR ?_
  rintro ⟨a, ha, rfl⟩
  refine RG_g1 (Gd_job hC) hR ?_
  rintro ⟨b, hb, rfl⟩
  obtain ⟨-, -, pa, -, -, a3, -, -, a6, -, -, a9, -⟩ := Cur_job hC (j := a) (by omega)
  obtain ⟨-, -, pb, -, -, b3, -, -, b6, -, -, b9, -⟩ := Cur_job hC (j := b) (by omega)
  have ea : ∀ S1, fr S S1 → S1.1 97 a = nI pa := fun S1 hf => by rw [hf 97 (by omega), ← mz_at (I := S.1) (k := 97) (mi_h (by show a < 3; omega)), a9]
  have eb : ∀ S1, fr S S1 → S1.1 97 b = nI pb := fun S1 hf => by rw [hf 97 (by omega), ← mz_at (I := S.1) (k := 97) (mi_h (by show b < 3; omega)), b9]
  unfold f36
  simp only [b2_at, ck_at (show a < 6 by omega) (show 6 < 2147483648 by omega), ck_at (show b < 6 by omega) (show 6 < 2147483648 by omega), nI_clamp (show a < 2 ^ 31 by omega), nI_clamp (show b < 2 ^ 31 by omega)]
  rw [kg_at (by omega) (by omega), kg_at (by omega) (by omega), a6, b6, nI_add]
  refine RG_ite (fun S1 hf => ?_) (fun hle => ?_) (fun _ => RG_ret hR)
  · rw [ea S1 hf, eb S1 hf, nI_add]
  have hsum : pa + pb ≤ 24 := (nI_leI (b := 24) (by omega) (by omega)).mp hle
  refine RG_m (M' := fun S1 => (f201 F S1).bind fun S11 => g223_59 F F (nI a) (nI b) (nI pb) 1 S11) (fun S1 hf => ?_) ?_
  · rw [eb S1 hf]
  refine RG_chgB hF hR hC fun m0 hm hT h29 hmv => ?_
  have hK := Kz_beg S
  have hJ0 : JI S.1 m0 a pa 0 S.1 m0 := by
    refine ⟨fun _ _ _ _ _ _ => rfl, fun _ _ _ _ _ => rfl, ?_, fun s _ _ => ⟨rfl, rfl, fun i _ => ⟨rfl, rfl, fun q _ => ⟨rfl, rfl⟩⟩⟩, fun k' hk' => absurd hk' (by omega)⟩
    obtain ⟨-, -, p', -, -, k3, -, -, k6, -, -, k9, -⟩ := Cur_job hm (j := a) (by omega)
    rw [a6] at k6
    have := (nI_eq (by omega) (by omega)).mp k6
    subst this
    rw [Nat.add_zero, ← k9, upd_same]
  obtain ⟨v, S1, A', B, z1, z2, z3, z4, z5, z6⟩ := lp_join hF (W := mv S.1) hm ha hb a6 b6 hsum hT h29 F 0 (beg S) S.1 m0 (by omega) (by omega) hK hJ0
  refine ⟨v, S1, A', B, ?_, z2, z3, z4, ⟨nj, nf, ns, ng, nb, Cur_congr_m (fun o o1 o2 => (hmv o o1 o2).symm) z5⟩, z6⟩
  rw [b2_id]
  unfold f55
  rw [Kz_kg hK (by omega) (by omega) (by omega), Kz_kg hK (by omega) (by omega) (by omega), a6, b6]
  exact z1
