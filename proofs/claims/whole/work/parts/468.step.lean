/-! calls: step -/
theorem e_facts {e : Nat} (h1 : 1 ≤ e) (h2 : e ≤ 10) : ¬ (-11 : Int32) < -10 - nI e ∧ ¬ (0 : Int32) ≤ -10 - nI e ∧ -10 - (-10 - nI e) = nI e ∧ ¬ nI e ≤ 0 := by
  have : ∀ e : Fin 11, 1 ≤ e.val → ¬ (-11 : Int32) < -10 - nI e.val ∧ ¬ (0 : Int32) ≤ -10 - nI e.val ∧ -10 - (-10 - nI e.val) = nI e.val ∧ ¬ nI e.val ≤ 0 := by decide
  exact this ⟨e, by omega⟩ h1
def spA (A : Mem) (s e : Nat) : Mem := am_upI (am_upI (am_upI (am_upI A 5 2 (A 5 2 + 1)) 5 3 (nI e)) 64 s 6) 68 s (nI e)
def spM (m : Mem) (s e : Nat) : Mem := am_upI (am_upI (am_upI (am_upI m 95 30 (m 95 30 + 1)) 95 31 (nI e)) 112 s 6) 114 s (nI e)
theorem spl_c {F : Nat} {S0 S : AmT} {A : Mem} {k s e : Nat} (hK : Ky S0 S A k) (hk : k + 2 ≤ 640) (hs : s < 8) (h1 : 1 ≤ e) (h2 : e ≤ 10) : ∃ S', g87_47 F (nI s) (-10 - nI e) S = some (0, S') ∧ Ky S0 S' (spA A s e) (k + 2) := by
  obtain ⟨f1, f2, f3, f4⟩ := e_facts h1 h2
  have h2' : Ky S0 (cf S (nI e)) (am_upI (am_upI A 5 2 (A 5 2 + 1)) 5 3 (nI e)) k := by
    have := Ky_up (o := 5) (i := 3) (x := nI e) (Ky_up (o := 5) (i := 2) (x := S.1 5 2 + 1) hK (Or.inl rfl)) (Or.inl rfl)
    rw [Ky_rd hK (by omega) (by omega)] at this
    have e : cf S (nI e) = (am_upI (am_upI S.1 5 2 (A 5 2 + 1)) 5 3 (nI e), S.2) := by
      unfold cf
      rw [Ky_rd hK (by omega) (by omega)]
    rw [e]
    exact this
  have h3 := Ky_ks (c := 63) (ar := 64) (n := 8) (p := s) (v := 6) h2' (by omega) rfl hs
  have h4 := Ky_ks (c := 67) (ar := 68) (n := 8) (p := s) (v := nI e) h3 (by omega) rfl hs
  refine ⟨_, ?_, h4⟩
  unfold g87_47 f126 f130
  rw [if_neg f2, f129_find f1, b2_at, b2_at, f3, nn_at h2'.1 (by omega)]
  dsimp only [am_lt]
  rw [nn_at h3.1 (by omega), bind_at]
theorem MG_286 {F : Nat} {S1 S : AmT} {m W : Mem} {s e : Nat} {K : AmT → Option (Int32 × AmT)} {Q : Int32 → Mem → Prop} (h : My S1 S m W) (hs : s < 8) (h1 : 1 ≤ e) (h2 : e ≤ 10) (H : ∀ S', My S1 S' (spM m s e) W → MG S1 W (K S') Q) : MG S1 W ((f286 F (nI s) (nI e) S).bind K) Q := by
  obtain ⟨f1, f2, f3, f4⟩ := e_facts h1 h2
  have a1 := My_up (k := 95) (i := 30) (x := m 95 30 + 1) h (Or.inl rfl)
  have a2 := My_up (k := 95) (i := 31) (x := nI e) a1 (Or.inl rfl)
  have a3 := My_up (k := 112) (i := s) (x := 6) a2 (mi_h (by show s < 8; omega))
  have a4 := My_up (k := 114) (i := s) (x := nI e) a3 (mi_h (by show s < 8; omega))
  have e1 : f286 F (nI s) (nI e) S = some (am_upI (am_upI (am_upI (am_upI S.1 95 30 (m 95 30 + 1)) 95 31 (nI e)) 112 s 6) 114 s (nI e), S.2) := by
    unfold f286
    rw [f203_eq, b2_at, ck_at (by omega) (by omega), nI_clamp (by omega), f3]
    dsimp only [am_lt]
    rw [ck_at (by omega) (by omega)]
    unfold mf
    rw [My_rd h (Or.inl rfl)]
  rw [e1, bind_at]
  exact H _ a4
theorem Cur_sp {A m : Mem} {nj nf ns ng nb s e : Nat} (hs : s < ns) (hC : Cur A m nj nf ns ng nb) : Cur (spA A s e) (spM m s e) nj nf ns ng nb := by
  obtain ⟨c1, c2, c3, c4, c5⟩ := hC
  unfold Cur spA spM
  simp only [am_upI_at, am_upI_ne, pk_us, pk_un, ne_eq, Nat.reduceEqDiff, not_false_eq_true]
  refine ⟨c1, c2, GS_st c3 (fun s hs h => h) (fun s hs h => upd2 h) (fun s hs h => h) (fun s hs h => upd2 h) (fun s hs h => h) (fun s' hs' h => ?_) (fun s' hs' h => ?_), c4, c5⟩
  · by_cases q : s' = s
    · subst q
      rw [pk_us]
      exact Or.inr ⟨6, by omega, rfl⟩
    · rw [pk_un q]
      exact h
  · rw [pk_un (by omega)]
    exact h
theorem TT_sp {A m : Mem} {n s e : Nat} (hT : TT A m n) : TT (spA A s e) (spM m s e) n := by
  refine TT_congr (TT_f (x := nI e) hT) ?_ ?_ (fun j _ _ => ?_) ?_
  · unfold spA
    simp only [am_upI_at, am_upI_ne, pk_us, pk_un, ne_eq, Nat.reduceEqDiff, not_false_eq_true]
  · unfold spA
    simp only [am_upI_at, am_upI_ne, pk_us, pk_un, ne_eq, Nat.reduceEqDiff, not_false_eq_true]
  · unfold spM
    simp only [am_upI_at, am_upI_ne, pk_us, pk_un, ne_eq, Nat.reduceEqDiff, not_false_eq_true]
  · unfold spM
    simp only [am_upI_at, am_upI_ne, pk_us, pk_un, ne_eq, Nat.reduceEqDiff, not_false_eq_true]
/-- workAt() -/
theorem stn {F : Nat} (hF : 6000 ≤ F) {S0 S : AmT} {A m : Mem} {k n nj nf ns ng nb j : Nat} (hj : j ≤ 4) (hK : Ky S0 S A k) (hk : k + 5 ≤ 640) (hC : Cur A m nj nf ns ng nb) (hT : TT A m n) (hn : n + 32 ≤ 1900000) (h29 : m 95 29 = 1) (h92 : A 92 0 = 0) :
    ∃ v S' A', v ≤ 1 ∧ f87 F (nI j) S = some (nI v, S') ∧ Ky S0 S' A' (k + 5) ∧ (A' 92 0 = 0 ∨ (A' 92 0 = 1 ∧ v = 0)) ∧
      ∀ (S1 : AmT) (W : Mem) (Sm : AmT) (N : Nat) (x1 : Int32) (Q : Int32 → Mem → Prop), My S1 Sm m W → (∀ S2 m2, My S1 S2 m2 W → Cur A' m2 nj nf ns ng nb → TT A' m2 (n + 32) → m2 95 29 = 1 → MG S1 W (if A' 92 0 = 0 then g287_18 F N (x1 + nI v) (nI j - 1) S2 else some (x1, S2)) Q) → MG S1 W (g287_18 F (N + 1) x1 (nI j) Sm) Q := by
  have hns := hC.2.2.1.1
  have eS : ∀ o, 5 ≤ o → o ≤ 94 → S.1 o = A o := hK.2.1
  have e48 : S.1 48 0 = nI ns := by rw [eS 48 (by omega) (by omega)]; exact hC.2.2.1.2.1
  have a5 : ∀ s, s < 8 → m 112 s = A 64 s := fun s hs => (hC.2.2.1.2.2.2.1 s hs).2.2.2.2.1.symm
  obtain ⟨g1, g2, g3, g4, g5, g6, g7⟩ := hC.2.2.2.2
  obtain ⟨j1, j2⟩ := g1 j (by omega)
  have hsub : nI j + (-1) = nI j - 1 := (Int32.sub_eq_add_neg _ _).symm
  have e123 : f123 F (nI j) S = some (fa (A 64) (nI j) ns 0, S) := by rw [f123_eq hF hns e48, eS 64 (by omega) (by omega)]
  have e280 : ∀ {S1 : AmT} {W : Mem} {Sm : AmT}, My S1 Sm m W → f280 F (nI j) Sm = some (fa (A 64) (nI j) ns 0, Sm) := fun {S1 W Sm} hy => by
    rw [f280_eq hF hns (by rw [My_rd hy (mi_h (by decide))]; exact hC.2.2.1.2.2.1), fa_congr ns 0 (fun s hs => by rw [My_rd hy (mi_h (show s < 8 by omega)), a5 s (by omega)])]
  rcases fa_or (a := A 64) (x := nI j) ns 0 with hfa | ⟨s, hs, hfa, hsj⟩
  · refine ⟨0, S, A, by omega, ?_, Ky_mono hK (by omega), Or.inl h92, fun S1 W Sm N x1 Q hy H => ?_⟩
    · unfold f87
      rw [e123, hfa, b2_at, if_neg (by decide)]
      rfl
    · have := H Sm m hy hC (TT_mono hT (by omega)) h29
      rw [if_pos h92, show x1 + nI 0 = x1 from Int32.add_zero _] at this
      rw [g287_18]
      unfold g287_113
      rw [if_neg (nI_pos (by omega)), e280 hy, hfa, b2_at, if_neg (by decide), hsub]
      exact this
  · have hs : s < ns := by omega
    -- the sheet is counted
    have hK1 : Ky S0 (am_upI S.1 5 4 (A 5 4 + 1), S.2) (am_upI A 5 4 (A 5 4 + 1)) k := Ky_up hK (Or.inl rfl)
    have e134 : f134 F S = some (am_upI S.1 5 4 (A 5 4 + 1), S.2) := by
      unfold f134
      rw [eS 5 (by omega) (by omega)]
    have hC1 : Cur (am_upI A 5 4 (A 5 4 + 1)) (am_upI m 95 32 (m 95 32 + 1)) nj nf ns ng nb := Cur_congr (fun o ho => am_upI_ne (by omega)) (Cur_congr_m (fun o o1 o2 => am_upI_ne (by omega)) hC)
    have hT1 : TT (am_upI A 5 4 (A 5 4 + 1)) (am_upI m 95 32 (m 95 32 + 1)) n := by
      obtain ⟨b1, b2, b3, b4, b5, b6, ⟨tc, b7, b8, b9⟩, b10⟩ := hT
      unfold TT
      simp only [am_upI_at, am_upI_ne, pk_us, pk_un, ne_eq, Nat.reduceEqDiff, not_false_eq_true]
      exact ⟨b1, b2, by rw [b3], b4, b5, b6, ⟨tc, b7, b8, b9⟩, b10⟩
    have h291 : (am_upI m 95 32 (m 95 32 + 1)) 95 29 = 1 := by
      simp only [am_upI_at, am_upI_ne, pk_us, pk_un, ne_eq, Nat.reduceEqDiff, not_false_eq_true]
      exact h29
    revert hK1 e134
    generalize ((am_upI S.1 5 4 (A 5 4 + 1), S.2) : AmT) = Sa
    intro hK1 e134
    have h88 : kg Sa.1 88 5 (nI j) = A 88 j := by rw [Ky_kg hK1 (by omega) (by omega) (by omega), am_upI_ne (by decide)]
    have h92' : am_upI A 5 4 (A 5 4 + 1) 92 0 = 0 := by rw [am_upI_ne (by decide)]; exact h92
    have h64' : am_upI A 5 4 (A 5 4 + 1) 64 s = nI j := by rw [am_upI_ne (by decide)]; exact hsj
    have hA88 : am_upI A 5 4 (A 5 4 + 1) 88 = A 88 := am_upI_ne (by decide)
    have hm124 : am_upI m 95 32 (m 95 32 + 1) 124 j = A 88 j := by rw [am_upI_ne (by decide), ← j1]
    revert hC1 hT1 h291 hK1 h92' h64' hm124 hA88
    generalize am_upI A 5 4 (A 5 4 + 1) = A1
    have hm1 : ∃ m1, m1 = am_upI m 95 32 (m 95 32 + 1) := ⟨_, rfl⟩
    obtain ⟨m1, hm1⟩ := hm1
    rw [← hm1]
    intro hC1 hT1 h291 hK1 h92' h64' hA88 hm124
    have hcl : f87 F (nI j) S = if A 88 j = 0 then (am_b2 (f89 F (nI s) (nI j) Sa) fun v6 S7 => g87_47 F (nI s) v6 S7) else (am_b2 (f88 F (nI j) Sa) fun v15 S16 => g87_47 F (nI s) v15 S16) := by
      unfold f87
      rw [e123, hfa, b2_at, if_pos (nI_le0 (by omega)), e134, bind_at, h88]
    have hmo : ∀ (S1 : AmT) (W : Mem) (Sm : AmT) (N : Nat) (x1 : Int32) (Q : Int32 → Mem → Prop), My S1 Sm m W → (∀ S9, My S1 S9 m1 W → MG S1 W (if A 88 j = 0 then (am_b2 (f285 F (nI s) (nI j) S9) fun v11 S12 => if v11 ≤ 0 then (am_ck (nI s) 16 (am_lt ((am_upI S12.1 112 (nI s).toNatClampNeg (nI j + 1), S12.2) : AmT) fun S14 => g287_18 F N (x1 + 1) (nI j - 1) S14)) else ((f286 F (nI s) v11 S12).bind fun S15 => g287_18 F N x1 (nI j - 1) S15)) else (am_ck (nI j) 10 (am_lt ((am_upI S9.1 124 (nI j).toNatClampNeg 0, S9.2) : AmT) fun S16 => (f286 F (nI s) 10 S16).bind fun S17 => am_lt ((am_upI S17.1 96 8 1, S17.2) : AmT) fun S18 => some (x1, S18)))) Q) → MG S1 W (g287_18 F (N + 1) x1 (nI j) Sm) Q := by
      intro S1 W Sm N x1 Q hy H
      rw [g287_18]
      unfold g287_113
      rw [if_neg (nI_pos (by omega)), e280 hy, hfa, b2_at, if_pos (nI_le0 (by omega)), My_rd hy (Or.inl rfl)]
      refine MG_up hy (Or.inl rfl) fun S9 h9 => ?_
      rw [← hm1] at h9
      have := H S9 h9
      rw [ck_at (by omega) (by omega), nI_clamp (n := j) (by omega), My_rd h9 (mi_h (show j < 5 by omega)), hm124]
      rw [nI_clamp (n := j) (by omega)] at this
      simp only [hsub, tz8]
      exact this
    rcases j2 with j2 | j2
    · obtain ⟨e, v, S', A', z1, z2, z3, z4, z5⟩ := wrk hF hj hs hK1 (by omega) hC1 hT1 hn h291
      rcases z4 with ⟨he, hv⟩ | ⟨he1, he9, hv⟩
      · -- it went well
        have h64 : S'.1 64 s = nI j := by rw [z2.2.1 64 (by omega) (by omega), z3 64 (by omega) (by omega), h64']
        have hK2 := Ky_ks (c := 63) (ar := 64) (n := 8) (p := s) (v := nI j + 1) z2 (by omega) rfl (by omega)
        have hA92 : am_upI A' 64 s (nI j + 1) 92 0 = 0 := by rw [am_upI_ne (by decide), z3 92 (by omega) (by omega)]; exact h92'
        refine ⟨1, _, _, by omega, ?_, Ky_mono hK2 (by omega), Or.inl hA92, fun S1 W Sm N x1 Q hy H => ?_⟩
        · rw [hcl, if_pos j2, z1, b2_at]
          unfold g87_47 f125
          rw [if_pos hv, nn_at z2.1 (by omega), kg_at (by omega) (by omega), h64]
          rfl
        · refine hmo S1 W Sm N x1 Q hy fun S9 h9 => ?_
          rw [if_pos j2]
          refine MG_b2 (z5 S1 W S9 h9) fun v' S6 m6 h6 hq => ?_
          obtain ⟨rfl, q1, q2, q3⟩ := hq
          rw [he, if_pos (show nI 0 ≤ (0 : Int32) from Int32.le_refl _)]
          refine MG_cu h6 rfl (show s < 8 by omega) (by omega) (by omega) fun S7 h7 => ?_
          have := H S7 _ h7 ?_ ?_ ?_
          · rw [if_pos hA92] at this
            exact this
          · obtain ⟨c1, c2, c3, c4, c5⟩ := q1
            unfold Cur
            simp only [am_upI_at, am_upI_ne, pk_us, pk_un, ne_eq, Nat.reduceEqDiff, not_false_eq_true]
            refine ⟨c1, c2, GS_st c3 (fun s hs h => h) (fun s hs h => upd2 h) (fun s hs h => h) (fun s hs h => h) (fun s hs h => h) (fun s' hs' h => ?_) (fun s' hs' h => h), c4, c5⟩
            by_cases q : s' = s
            · subst q
              rw [pk_us, nI_1]
              exact Or.inr ⟨j + 1, by omega, rfl⟩
            · rw [pk_un q]
              exact h
          · exact TT_congr q2 (am_upI_ne (by decide)) (am_upI_ne (by decide)) (fun j _ _ => by rw [am_upI_ne (by decide)]) (am_upI_ne (by decide))
          · rw [am_upI_ne (by decide)]
            exact q3
      · -- it is spoilt
        obtain ⟨f1, f2, f3, f4⟩ := e_facts he1 (show e ≤ 10 by omega)
        obtain ⟨S2, y1, y2⟩ := spl_c (F := F) (s := s) z2 (by omega) (by omega) he1 (by omega)
        have hA92 : spA A' s e 92 0 = 0 := by
          unfold spA
          simp only [am_upI_at, am_upI_ne, pk_us, pk_un, ne_eq, Nat.reduceEqDiff, not_false_eq_true]
          rw [z3 92 (by omega) (by omega)]
          exact h92'
        refine ⟨0, S2, spA A' s e, by omega, ?_, Ky_mono y2 (by omega), Or.inl hA92, fun S1 W Sm N x1 Q hy H => ?_⟩
        · rw [hcl, if_pos j2, z1, b2_at, hv, y1]
          rfl
        · refine hmo S1 W Sm N x1 Q hy fun S9 h9 => ?_
          rw [if_pos j2]
          refine MG_b2 (z5 S1 W S9 h9) fun v' S6 m6 h6 hq => ?_
          obtain ⟨rfl, q1, q2, q3⟩ := hq
          rw [if_neg f4]
          refine MG_286 h6 (by omega) he1 (by omega) fun S7 h7 => ?_
          have := H S7 _ h7 (Cur_sp hs q1) (TT_sp q2) (by unfold spM; simp only [am_upI_at, am_upI_ne, pk_us, pk_un, ne_eq, Nat.reduceEqDiff, not_false_eq_true]; exact q3)
          rw [if_pos hA92, show x1 + nI 0 = x1 from Int32.add_zero _] at this
          exact this
    · -- the jam
      have j2' : ¬ A 88 j = 0 := by rw [j2]; decide
      have hKa := Ky_ks (c := 87) (ar := 88) (n := 5) (p := j) (v := 0) hK1 (by omega) rfl (by omega)
      have hKb := Ky_ks (c := 91) (ar := 92) (n := 1) (p := 0) (v := 1) hKa (by omega) rfl (by omega)
      rw [nI_0] at hKb
      have e88 : f88 F (nI j) Sa = some (-20, ks (ks Sa 87 88 5 (nI j) 0) 91 92 1 0 1) := by
        unfold f88
        rw [nn_at hK1.1 (by omega)]
        dsimp only [am_lt]
        rw [nn_at hKa.1 (by omega)]
      obtain ⟨S2, y1, y2⟩ := spl_c (F := F) (s := s) (e := 10) hKb (by omega) (by omega) (by omega) (by omega)
      have hA92 : spA (am_upI (am_upI A1 88 j 0) 92 0 1) s 10 92 0 = 1 := by
        unfold spA
        simp only [am_upI_at, am_upI_ne, pk_us, pk_un, ne_eq, Nat.reduceEqDiff, not_false_eq_true]
      refine ⟨0, S2, _, by omega, ?_, Ky_mono y2 (by omega), Or.inr ⟨hA92, rfl⟩, fun S1 W Sm N x1 Q hy H => ?_⟩
      · rw [hcl, if_neg j2', e88, b2_at]
        exact y1
      · refine hmo S1 W Sm N x1 Q hy fun S9 h9 => ?_
        rw [if_neg j2']
        refine MG_cu h9 rfl (show j < 5 by omega) (by omega) (by omega) fun S6 h6 => ?_
        refine MG_286 (e := 10) h6 (by omega) (by omega) (by omega) fun S7 h7 => ?_
        refine MG_up h7 (mi_h (by decide)) fun S8 h8 => ?_
        have hswap : am_upI (spM (am_upI m1 124 j 0) s 10) 96 8 1 = spM (am_upI (am_upI m1 124 j 0) 96 8 1) s 10 := by
          funext o q
          unfold spM am_upI
          by_cases o1 : o = 96
          · subst o1
            simp
          · simp [o1]
        rw [hswap] at h8
        have hCx : Cur (am_upI (am_upI A1 88 j 0) 92 0 1) (am_upI (am_upI m1 124 j 0) 96 8 1) nj nf ns ng nb := by
          obtain ⟨c1, c2, c3, c4, d1, d2, d3, d4, d5, d6⟩ := hC1
          unfold Cur
          simp only [am_upI_at, am_upI_ne, pk_us, pk_un, ne_eq, Nat.reduceEqDiff, not_false_eq_true]
          refine ⟨c1, c2, c3, c4, fun q hq => ?_, d2, d3, rfl, Or.inr rfl, d6⟩
          by_cases z : q = j
          · subst z
            rw [pk_us, pk_us]
            exact ⟨rfl, Or.inl rfl⟩
          · rw [pk_un z, pk_un z]
            exact d1 q hq
        have hTx : TT (am_upI (am_upI A1 88 j 0) 92 0 1) (am_upI (am_upI m1 124 j 0) 96 8 1) (n + 32) := by
          refine TT_mono (TT_congr hT1 ?_ ?_ (fun j _ _ => ?_) ?_) (by omega) <;> simp only [am_upI_at, am_upI_ne, pk_us, pk_un, ne_eq, Nat.reduceEqDiff, not_false_eq_true]
        have := H S8 _ h8 (Cur_sp hs hCx) (TT_sp hTx) (by unfold spM; simp only [am_upI_at, am_upI_ne, pk_us, pk_un, ne_eq, Nat.reduceEqDiff, not_false_eq_true]; exact h291)
        rw [if_neg (by rw [hA92]; decide)] at this
        exact this
