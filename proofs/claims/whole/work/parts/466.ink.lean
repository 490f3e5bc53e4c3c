/-! calls: step: ink -/
theorem f104_eq {F s d r c R C : Nat} {S : AmT} (hs : s < 8) (hd : d ≤ 1) (hr : r < R) (hc : c < C) (hR : R ≤ 8) (hC : C ≤ 8) (e52 : S.1 52 s = nI R) (e54 : S.1 54 s = nI C) (h56 : S.1 56 (16 * s + 8 * d + r) = 0) : f104 F (nI s) (nI d) (nI r) (nI c) S = some (nI (8 * (16 * s + 8 * d + r) + c), S) := by
  unfold f104 f101 f102
  rw [if_neg (nI_pos (by omega)), kg_at (by omega) (by omega), e52, if_neg (nI_ge hr (by omega)), b2_at, if_neg (by decide), f100_eq, b2_at, kg_at (by omega) (by omega), if_pos h56, b2_at, if_pos rfl, if_neg (nI_pos (by omega)), kg_at (by omega) (by omega), e54, if_pos (nI_lt hc (by omega)), f100_eq, b2_at, show nI (16 * s + 8 * d + r) * 8 = nI ((16 * s + 8 * d + r) * 8) from nI_mul _ 8, nI_add, Nat.mul_comm]
def icl (A A' : Mem) : Prop := (∀ o, o ≠ 5 → A' o = A o) ∧ ∀ j, j ≠ 5 → A' 5 j = A 5 j
def imd (m A' m' : Mem) : Prop := (∀ o, o ≠ 95 → m' o = m o) ∧ (∀ j, j ≠ 33 → j ≠ 50 → m' 95 j = m 95 j) ∧ m' 95 33 = A' 5 5
def INK (S0 : AmT) (A m : Mem) (k : Nat) (A' : Mem) (C : Option (Int32 × AmT)) (M : AmT → Option (Int32 × AmT)) : Prop := ∃ e v S' A'', C = some (v, S') ∧ Ky S0 S' A'' k ∧ icl A A'' ∧ ((e = 0 ∧ v = 1) ∨ ((e = 1 ∨ e = 2) ∧ v = -10 - nI e)) ∧ ∀ (S1 : AmT) (W : Mem) (Sm : AmT) (m' : Mem), My S1 Sm m' W → imd m A' m' → MG S1 W (M Sm) (fun v' m2 => v' = nI e ∧ imd m A'' m2)
theorem ink_row {F n n' : Nat} {S0 : AmT} {A m : Mem} {k nj nf ns ng nb s d r R C : Nat} (hC : Cur A m nj nf ns ng nb) (hs : s < ns) (hd : d ≤ 1) (hr : r < R) (hR : R ≤ 8) (hCC : C ≤ 8) (e52 : A 52 s = nI R) (e54 : A 54 s = nI C) (e110 : m 110 s = nI C) (h56 : A 56 (16 * s + 8 * d + r) = 0)
    (HQ : ∀ S A', Ky S0 S A' k → icl A A' → INK S0 A m k A' (g91_2 F n (nI s) (nI d) (nI (r + 1)) S) (fun Sm => g284_2 F n' (nI s) (nI d) (nI (r + 1)) Sm)) :
    ∀ (rc c N N' : Nat) (S : AmT) (A' : Mem), c + rc = C → rc < N → rc < N' → Ky S0 S A' k → icl A A' → INK S0 A m k A' (g91_33 F (fun x1 x2 x3 S => g91_2 F n x1 x2 x3 S) N (nI s) (nI d) (nI r) (nI c) S) (fun Sm => g284_31 F (fun x1 x2 x3 S => g284_2 F n' x1 x2 x3 S) N' (nI s) (nI d) (nI r) (nI c) Sm)
  | rc, c, 0, N', S, A', h1, h2, h2', h3, h4 => absurd h2 (by omega)
  | rc, c, N + 1, 0, S, A', h1, h2, h2', h3, h4 => absurd h2' (by omega)
  | 0, c, N + 1, N' + 1, S, A', h1, h2, h2', h3, h4 => by
    have hns := hC.2.2.1.1
    have hc : c = C := by omega
    subst hc
    have eS : ∀ o, 9 ≤ o → o ≤ 94 → S.1 o = A o := fun o o1 o2 => (h3.2.1 o (by omega) o2).trans (h4.1 o (by omega))
    obtain ⟨e, v, S', A'', z1, z2, z3, z4, z5⟩ := HQ S A' h3 h4
    refine ⟨e, v, S', A'', ?_, z2, z3, z4, fun S1 W Sm m' hy hm => ?_⟩
    · unfold g91_33 f98
      rw [b2_at, kg_at (by omega) (by omega), eS 54 (by omega) (by omega), e54, if_pos (Int32.le_refl _), nI_1]
      exact z1
    · dsimp only
      unfold g284_31
      rw [ck_at (by omega) (by omega), nI_clamp (by omega), My_rd hy (mi_h (show s < 8 by omega)), hm.1 110 (by omega), e110, if_pos (Int32.le_refl _), nI_1]
      exact z5 S1 W Sm m' hy hm
  | rc + 1, c, N + 1, N' + 1, S, A', h1, h2, h2', h3, h4 => by
    have hns := hC.2.2.1.1
    have eS : ∀ o, 9 ≤ o → o ≤ 94 → S.1 o = A o := fun o o1 o2 => (h3.2.1 o (by omega) o2).trans (h4.1 o (by omega))
    have hq : 8 * (16 * s + 8 * d + r) + c < 1024 := by omega
    have e104 := f104_eq (F := F) (S := S) (c := c) (C := C) (show s < 8 by omega) hd hr (by omega) hR hCC (by rw [eS 52 (by omega) (by omega), e52]) (by rw [eS 54 (by omega) (by omega), e54]) (by rw [eS 56 (by omega) (by omega), h56])
    obtain ⟨p, u, hp, hu, q1, q2, q3⟩ := Cur_cell hC _ hq
    have hcl : g91_33 F (fun x1 x2 x3 S => g91_2 F n x1 x2 x3 S) (N + 1) (nI s) (nI d) (nI r) (nI c) S = if nI p = 0 then g91_88 F (fun x1 x2 x3 S => g91_2 F n x1 x2 x3 S) (fun x1 x2 x3 x4 S => g91_33 F (fun x1 x2 x3 S => g91_2 F n x1 x2 x3 S) N x1 x2 x3 x4 S) (nI s) (nI d) (nI r) (nI c) 0 S else am_b2 (f115 F (nI s) (nI (8 * (16 * s + 8 * d + r) + c)) 0 0 S) fun v15 S16 => g91_88 F (fun x1 x2 x3 S => g91_2 F n x1 x2 x3 S) (fun x1 x2 x3 x4 S => g91_33 F (fun x1 x2 x3 S => g91_2 F n x1 x2 x3 S) N x1 x2 x3 x4 S) (nI s) (nI d) (nI r) (nI c) v15 S16 := by
      rw [g91_33]
      unfold f98 f106
      rw [b2_at, kg_at (by omega) (by omega), eS 54 (by omega) (by omega), e54, if_neg (nI_ge (by omega) (by omega)), e104, b2_at, b2_at, kg_at hq (by omega), eS 58 (by omega) (by omega), q1, (nI_half hp hu).1]
    have hmo : ∀ {S1 : AmT} {W : Mem} {Sm : AmT} {m' : Mem}, My S1 Sm m' W → imd m A' m' → g284_31 F (fun x1 x2 x3 S => g284_2 F n' x1 x2 x3 S) (N' + 1) (nI s) (nI d) (nI r) (nI c) Sm = if nI p = 0 then g284_75 F (fun x1 x2 x3 S => g284_2 F n' x1 x2 x3 S) (fun x1 x2 x3 x4 S => g284_31 F (fun x1 x2 x3 S => g284_2 F n' x1 x2 x3 S) N' x1 x2 x3 x4 S) (nI s) (nI d) (nI r) (nI c) (nI (8 * (16 * s + 8 * d + r) + c)) 0 Sm else am_b2 (f266 F (nI s) (nI (8 * (16 * s + 8 * d + r) + c)) 0 0 Sm) fun v9 S10 => g284_75 F (fun x1 x2 x3 S => g284_2 F n' x1 x2 x3 S) (fun x1 x2 x3 x4 S => g284_31 F (fun x1 x2 x3 S => g284_2 F n' x1 x2 x3 S) N' x1 x2 x3 x4 S) (nI s) (nI d) (nI r) (nI c) (nI (8 * (16 * s + 8 * d + r) + c)) v9 S10 := by
      intro S1 W Sm m' hy hm
      rw [g284_31]
      rw [ck_at (by omega) (by omega), nI_clamp (n := s) (by omega), My_rd hy (mi_h (show s < 8 by omega)), hm.1 110 (by omega), e110, if_neg (nI_ge (by omega) (by omega)), f251_eq, b2_at, ck_at (by omega) (by omega), nI_clamp (by omega), My_rd hy (mi_h (show _ < 1024 from hq)), hm.1 117 (by omega), q2]
    have h117 : ∀ {S1 : AmT} {W : Mem} {Sm : AmT} {m' : Mem}, My S1 Sm m' W → (∀ o, o ≠ 95 → m' o = m o) → Sm.1 117 (8 * (16 * s + 8 * d + r) + c) = nI p := fun hy hm => by rw [My_rd hy (mi_h (show _ < 1024 from hq)), hm 117 (by omega), q2]
    -- one cell's ink
    have hgo : ∀ cc : Nat, ∃ S' A'', f135 F (nI cc) S = some S' ∧ Ky S0 S' A'' k ∧ icl A A'' ∧ A'' 5 5 = A' 5 5 + nI cc := by
      intro cc
      have h5 := Ky_up (o := 5) (i := 5) (x := S.1 5 5 + nI cc) h3 (Or.inl rfl)
      refine ⟨_, _, rfl, h5, ⟨fun o ho => by rw [am_upI_ne ho, h4.1 o ho], fun j hj => by rw [am_upI_at, pk_un hj, h4.2 j hj]⟩, ?_⟩
      rw [am_upI_at, pk_us, Ky_rd h3 (by omega) (by omega)]
    by_cases hp0 : p = 0
    · have hp0' : nI p = 0 := by rw [hp0]; rfl
      obtain ⟨S', A'', g1, g2, g3, g4⟩ := hgo 0
      obtain ⟨e, v, S2, A2, z1, z2, z3, z4, z5⟩ := ink_row hC hs hd hr hR hCC e52 e54 e110 h56 HQ rc (c + 1) N N' S' A'' (by omega) (by omega) (by omega) g2 g3
      refine ⟨e, v, S2, A2, ?_, z2, z3, z4, fun S1 W Sm m' hy hm => ?_⟩
      · rw [hcl, if_pos hp0']
        unfold g91_88
        rw [if_pos (Int32.le_refl _), show f135 F 0 S = some S' from g1, bind_at, nI_1]
        exact z1
      · dsimp only
        rw [hmo hy hm, if_pos hp0']
        unfold g284_75 g284_108
        rw [if_pos (Int32.le_refl _), ck_at (by omega) (by omega), nI_clamp (by omega), h117 hy hm.1, if_pos hp0', My_rd hy (Or.inl rfl), hm.2.2]
        refine MG_up hy (Or.inl rfl) fun S5 h5 => ?_
        rw [nI_1]
        refine z5 S1 W S5 _ h5 ⟨fun o ho => by rw [am_upI_ne ho, hm.1 o ho], fun j j1 j2 => by rw [am_upI_at, pk_un j1, hm.2.1 j j1 j2], ?_⟩
        rw [am_upI_at, pk_us, g4]
        rfl
    · have hp0' : ¬ nI p = 0 := nI_ne0 (by omega) (by omega)
      have hrdm : ∀ {S1 : AmT} {W : Mem} {Sm : AmT} {m' : Mem}, My S1 Sm m' W → imd m A' m' → rdm Sm m := fun hy hm k j hj => by
        rw [rdm_My hy k j hj, hm.1 k (fun z => by rw [z, hf_95] at hj; omega)]
      rcases look_c (F := F) (S := S) (s := s) (q := 8 * (16 * s + 8 * d + r) + c) (x := 0) (y := 0) hC (fun o ho => eS o (by omega) (by omega)) hs hq with ⟨e, he, l1, l2⟩ | ⟨cc, hcc, l1, l2⟩
      · have hx : ¬ (0 : Int32) ≤ -10 - nI e ∧ ¬ nI e ≤ 0 := neg10 (by omega)
        refine ⟨e, -10 - nI e, S, A', ?_, h3, h4, Or.inr ⟨he, rfl⟩, fun S1 W Sm m' hy hm => ?_⟩
        · rw [hcl, if_neg hp0', l1, b2_at]
          unfold g91_88
          rw [if_neg hx.1]
        · dsimp only
          rw [hmo hy hm, if_neg hp0']
          obtain ⟨z, z1, z2⟩ := l2 Sm (hrdm hy hm)
          rw [z1, b2_at]
          unfold g284_75
          rw [if_neg hx.2]
          rcases z2 with rfl | rfl
          · exact MG_ret hy ⟨rfl, hm⟩
          · refine MG_ret (My_up hy (Or.inl rfl)) ⟨rfl, fun o ho => by rw [am_upI_ne ho, hm.1 o ho], fun j j1 j2 => by rw [am_upI_at, pk_un j2, hm.2.1 j j1 j2], ?_⟩
            rw [am_upI_at, pk_un (by decide), hm.2.2]
      · obtain ⟨S', A'', g1, g2, g3, g4⟩ := hgo cc
        obtain ⟨e, v, S2, A2, z1, z2, z3, z4, z5⟩ := ink_row hC hs hd hr hR hCC e52 e54 e110 h56 HQ rc (c + 1) N N' S' A'' (by omega) (by omega) (by omega) g2 g3
        refine ⟨e, v, S2, A2, ?_, z2, z3, z4, fun S1 W Sm m' hy hm => ?_⟩
        · rw [hcl, if_neg hp0', l1, b2_at]
          unfold g91_88
          rw [if_pos (nI_le0 (by omega)), g1, bind_at, nI_1]
          exact z1
        · dsimp only
          rw [hmo hy hm, if_neg hp0', l2 Sm (hrdm hy hm), b2_at]
          have h5 := My_up (k := 95) (i := 50) (x := nI cc) hy (Or.inl rfl)
          unfold g284_75 g284_108
          rw [if_pos (Int32.le_refl _), ck_at (by omega) (by omega), nI_clamp (by omega), h117 h5 (fun o ho => by rw [am_upI_ne ho, hm.1 o ho]), if_neg hp0', My_rd h5 (Or.inl rfl), My_rd h5 (Or.inl rfl), am_upI_at, pk_un (by decide), pk_us, hm.2.2]
          refine MG_up h5 (Or.inl rfl) fun S6 h6 => ?_
          rw [nI_1]
          refine z5 S1 W S6 _ h6 ⟨fun o ho => by rw [am_upI_ne ho, am_upI_ne ho, hm.1 o ho], fun j j1 j2 => by rw [am_upI_at, pk_un j1, am_upI_at, pk_un j2, hm.2.1 j j1 j2], ?_⟩
          rw [am_upI_at, pk_us, g4]
theorem ink_all {F : Nat} (hF : 6000 ≤ F) {S0 : AmT} {A m : Mem} {k nj nf ns ng nb s d R C : Nat} (hC : Cur A m nj nf ns ng nb) (hs : s < ns) (hd : d ≤ 1) (hR : R ≤ 8) (hCC : C ≤ 8) (e52 : A 52 s = nI R) (e54 : A 54 s = nI C) (e109 : m 109 s = nI R) (e110 : m 110 s = nI C) :
    ∀ (rr r N N' : Nat) (S : AmT) (A' : Mem), r + rr = R → rr < N → rr < N' → Ky S0 S A' k → icl A A' → INK S0 A m k A' (g91_2 F N (nI s) (nI d) (nI r) S) (fun Sm => g284_2 F N' (nI s) (nI d) (nI r) Sm)
  | rr, r, 0, N', S, A', h1, h2, h2', h3, h4 => absurd h2 (by omega)
  | rr, r, N + 1, 0, S, A', h1, h2, h2', h3, h4 => absurd h2' (by omega)
  | 0, r, N + 1, N' + 1, S, A', h1, h2, h2', h3, h4 => by
    have hns := hC.2.2.1.1
    have eS : ∀ o, 9 ≤ o → o ≤ 94 → S.1 o = A o := fun o o1 o2 => (h3.2.1 o (by omega) o2).trans (h4.1 o (by omega))
    refine ⟨0, 1, S, A', ?_, h3, h4, Or.inl ⟨rfl, rfl⟩, fun S1 W Sm m' hy hm => ?_⟩
    · unfold g91_2 f97
      rw [b2_at, kg_at (by omega) (by omega), eS 52 (by omega) (by omega), e52, if_pos (nI_le (by omega) (by omega))]
    · dsimp only
      unfold g284_2
      rw [ck_at (by omega) (by omega), nI_clamp (by omega), My_rd hy (mi_h (show s < 8 by omega)), hm.1 109 (by omega), e109, if_pos (nI_le (by omega) (by omega))]
      exact MG_ret hy ⟨rfl, hm⟩
  | rr + 1, r, N + 1, N' + 1, S, A', h1, h2, h2', h3, h4 => by
    have hns := hC.2.2.1.1
    have eS : ∀ o, 9 ≤ o → o ≤ 94 → S.1 o = A o := fun o o1 o2 => (h3.2.1 o (by omega) o2).trans (h4.1 o (by omega))
    obtain ⟨t1, t2⟩ := Cur_torn hC (16 * s + 8 * d + r) (by omega)
    have hcl : g91_2 F (N + 1) (nI s) (nI d) (nI r) S = if A 56 (16 * s + 8 * d + r) = 0 then g91_33 F (fun x1 x2 x3 S => g91_2 F N x1 x2 x3 S) F (nI s) (nI d) (nI r) 0 S else some (-11, S) := by
      rw [g91_2]
      unfold f97 f102
      rw [b2_at, kg_at (by omega) (by omega), eS 52 (by omega) (by omega), e52, if_neg (nI_ge (by omega) (by omega)), f100_eq, b2_at, kg_at (by omega) (by omega), eS 56 (by omega) (by omega)]
      by_cases q : A 56 (16 * s + 8 * d + r) = 0
      · rw [if_pos q, if_pos q]
        rfl
      · rw [if_neg q, if_neg q]
        rfl
    have hmo : ∀ {S1 : AmT} {W : Mem} {Sm : AmT} {m' : Mem}, My S1 Sm m' W → imd m A' m' → g284_2 F (N' + 1) (nI s) (nI d) (nI r) Sm = if A 56 (16 * s + 8 * d + r) = 0 then g284_31 F (fun x1 x2 x3 S => g284_2 F N' x1 x2 x3 S) F (nI s) (nI d) (nI r) 0 Sm else some (1, Sm) := by
      intro S1 W Sm m' hy hm
      rw [g284_2]
      rw [ck_at (by omega) (by omega), nI_clamp (n := s) (by omega), My_rd hy (mi_h (show s < 8 by omega)), hm.1 109 (by omega), e109, if_neg (nI_ge (by omega) (by omega)), f250_eq, b2_at, ck_at (by omega) (by omega), nI_clamp (by omega), My_rd hy (mi_h (show _ < 128 by omega)), hm.1 116 (by omega), ← t1]
    by_cases q : A 56 (16 * s + 8 * d + r) = 0
    · obtain ⟨e, v, S2, A2, z1, z2, z3, z4, z5⟩ := ink_row hC hs hd (show r < R by omega) hR hCC e52 e54 e110 q (fun S A'' h3' h4' => ink_all hF hC hs hd hR hCC e52 e54 e109 e110 rr (r + 1) N N' S A'' (by omega) (by omega) (by omega) h3' h4') C 0 F F S A' (by omega) (by omega) (by omega) h3 h4
      refine ⟨e, v, S2, A2, by rw [hcl, if_pos q]; exact z1, z2, z3, z4, fun S1 W Sm m' hy hm => ?_⟩
      dsimp only
      rw [hmo hy hm, if_pos q]
      exact z5 S1 W Sm m' hy hm
    · refine ⟨1, -11, S, A', by rw [hcl, if_neg q], h3, h4, Or.inr ⟨Or.inl rfl, by decide⟩, fun S1 W Sm m' hy hm => ?_⟩
      dsimp only
      rw [hmo hy hm, if_neg q]
      exact MG_ret hy ⟨rfl, hm⟩
