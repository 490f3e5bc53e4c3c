/-! calls: seen; what is seen of a cell -/
def rdm (S2 : AmT) (m : Mem) : Prop := ∀ k j, j < hf k → S2.1 k j = m k j
theorem rdm_My {S1 S2 : AmT} {m W : Mem} (h : My S1 S2 m W) : rdm S2 m := fun _ _ hj => My_rd h (mi_h hj)
theorem f47_eq {F : Nat} {S : AmT} {v x y : Int32} : f47 F v x y S = am_b2 (am_b2 (f50 F v x S) fun v1 S2 => f51 F v1 y S2) fun v3 S4 => if 0 ≤ v3 then (some ((kg S4.1 21 5760 v3), S4)) else (some (v3, S4)) := by
  unfold f47 am_b2
  rw [Option.bind_assoc]
theorem has_c {F : Nat} {S : AmT} {nj j p q : Nat} (h9 : S.1 9 0 = nI nj) (hn : nj ≤ 3) (hj : j < nj) (h15 : S.1 15 j = nI q) (hq : q ≤ 24) (hp : p < 2147483648) : f35 F (nI j) (nI p) S = some (if 1 ≤ p ∧ p ≤ q then 1 else 0, S) := by
  unfold f35 f34
  rw [if_neg (nI_pos (by omega)), kg_0 (by decide) (by decide), h9, if_neg (nI_ge (by omega) (by omega)), b2_at, if_neg (by decide), kg_at (by omega) (by omega), h15]
  by_cases c1 : 1 ≤ p
  · rw [if_neg (show ¬ nI p < (1 : Int32) from nI_nlt (b := 1) c1 hp)]
    by_cases c2 : p ≤ q
    · rw [if_neg (nI_nlt c2 (by omega)), if_pos ⟨c1, c2⟩]
    · rw [if_pos (nI_lt (by omega) (by omega)), if_neg (fun z => c2 z.2)]
  · rw [if_pos (show nI p < (1 : Int32) from nI_lt (b := 1) (by omega) (by omega)), if_neg (fun z => c1 z.1)]
theorem has_m {F : Nat} {S : AmT} {p q : Nat} (hq : q ≤ 24) (hp : p < 2147483648) : f197 F (nI p) 1 (nI q) S = some (if 1 ≤ p ∧ p ≤ q then 1 else 0, S) := by
  rw [f197_eq]
  by_cases c1 : 1 ≤ p
  · rw [if_neg (show ¬ nI p < (1 : Int32) from nI_nlt (b := 1) c1 hp)]
    by_cases c2 : p ≤ q
    · rw [if_neg (nI_nlt c2 (by omega)), if_pos ⟨c1, c2⟩]
    · rw [if_pos (nI_lt (by omega) (by omega)), if_neg (fun z => c2 z.2)]
  · rw [if_pos (show nI p < (1 : Int32) from nI_lt (b := 1) (by omega) (by omega)), if_neg (fun z => c1 z.1)]
theorem look_c {F : Nat} {S : AmT} {A m : Mem} {nj nf ns ng nb s q : Nat} {x y : Int32} (hC : Cur A m nj nf ns ng nb) (hA : ∀ o, kc o → S.1 o = A o) (hs : s < ns) (hq : q < 1024) :
    (∃ e : Nat, (e = 1 ∨ e = 2) ∧ f115 F (nI s) (nI q) x y S = some (-10 - nI e, S) ∧ ∀ S2 : AmT, rdm S2 m → ∃ z, f266 F (nI s) (nI q) x y S2 = some (nI e, z) ∧ (z = S2 ∨ z = (am_upI S2.1 95 50 0, S2.2))) ∨
    ∃ c, c ≤ 126 ∧ f115 F (nI s) (nI q) x y S = some (nI c, S) ∧ ∀ S2 : AmT, rdm S2 m → f266 F (nI s) (nI q) x y S2 = some (0, (am_upI S2.1 95 50 (nI c), S2.2)) := by
  have hns := hC.2.2.1.1
  have hnj := hC.1.1
  obtain ⟨-, ⟨a1, -⟩, ⟨j, hj, e50⟩, -⟩ := Cur_sheet hC hs
  obtain ⟨p, u, hp, hu, e58, e117, e118⟩ := Cur_cell hC q hq
  obtain ⟨l, w, pg, b1, b2, b3, b4, b5, b6, b7, b8, b9, b10, b11⟩ := Cur_job hC (j := j) (by omega)
  have hc : f115 F (nI s) (nI q) x y S = am_b2 (some (if 1 ≤ p ∧ p ≤ pg then (1 : Int32) else 0, S)) fun v3 S4 => if v3 = 0 then (some ((-11), S4)) else (am_b2 (f39 F (nI j) (nI p) S4) fun v6 S7 => if nI u = 0 then f47 F v6 x y S7 else f47 F v6 ((nI l - 1) - x) ((nI w - 1) - y) S7) := by
    unfold f115 f106 f107 f37 f38
    have q50 : S.1 50 s = nI j := by rw [hA 50 (by omega)]; exact e50
    have q58 : S.1 58 q = nI (2 * p + u) := by rw [hA 58 (by omega)]; exact e58
    rw [b2_at, kg_at (n := 8) (by omega) (by omega), q50, kg_at (n := 1024) hq (by omega), q58, (nI_half hp hu).1, has_c (by rw [hA 9 (by omega)]; exact hC.1.2.1) hnj hj (by rw [hA 15 (by omega)]; exact b6) b3 (by omega), b2_at, b2_at]
    by_cases hh : 1 ≤ p ∧ p ≤ pg
    · rw [if_pos hh, if_neg (by decide), if_neg (by decide)]
      unfold f39
      simp only [b2_at]
      rw [kg_at hq (by omega), q58, (nI_half hp hu).2, kg_at (by omega) (by omega), kg_at (by omega) (by omega), hA 11 (by omega), hA 13 (by omega), b4, b5, b2_id, b2_id]
    · rw [if_neg hh]
      rfl
  have hm : ∀ S2 : AmT, rdm S2 m → f266 F (nI s) (nI q) x y S2 = am_b2 (some (if 1 ≤ p ∧ p ≤ pg then (1 : Int32) else 0, S2)) fun v1 S3 => if v1 = 0 then (some (1, S3)) else (am_b2 (f207 F (nI j) (nI p) S3) fun v4 S5 => if nI u = 1 then g266_97 F v4 ((nI l - 1) - x) ((nI w - 1) - y) S5 else g266_97 F v4 x y S5) := by
    intro S2 hr
    have q108 : S2.1 108 s = nI j := by rw [hr 108 s (by show s < 8; omega), ← a1]; exact e50
    have q117 : S2.1 117 q = nI p := by rw [hr 117 q hq]; exact e117
    have q118 : S2.1 118 q = nI u := by rw [hr 118 q hq]; exact e118
    have q97 : S2.1 97 j = nI pg := by rw [hr 97 j (by show j < 3; omega)]; exact b9
    have q98 : S2.1 98 j = nI l := by rw [hr 98 j (by show j < 3; omega)]; exact b7
    have q99 : S2.1 99 j = nI w := by rw [hr 99 j (by show j < 3; omega)]; exact b8
    unfold f266
    rw [ck_at (by omega) (by omega), ck_at (by omega) (by omega), nI_clamp (n := s) (by omega), nI_clamp (n := q) (by omega), q108, ck_at (by omega) (by omega), nI_clamp (n := j) (by omega), q117, q97, has_m b3 (by omega), b2_at, b2_at]
    by_cases hh : 1 ≤ p ∧ p ≤ pg
    · rw [if_pos hh, if_neg (by decide), if_neg (by decide)]
      unfold f207
      simp only [b2_at]
      rw [ck_at (by omega) (by omega), q118, ck_at (by omega) (by omega), q98]
      unfold g266_68
      rw [ck_at (by omega) (by omega), nI_clamp (n := q) (by omega), q118, ck_at (by omega) (by omega), nI_clamp (n := j) (by omega), q99]
      rw [ck_at (by omega) (by omega)]
      by_cases hu1 : nI u = 1
      · rw [if_pos hu1, if_pos hu1, if_pos hu1]
      · rw [if_neg hu1, if_neg hu1, if_neg hu1]
    · rw [if_neg hh]
      rfl
  by_cases hh : 1 ≤ p ∧ p ≤ pg
  case neg =>
    refine Or.inl ⟨1, Or.inl rfl, ?_, fun S2 hr => ⟨S2, ?_, Or.inl rfl⟩⟩
    · rw [hc, if_neg hh]
      rfl
    · rw [hm S2 hr, if_neg hh]
      rfl
  obtain ⟨i, rfl⟩ : ∃ i, p = i + 1 := ⟨p - 1, by omega⟩
  have hP := b11 (24 * j + i) (by omega) (by omega)
  have key : ∀ x y : Int32, (∃ e : Nat, (e = 1 ∨ e = 2) ∧ f47 F (nI (24 * j + i)) x y S = some (-10 - nI e, S) ∧ ∀ S2 : AmT, rdm S2 m → ∃ z, g266_97 F (nI (24 * j + i)) x y S2 = some (nI e, z) ∧ (z = S2 ∨ z = (am_upI S2.1 95 50 0, S2.2))) ∨
    ∃ c, c ≤ 126 ∧ f47 F (nI (24 * j + i)) x y S = some (nI c, S) ∧ ∀ S2 : AmT, rdm S2 m → g266_97 F (nI (24 * j + i)) x y S2 = some (0, (am_upI S2.1 95 50 (nI c), S2.2)) := by
    intro x y
    rcases let_c (F := F) (S := S) (x := x) (y := y) (by omega) (by rw [hA 17 (by omega)]) (hA 19 (by omega)) hP with ⟨e, he, r1, r2⟩ | ⟨r, k, hr, hk, rfl, rfl, r1, r2, hw⟩
    · refine Or.inl ⟨e, he, ?_, fun S2 hrd => ⟨(am_upI S2.1 95 50 0, S2.2), ?_, Or.inr rfl⟩⟩
      · rw [f47_eq, r1]
        rcases he with rfl | rfl <;> rfl
      · unfold g266_97
        rw [r2 S2 (hrd 100 _ (by show 24 * j + i < 72; omega)) (fun r hr => hrd 101 r hr), b2_at]
        rcases he with rfl | rfl <;> rfl
    · obtain ⟨w1, v, hv1, hv2, w2⟩ := hw
      have e10 : 10 * (8 * nI (24 * j + i) + nI r) + nI k = nI (10 * (8 * (24 * j + i) + r) + k) := by
        show nI 10 * (nI 8 * nI (24 * j + i) + nI r) + nI k = _
        rw [nI_mul, nI_add, nI_mul, nI_add]
      refine Or.inr ⟨v, hv2, ?_, fun S2 hrd => ?_⟩
      · rw [f47_eq, r1, b2_at, if_pos (nI_le0 (by omega)), kg_at (by omega) (by omega), hA 21 (by omega), w2]
      · unfold g266_97
        rw [r2 S2 (hrd 100 _ (by show 24 * j + i < 72; omega)) (fun r hr => hrd 101 r hr), b2_at, if_pos (Int32.le_refl _), e10, ck_at (by omega) (by omega), nI_clamp (by omega), hrd 102 _ (by show _ < 5760; omega), ← w1, w2]
        rfl
  rcases (show u = 0 ∨ u = 1 by omega) with rfl | rfl
  · rcases key x y with ⟨e, he, r1, r2⟩ | ⟨c, hc', r1, r2⟩
    · refine Or.inl ⟨e, he, ?_, fun S2 hr => ?_⟩
      · rw [hc, if_pos hh, b2_at, if_neg (by decide), f39_eq, b2_at, if_pos nI_0, r1]
      · rw [hm S2 hr, if_pos hh, b2_at, if_neg (by decide), f207_eq, b2_at, if_neg (by decide)]
        exact r2 S2 hr
    · refine Or.inr ⟨c, hc', ?_, fun S2 hr => ?_⟩
      · rw [hc, if_pos hh, b2_at, if_neg (by decide), f39_eq, b2_at, if_pos nI_0, r1]
      · rw [hm S2 hr, if_pos hh, b2_at, if_neg (by decide), f207_eq, b2_at, if_neg (by decide)]
        exact r2 S2 hr
  · rcases key ((nI l - 1) - x) ((nI w - 1) - y) with ⟨e, he, r1, r2⟩ | ⟨c, hc', r1, r2⟩
    · refine Or.inl ⟨e, he, ?_, fun S2 hr => ?_⟩
      · rw [hc, if_pos hh, b2_at, if_neg (by decide), f39_eq, b2_at, if_neg (by decide), r1]
      · rw [hm S2 hr, if_pos hh, b2_at, if_neg (by decide), f207_eq, b2_at, if_pos (by decide)]
        exact r2 S2 hr
    · refine Or.inr ⟨c, hc', ?_, fun S2 hr => ?_⟩
      · rw [hc, if_pos hh, b2_at, if_neg (by decide), f39_eq, b2_at, if_neg (by decide), r1]
      · rw [hm S2 hr, if_pos hh, b2_at, if_neg (by decide), f207_eq, b2_at, if_pos (by decide)]
        exact r2 S2 hr
/-- a FINDING of the class where only the tally changes -/
theorem Kq_f {F : Nat} {S : AmT} {x : Int32} (hx : ¬ -11 < x) : (am_b2 (f129 F x S) fun v S2 => some (v, S2)) = some (x, cf S (-10 - x)) ∧ Kq S (cf S (-10 - x)) (am_upI (am_upI S.1 5 2 (S.1 5 2 + 1)) 5 3 (-10 - x)) := by
  refine ⟨?_, rfl, fun o ho => cf_fn (by omega), fun o _ _ => rfl, fun o ho => cf_fn (by omega)⟩
  rw [b2_id, f129_find hx]
theorem Tl_f {A m : Mem} {t : Nat} {n : Int32} (hT : Tl A m t) : Tl (am_upI (am_upI A 5 2 (A 5 2 + 1)) 5 3 n) (am_upI (am_upI m 95 30 (m 95 30 + 1)) 95 31 n) (t + 1) := by
  obtain ⟨a1, a2, a3, a4, a5, a6, ⟨tc, a7, a8, a9⟩, a10⟩ := hT
  unfold Tl
  simp only [am_upI_at, am_upI_ne, pk_us, pk_un, ne_eq, Nat.reduceEqDiff, not_false_eq_true]
  exact ⟨by rw [a1], trivial, a3, a4, a5, a6, ⟨tc, by omega, a8, a9⟩, a10⟩
theorem st_seen {F : Nat} (x1 x2 x3 x4 x5 x6 : Int32) : FpStep (f170 F x1 x2 x3 x4 x5 x6) (f267 F x1 x2 x3 x4 x5 x6) := by
  refine Fp_of fun S t ht hR => ?_
  obtain ⟨nj, nf, ns, ng, nb, hC⟩ := Rel_z hR
  have hn := hC.2.2.1.1
  unfold f170 f267
  refine RG_g1 (Gd_sheet hC) hR ?_
  rintro ⟨s, hs, rfl⟩
  refine RG_g1 Gd_side hR ?_
  rintro ⟨d, hd, rfl⟩
  obtain ⟨-, ⟨a1, a2, a3, a4, a5, a6, a7⟩, -, ⟨r, hr, e52⟩, ⟨c, hc, e54⟩, -⟩ := Cur_sheet hC hs
  have hS2 : ∀ S1, fr S S1 → S1.1 109 s = nI r ∧ S1.1 110 s = nI c ∧ ∀ j, j < 128 → S1.1 116 j = mz S.1 116 j := fun S1 hf => ⟨by rw [hf 109 (by omega), ← mz_at (I := S.1) (k := 109) (mi_h (by show s < 8; omega)), ← a2, e52], by rw [hf 110 (by omega), ← mz_at (I := S.1) (k := 110) (mi_h (by show s < 8; omega)), ← a3, e54], fun j hj => by rw [hf 116 (by omega)]; exact (mz_at (mi_h hj)).symm⟩
  rcases cell_c (F := F) (S := S) (x := x3) (y := x4) (by omega) hd hr hc e52 e54 (Cur_torn hC) with ⟨e, he, r1, r2⟩ | ⟨i, k, hi, hk, rfl, rfl, r1, r2⟩
  · rcases he with rfl | rfl
    · refine RG_qf (F := F) (n := 1) (x := -11) hR (by decide) (by decide) (by decide) ?_ fun S1 hf => ?_
      · rw [r1]
        rfl
      · rw [r2 S1 (hS2 S1 hf).1 (hS2 S1 hf).2.1 (hS2 S1 hf).2.2]
        rfl
    · refine RG_qf (F := F) (n := 2) (x := -12) hR (by decide) (by decide) (by decide) ?_ fun S1 hf => ?_
      · rw [r1]
        rfl
      · rw [r2 S1 (hS2 S1 hf).1 (hS2 S1 hf).2.1 (hS2 S1 hf).2.2]
        rfl
  rw [r1, b2_at, if_pos (nI_le0 (by omega))]
  refine RG_m (M' := fun S1 => am_b2 (f266 F (nI s) (nI (8 * (16 * s + 8 * d + i) + k)) x5 x6 S1) fun v12 S13 => g267_60 F v12 S13) (fun S1 hf => ?_) ?_
  · rw [r2 S1 (hS2 S1 hf).1 (hS2 S1 hf).2.1 (hS2 S1 hf).2.2, b2_at, if_pos (Int32.le_refl _), f251_eq, b2_at]
  have hTl := Tl_of hR.2.1
  rcases look_c (F := F) (S := S) (s := s) (q := 8 * (16 * s + 8 * d + i) + k) (x := x5) (y := x6) hC (fun _ _ => rfl) hs (by omega) with ⟨e, he, l1, l2⟩ | ⟨cc, hcc, l1, l2⟩
  · have hx : ¬ (-11 : Int32) < -10 - nI e ∧ -10 - (-10 - nI e) = nI e ∧ ¬ nI e ≤ 0 := by
      rcases he with rfl | rfl <;> decide
    refine RG_qq hR ⟨-10 - nI e, _, _, ?_, (Kq_f (F := F) hx.1).2, fun h0 => ?_⟩
    · rw [l1, b2_at]
      exact (Kq_f (F := F) hx.1).1
    · obtain ⟨z, z1, z2⟩ := l2 _ (rdm_My h0)
      have hz : ∃ m, My (cf S (-10 - (-10 - nI e))) z m (mw S.1) ∧ (∀ o, 96 ≤ o → o ≤ 124 → m o = mz S.1 o) ∧ (∀ j, j ≠ 50 → m 95 j = mz S.1 95 j) ∧ m 125 = mz S.1 125 := by
        rcases z2 with rfl | rfl
        · exact ⟨_, h0, fun _ _ _ => rfl, fun _ _ => rfl, rfl⟩
        · exact ⟨_, My_up h0 (Or.inl rfl), fun o o1 o2 => am_upI_ne (by omega), fun j hj => by rw [am_upI_at, pk_un hj], am_upI_ne (by omega)⟩
      obtain ⟨m, hm1, hm2, hm3, hm4⟩ := hz
      rw [z1, b2_at]
      unfold g267_60
      rw [if_neg hx.2.2]
      refine MG_f hm1 ⟨rfl, fun o o1 o2 => ?_, ?_, ?_⟩
      · rw [am_upI_ne (by omega), am_upI_ne (by omega), hm2 o o1 o2]
      · rw [hx.2.1]
        exact Tl_f (Tl_congr hTl rfl rfl (fun j j1 j2 => hm3 j (by omega)) hm4)
      · simp only [am_upI_at, am_upI_ne, pk_us, pk_un, ne_eq, Nat.reduceEqDiff, not_false_eq_true]
        exact hm3 29 (by omega)
  · refine RG_qq hR ⟨nI cc, S, S.1, ?_, Kq_0 S, fun h0 => ?_⟩
    · rw [l1, b2_at]
      unfold g170_65
      rw [b2_id, f129_ok (nI_gt (by omega))]
    · rw [l2 S (rdm_My h0), b2_at]
      unfold g267_60
      rw [if_pos (Int32.le_refl _)]
      have h1 := My_up (k := 95) (i := 50) (x := nI cc) h0 (Or.inl rfl)
      have e1 : am_upI S.1 95 50 (nI cc) 95 50 = nI cc := by rw [am_upI_at, pk_us]
      rw [show (((am_upI S.1 95 50 (nI cc), S.2) : AmT).1 95 50) = nI cc from e1]
      refine MG_ret h1 ⟨rfl, fun o o1 o2 => am_upI_ne (by omega), ?_, ?_⟩
      · refine Tl_mono (Tl_congr hTl rfl rfl (fun j j1 j2 => ?_) (am_upI_ne (by omega))) (by omega)
        rw [am_upI_at, pk_un (by omega)]
      · rw [am_upI_at, pk_un (by omega)]
