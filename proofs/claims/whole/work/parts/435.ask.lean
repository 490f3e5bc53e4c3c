/-! calls: what is only asked -/
theorem nI_le0 {n : Nat} (h : n < 2147483648) : (0 : Int32) ≤ nI n := by
  have := nI_le (a := 0) (b := n) (by omega) (by omega)
  rwa [nI_0] at this
theorem nI_gt {n : Nat} (h : n < 2147483648) : (-11 : Int32) < nI n := by
  rw [Int32.lt_iff_toInt_lt, nI_toInt h]
  have : (-11 : Int32).toInt = -11 := by decide
  rw [this]
  omega
theorem RG_q {S : AmT} {t : Nat} {v : Int32} {C : Option (Int32 × AmT)} {M : AmT → Option (Int32 × AmT)} (hR : Rel S t) (hC : C = some (v, S)) (hM : ∀ S1, fr S S1 → M S1 = some (v, S1)) : RG S t C M := RG_cm hC hM (RG_ret hR)
theorem RG_qf {F : Nat} {S : AmT} {t : Nat} {n x : Int32} {C : Option (Int32 × AmT)} {M : AmT → Option (Int32 × AmT)} (hR : Rel S t) (hx : ¬ -11 < x) (hn : -10 - x = n) (hn' : -10 - n = x) (hC : C = am_b2 (f129 F x S) fun v S2 => some (v, S2)) (hM : ∀ S1, fr S S1 → M S1 = am_b2 (f203 F n S1) fun v S2 => some (v, S2)) : RG S t C M := RG_cm hC hM (RG_f hR hx hn hn')
theorem st_at {F : Nat} (x1 x2 x3 x4 : Int32) : FpStep (f148 F x1 x2 x3 x4) (f217 F x1 x2 x3 x4) := by
  refine Fp_of fun S t ht hR => ?_
  obtain ⟨nj, nf, ns, ng, nb, hC⟩ := Rel_z hR
  have hn := hC.1.1
  unfold f148 f217
  refine RG_g1 (Gd_page hC) hR ?_
  rintro ⟨j, i, q, hj, hi, hq, rfl, rfl, eq⟩
  obtain ⟨l, w, p, b1, b2, b3, b4, b5, b6, b7, b8, b9, b10, b11⟩ := Cur_job hC (j := j) (by omega)
  have hqp : q = p := by
    rw [eq] at b6
    exact (nI_eq (by omega) (by omega)).mp b6
  subst hqp
  have hP := b11 (24 * j + i) (by omega) (by omega)
  have e47 : f47 F (nI (24 * j + i)) x3 x4 S = am_b2 (am_b2 (f50 F (nI (24 * j + i)) x3 S) fun v1 S2 => f51 F v1 x4 S2) fun v3 S4 => if 0 ≤ v3 then (some ((kg S4.1 21 5760 v3), S4)) else (some (v3, S4)) := by
    unfold f47 am_b2
    rw [Option.bind_assoc]
  have hrd : ∀ S1, fr S S1 → S1.1 100 (24 * j + i) = mz S.1 100 (24 * j + i) ∧ ∀ r, r < 576 → S1.1 101 r = mz S.1 101 r := fun S1 hf => ⟨by rw [hf 100 (by omega)]; exact (mz_at (mi_h (by show 24 * j + i < 72; omega))).symm, fun r hr => by rw [hf 101 (by omega)]; exact (mz_at (mi_h hr)).symm⟩
  rcases let_c (F := F) (S := S) (x := x3) (y := x4) (by omega) rfl rfl hP with ⟨e, he, r1, r2⟩ | ⟨r, k, hr, hk, rfl, rfl, r1, r2, hw⟩
  · rcases he with rfl | rfl
    · refine RG_qf (F := F) (n := 1) (x := -11) hR (by decide) (by decide) (by decide) ?_ fun S1 hf => ?_
      · rw [f39_eq, b2_at, e47, r1]
        rfl
      · rw [f207_eq, b2_at, r2 S1 (hrd S1 hf).1 (hrd S1 hf).2]
        rfl
    · refine RG_qf (F := F) (n := 2) (x := -12) hR (by decide) (by decide) (by decide) ?_ fun S1 hf => ?_
      · rw [f39_eq, b2_at, e47, r1]
        rfl
      · rw [f207_eq, b2_at, r2 S1 (hrd S1 hf).1 (hrd S1 hf).2]
        rfl
  · obtain ⟨w1, v, hv1, hv2, w2⟩ := hw
    have e10 : 10 * (8 * nI (24 * j + i) + nI r) + nI k = nI (10 * (8 * (24 * j + i) + r) + k) := by
      show nI 10 * (nI 8 * nI (24 * j + i) + nI r) + nI k = _
      rw [nI_mul, nI_add, nI_mul, nI_add]
    refine RG_q (v := nI v) hR ?_ fun S1 hf => ?_
    · rw [f39_eq, b2_at, e47, r1, b2_at, if_pos (nI_le0 (by omega)), b2_at, kg_at (by omega) (by omega), w2, f129_ok (nI_gt (by omega)), b2_at]
    · rw [f207_eq, b2_at, r2 S1 (hrd S1 hf).1 (hrd S1 hf).2, b2_at, if_pos (Int32.le_refl _), e10, ck_at (by omega) (by omega), nI_clamp (by omega), hf 102 (by omega), ← mz_at (I := S.1) (k := 102) (mi_h (by show _ < 5760; omega)), ← w1, w2]
theorem st_size {F : Nat} (x1 x2 x3 : Int32) : FpStep (f149 F x1 x2 x3) (f218 F x1 x2 x3) := by
  refine Fp_of fun S t ht hR => ?_
  obtain ⟨nj, nf, ns, ng, nb, hC⟩ := Rel_z hR
  have hn := hC.1.1
  unfold f149 f218
  refine RG_g1 (Gd_page hC) hR ?_
  rintro ⟨j, i, q, hj, hi, hq, rfl, rfl, eq⟩
  obtain ⟨l, w, p, b1, b2, b3, b4, b5, b6, b7, b8, b9, b10, b11⟩ := Cur_job hC (j := j) (by omega)
  have hqp : q = p := by
    rw [eq] at b6
    exact (nI_eq (by omega) (by omega)).mp b6
  subst hqp
  have hP := b11 (24 * j + i) (by omega) (by omega)
  have hrd : ∀ S1, fr S S1 → S1.1 100 (24 * j + i) = mz S.1 100 (24 * j + i) ∧ ∀ r, r < 576 → S1.1 101 r = mz S.1 101 r := fun S1 hf => ⟨by rw [hf 100 (by omega)]; exact (mz_at (mi_h (by show 24 * j + i < 72; omega))).symm, fun r hr => by rw [hf 101 (by omega)]; exact (mz_at (mi_h hr)).symm⟩
  simp only [f39_eq, f207_eq, b2_at]
  refine RG_ite (fun S1 _ => Iff.rfl) (fun h => ?_) (fun h => ?_)
  · rcases hP with ⟨p1, p2⟩ | ⟨r, hr, p1, p2, -⟩
    · refine RG_qf (F := F) (n := 1) (x := -11) hR (by decide) (by decide) (by decide) ?_ fun S1 hf => ?_
      · unfold f48
        rw [kg_at (by omega) (by omega), p1, if_pos rfl, b2_at]
        rfl
      · rw [ck_at (by omega) (by omega), nI_clamp (by omega), (hrd S1 hf).1, p2, if_neg (by decide)]
    · refine RG_q (v := nI r) hR ?_ fun S1 hf => ?_
      · unfold f48
        rw [kg_at (by omega) (by omega), p1, if_neg (m1ne (by omega)), b2_at]
        unfold g149_57
        rw [f129_ok (nI_gt (by omega)), b2_at]
      · rw [ck_at (by omega) (by omega), nI_clamp (by omega), (hrd S1 hf).1, p2, if_pos (nI_le0 (by omega)), ck_at (by omega) (by omega)]
  · unfold f49
    rcases row_c (F := F) (S := S) (x := x3) (by omega) rfl hP with ⟨r1, r2⟩ | ⟨r1, r2⟩ | ⟨r, hr, rfl, r1, r2, hw⟩
    · refine RG_qf (F := F) (n := 1) (x := -11) hR (by decide) (by decide) (by decide) ?_ fun S1 hf => ?_
      · rw [r1]
        rfl
      · rw [r2 S1 (hrd S1 hf).1]
        rfl
    · refine RG_qf (F := F) (n := 2) (x := -12) hR (by decide) (by decide) (by decide) ?_ fun S1 hf => ?_
      · rw [r1]
        rfl
      · rw [r2 S1 (hrd S1 hf).1]
        rfl
    · have e8 : 8 * nI (24 * j + i) + nI r = nI (8 * (24 * j + i) + r) := by
        show nI 8 * nI (24 * j + i) + nI r = _
        rw [nI_mul, nI_add]
      rcases hw with ⟨w1, w2⟩ | ⟨c, hc, w1, w2, w3⟩
      · refine RG_qf (F := F) (n := 1) (x := -11) hR (by decide) (by decide) (by decide) ?_ fun S1 hf => ?_
        · rw [r1, b2_at, if_pos (nI_le0 (by omega)), kg_at (by omega) (by omega), w1, if_pos rfl]
          rfl
        · rw [r2 S1 (hrd S1 hf).1, b2_at, if_pos (Int32.le_refl _), e8, ck_at (by omega) (by omega), nI_clamp (by omega), (hrd S1 hf).2 _ (by omega), w2, if_neg (by decide)]
      · refine RG_q (v := nI c) hR ?_ fun S1 hf => ?_
        · rw [r1, b2_at, if_pos (nI_le0 (by omega)), kg_at (by omega) (by omega), w1, if_neg (m1ne (by omega)), b2_at]
          unfold g149_57
          rw [f129_ok (nI_gt (by omega)), b2_at]
        · rw [r2 S1 (hrd S1 hf).1, b2_at, if_pos (Int32.le_refl _), e8, ck_at (by omega) (by omega), nI_clamp (by omega), (hrd S1 hf).2 _ (by omega), w2, if_pos (nI_le0 (by omega))]
theorem st_about {F : Nat} (x1 x2 : Int32) : FpStep (f193 F x1 x2) (f294 F x1 x2) := by
  refine Fp_of fun S t ht hR => ?_
  obtain ⟨nj, nf, ns, ng, nb, hC⟩ := Rel_z hR
  have hn := hC.1.1
  unfold f193 f294
  refine RG_g1 (Gd_job hC) hR ?_
  rintro ⟨j, hj, rfl⟩
  obtain ⟨l, w, p, b1, b2, b3, b4, b5, b6, b7, b8, b9, b10, b11⟩ := Cur_job hC (j := j) (by omega)
  refine RG_ite (fun S1 _ => Iff.rfl) (fun h => ?_) (fun h => ?_)
  · refine RG_q (v := nI p) hR ?_ fun S1 hf => ?_
    · unfold f36
      rw [b2_at, kg_at (by omega) (by omega), b6]
    · rw [ck_at (by omega) (by omega), nI_clamp (by omega), hf 97 (by omega), ← mz_at (I := S.1) (k := 97) (mi_h (by show j < 3; omega)), b9]
  refine RG_ite (fun S1 _ => Iff.rfl) (fun h => ?_) (fun h => ?_)
  · refine RG_q (v := nI l) hR ?_ fun S1 hf => ?_
    · unfold f37
      rw [b2_at, kg_at (by omega) (by omega), b4]
    · rw [ck_at (by omega) (by omega), nI_clamp (by omega), hf 98 (by omega), ← mz_at (I := S.1) (k := 98) (mi_h (by show j < 3; omega)), b7]
  refine RG_ite (fun S1 _ => Iff.rfl) (fun h => ?_) (fun h => ?_)
  · refine RG_q (v := nI w) hR ?_ fun S1 hf => ?_
    · unfold f38
      rw [b2_at, kg_at (by omega) (by omega), b5]
    · rw [ck_at (by omega) (by omega), nI_clamp (by omega), hf 99 (by omega), ← mz_at (I := S.1) (k := 99) (mi_h (by show j < 3; omega)), b8]
  exact RG_ret hR
theorem st_moved {F : Nat} : FpStep (f151 F) (f221 F) := by
  refine Fp_of fun S t ht hR => ?_
  obtain ⟨-, ⟨h1, h2, h3, h4, h5, h6, h7, h8⟩, -⟩ := id hR
  refine RG_q (v := S.1 5 7) hR rfl fun S1 hf => ?_
  unfold f221
  rw [hf 95 (by omega), h6]
theorem st_told {F : Nat} (x1 : Int32) : FpStep (f191 F x1) (f292 F x1) := by
  refine Fp_of fun S t ht hR => ?_
  obtain ⟨nj, nf, ns, ng, nb, hC⟩ := Rel_z hR
  obtain ⟨-, ⟨h1, h2, h3, h4, h5, h6, ⟨tc, h7, h8, h9⟩, h10⟩, -⟩ := id hR
  have e : ∀ q, q < 16 → mz S.1 96 q = S.1 96 q := fun q hq => mz_at (mi_h hq)
  rcases Gd_in (F := F) (S := S) (x := x1) (la := 0) (lb := 12) 0 12 rfl rfl (by omega) with ⟨⟨w, hw0, hw, rfl⟩, g1, -⟩ | ⟨g1, g2⟩
  · have hcl : f191 F (nI w) S = if nI w = 5 then (am_b2 (f81 F S) fun v5 S6 => if v5 = 0 then (some (0, S6)) else (some (1, S6))) else if nI w = 6 then (g191_124 F (nI w) S) else if nI w = 7 then (am_b2 (f33 F S) fun v12 S13 => some (v12, S13)) else if nI w = 8 then (am_b2 (f20 F S) fun v15 S16 => some (v15, S16)) else if nI w = 9 then (am_b2 (f94 F S) fun v18 S19 => some (v18, S19)) else if nI w = 10 then (am_b2 (f1 F S) fun v21 S22 => some (v21, S22)) else if nI w = 11 then (am_b2 (f12 F S) fun v24 S25 => some (v24, S25)) else if nI w = 12 then (am_b2 (f83 F S) fun v27 S28 => some (v27, S28)) else (g191_124 F (nI w) S) := by
      unfold f191
      dsimp only at g1
      rw [g1, b2_at, if_neg (by decide)]
    refine RG_c hcl ?_
    unfold f292
    obtain ⟨hj1, hj2⟩ := Rel_jam hR
    match w, hw with
    | 0, _ =>
      exact RG_q (v := S.1 5 2) hR rfl fun S1 hf => by
        show some (S1.1 95 30, S1) = _
        rw [hf 95 (by omega), h1]
    | 1, _ =>
      exact RG_q (v := S.1 5 3) hR rfl fun S1 hf => by
        show some (S1.1 95 31, S1) = _
        rw [hf 95 (by omega), h2]
    | 2, _ =>
      exact RG_q (v := S.1 5 4) hR rfl fun S1 hf => by
        show some (S1.1 95 32, S1) = _
        rw [hf 95 (by omega), h3]
    | 3, _ =>
      exact RG_q (v := S.1 5 5) hR rfl fun S1 hf => by
        show some (S1.1 95 33, S1) = _
        rw [hf 95 (by omega), h4]
    | 4, _ =>
      exact RG_q (v := S.1 5 6) hR rfl fun S1 hf => by
        show some (S1.1 95 34, S1) = _
        rw [hf 95 (by omega), h5]
    | 5, _ =>
      refine RG_q (v := S.1 92 0) hR ?_ fun S1 hf => ?_
      · show (am_b2 (f81 F S) fun v5 S6 => if v5 = 0 then (some (0, S6)) else (some (1, S6))) = _
        rw [f81_eq, b2_at]
        rcases hj2 with h | h <;> rw [h] <;> rfl
      · show some (S1.1 96 8, S1) = _
        rw [hf 96 (by omega), hj1]
    | 6, _ =>
      exact RG_q (v := S.1 5 1) hR rfl fun S1 hf => by
        show some (S1.1 95 36, S1) = _
        rw [hf 95 (by omega), h8, h9]
    | 7, _ =>
      exact RG_q (v := S.1 9 0) hR rfl fun S1 hf => by
        show some (S1.1 96 0, S1) = _
        rw [hf 96 (by omega), ← e 0 (by omega), hC.1.2.1, hC.1.2.2.1]
    | 8, _ =>
      exact RG_q (v := S.1 31 0) hR rfl fun S1 hf => by
        show some (S1.1 96 1, S1) = _
        rw [hf 96 (by omega), ← e 1 (by omega), hC.2.1.2.1, hC.2.1.2.2.1]
    | 9, _ =>
      exact RG_q (v := S.1 48 0) hR rfl fun S1 hf => by
        show some (S1.1 96 2, S1) = _
        rw [hf 96 (by omega), ← e 2 (by omega), hC.2.2.1.2.1, hC.2.2.1.2.2.1]
    | 10, _ =>
      exact RG_q (v := S.1 71 0) hR rfl fun S1 hf => by
        show some (S1.1 96 3, S1) = _
        rw [hf 96 (by omega), ← e 3 (by omega), hC.2.2.2.1.2.1, hC.2.2.2.1.2.2.1]
    | 11, _ =>
      exact RG_q (v := S.1 81 0) hR rfl fun S1 hf => by
        show some (S1.1 96 4, S1) = _
        rw [hf 96 (by omega), ← e 4 (by omega), hC.2.2.2.1.2.2.2.1, hC.2.2.2.1.2.2.2.2.1]
    | 12, _ =>
      exact RG_q (v := S.1 94 0) hR rfl fun S1 hf => by
        show some (S1.1 96 6, S1) = _
        rw [hf 96 (by omega), ← e 6 (by omega), ← hC.2.2.2.2.2.2.2.2.2.1]
    | w + 13, hw => exact absurd hw (by omega)
  · refine RG_q (v := -1) hR ?_ fun S1 hf => ?_
    · unfold f191
      dsimp only at g1
      rw [g1]
      rfl
    · have hk : ∀ k : Nat, k ≤ 12 → ¬ x1 = nI k := by
        intro k hk z
        subst z
        dsimp only at g1
        rw [f194_eq, if_neg (Int32.not_lt.mpr (nI_le0 (by omega))), if_neg (show ¬ (12 : Int32) < nI k from nI_nlt (a := 12) hk (by omega))] at g1
        exact absurd (show (1 : Int32) = 0 from congrArg Prod.fst (Option.some.inj g1)) (by decide)
      unfold f292
      rw [if_neg (show ¬ x1 = (0 : Int32) from hk 0 (by omega)), if_neg (show ¬ x1 = (1 : Int32) from hk 1 (by omega)), if_neg (show ¬ x1 = (2 : Int32) from hk 2 (by omega)), if_neg (show ¬ x1 = (3 : Int32) from hk 3 (by omega)), if_neg (show ¬ x1 = (4 : Int32) from hk 4 (by omega)), if_neg (show ¬ x1 = (5 : Int32) from hk 5 (by omega)), if_neg (show ¬ x1 = (6 : Int32) from hk 6 (by omega)), if_neg (show ¬ x1 = (7 : Int32) from hk 7 (by omega)), if_neg (show ¬ x1 = (8 : Int32) from hk 8 (by omega)), if_neg (show ¬ x1 = (9 : Int32) from hk 9 (by omega)), if_neg (show ¬ x1 = (10 : Int32) from hk 10 (by omega)), if_neg (show ¬ x1 = (11 : Int32) from hk 11 (by omega)), if_neg (show ¬ x1 = (12 : Int32) from hk 12 (by omega))]
theorem nI_rem {a d : Nat} (ha : a < 2147483648) (h0 : 0 < d) (hd : d < 2147483648) : nI a - nI a / nI d * nI d = nI (a % d) := by
  rw [pk_div ha h0 hd, nI_mul, nI_sub (Nat.div_mul_le_self a d)]
  congr 1
  have := Nat.div_add_mod a d
  rw [Nat.mul_comm] at this
  omega
theorem nI_xor (a b : Nat) : nI a ^^^ nI b = nI (a ^^^ b) := by
  refine Int32.toBitVec_inj.mp (BitVec.eq_of_toNat_eq ?_)
  show ((BitVec.ofNat 32 a) ^^^ (BitVec.ofNat 32 b)).toNat = (BitVec.ofNat 32 (a ^^^ b)).toNat
  rw [BitVec.toNat_xor, BitVec.toNat_ofNat, BitVec.toNat_ofNat, BitVec.toNat_ofNat, Nat.xor_mod_two_pow]
theorem f295_eq {F y : Nat} {S : AmT} (h : y < 2147483648) : f295 F (nI y) 40 S = some (nI (y % 40), S) := by
  unfold f295 am_nz
  rw [if_neg (by decide)]
  have h1 : (0 : Int32) ≤ nI y ^^^ 40 := by
    show (0 : Int32) ≤ nI y ^^^ nI 40
    rw [nI_xor]
    exact nI_le0 (Nat.xor_lt_two_pow (n := 31) h (by decide))
  rw [if_pos h1]
  show some (nI y - nI y / nI 40 * nI 40, S) = _
  rw [nI_rem h (by omega) (by omega)]
theorem st_trace {F : Nat} (x1 : Int32) : FpStep (f192 F x1) (f293 F x1) := by
  refine Fp_of fun S t ht hR => ?_
  obtain ⟨-, ⟨h1, h2, h3, h4, h5, h6, ⟨tc, h7, h8, h9⟩, h10⟩, -⟩ := id hR
  have hm : ∀ S1 : AmT, fr S S1 → f293 F x1 S1 = am_b2 (some (if x1 < 0 then (0 : Int32) else if nI (min tc 40) - 1 < x1 then 0 else 1, S1)) fun v2 S3 => if v2 = 0 then (some ((-2), S3)) else (am_ck ((((S3.1 95 36) - 1) - x1) - (((S3.1 95 36) - 1) - x1) / 40 * 40) 40 (some ((S3.1 125 ((((S3.1 95 36) - 1) - x1) - (((S3.1 95 36) - 1) - x1) / 40 * 40).toNatClampNeg), S3))) := by
    intro S1 hf
    unfold f293 g293_20
    rw [hf 95 (by omega), h9]
    by_cases c : 40 ≤ tc
    · rw [if_pos (show (40 : Int32) ≤ nI tc from nI_le (a := 40) c (by omega)), f197_eq, Nat.min_eq_right c]
      rfl
    · rw [if_neg (show ¬ (40 : Int32) ≤ nI tc from nI_ge (b := 40) (by omega) (by omega)), f197_eq, Nat.min_eq_left (by omega)]
  unfold f192
  rw [b2_id]
  unfold f132
  refine RG_m hm ?_
  simp only [b2_at]
  by_cases c1 : x1 < 0
  · refine RG_q (v := -2) hR (if_pos c1) fun S1 hf => ?_
    rw [if_pos c1]
    rfl
  obtain ⟨y, hy, rfl⟩ := nI_of c1
  by_cases c2 : y < min tc 40
  · have c3 : ¬ nI (min tc 40) - 1 < nI y := fun z => nI_ge c2 (by omega) ((i32_m1 (by omega)).mp z)
    have e1 : nI tc - 1 - nI y = nI (tc - 1 - y) := by
      show nI tc - nI 1 - nI y = _
      rw [nI_sub (by omega), nI_sub (by omega)]
    refine RG_q (v := S.1 6 ((tc - 1 - y) % 40)) hR ?_ fun S1 hf => ?_
    · rw [if_neg c1, if_neg (show ¬ (40 : Int32) ≤ nI y from nI_ge (b := 40) (by omega) (by omega)), h8, if_pos (nI_lt (by omega) (by omega)), e1, f295_eq (by omega), b2_at, ck_at (Nat.mod_lt _ (by omega)) (by omega), nI_clamp (by omega)]
    · rw [if_neg c1, if_neg c3, if_neg (by decide), hf 95 (by omega), h9, e1]
      show am_ck (nI (tc - 1 - y) - nI (tc - 1 - y) / nI 40 * nI 40) 40 (some (S1.1 125 (nI (tc - 1 - y) - nI (tc - 1 - y) / nI 40 * nI 40).toNatClampNeg, S1)) = _
      rw [nI_rem (by omega) (by omega) (by omega), ck_at (Nat.mod_lt _ (by omega)) (by omega), nI_clamp (by omega), hf 125 (by omega), h10 _ (Nat.mod_lt _ (by omega))]
  · refine RG_q (v := -2) hR ?_ fun S1 hf => ?_
    · rw [if_neg c1]
      by_cases c3 : 40 ≤ y
      · rw [if_pos (show (40 : Int32) ≤ nI y from nI_le (a := 40) c3 (by omega))]
      · rw [if_neg (show ¬ (40 : Int32) ≤ nI y from nI_ge (b := 40) (by omega) (by omega)), h8, if_neg (nI_nlt (by omega) (by omega))]
    · rw [if_neg c1, if_pos ((i32_m1 (by omega)).mpr (nI_le (by omega) (by omega)))]
      rfl
theorem Cur_sheet {A m : Mem} {nj nf ns ng nb s : Nat} (hC : Cur A m nj nf ns ng nb) (hs : s < ns) : ns ≤ 8 ∧ (A 50 s = m 108 s ∧ A 52 s = m 109 s ∧ A 54 s = m 110 s ∧ A 62 s = m 111 s ∧ A 64 s = m 112 s ∧ A 66 s = m 113 s ∧ A 68 s = m 114 s) ∧ (∃ j, j < nj ∧ A 50 s = nI j) ∧ (∃ r, r ≤ 8 ∧ A 52 s = nI r) ∧ (∃ c, c ≤ 8 ∧ A 54 s = nI c) ∧ ((A 60 s = 0 ∧ m 115 s = -1) ∨ (A 60 s = 1 ∧ ∃ g, g < 4 ∧ m 115 s = nI g)) ∧ (A 62 s = -1 ∨ ∃ f, f < nf ∧ A 62 s = nI f) ∧ (A 64 s = -1 ∨ ∃ p, p ≤ 6 ∧ A 64 s = nI p) := by
  obtain ⟨-, -, ⟨h1, h2, h3, h4, h5, h6, h7, h8⟩, -⟩ := hC
  exact ⟨h1, h4 s (by omega), h7 s hs⟩
theorem st_state {F : Nat} (x1 x2 : Int32) : FpStep (f188 F x1 x2) (f290 F x1 x2) := by
  refine Fp_of fun S t ht hR => ?_
  obtain ⟨nj, nf, ns, ng, nb, hC⟩ := Rel_z hR
  unfold f188 f290
  refine RG_g1 (Gd_sheet hC) hR ?_
  rintro ⟨s, hs, rfl⟩
  obtain ⟨hn, ⟨a1, a2, a3, a4, a5, a6, a7⟩, -⟩ := Cur_sheet hC hs
  refine RG_ite (fun S1 _ => Iff.rfl) (fun h => ?_) (fun h => ?_)
  · refine RG_q (v := S.1 64 s) hR ?_ fun S1 hf => ?_
    · unfold f120
      rw [b2_at, kg_at (by omega) (by omega)]
    · rw [ck_at (by omega) (by omega), nI_clamp (by omega), hf 112 (by omega), ← mz_at (I := S.1) (k := 112) (mi_h (by show s < 8; omega)), a5]
  refine RG_ite (fun S1 _ => Iff.rfl) (fun h => ?_) (fun h => ?_)
  · refine RG_q (v := S.1 66 s) hR ?_ fun S1 hf => ?_
    · unfold f121
      rw [b2_at, kg_at (by omega) (by omega)]
    · rw [ck_at (by omega) (by omega), nI_clamp (by omega), hf 113 (by omega), ← mz_at (I := S.1) (k := 113) (mi_h (by show s < 8; omega)), a6]
  refine RG_ite (fun S1 _ => Iff.rfl) (fun h => ?_) (fun h => ?_)
  · refine RG_q (v := S.1 68 s) hR ?_ fun S1 hf => ?_
    · unfold f122
      rw [b2_at, kg_at (by omega) (by omega)]
    · rw [ck_at (by omega) (by omega), nI_clamp (by omega), hf 114 (by omega), ← mz_at (I := S.1) (k := 114) (mi_h (by show s < 8; omega)), a7]
  exact RG_ret hR
