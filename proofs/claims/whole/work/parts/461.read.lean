/-! calls: read, wrap -/
theorem at_ex {T : List Ft} {k : Nat} (h : k < T.length) : ∃ t, T[k]? = some t := ⟨T[k], List.getElem?_eq_getElem h⟩
def rdx (A : Mem) (T : List Ft) (x : Int32) : Int32 := if x < 0 then -12 else match T[x.toNatClampNeg]? with
  | some t => if A 56 (frr t) = 0 then A 58 (fpl t) / 2 else -11
  | none => -12
theorem rd_c {F : Nat} {A m0 : Mem} {nj nf ns ng nb : Nat} {T : List Ft} {x : Int32} (hC : Cur A m0 nj nf ns ng nb) (hT : T.length ≤ 2048) (hok : ∀ t, t ∈ T → okt A ns t) :
    (∃ e, (e = 1 ∨ e = 2) ∧ rdx A T x = -10 - nI e ∧ ∀ (S1 : AmT) (W : Mem) (Sm : AmT) (m : Mem), My S1 Sm m W → (∀ o, 96 ≤ o → o ≤ 124 → m o = m0 o) → FA m T → f263 F x Sm = am_b2 (f203 F (nI e) Sm) fun v S => some (v, S)) ∨
    (∃ p, p ≤ 24 ∧ rdx A T x = nI p ∧ ∀ (S1 : AmT) (W : Mem) (Sm : AmT) (m : Mem), My S1 Sm m W → (∀ o, 96 ≤ o → o ≤ 124 → m o = m0 o) → FA m T → f263 F x Sm = some (nI p, Sm)) := by
  have hns := hC.2.2.1.1
  have e47 : ∀ {S1 : AmT} {W : Mem} {Sm : AmT} {m : Mem}, My S1 Sm m W → FA m T → Sm.1 95 47 = nI T.length := fun hy hFA => (My_rd hy (Or.inl rfl)).trans hFA.1
  unfold rdx
  by_cases c1 : x < 0
  · refine Or.inl ⟨2, Or.inr rfl, by rw [if_pos c1]; rfl, fun S1 W Sm m hy hm hFA => ?_⟩
    unfold f263
    rw [e47 hy hFA, f197_eq, if_pos c1, b2_at, if_pos rfl]
    rfl
  obtain ⟨k, hk, rfl⟩ := nI_of c1
  rw [nI_clamp hk]
  by_cases c2 : k < T.length
  case neg =>
    refine Or.inl ⟨2, Or.inr rfl, by rw [if_neg c1, List.getElem?_eq_none (by omega)]; rfl, fun S1 W Sm m hy hm hFA => ?_⟩
    unfold f263
    rw [e47 hy hFA, f197_eq, if_neg c1, if_pos ((i32_m1 (by omega)).mpr (nI_le (by omega) hk)), b2_at, if_pos rfl]
    rfl
  have ht : T[k]? = some T[k] := List.getElem?_eq_getElem c2
  have htm : T[k] ∈ T := List.getElem_mem c2
  revert ht htm
  generalize T[k] = t
  intro ht htm
  have hokt := hok t htm
  have hfr := frr_lt hns hokt
  have hy3 := okt_y hokt
  have hmod : ∀ (S1 : AmT) (W : Mem) (Sm : AmT) (m : Mem), My S1 Sm m W → (∀ o, 96 ≤ o → o ≤ 124 → m o = m0 o) → FA m T → f263 F (nI k) Sm = if A 56 (frr t) = 0 then some (Sm.1 117 (fpl t), Sm) else am_b2 (f203 F 1 Sm) fun v S => some (v, S) := by
    intro S1 W Sm m hy hm hFA
    obtain ⟨f1, f2, f3⟩ := hFA.2 k t ht
    have e129 : Sm.1 129 k = nI t.1 := (My_rd hy (Or.inr (Or.inl (by omega)))).trans f1
    have e131 : Sm.1 131 k = nI (fen t.2.2 (t.2.1 % 2)) := (My_rd hy (Or.inr (Or.inl (by omega)))).trans f3
    have e116 : Sm.1 116 (frr t) = A 56 (frr t) := by
      rw [My_rd hy (mi_h (show frr t < 128 from hfr.2.1)), hm 116 (by omega) (by omega)]
      exact (Cur_torn hC _ hfr.2.1).1.symm
    unfold f263
    rw [e47 hy hFA, f197_eq, if_neg c1, if_neg (fun z => nI_ge c2 (by omega) ((i32_m1 (by omega)).mp z)), b2_at, if_neg (by decide), ck_at (by omega) (by omega), ck_at (by omega) (by omega), nI_clamp (by omega), e131, e129, f242_eq hy3.1 hy3.2.1 (by omega), b2_at, f243_eq hy3.1 hy3.2.1 (by omega), b2_at, f250_eq, b2_at]
    show (am_ck (nI (frr t)) 256 (if Sm.1 116 (nI (frr t)).toNatClampNeg = 0 then _ else _)) = _
    rw [ck_at (by omega) (by omega), nI_clamp (by omega), e116]
    by_cases q : A 56 (frr t) = 0
    · rw [if_pos q, if_pos q, f242_eq hy3.1 hy3.2.1 (by omega), b2_at, f243_eq hy3.1 hy3.2.1 (by omega), b2_at, f244_eq hy3.1 hy3.2.1 (by omega), b2_at, f251_eq, b2_at]
      show (am_ck (nI (fpl t)) 2048 (some (Sm.1 117 (nI (fpl t)).toNatClampNeg, Sm))) = _
      rw [ck_at (by omega) (by omega), nI_clamp (by omega)]
    · rw [if_neg q, if_neg q]
  rw [if_neg c1, ht]
  dsimp only
  by_cases q : A 56 (frr t) = 0
  · obtain ⟨p, u, hp, hu, q1, q2, q3⟩ := Cur_cell hC (fpl t) hfr.2.2.2
    refine Or.inr ⟨p, hp, by rw [if_pos q, q1, (nI_half hp hu).1], fun S1 W Sm m hy hm hFA => ?_⟩
    rw [hmod S1 W Sm m hy hm hFA, if_pos q, My_rd hy (mi_h (show fpl t < 1024 from hfr.2.2.2)), hm 117 (by omega) (by omega), q2]
  · refine Or.inl ⟨1, Or.inl rfl, by rw [if_neg q]; rfl, fun S1 W Sm m hy hm hFA => ?_⟩
    rw [hmod S1 W Sm m hy hm hFA, if_neg q]
    rfl
/-- readFace() of a sheet, in both: f113 and the model's way -/
theorem rd_sh {F : Nat} (hF : 6000 ≤ F) {S : AmT} {t nj nf ns ng nb f s : Nat} {x : Int32} {C : Option (Int32 × AmT)} {M : AmT → Option (Int32 × AmT)} (hR : Rel S t) (ht : t ≤ 600) (hC : Cur S.1 (mz S.1) nj nf ns ng nb) (hf : f < nf) (hs : s < ns)
    (hc : C = am_b2 (f113 F (nI s) (nI f) x S) fun v S2 => am_b2 (f129 F v S2) fun v S3 => some (v, S3))
    (hm : ∀ S1, fr S S1 → M S1 = am_lt ((am_upI S1.1 95 47 0, S1.2) : AmT) fun S5 => am_b2 (f260 F (nI s) (nI f) S5) fun v6 S7 => if v6 ≤ 0 then (am_b2 (f263 F x S7) fun v9 S10 => some (v9, S10)) else (am_b2 (f203 F v6 S7) fun v11 S12 => some (v11, S12))) : RG S t C M := by
  refine RG_cm hc hm ?_
  have hns := hC.2.2.1.1
  have hTl := Tl_of hR.2.1
  obtain ⟨tc, htc, htr⟩ := Tl_tc hTl
  obtain ⟨v, S', tc', L, e1, e2, e3, e4, e5⟩ := fl hF hC hf hs (S := S) (fun _ _ _ => rfl) htr.1 (by omega)
  have hfr5 := e2.2.2.1
  have hfrm : ∀ o, 96 ≤ o → o ≤ 124 → am_upI (mz S.1) 95 47 0 o = mz S.1 o := fun o o1 o2 => am_upI_ne (by omega)
  have htr' : TR S (am_upI (mz S.1) 95 47 0) tc := TR_m htr (by simp only [am_upI_at, am_upI_ne, pk_us, pk_un, ne_eq, Nat.reduceEqDiff, not_false_eq_true]) (by simp only [am_upI_at, am_upI_ne, pk_us, pk_un, ne_eq, Nat.reduceEqDiff, not_false_eq_true])
  have h95 : ∀ m2 : Mem, (∀ j, 29 ≤ j → j ≤ 35 → m2 95 j = am_upI (mz S.1) 95 47 0 95 j) → ∀ j, 29 ≤ j → j ≤ 35 → m2 95 j = mz S.1 95 j := fun m2 h j j1 j2 => by rw [h j j1 j2, am_upI_at, pk_un (by omega)]
  have hCur : Cur S'.1 (mz S.1) nj nf ns ng nb := Cur_congr (fun o ho => e2.2.1 o (by omega) (by omega) (by omega) (by omega)) hC
  unfold f113
  rw [e1, b2_at]
  rcases e5 with ⟨e, he, rfl, e6⟩ | ⟨rfl, hl, hok, e6⟩
  · obtain ⟨n1, n2⟩ := neg10 (e := e) (by omega)
    rw [if_neg n1, b2_at]
    refine RG_foldf (F := F) (e := e) hR (by omega) (S' := S') rfl (Kq_Sg e2) fun S1 q1 q2 q3 h0 => ?_
    refine MG_up h0 (Or.inl rfl) fun S5 h5 => ?_
    refine MG_b2 (e6 S1 _ S5 _ h5 hfrm htr') fun v' S6 m6 h6 hq => ?_
    obtain ⟨w1, w2, w3, rfl⟩ := hq
    rw [if_neg n2]
    exact MGf_fin (by omega) h6 w1 (h95 m6 w2 29 (by omega) (by omega)) (Tl_tr hTl hfr5 (fun j j1 j2 => h95 m6 w2 j (by omega) (by omega)) w3 (by omega))
  · have hcl : (if (0 : Int32) ≤ nI (2 * L.length) then (if x < 0 then g113_45 F S' else (if x < nI (2 * L.length) then (am_b2 (f114 F (nI s) x S') fun v6 S7 => some (v6, S7)) else g113_45 F S')) else some (nI (2 * L.length), S')) = some (rdx S'.1 (fcs s L 0 (2 * L.length)) x, S') := by
      rw [if_pos (nI_le0 (by omega))]
      unfold rdx g113_45
      by_cases c1 : x < 0
      · rw [if_pos c1, if_pos c1]
      · rw [if_neg c1, if_neg c1]
        obtain ⟨k, hk, rfl⟩ := nI_of c1
        rw [nI_clamp hk]
        by_cases c2 : k < 2 * L.length
        · obtain ⟨tt, ht⟩ := at_ex (T := fcs s L 0 (2 * L.length)) (k := k) (by rw [fcs_len]; exact c2)
          obtain ⟨-, et⟩ := fcs_at ht
          have hokt := hok tt (List.mem_of_getElem? ht)
          have e114 := f114_eq (F := F) (S := S') hns hokt rfl rfl rfl
          rw [if_pos (nI_lt c2 (by omega)), ht, b2_id]
          rw [et, Nat.zero_add] at e114
          rw [et, Nat.zero_add]
          exact e114
        · rw [if_neg (fun z => c2 ((nI_ltI hk (by omega)).mp z)), List.getElem?_eq_none (by rw [fcs_len]; omega)]
    rw [hcl, b2_at]
    rcases rd_c (F := F) (x := x) hCur (by rw [fcs_len]; omega) hok with ⟨e, he, r1, r2⟩ | ⟨p, hp, r1, r2⟩
    · rw [r1]
      refine RG_foldf (F := F) (e := e) hR (by omega) (S' := S') rfl (Kq_Sg e2) fun S1 q1 q2 q3 h0 => ?_
      refine MG_up h0 (Or.inl rfl) fun S5 h5 => ?_
      refine MG_b2 (e6 S1 _ S5 _ h5 hfrm (by simp only [am_upI_at, am_upI_ne, pk_us, pk_un, ne_eq, Nat.reduceEqDiff, not_false_eq_true]) htr') fun v' S6 m6 h6 hq => ?_
      obtain ⟨w1, w2, w3, rfl, w4⟩ := hq
      rw [if_pos (Int32.le_refl _), r2 _ _ S6 m6 h6 w1 w4, b2_id]
      exact MGf_fin (by omega) h6 w1 (h95 m6 w2 29 (by omega) (by omega)) (Tl_tr hTl hfr5 (fun j j1 j2 => h95 m6 w2 j (by omega) (by omega)) w3 (by omega))
    · rw [r1]
      refine RG_qq hR ⟨nI p, S', S'.1, ?_, Kq_Sg e2, fun h0 => ?_⟩
      · rw [b2_id, f129_ok (nI_gt (by omega))]
      · refine MG_up h0 (Or.inl rfl) fun S5 h5 => ?_
        refine MG_b2 (e6 S' _ S5 _ h5 hfrm (by simp only [am_upI_at, am_upI_ne, pk_us, pk_un, ne_eq, Nat.reduceEqDiff, not_false_eq_true]) htr') fun v' S6 m6 h6 hq => ?_
        obtain ⟨w1, w2, w3, rfl, w4⟩ := hq
        rw [if_pos (Int32.le_refl _), r2 _ _ S6 m6 h6 w1 w4, b2_at]
        exact MG_ret h6 ⟨rfl, w1, Tl_tr hTl hfr5 (fun j j1 j2 => h95 m6 w2 j (by omega) (by omega)) w3 (by omega), h95 m6 w2 29 (by omega) (by omega)⟩
theorem st_read {F : Nat} (hF : 6000 ≤ F) (x1 x2 x3 : Int32) : FpStep (f169 F x1 x2 x3) (f265 F x1 x2 x3) := by
  refine Fp_of fun S t ht hR => ?_
  obtain ⟨nj, nf, ns, ng, nb, hC⟩ := Rel_z hR
  unfold f169 f265
  refine RG_g1 (Gd_sheet hC) hR ?_
  rintro ⟨s, hs, rfl⟩
  refine RG_g1 (Gd_fold hC) hR ?_
  rintro ⟨f, hf, rfl⟩
  exact rd_sh hF hR ht hC hf hs rfl fun S1 _ => rfl
theorem st_wrap {F : Nat} (hF : 6000 ≤ F) (x1 x2 : Int32) : FpStep (f179 F x1 x2) (f277 F x1 x2) := by
  refine Fp_of fun S t ht hR => ?_
  obtain ⟨nj, nf, ns, ng, nb, hC⟩ := Rel_z hR
  have hns := hC.2.2.1.1
  unfold f179 f277
  refine RG_g1 (Gd_fold hC) hR ?_
  rintro ⟨f, hf, rfl⟩
  obtain ⟨-, -, -, -, -, e85, hb, -⟩ := hC.2.2.2.1
  have e96 : ∀ S1, fr S S1 → S1.1 96 5 = S.1 85 0 := fun S1 h => by
    rw [h 96 (by omega), ← mz_at (I := S.1) (k := 96) (j := 5) (mi_h (by decide)), ← e85]
  unfold f17
  rw [b2_at, kg_0 (by decide) (by decide)]
  rcases hb with hb | ⟨s, hs, hb⟩
  · refine RG_qf (F := F) (n := 1) (x := -11) hR (by decide) (by decide) (by decide) ?_ fun S1 h => ?_
    · rw [hb, if_pos rfl]
      rfl
    · rw [e96 S1 h, hb, if_neg (by decide)]
  · refine rd_sh hF hR ht hC hf hs (x := x2) ?_ fun S1 h => ?_
    · rw [hb, if_neg (m1ne (by omega))]
      rfl
    · rw [e96 S1 h, hb, if_pos (nI_le0 (by omega))]
      have : (am_upI S1.1 95 47 0) 96 5 = nI s := by rw [am_upI_ne (by decide), e96 S1 h, hb]
      dsimp only [am_lt]
      rw [this]
