/-! calls: face, faces -/
theorem Tl_tc {S : AmT} {m : Mem} {t : Nat} (h : Tl S.1 m t) : ∃ tc, tc ≤ 2000 * t ∧ TR S m tc := by
  obtain ⟨-, -, -, -, -, -, ⟨tc, a1, a2, a3⟩, a4⟩ := h
  exact ⟨tc, a1, a2, a3, a4⟩
theorem Tl_tr {S S' : AmT} {m m2 : Mem} {t t' tc' : Nat} (h : Tl S.1 m t) (h5 : ∀ j, j ≠ 1 → S'.1 5 j = S.1 5 j) (h95 : ∀ j, 30 ≤ j → j ≤ 35 → m2 95 j = m 95 j) (hr : TR S' m2 tc') (ht : tc' ≤ 2000 * t') : Tl S'.1 m2 t' := by
  obtain ⟨a1, a2, a3, a4, a5, a6, -, -⟩ := h
  unfold Tl
  rw [h5 2 (by omega), h5 3 (by omega), h5 4 (by omega), h5 5 (by omega), h5 6 (by omega), h5 7 (by omega), h95 30 (by omega) (by omega), h95 31 (by omega) (by omega), h95 32 (by omega) (by omega), h95 33 (by omega) (by omega), h95 34 (by omega) (by omega), h95 35 (by omega) (by omega)]
  exact ⟨a1, a2, a3, a4, a5, a6, ⟨tc', ht, hr.1, hr.2.1⟩, hr.2.2⟩
theorem Tl_f0 {A m : Mem} {t : Nat} {n : Int32} (hT : Tl A m t) : Tl (am_upI (am_upI A 5 2 (A 5 2 + 1)) 5 3 n) (am_upI (am_upI m 95 30 (m 95 30 + 1)) 95 31 n) t := by
  obtain ⟨a1, a2, a3, a4, a5, a6, ⟨tc, a7, a8, a9⟩, a10⟩ := hT
  unfold Tl
  simp only [am_upI_at, am_upI_ne, pk_us, pk_un, ne_eq, Nat.reduceEqDiff, not_false_eq_true]
  exact ⟨by rw [a1], trivial, a3, a4, a5, a6, ⟨tc, a7, a8, a9⟩, a10⟩
theorem Kq_Sg {S S' : AmT} {sh : Nat} (h : Sg S S' sh) : Kq S S' S'.1 := ⟨h.1, fun o ho => h.2.1 o (by omega) (by omega) (by omega) (by omega), fun _ _ _ => rfl, fun o ho => h.2.1 o (by omega) (by omega) (by omega) (by omega)⟩
theorem Kq_trans {S S' S'' : AmT} {A A' : Mem} (h : Kq S S' A) (h' : Kq S' S'' A') : Kq S S'' A' := ⟨h'.1.trans h.1, fun o ho => (h'.2.1 o ho).trans (h.2.1 o ho), h'.2.2.1, fun o ho => (h'.2.2.2 o ho).trans (h.2.2.2 o ho)⟩
/-- a query of the class that has folded: it ends with a number, or with a FINDING -/
theorem RG_fold {S S' : AmT} {t : Nat} {v : Int32} {C : Option (Int32 × AmT)} {M : AmT → Option (Int32 × AmT)} (hR : Rel S t) (hC : C = some (v, S')) (hK : Kq S S' S'.1) (H : My S' S' (mz S.1) (mw S.1) → Tl S.1 (mz S.1) t → MG S' (mw S.1) (M S') (fun v' m => v' = v ∧ Wx (mz S.1) m ∧ Tl S'.1 m (t + 1))) : RG S t C M := by
  refine RG_qq hR ⟨v, S', S'.1, hC, hK, fun h0 => ?_⟩
  obtain ⟨v', S2, m, e1, e2, e3, e4, e5⟩ := H h0 (Tl_of hR.2.1)
  exact ⟨v', S2, m, e1, e2, e3, fun o o1 o2 => e4.1 o (by omega) (by omega) (by omega) (by omega) (by omega), e5, e4.2 29 (by omega) (by omega) (by omega) (by omega)⟩
theorem RG_foldf {F : Nat} {S S' : AmT} {t e : Nat} {C : Option (Int32 × AmT)} {M : AmT → Option (Int32 × AmT)} (hR : Rel S t) (he : 1 ≤ e ∧ e ≤ 8) (hC : C = am_b2 (f129 F (-10 - nI e) S') fun v S2 => some (v, S2)) (hK : Kq S S' S'.1) (H : ∀ S1, fr S' S1 → S1.2 = S'.2 → (∀ o, o ≠ 5 → S1.1 o = S'.1 o) → My S1 S1 (mz S.1) (mw S.1) → MG S1 (mw S.1) (M S1) (fun v' m => v' = -10 - nI e ∧ ∃ m1, m = am_upI (am_upI m1 95 30 (m1 95 30 + 1)) 95 31 (nI e) ∧ (∀ o, 96 ≤ o → o ≤ 124 → m1 o = mz S.1 o) ∧ m1 95 29 = mz S.1 95 29 ∧ Tl S'.1 m1 (t + 1))) : RG S t C M := by
  have hx : ¬ (-11 : Int32) < -10 - nI e ∧ -10 - (-10 - nI e) = nI e := by
    rcases (show e = 1 ∨ e = 2 ∨ e = 3 ∨ e = 4 ∨ e = 5 ∨ e = 6 ∨ e = 7 ∨ e = 8 by omega) with rfl | rfl | rfl | rfl | rfl | rfl | rfl | rfl <;> decide
  obtain ⟨k1, k2⟩ := Kq_f (F := F) (S := S') hx.1
  refine RG_qq hR ⟨-10 - nI e, _, _, hC.trans k1, Kq_trans hK k2, fun h0 => ?_⟩
  obtain ⟨v', S2, m, e1, e2, e3, m1, rfl, e5, e6, e7⟩ := H _ (fun o ho => cf_fn (by omega)) rfl (fun o ho => cf_fn (by omega)) h0
  refine ⟨v', S2, _, e1, e2, e3, fun o o1 o2 => ?_, ?_, ?_⟩
  · rw [am_upI_ne (by omega), am_upI_ne (by omega), e5 o o1 o2]
  · rw [hx.2]
    exact Tl_f0 e7
  · simp only [am_upI_at, am_upI_ne, pk_us, pk_un, ne_eq, Nat.reduceEqDiff, not_false_eq_true]
    exact e6
-- a face
def fce (w : Nat) (y : Lf) (b : Nat) : Nat := if w = 0 then (y.2 / 2) ^^^ b else if w = 1 then y.1 / 8 else if w = 2 then y.1 % 8 else y.2 % 2
def fen (y : Lf) (b : Nat) : Nat := (y.1 + 64 * (y.2 / 2) + 128 * (y.2 % 2)) ^^^ (64 * b)
theorem lfd : ∀ p : Fin 64, ∀ l : Fin 4, (nI (4 * p.val + l.val) &&& 2) / 2 = nI (l.val / 2) ∧ nI (4 * p.val + l.val) / 4 / 8 = nI (p.val / 8) ∧ nI (4 * p.val + l.val) / 4 - nI (4 * p.val + l.val) / 4 / 8 * 8 = nI (p.val % 8) ∧ nI (4 * p.val + l.val) &&& 1 = nI (l.val % 2) := by decide
theorem mfd : ∀ p : Fin 64, ∀ l : Fin 4, ∀ b : Fin 2, (nI ((p.val + 64 * (l.val / 2) + 128 * (l.val % 2)) ^^^ (64 * b.val)) >>> (6 &&& 31)) &&& 1 = nI ((l.val / 2) ^^^ b.val) ∧ (nI ((p.val + 64 * (l.val / 2) + 128 * (l.val % 2)) ^^^ (64 * b.val)) >>> (3 &&& 31)) &&& 7 = nI (p.val / 8) ∧ nI ((p.val + 64 * (l.val / 2) + 128 * (l.val % 2)) ^^^ (64 * b.val)) &&& 7 = nI (p.val % 8) ∧ (nI ((p.val + 64 * (l.val / 2) + 128 * (l.val % 2)) ^^^ (64 * b.val)) >>> (7 &&& 31)) &&& 1 = nI (l.val % 2) := by decide
theorem f242_eq {F b : Nat} {y : Lf} {S : AmT} (h1 : y.1 < 64) (h2 : y.2 < 4) (hb : b < 2) : f242 F (nI (fen y b)) S = some (nI (fce 0 y b), S) := by
  unfold f242
  exact congrArg (fun v => some (v, S)) (mfd ⟨y.1, h1⟩ ⟨y.2, h2⟩ ⟨b, hb⟩).1
theorem f243_eq {F b : Nat} {y : Lf} {S : AmT} (h1 : y.1 < 64) (h2 : y.2 < 4) (hb : b < 2) : f243 F (nI (fen y b)) S = some (nI (fce 1 y b), S) := by
  unfold f243
  exact congrArg (fun v => some (v, S)) (mfd ⟨y.1, h1⟩ ⟨y.2, h2⟩ ⟨b, hb⟩).2.1
theorem f244_eq {F b : Nat} {y : Lf} {S : AmT} (h1 : y.1 < 64) (h2 : y.2 < 4) (hb : b < 2) : f244 F (nI (fen y b)) S = some (nI (fce 2 y b), S) := by
  unfold f244
  exact congrArg (fun v => some (v, S)) (mfd ⟨y.1, h1⟩ ⟨y.2, h2⟩ ⟨b, hb⟩).2.2.1
theorem f245_eq {F b : Nat} {y : Lf} {S : AmT} (h1 : y.1 < 64) (h2 : y.2 < 4) (hb : b < 2) : f245 F (nI (fen y b)) S = some (nI (fce 3 y b), S) := by
  unfold f245
  exact congrArg (fun v => some (v, S)) (mfd ⟨y.1, h1⟩ ⟨y.2, h2⟩ ⟨b, hb⟩).2.2.2
theorem nI_dv2 {k : Nat} (h : k < 2147483648) : nI k / 2 = nI (k / 2) ∧ nI k - nI k / 2 * 2 = nI (k % 2) := by
  refine ⟨?_, nI_rem (d := 2) h (by omega) (by omega)⟩
  rw [← Int32.toInt_inj, Int32.toInt_div_of_ne_right _ _ (by decide), nI_toInt h, nI_toInt (by omega)]
  show Int.tdiv (k : Int) 2 = _
  rw [Int.tdiv_eq_ediv_of_nonneg (by omega)]
  omega
theorem L_at {L : List Lf} {k : Nat} (hk : k < 2 * L.length) : ∃ y, L[k / 2]? = some y ∧ y ∈ L := by
  have h : k / 2 < L.length := by omega
  exact ⟨L[k / 2], List.getElem?_eq_getElem h, List.getElem_mem h⟩
/-- faceOf() of the class -/
theorem f31_eq {F sh k w : Nat} {L : List Lf} {y : Lf} {S : AmT} (hsh : sh < 8) (hC : CL S sh L) (hk : k < 2 * L.length) (hy : L[k / 2]? = some y) (hw : w ≤ 3) : f31 F (nI sh) (nI k) (nI w) S = some (nI (fce w y (k % 2)), S) := by
  obtain ⟨c1, c2, c3⟩ := hC
  obtain ⟨g1, g2⟩ := c2 y (List.mem_of_getElem? hy)
  obtain ⟨l1, l2, l3, l4⟩ := lfd ⟨y.1, g1⟩ ⟨y.2, g2⟩
  obtain ⟨d1, d2⟩ := nI_dv2 (k := k) (by omega)
  have e1 : nI sh * 64 + nI k / 2 = nI (64 * sh + k / 2) := by
    rw [show nI sh * 64 = nI (sh * 64) from nI_mul _ 64, d1, nI_add, Nat.mul_comm]
  unfold f31
  rw [if_neg (nI_pos (by omega)), e1, if_neg (nI_pos (by omega)), if_pos (show nI (64 * sh + k / 2) < (512 : Int32) from nI_lt (b := 512) (by omega) (by omega)), ck_at (by omega) (by omega), nI_clamp (by omega), c3 _ y hy, d2]
  unfold f66 f67 f68 f69
  simp only [b2_at]
  dsimp only at l1 l2 l3 l4
  rw [l1, l3, l2, l4]
  unfold fce
  rcases (show w = 0 ∨ w = 1 ∨ w = 2 ∨ w = 3 by omega) with rfl | rfl | rfl | rfl
  · rw [if_pos (show nI 0 = 0 from rfl), nI_xor, if_pos rfl]
  · rw [if_neg (by decide), if_pos (show nI 1 = 1 from rfl), if_neg (by decide), if_pos rfl]
  · rw [if_neg (by decide), if_neg (by decide), if_pos (show nI 2 = 2 from rfl), if_neg (by decide), if_neg (by decide), if_pos rfl]
  · rw [if_neg (by decide), if_neg (by decide), if_neg (by decide), if_neg (by decide), if_neg (by decide), if_neg (by decide)]
theorem f241_eq {F k : Nat} {L : List Lf} {y : Lf} {S : AmT} {m : Mem} (hM : MP m 0 L) (h128 : ∀ j, S.1 128 j = m 128 j) (hk : k < 2 * L.length) (hL : L.length ≤ 64) (hy : L[k / 2]? = some y) : f241 F (nI k) S = some (nI (fen y (k % 2)), S) := by
  obtain ⟨d1, d2⟩ := nI_dv2 (k := k) (by omega)
  have e := hM.2 _ y hy
  rw [Nat.mul_zero, Nat.zero_add] at e
  unfold f241
  rw [d2, d1, ck_at (by omega) (by omega), nI_clamp (by omega), h128, e]
  unfold fen enc
  rcases (show k % 2 = 0 ∨ k % 2 = 1 by omega) with q | q
  · rw [q, if_pos (show nI 0 = 0 from rfl), Nat.mul_zero, Nat.xor_zero]
  · rw [q, if_neg (by decide), show (64 : Int32) = nI 64 from rfl, nI_xor]
theorem neg10 {e : Nat} (he : 1 ≤ e ∧ e ≤ 8) : ¬ (0 : Int32) ≤ -10 - nI e ∧ ¬ nI e ≤ 0 := by
  rcases (show e = 1 ∨ e = 2 ∨ e = 3 ∨ e = 4 ∨ e = 5 ∨ e = 6 ∨ e = 7 ∨ e = 8 by omega) with rfl | rfl | rfl | rfl | rfl | rfl | rfl | rfl <;> decide
theorem MGf_fin {F e : Nat} {S1 S2 : AmT} {A m m0 W : Mem} {t : Nat} (he : 1 ≤ e ∧ e ≤ 8) (h : My S1 S2 m W) (hx : ∀ o, 96 ≤ o → o ≤ 124 → m o = m0 o) (h29 : m 95 29 = m0 95 29) (hT : Tl A m t) : MG S1 W (am_b2 (f203 F (nI e) S2) fun v S2 => some (v, S2)) (fun v' m => v' = -10 - nI e ∧ ∃ m1, m = am_upI (am_upI m1 95 30 (m1 95 30 + 1)) 95 31 (nI e) ∧ (∀ o, 96 ≤ o → o ≤ 124 → m1 o = m0 o) ∧ m1 95 29 = m0 95 29 ∧ Tl A m1 t) := MG_f h ⟨rfl, m, rfl, hx, h29, hT⟩
theorem st_faces {F : Nat} (hF : 6000 ≤ F) (x1 x2 x3 : Int32) : FpStep (f160 F x1 x2 x3) (f248 F x1 x2 x3) := by
  refine Fp_of fun S t ht hR => ?_
  obtain ⟨nj, nf, ns, ng, nb, hC⟩ := Rel_z hR
  unfold f160 f248
  refine RG_g1 (Gd_fold hC) hR ?_
  rintro ⟨f, hf, rfl⟩
  unfold f161 g248_35
  rcases grid_c (F := F) (S := S) (x := x2) (y := x3) with ⟨e, he, r1, r2⟩ | ⟨r, c, hr, hc, rfl, rfl, r1, r2⟩
  · obtain ⟨n1, n2⟩ := neg10 (e := e) (by omega)
    refine RG_foldf (F := F) (e := e) hR (by omega) (S' := S) ?_ (Kq_0 S) fun S1 q1 q2 q3 h0 => ?_
    · rw [r1, b2_at, if_neg n1, b2_at]
    · rw [r2 S1, b2_at, if_neg n2, if_neg n2]
      exact MGf_fin (by omega) h0 (fun _ _ _ => rfl) rfl (Tl_mono (Tl_of hR.2.1) (by omega))
  rw [r1, b2_at, if_pos (by decide), b2_id]
  have hTl := Tl_of hR.2.1
  obtain ⟨tc, htc, htr⟩ := Tl_tc hTl
  obtain ⟨v, S', tc', L, e1, e2, e3, e4, e5⟩ := fg hF hC hf (sh := 0) (by omega) hr hc (fun _ _ _ => rfl) htr.1 (by omega)
  rw [show f29 F (nI f) (nI r) (nI c) 0 S = some (v, S') from e1, b2_at]
  have hfr := e2.2.2.1
  rcases e5 with ⟨e, he, rfl, e6⟩ | ⟨rfl, hlen, hP, hab, hCL, e6⟩
  · obtain ⟨n1, n2⟩ := neg10 (e := e) (by omega)
    refine RG_foldf (F := F) (e := e) hR (by omega) (S' := S') rfl (Kq_Sg e2) fun S1 q1 q2 q3 h0 => ?_
    rw [r2 S1, b2_at, if_pos (Int32.le_refl _)]
    refine MG_b2 (e6 S1 _ S1 _ h0 (fun _ _ _ => rfl) htr) fun v' S2 m2 h2 hq => ?_
    obtain ⟨w1, w2, rfl⟩ := hq
    rw [if_neg n2]
    exact MGf_fin (by omega) h2 (fun o o1 o2 => w1.1 o (by omega) (by omega) (by omega) (by omega) (by omega)) (w1.2 29 (by omega) (by omega) (by omega) (by omega)) (Tl_tr hTl hfr (fun j j1 j2 => w1.2 j (by omega) (by omega) (by omega) (by omega)) w2 (by omega))
  · have hl := hCL.1
    refine RG_fold (v := nI (2 * L.length)) hR ?_ (Kq_Sg e2) fun h0 _ => ?_
    · rw [b2_id, f129_ok (nI_gt (by omega))]
    · rw [r2 S', b2_at, if_pos (Int32.le_refl _)]
      refine MG_b2 (e6 S' _ S' _ h0 (fun _ _ _ => rfl) htr) fun v' S2 m2 h2 hq => ?_
      obtain ⟨w1, w2, rfl, w3⟩ := hq
      rw [if_pos (Int32.le_refl _), My_rd h2 (Or.inr (Or.inl (by omega))), w3.1, show (2 : Int32) * nI L.length = nI (2 * L.length) from nI_mul 2 _]
      exact MG_ret h2 ⟨rfl, w1, Tl_tr hTl hfr (fun j j1 j2 => w1.2 j (by omega) (by omega) (by omega) (by omega)) w2 (by omega)⟩
theorem st_face {F : Nat} (hF : 6000 ≤ F) (x1 x2 x3 x4 x5 : Int32) : FpStep (f159 F x1 x2 x3 x4 x5) (f247 F x1 x2 x3 x4 x5) := by
  refine Fp_of fun S t ht hR => ?_
  obtain ⟨nj, nf, ns, ng, nb, hC⟩ := Rel_z hR
  unfold f159 f247
  refine RG_g1 (Gd_fold hC) hR ?_
  rintro ⟨f, hf, rfl⟩
  refine RG_g1 (Gd_in 0 3 rfl rfl (by omega)) hR ?_
  rintro ⟨w, -, hw, rfl⟩
  unfold f161
  rcases grid_c (F := F) (S := S) (x := x2) (y := x3) with ⟨e, he, r1, r2⟩ | ⟨r, c, hr, hc, rfl, rfl, r1, r2⟩
  · obtain ⟨n1, n2⟩ := neg10 (e := e) (by omega)
    refine RG_foldf (F := F) (e := e) hR (by omega) (S' := S) ?_ (Kq_0 S) fun S1 q1 q2 q3 h0 => ?_
    · rw [r1, b2_at, if_neg n1, b2_at, if_neg n1]
    · unfold g247_47 g247_83
      rw [r2 S1, b2_at, if_neg n2, if_neg n2, if_neg n2]
      exact MGf_fin (by omega) h0 (fun _ _ _ => rfl) rfl (Tl_mono (Tl_of hR.2.1) (by omega))
  rw [r1, b2_at, if_pos (by decide), b2_id]
  have hTl := Tl_of hR.2.1
  obtain ⟨tc, htc, htr⟩ := Tl_tc hTl
  obtain ⟨v, S', tc', L, e1, e2, e3, e4, e5⟩ := fg hF hC hf (sh := 0) (by omega) hr hc (fun _ _ _ => rfl) htr.1 (by omega)
  rw [show f29 F (nI f) (nI r) (nI c) 0 S = some (v, S') from e1, b2_at]
  have hfr := e2.2.2.1
  rcases e5 with ⟨e, he, rfl, e6⟩ | ⟨rfl, hlen, hP, hab, hCL, e6⟩
  · obtain ⟨n1, n2⟩ := neg10 (e := e) (by omega)
    rw [if_neg n1]
    refine RG_foldf (F := F) (e := e) hR (by omega) (S' := S') rfl (Kq_Sg e2) fun S1 q1 q2 q3 h0 => ?_
    rw [r2 S1, b2_at, if_pos (Int32.le_refl _)]
    refine MG_b2 (e6 S1 _ S1 _ h0 (fun _ _ _ => rfl) htr) fun v' S2 m2 h2 hq => ?_
    obtain ⟨w1, w2, rfl⟩ := hq
    unfold g247_47 g247_83
    rw [if_neg n2, if_neg n2]
    exact MGf_fin (by omega) h2 (fun o o1 o2 => w1.1 o (by omega) (by omega) (by omega) (by omega) (by omega)) (w1.2 29 (by omega) (by omega) (by omega) (by omega)) (Tl_tr hTl hfr (fun j j1 j2 => w1.2 j (by omega) (by omega) (by omega) (by omega)) w2 (by omega))
  · have hl := hCL.1
    rw [if_pos (nI_le0 (by omega))]
    have hpre : ∀ (S1 : AmT) (W : Mem) (Q : Int32 → Mem → Prop), My S1 S1 (mz S.1) W → (∀ S2 m2, My S1 S2 m2 W → Wx (mz S.1) m2 → TR S' m2 tc' → MP m2 0 L → MG S1 W (if (if x4 < 0 then (0 : Int32) else if nI (2 * L.length) - 1 < x4 then 0 else 1) = 0 then g247_83 F x4 (nI w) 2 S2 else g247_83 F x4 (nI w) 0 S2) Q) → MG S1 W (am_b2 (f246 F (nI r) (nI c) S1) fun v7 S8 => if v7 ≤ 0 then (am_b2 (f240 F (nI f) (nI r) (nI c) S8) fun v10 S11 => g247_47 F x4 (nI w) v10 S11) else (g247_47 F x4 (nI w) v7 S8)) Q := by
      intro S1 W Q h0 H
      rw [r2 S1, b2_at, if_pos (Int32.le_refl _)]
      refine MG_b2 (e6 S1 _ S1 _ h0 (fun _ _ _ => rfl) htr) fun v' S2 m2 h2 hq => ?_
      obtain ⟨w1, w2, rfl, w3⟩ := hq
      unfold g247_47
      rw [if_pos (Int32.le_refl _), My_rd h2 (Or.inr (Or.inl (by omega))), w3.1, show (2 : Int32) * nI L.length = nI (2 * L.length) from nI_mul 2 _, f197_eq, b2_at]
      exact H S2 m2 h2 w1 w2 w3
    have hbad : ∀ S1, My S1 S1 (mz S.1) (mw S.1) → (if x4 < 0 then (0 : Int32) else if nI (2 * L.length) - 1 < x4 then 0 else 1) = 0 → MG S1 (mw S.1) (am_b2 (f246 F (nI r) (nI c) S1) fun v7 S8 => if v7 ≤ 0 then (am_b2 (f240 F (nI f) (nI r) (nI c) S8) fun v10 S11 => g247_47 F x4 (nI w) v10 S11) else (g247_47 F x4 (nI w) v7 S8)) (fun v' m => v' = -10 - nI 2 ∧ ∃ m1, m = am_upI (am_upI m1 95 30 (m1 95 30 + 1)) 95 31 (nI 2) ∧ (∀ o, 96 ≤ o → o ≤ 124 → m1 o = mz S.1 o) ∧ m1 95 29 = mz S.1 95 29 ∧ Tl S'.1 m1 (t + 1)) := by
      intro S1 h0 hz
      refine hpre S1 _ _ h0 fun S2 m2 h2 w1 w2 w3 => ?_
      rw [if_pos hz]
      unfold g247_83
      rw [if_neg (by decide)]
      exact MGf_fin (e := 2) (by omega) h2 (fun o o1 o2 => w1.1 o (by omega) (by omega) (by omega) (by omega) (by omega)) (w1.2 29 (by omega) (by omega) (by omega) (by omega)) (Tl_tr hTl hfr (fun j j1 j2 => w1.2 j (by omega) (by omega) (by omega) (by omega)) w2 (by omega))
    by_cases c1 : x4 < 0
    · rw [if_pos c1]
      exact RG_foldf (F := F) (e := 2) hR (by omega) (S' := S') rfl (Kq_Sg e2) fun S1 q1 q2 q3 h0 => hbad S1 h0 (if_pos c1)
    by_cases c2 : x4 < nI (2 * L.length)
    case neg =>
      rw [if_neg c1, if_neg c2]
      exact RG_foldf (F := F) (e := 2) hR (by omega) (S' := S') rfl (Kq_Sg e2) fun S1 q1 q2 q3 h0 => hbad S1 h0 (by rw [if_neg c1, if_pos ((i32_m1 (by omega)).mpr (Int32.not_lt.mp c2))])
    rw [if_neg c1, if_pos c2]
    obtain ⟨k, hk, rfl⟩ := nI_of c1
    have hk : k < 2 * L.length := by
      rcases Nat.lt_or_ge k (2 * L.length) with z | z
      · exact z
      · exact absurd c2 (Int32.not_lt.mpr (nI_le z (by omega)))
    obtain ⟨y, hy, hyL⟩ := L_at hk
    obtain ⟨g1, g2⟩ := hCL.2.1 y hyL
    refine RG_fold (v := nI (fce w y (k % 2))) hR ?_ (Kq_Sg e2) fun h0 _ => ?_
    · rw [show f31 F 0 (nI k) (nI w) S' = some (nI (fce w y (k % 2)), S') from f31_eq (sh := 0) (by omega) hCL hk hy hw, b2_at]
    · refine hpre S' _ _ h0 fun S2 m2 h2 w1 w2 w3 => ?_
      rw [if_neg c1, if_neg (fun z => absurd c2 (Int32.not_lt.mpr ((i32_m1 (by omega)).mp z))), if_neg (by decide)]
      unfold g247_83
      rw [if_pos (Int32.le_refl _), f241_eq w3 (fun j => My_rd h2 (Or.inr (Or.inl (by omega)))) hk hl hy, b2_at, f242_eq g1 g2 (by omega), f243_eq g1 g2 (by omega), f244_eq g1 g2 (by omega), f245_eq g1 g2 (by omega)]
      have hfin : MG S' (mw S.1) (some (nI (fce w y (k % 2)), S2)) (fun v' m => v' = nI (fce w y (k % 2)) ∧ Wx (mz S.1) m ∧ Tl S'.1 m (t + 1)) := MG_ret h2 ⟨rfl, w1, Tl_tr hTl hfr (fun j j1 j2 => w1.2 j (by omega) (by omega) (by omega) (by omega)) w2 (by omega)⟩
      rcases (show w = 0 ∨ w = 1 ∨ w = 2 ∨ w = 3 by omega) with rfl | rfl | rfl | rfl
      · exact hfin
      · exact hfin
      · exact hfin
      · exact hfin
