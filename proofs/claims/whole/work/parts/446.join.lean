/-! calls: join -/
theorem Rel_chgB {S S2 : AmT} {B : Mem} {t : Nat} (hR : Rel S t) (hJ : J S2 B 640) (hB : ∃ nj nf ns ng nb, Cur B (mv S.1) nj nf ns ng nb) (hW : mw S2.1 = mv S.1) (hH : S2.1 95 29 = 1) (hC : ∃ nj nf ns ng nb, Cur S2.1 (mv S2.1) nj nf ns ng nb) (hT : Tal S2.1 (t + 1)) : Rel S2 (t + 1) := by
  obtain ⟨-, hT0, hb0, h14, h29, -⟩ := hR
  obtain ⟨nn, a1, a2, a3, a4, a5⟩ := id hJ
  obtain ⟨nj, nf, ns, ng, nb, hC0⟩ := hB
  refine ⟨hC, hT, ?_, Or.inr a3, by rw [hH, a3], fun _ => ⟨B, hJ, nj, nf, ns, ng, nb, by rw [hW]; exact hC0⟩⟩
  obtain ⟨nj', nf', ns', ng', nb', c1, c2, c3, c4, c5⟩ := hC
  refine bools_of hb0 (fun j hj => ?_) (fun j hj => ?_) (fun j hj => ?_) hW
  · have h1 := c3.2.2.2.2.1 j hj
    rw [← mv_at (I := S2.1) (k := 116) (by exact hj), ← h1.1]
    exact h1.2
  · have h1 := c4.2.2.2.2.2.2.2.1 j hj
    rw [← mv_at (I := S2.1) (k := 122) (by exact hj), ← h1.2.2.1]
    exact h1.2.2.2.2.1
  · have h1 := c5.1 j hj
    rw [← mv_at (I := S2.1) (k := 124) (by exact hj), ← h1.1]
    exact h1.2
theorem RG_chgB {F : Nat} {S : AmT} {t : Nat} {K M : AmT → Option (Int32 × AmT)} {nj nf ns ng nb : Nat} (hF : 6000 ≤ F) (hR : Rel S t) (hCz : Cur S.1 (mz S.1) nj nf ns ng nb)
    (H : ∀ m0, Cur S.1 m0 nj nf ns ng nb → Tl S.1 m0 t → m0 95 29 = 1 → (∀ o, 96 ≤ o → o ≤ 124 → m0 o = mv S.1 o) → ∃ v S1 A B, K (beg S) = some (v, S1) ∧ J S1 B 640 ∧ (∀ o, 5 ≤ o → o ≤ 94 → S1.1 o = A o) ∧ fr S S1 ∧ (∃ nj nf ns ng nb, Cur B (mv S.1) nj nf ns ng nb) ∧ ∀ S2, My S1 S2 m0 (mv S.1) → MG S1 (mv S.1) (M S2) (RgQ v A t)) :
    RG S t ((f58 F S).bind K) (fun S1 => (f201 F S1).bind M) := by
  obtain ⟨v, S1, A, B, hC, hJ, hA, hfr, hB, hM⟩ := H (am_upI (mz S.1) 95 29 1) (Cur_congr_m (fun o o1 o2 => am_upI_ne (by omega)) hCz) (Tl_congr (Tl_of hR.2.1) rfl rfl (fun j j1 j2 => by simp [am_upI, show j ≠ 29 by omega]) (am_upI_ne (by omega))) (by simp [am_upI]) (fun o o1 o2 => (am_upI_ne (by omega)).trans (mz_mv o1 o2))
  obtain ⟨-, -, hb, -⟩ := id hR
  have hb1 : bools S1.1 := by
    unfold bools
    rw [hfr 116 (by omega), hfr 122 (by omega), hfr 124 (by omega)]
    exact hb
  refine ⟨v, S1, hC, hfr, ?_⟩
  have h0 : My S1 (chg S1) (am_upI (mz S.1) 95 29 1) (mv S.1) := by
    have e1 := (mv_cells (I := S.1) (I' := S1.1) (fun o o1 _ => hfr o (by omega))).1
    refine ⟨rfl, fun o ho => chg_fn (by rw [hl_29]; simp only [List.mem_cons, List.not_mem_nil, or_false]; omega) (by omega), ?_, by rw [mw_chg, e1]⟩
    show mz (am_upI (cpP S1.1 (hl 29)) 95 29 1) = _
    rw [mz_up (Or.inl rfl)]
    congr 1
    funext k j
    by_cases hi : mi k j
    · rw [mz_at hi, mz_at hi]
      by_cases h95 : k = 95 ∨ 125 ≤ k
      · rw [cpP_bool (by rw [hl_29]; simp only [List.mem_cons, List.not_mem_nil, or_false]; omega), hfr k (by omega)]
      · have hj : j < hf k := by
          rcases hi with q | q | q
          · omega
          · omega
          · exact q
        have h2 := chg_at (S := S1) hj
        have h3 : (chg S1).1 k j = cpP S1.1 (hl 29) k j := congrFun (am_upI_ne (by omega)) j
        rw [← h3, h2, hfr k (mi_k hi)]
    · have hn : ∀ I : Mem, mz I k j = 0 := fun I => by
        unfold mz
        by_cases q : k < 95
        · rw [if_pos q]
        · rw [if_neg q, if_neg (fun z => hi (by rcases z with z | z; exact Or.inl z; exact Or.inr (Or.inl z))), if_neg (fun z => hi (Or.inr (Or.inr z)))]
      rw [hn, hn]
  obtain ⟨v', S3, m, e1, e2, rfl, ⟨nj, nf, ns, ng, nb, hc⟩, htl, h29⟩ := hM _ h0
  refine ⟨S3, ?_, ?_⟩
  · dsimp only
    rw [f201_eq hF hb1, bind_at]
    exact e1
  · obtain ⟨a1, a2, a3, a4⟩ := e2
    refine Rel_chgB (B := B) hR ?_ hB a4 ?_ ⟨nj, nf, ns, ng, nb, ?_⟩ ?_
    · exact J_keep hJ a1 (a2 1 (by omega)) (a2 3 (by omega)) (a2 4 (by omega)) (fun o ho => a2 o (by omega))
    · rw [← a3, mz_at (Or.inl rfl)] at h29
      exact h29
    · refine Cur_congr_m (fun o o1 o2 => (mz_mv o1 o2).symm) ?_
      rw [a3]
      exact Cur_congr (fun o ho => (a2 o (by omega)).trans (hA o (by omega) (by omega))) hc
    · refine Tl_to (A := A) ((a2 5 (by omega)).trans (hA 5 (by omega) (by omega))) ((a2 6 (by omega)).trans (hA 6 (by omega) (by omega))) ?_
      rw [a3]
      exact htl
-- stores that are not noted, before any note
def Kz (S0 S : AmT) (A : Mem) : Prop := S.1 1 3 = 0 ∧ S.1 1 4 = 1 ∧ (∀ o, 5 ≤ o → o ≤ 94 → S.1 o = A o) ∧ ∀ o, 95 ≤ o → S.1 o = S0.1 o
theorem Kz_beg (S : AmT) : Kz S (beg S) S.1 := by
  refine ⟨?_, ?_, fun o h1 _ => beg_fn (by omega), fun o h1 => beg_fn (by omega)⟩
  · show am_upI (am_upI S.1 1 3 0) 1 4 1 1 3 = 0
    simp [am_upI]
  · show am_upI (am_upI S.1 1 3 0) 1 4 1 1 4 = 1
    simp [am_upI]
theorem Kz_J {S0 S : AmT} {A : Mem} (h : Kz S0 S A) : J S S.1 0 := ⟨0, Nat.le_refl _, h.1.trans nI_0.symm, h.2.1, fun i hi => absurd hi (by omega), fun o _ => rfl⟩
theorem Kz_ku {S0 S : AmT} {A : Mem} {ar n p : Nat} {v : Int32} (h : Kz S0 S A) (ha : 5 ≤ ar ∧ ar ≤ 94) (hp : p < n) (hn : n < 2147483648) : Kz S0 (ku S ar n (nI p) v) (am_upI A ar p v) := by
  refine ⟨by rw [ku_fn (by omega)]; exact h.1, by rw [ku_fn (by omega)]; exact h.2.1, fun o h1 h2 => ?_, fun o h1 => ?_⟩
  · by_cases ho : o = ar
    · subst ho
      rw [ku_at hp hn, am_upI_at, h.2.2.1 o h1 h2]
    · rw [ku_fn ho, am_upI_ne ho, h.2.2.1 o h1 h2]
  · rw [ku_fn (by omega), h.2.2.2 o h1]
theorem Kz_kg {S0 S : AmT} {A : Mem} {ar n p : Nat} (h : Kz S0 S A) (ha : 5 ≤ ar ∧ ar ≤ 94) (hp : p < n) (hn : n < 2147483648) : kg S.1 ar n (nI p) = A ar p := by
  rw [kg_at hp hn, h.2.2.1 ar ha.1 ha.2]
def KZ (S0 : AmT) (C : Option AmT) (Q : Mem → Prop) : Prop := ∃ S1 A, C = some S1 ∧ Kz S0 S1 A ∧ Q A
theorem lp_56b {F : Nat} {S0 : AmT} {A : Mem} {k18 : Int32 → Int32 → Int32 → AmT → Option AmT} {x1 x2 x3 : Int32} {r1 r2 N : Nat} {Q : Mem → Prop} (h1 : r1 < 576) (h2 : r2 < 576) (hN : N ≤ 10) (hst : A 19 r1 ≤ nI N ∧ ∀ i, i < N → ¬ A 19 r1 ≤ nI i) (H : ∀ S', Kz S0 S' (cst A 21 (cpy (A 21) (10 * r2) (10 * r1) N)) → KZ S0 (k18 x1 x2 (x3 + 1) S') Q) :
    ∀ (n i : Nat) (S : AmT), i ≤ N → N < n + i → Kz S0 S (cst A 21 (cpy (A 21) (10 * r2) (10 * r1) i)) → KZ S0 (g56_67 F k18 n x1 x2 x3 (nI r1) (nI r2) (nI i) S) Q
  | 0, i, S, g1, g2, g3 => absurd g2 (by omega)
  | n + 1, i, S, g1, g2, g3 => by
    unfold g56_67
    rw [Kz_kg g3 (by omega) h1 (by omega), cst_ne (by decide)]
    by_cases hi : i = N
    · subst hi
      rw [if_pos hst.1]
      exact H S g3
    · have e1 : nI r1 * 10 + nI i = nI (10 * r1 + i) := by
        show nI r1 * nI 10 + nI i = _
        rw [nI_mul, nI_add, Nat.mul_comm]
      have e2 : nI r2 * 10 + nI i = nI (10 * r2 + i) := by
        show nI r2 * nI 10 + nI i = _
        rw [nI_mul, nI_add, Nat.mul_comm]
      rw [if_neg (hst.2 i (by omega)), nI_1, e1, e2, Kz_kg g3 (by omega) (by omega) (by omega), cst_at, cpy_out (by omega)]
      have h' := Kz_ku (v := A 21 (10 * r1 + i)) g3 (show 5 ≤ 21 ∧ 21 ≤ 94 by omega) (show 10 * r2 + i < 5760 by omega) (by omega)
      rw [cst_up, cpy_s] at h'
      exact lp_56b h1 h2 hN hst H n (i + 1) _ (by omega) (by omega) h'
/-- what a page copied has of the page that it was copied from -/
def Pcp (f19 f21 a19 a21 : Nat → Int32) (to fr i : Nat) : Prop := f19 (8 * to + i) = a19 (8 * fr + i) ∧ ∀ c k, a19 (8 * fr + i) = nI c → c ≤ 10 → k < c → f21 (10 * (8 * to + i) + k) = a21 (10 * (8 * fr + i) + k)
theorem lp_56a {F : Nat} (hF : 6000 ≤ F) {S0 : AmT} {A : Mem} {fr to R : Nat} (h1 : fr < 72) (h2 : to < 72) (hne : fr ≠ to) (hR : R ≤ 8) (hst : A 17 fr ≤ nI R ∧ ∀ i, i < R → ¬ A 17 fr ≤ nI i) (hc : ∀ i, i < R → ∃ C, C ≤ 10 ∧ A 19 (8 * fr + i) ≤ nI C ∧ ∀ k, k < C → ¬ A 19 (8 * fr + i) ≤ nI k) :
    ∀ (n i : Nat) (S : AmT) (f19 f21 : Nat → Int32), i ≤ R → R < n + i → Kz S0 S (cst (cst A 19 f19) 21 f21) → (∀ r, ¬ (8 * to ≤ r ∧ r < 8 * to + 8) → f19 r = A 19 r) → (∀ q, ¬ (80 * to ≤ q ∧ q < 80 * to + 80) → f21 q = A 21 q) → (∀ i', i' < i → Pcp f19 f21 (A 19) (A 21) to fr i') →
      KZ S0 (g56_18 F n (nI fr) (nI to) (nI i) S) (fun A' => ∃ f19 f21, A' = cst (cst A 19 f19) 21 f21 ∧ (∀ r, ¬ (8 * to ≤ r ∧ r < 8 * to + 8) → f19 r = A 19 r) ∧ (∀ q, ¬ (80 * to ≤ q ∧ q < 80 * to + 80) → f21 q = A 21 q) ∧ ∀ i', i' < R → Pcp f19 f21 (A 19) (A 21) to fr i')
  | 0, i, S, f19, f21, g1, g2, g3, g4, g5, g6 => absurd g2 (by omega)
  | n + 1, i, S, f19, f21, g1, g2, g3, g4, g5, g6 => by
    unfold g56_18
    rw [Kz_kg g3 (by omega) h1 (by omega), cst_ne (by decide), cst_ne (by decide)]
    by_cases hi : i = R
    · subst hi
      rw [if_pos hst.1]
      exact ⟨S, _, rfl, g3, f19, f21, rfl, g4, g5, g6⟩
    · have e1 : nI fr * 8 + nI i = nI (8 * fr + i) := by
        show nI fr * nI 8 + nI i = _
        rw [nI_mul, nI_add, Nat.mul_comm]
      have e2 : nI to * 8 + nI i = nI (8 * to + i) := by
        show nI to * nI 8 + nI i = _
        rw [nI_mul, nI_add, Nat.mul_comm]
      obtain ⟨C, hC, hC1, hC2⟩ := hc i (by omega)
      rw [if_neg (hst.2 i (by omega)), e1, e2, Kz_kg g3 (by omega) (by omega) (by omega), cst_ne (by decide), cst_at, g4 _ (by omega)]
      have h' := Kz_ku (v := A 19 (8 * fr + i)) g3 (show 5 ≤ 19 ∧ 19 ≤ 94 by omega) (show 8 * to + i < 576 by omega) (by omega)
      rw [cst_up_ne (by decide), cst_up] at h'
      have hf : upd f19 (8 * to + i) (A 19 (8 * fr + i)) (8 * fr + i) = A 19 (8 * fr + i) := by rw [pk_un (by omega), g4 _ (by omega)]
      refine lp_56b (A := cst (cst A 19 (upd f19 (8 * to + i) (A 19 (8 * fr + i)))) 21 f21) (r1 := 8 * fr + i) (r2 := 8 * to + i) (N := C) (by omega) (by omega) hC ?_ (fun S' h'' => ?_) F 0 _ (by omega) (by omega) (by rw [cpy_0, cst_id]; exact h')
      · rw [cst_ne (by decide), cst_at, hf]
        exact ⟨hC1, hC2⟩
      · have e3 : cst (cst (cst A 19 (upd f19 (8 * to + i) (A 19 (8 * fr + i)))) 21 f21) 21 (cpy (cst (cst A 19 (upd f19 (8 * to + i) (A 19 (8 * fr + i)))) 21 f21 21) (10 * (8 * to + i)) (10 * (8 * fr + i)) C) = cst (cst A 19 (upd f19 (8 * to + i) (A 19 (8 * fr + i)))) 21 (cpy f21 (10 * (8 * to + i)) (10 * (8 * fr + i)) C) := by
          rw [cst_at]
          funext k
          by_cases hk : k = 21
          · subst hk
            rw [cst_at, cst_at]
          · rw [cst_ne hk, cst_ne hk, cst_ne hk]
        rw [e3] at h''
        rw [nI_1]
        refine lp_56a hF h1 h2 hne hR hst hc n (i + 1) S' _ _ (by omega) (by omega) h'' (fun r hr => ?_) (fun q hq => ?_) (fun i' hi' => ?_)
        · rw [pk_un (by omega)]
          exact g4 r hr
        · rw [cpy_out (by omega)]
          exact g5 q hq
        · by_cases q : i' = i
          · subst q
            refine ⟨pk_us, fun c k hc1 hc2 hk => ?_⟩
            have hcC : c ≤ C := by
              rw [hc1] at hC1
              exact (nI_leI (by omega) (by omega)).mp hC1
            rw [cpy_in (by omega)]
            exact g5 _ (by omega)
          · obtain ⟨p1, p2⟩ := g6 i' (by omega)
            refine ⟨?_, fun c k hc1 hc2 hk => ?_⟩
            · rw [pk_un (by omega)]
              exact p1
            · rw [cpy_out (by omega)]
              exact p2 c k hc1 hc2 hk
theorem PG_stop {a17 a19 a21 m100 m101 m102 : Nat → Int32} {s : Nat} (h : PG a17 a19 a21 m100 m101 m102 s) : ∃ R, R ≤ 8 ∧ (a17 s ≤ nI R ∧ ∀ i, i < R → ¬ a17 s ≤ nI i) ∧ (∀ i, i < R → ∃ C, C ≤ 10 ∧ a19 (8 * s + i) ≤ nI C ∧ ∀ k, k < C → ¬ a19 (8 * s + i) ≤ nI k) ∧ ∀ r, a17 s = nI r → r ≤ 8 → r = R := by
  rcases h with ⟨z1, z2⟩ | ⟨r, hr, z1, z2, z3⟩
  · refine ⟨0, by omega, ⟨by rw [z1]; decide, fun i hi => absurd hi (by omega)⟩, fun i hi => absurd hi (by omega), fun r hr hr8 => ?_⟩
    rw [z1] at hr
    exact absurd hr.symm (m1ne (by omega))
  · refine ⟨r, hr, ⟨by rw [z1]; exact Int32.le_refl _, fun i hi => by rw [z1]; exact nI_ge hi (by omega)⟩, fun i hi => ?_, fun r' hr' hr8 => ?_⟩
    · rcases z3 i hi with ⟨y1, y2⟩ | ⟨c, hc, y1, y2, y3⟩
      · exact ⟨0, by omega, by rw [y1]; decide, fun k hk => absurd hk (by omega)⟩
      · exact ⟨c, hc, by rw [y1]; exact Int32.le_refl _, fun k hk => by rw [y1]; exact nI_ge hk (by omega)⟩
    · rw [z1] at hr'
      exact ((nI_eq (by omega) (by omega)).mp hr').symm
theorem lp_223a {F : Nat} {S0 : AmT} {A W : Mem} {k59 : Int32 → Int32 → Int32 → Int32 → AmT → Option (Int32 × AmT)} {x1 x2 x3 x4 : Int32} {fr to : Nat} {Q : Int32 → Mem → Prop} (h1 : fr < 72) (h2 : to < 72) (hne : fr ≠ to) (H : ∀ S', My S0 S' (cst A 101 (cpy (A 101) (8 * to) (8 * fr) 8)) W → MG S0 W (g223_154 F k59 F x1 x2 x3 x4 (nI fr) (nI to) 0 S') Q) :
    ∀ (n i : Nat) (S : AmT), i ≤ 8 → 8 < n + i → My S0 S (cst A 101 (cpy (A 101) (8 * to) (8 * fr) i)) W → MG S0 W (g223_112 F k59 n x1 x2 x3 x4 (nI fr) (nI to) (nI i) S) Q
  | 0, i, S, g1, g2, g3 => absurd g2 (by omega)
  | n + 1, i, S, g1, g2, g3 => by
    unfold g223_112
    by_cases hi : i = 8
    · subst hi
      rw [if_pos (show (8 : Int32) ≤ nI 8 from nI_le (a := 8) (Nat.le_refl _) (by omega))]
      exact H S g3
    · have e1 : 8 * nI fr + nI i = nI (8 * fr + i) := by
        show nI 8 * nI fr + nI i = _
        rw [nI_mul, nI_add]
      have e2 : 8 * nI to + nI i = nI (8 * to + i) := by
        show nI 8 * nI to + nI i = _
        rw [nI_mul, nI_add]
      rw [if_neg (show ¬ (8 : Int32) ≤ nI i from nI_ge (b := 8) (by omega) (by omega)), nI_1, e1, ck_at (by omega) (by omega), nI_clamp (n := 8 * fr + i) (by omega), My_rd g3 (mi_h (by show 8 * fr + i < 576; omega)), cst_at, cpy_out (by omega)]
      refine MG_cu (p := 8 * to + i) g3 e2 (by show 8 * to + i < 576; omega) (by omega) (by omega) fun S' h' => ?_
      rw [cst_up, cpy_s] at h'
      exact lp_223a h1 h2 hne H n (i + 1) S' (by omega) (by omega) h'
theorem lp_223b {F : Nat} {S0 : AmT} {A W : Mem} {k59 : Int32 → Int32 → Int32 → Int32 → AmT → Option (Int32 × AmT)} {x1 x2 x3 x4 : Int32} {fr to : Nat} {Q : Int32 → Mem → Prop} (h1 : fr < 72) (h2 : to < 72) (hne : fr ≠ to) (H : ∀ S', My S0 S' (cst A 102 (cpy (A 102) (80 * to) (80 * fr) 80)) W → MG S0 W (k59 x1 x2 x3 (x4 + 1) S') Q) :
    ∀ (n i : Nat) (S : AmT), i ≤ 80 → 80 < n + i → My S0 S (cst A 102 (cpy (A 102) (80 * to) (80 * fr) i)) W → MG S0 W (g223_154 F k59 n x1 x2 x3 x4 (nI fr) (nI to) (nI i) S) Q
  | 0, i, S, g1, g2, g3 => absurd g2 (by omega)
  | n + 1, i, S, g1, g2, g3 => by
    unfold g223_154
    by_cases hi : i = 80
    · subst hi
      rw [if_pos (show (80 : Int32) ≤ nI 80 from nI_le (a := 80) (Nat.le_refl _) (by omega))]
      exact H S g3
    · have e1 : 80 * nI fr + nI i = nI (80 * fr + i) := by
        show nI 80 * nI fr + nI i = _
        rw [nI_mul, nI_add]
      have e2 : 80 * nI to + nI i = nI (80 * to + i) := by
        show nI 80 * nI to + nI i = _
        rw [nI_mul, nI_add]
      rw [if_neg (show ¬ (80 : Int32) ≤ nI i from nI_ge (b := 80) (by omega) (by omega)), nI_1, e1, ck_at (by omega) (by omega), nI_clamp (n := 80 * fr + i) (by omega), My_rd g3 (mi_h (by show 80 * fr + i < 5760; omega)), cst_at, cpy_out (by omega)]
      refine MG_cu (p := 80 * to + i) g3 e2 (by show 80 * to + i < 5760; omega) (by omega) (by omega) fun S' h' => ?_
      rw [cst_up, cpy_s] at h'
      exact lp_223b h1 h2 hne H n (i + 1) S' (by omega) (by omega) h'
/-- k pages are copied: what stands, on both sides; A0, m0 as before -/
def JI (A0 m0 : Mem) (a pa k : Nat) (A m : Mem) : Prop :=
  (∀ o, 5 ≤ o → o ≤ 94 → o ≠ 17 → o ≠ 19 → o ≠ 21 → A o = A0 o) ∧ (∀ o, o ≠ 97 → o ≠ 100 → o ≠ 101 → o ≠ 102 → m o = m0 o) ∧ m 97 = upd (m0 97) a (nI (pa + k)) ∧
  (∀ s, s < 72 → (s < 24 * a + pa ∨ 24 * a + pa + k ≤ s) → A 17 s = A0 17 s ∧ m 100 s = m0 100 s ∧ ∀ i, i < 8 → A 19 (8 * s + i) = A0 19 (8 * s + i) ∧ m 101 (8 * s + i) = m0 101 (8 * s + i) ∧ ∀ q, q < 10 → A 21 (10 * (8 * s + i) + q) = A0 21 (10 * (8 * s + i) + q) ∧ m 102 (10 * (8 * s + i) + q) = m0 102 (10 * (8 * s + i) + q)) ∧
  ∀ k', k' < k → PG (A 17) (A 19) (A 21) (m 100) (m 101) (m 102) (24 * a + pa + k')
theorem JI_PG {A0 m0 A m : Mem} {a pa k s : Nat} (h : JI A0 m0 a pa k A m) (hs : s < 72) (hs2 : s < 24 * a + pa ∨ 24 * a + pa + k ≤ s) (hp : PG (A0 17) (A0 19) (A0 21) (m0 100) (m0 101) (m0 102) s) : PG (A 17) (A 19) (A 21) (m 100) (m 101) (m 102) s := by
  obtain ⟨q1, q2, q3⟩ := h.2.2.2.1 s hs hs2
  refine PG_mono hp q1 q2 fun i hi hw => ?_
  obtain ⟨q4, q5, q6⟩ := q3 i hi
  refine RW_mono hw q4 q5 fun j hj hl => ?_
  obtain ⟨q7, q8⟩ := q6 j hj
  unfold LT at hl ⊢
  rw [q7, q8]
  exact hl
