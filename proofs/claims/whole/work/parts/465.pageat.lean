/-! calls: pageAt -/
def wv (A : Mem) (g : Nat) : Nat := (A 73 g).toNatClampNeg
def cv (A : Mem) (g : Nat) : Nat := (A 75 g).toNatClampNeg
def sv (A : Mem) (g : Nat) (i : Nat) : Nat := (A 77 (4 * g + i)).toNatClampNeg
def gv (A : Mem) (b : Nat) : Nat := (A 83 b).toNatClampNeg
def sT (A : Mem) (f g : Nat) : List Ft := sgT A f (wv A g) (cv A g) (sv A g)
def bkT (A : Mem) (f : Nat) : Nat → Nat → List Ft
  | _, 0 => []
  | b, r + 1 => sT A f (gv A b) ++ bkT A f (b + 1) r
theorem Cur_sgx {A m0 : Mem} {nj nf ns ng nb g : Nat} (hC : Cur A m0 nj nf ns ng nb) (hg : g < ng) : SGN A m0 ns g (wv A g) (cv A g) (sv A g) := by
  have hns := hC.2.2.1.1
  obtain ⟨w, c, sq, h1, h2, h3, h4, h5, h6, h7, h8⟩ := Cur_sgn hC hg
  have e1 : wv A g = w := by unfold wv; rw [h4, nI_clamp (by omega)]
  have e2 : cv A g = c := by unfold cv; rw [h6, nI_clamp (by omega)]
  rw [e1, e2]
  refine ⟨h1, h2, h3, h4, h5, h6, h7, fun i hi => ?_⟩
  obtain ⟨k1, k2, k3⟩ := h8 i hi
  have e3 : sv A g i = sq i := by unfold sv; rw [k2, nI_clamp (by omega)]
  rw [e3]
  exact ⟨k1, k2, k3⟩
theorem Cur_bk {A m0 : Mem} {nj nf ns ng nb : Nat} (hC : Cur A m0 nj nf ns ng nb) : nb ≤ 4 ∧ A 81 0 = nI nb ∧ m0 96 4 = nI nb ∧ ∀ b, b < nb → gv A b < ng ∧ A 83 b = nI (gv A b) ∧ m0 123 b = nI (gv A b) := by
  obtain ⟨b1, b2, b3, b4, b5, b6, b7, b8, b9, b10, b11, b12⟩ := hC.2.2.2.1
  have h01 : ∀ g, g < 4 → (A 79 g).toNatClampNeg ≤ 1 := fun g hg => by
    rcases (b8 g hg).2.2.2.2.1 with h | h <;> rw [h] <;> decide
  have hnb : nb ≤ 4 := by
    have := h01 0 (by omega)
    have := h01 1 (by omega)
    have := h01 2 (by omega)
    have := h01 3 (by omega)
    omega
  refine ⟨hnb, b4, b5, fun b hb => ?_⟩
  obtain ⟨g, hg, e⟩ := b11 b hb
  have : gv A b = g := by unfold gv; rw [e, nI_clamp (by omega)]
  rw [this]
  exact ⟨hg, e, by rw [← (b8 b (by omega)).2.2.2.1, e]⟩
def gdB (A : Mem) (f : Nat) (I : Mem) (b : Nat) : Prop := ∀ j, j < cv A (gv A b) → goodS A f I (sv A (gv A b) j)
theorem sT_len {A m0 I : Mem} {nj nf ns ng nb f b : Nat} (hC : Cur A m0 nj nf ns ng nb) (hb : b < nb) (hg : gdB A f I b) : (sT A f (gv A b)).length ≤ 512 := by
  obtain ⟨-, -, -, hbk⟩ := Cur_bk hC
  obtain ⟨g4, w1, c4, -⟩ := Cur_sgx hC (hbk b hb).1
  unfold sT
  rw [sgT_len w1]
  have := tot_le (fun j hj => (hg j hj).1.1)
  omega
theorem bkT_len {A m0 I : Mem} {nj nf ns ng nb f : Nat} (hC : Cur A m0 nj nf ns ng nb) (hg : ∀ b, b < nb → gdB A f I b) : ∀ r b, b + r ≤ nb → (bkT A f b r).length ≤ 512 * r
  | 0, b, _ => Nat.le_refl _
  | r + 1, b, h => by
    have h1 := sT_len hC (show b < nb by omega) (hg b (by omega))
    have h2 := bkT_len hC hg r (b + 1) (by omega)
    unfold bkT
    rw [List.length_append]
    omega
/-- the book's signatures are folded, one after another -/
theorem pa {F : Nat} (hF : 6000 ≤ F) {A m0 : Mem} {nj nf ns ng nb f : Nat} {x : Int32} (hC : Cur A m0 nj nf ns ng nb) (hf : f < nf) :
    ∀ (r b N tc : Nat) (S : AmT), b + r = nb → r < N → (∀ o, kc o → S.1 o = A o) → S.1 5 1 = nI tc → tc + 128 * r ≤ 1900000 → (∀ b', b' < b → gdB A f S.1 b') →
      ∃ S' tc', Sh S S' ∧ S'.1 5 1 = nI tc' ∧ tc' ≤ tc + 128 * r ∧
        ((∃ e, (e = 7 ∨ e = 8) ∧ g14_2 F N (nI f) x (nI b) S = some (-10 - nI e, S') ∧ ∀ (S1 : AmT) (W : Mem) (Sm : AmT) (m : Mem) (T : List Ft) (N' : Nat) (Q : Int32 → Mem → Prop), r < N' → My S1 Sm m W → (∀ o, 96 ≤ o → o ≤ 124 → m o = m0 o) → FA m T → T.length ≤ 512 * b → TR S m tc → (∀ S2 m2, My S1 S2 m2 W → (∀ o, 96 ≤ o → o ≤ 124 → m2 o = m0 o) → (∀ j, 29 ≤ j → j ≤ 35 → m2 95 j = m 95 j) → TR S' m2 tc' → MG S1 W (am_b2 (f203 F (nI e) S2) fun v11 S12 => some (v11, S12)) Q) → MG S1 W (g276_18 F N' (nI f) x (nI b) Sm) Q) ∨
         (g14_2 F N (nI f) x (nI b) S = g14_48 F F x 0 S' ∧ (∀ b', b' < nb → gdB A f S'.1 b') ∧ ∀ (S1 : AmT) (W : Mem) (Sm : AmT) (m : Mem) (T : List Ft) (N' : Nat) (Q : Int32 → Mem → Prop), r < N' → My S1 Sm m W → (∀ o, 96 ≤ o → o ≤ 124 → m o = m0 o) → FA m T → T.length ≤ 512 * b → TR S m tc → (∀ S2 m2, My S1 S2 m2 W → (∀ o, 96 ≤ o → o ≤ 124 → m2 o = m0 o) → (∀ j, 29 ≤ j → j ≤ 35 → m2 95 j = m 95 j) → TR S' m2 tc' → FA m2 (T ++ bkT A f b r) → MG S1 W (am_b2 (f263 F x S2) fun v6 S7 => some (v6, S7)) Q) → MG S1 W (g276_18 F N' (nI f) x (nI b) Sm) Q))
  | r, b, 0, tc, S, h1, h2, h3, h4, h5, h6 => absurd h2 (by omega)
  | 0, b, N + 1, tc, S, h1, h2, h3, h4, h5, h6 => by
    obtain ⟨hnb, e81, e96, hbk⟩ := Cur_bk hC
    have hb : b = nb := by omega
    subst hb
    refine ⟨S, tc, Sh_refl S, h4, by omega, Or.inr ⟨?_, h6, fun S1 W Sm m T N' Q hN hy hm hFA hT htr H => ?_⟩⟩
    · unfold g14_2
      rw [kg_0 (by decide) (by decide), h3 81 (by omega), e81, if_pos (Int32.le_refl _)]
    · obtain ⟨N', rfl⟩ : ∃ n, N' = n + 1 := ⟨N' - 1, by omega⟩
      unfold g276_18
      rw [My_rd hy (mi_h (k := 96) (j := 4) (by decide)), hm 96 (by omega) (by omega), e96, if_pos (Int32.le_refl _)]
      refine H Sm m hy hm (fun _ _ _ => rfl) htr ?_
      unfold bkT
      rw [List.append_nil]
      exact hFA
  | r + 1, b, N + 1, tc, S, h1, h2, h3, h4, h5, h6 => by
    obtain ⟨hnb, e81, e96, hbk⟩ := Cur_bk hC
    obtain ⟨hg, e83, e123⟩ := hbk b (by omega)
    have hng := hC.2.2.2.1.1
    have hsg := Cur_sgx hC hg
    obtain ⟨v, S', tc', e1, e2, e3, e4, e5⟩ := sg hF hC hf hsg (S := S) h3 h4 (by omega)
    have hcl : g14_2 F (N + 1) (nI f) x (nI b) S = if 0 ≤ v then g14_2 F N (nI f) x (nI (b + 1)) S' else some (v, S') := by
      rw [g14_2]
      rw [kg_0 (by decide) (by decide), h3 81 (by omega), e81, if_neg (nI_ge (by omega) (by omega)), kg_at (by omega) (by omega), h3 83 (by omega), e83, e1, b2_at, nI_1]
    have hmod : ∀ (S1 : AmT) (W : Mem) (Sm : AmT) (m : Mem) (N' : Nat), My S1 Sm m W → (∀ o, 96 ≤ o → o ≤ 124 → m o = m0 o) → g276_18 F (N' + 1) (nI f) x (nI b) Sm = am_b2 (f261 F (nI (gv A b)) (nI f) Sm) fun v8 S9 => if v8 ≤ 0 then (g276_18 F N' (nI f) x (nI (b + 1)) S9) else (am_b2 (f203 F v8 S9) fun v11 S12 => some (v11, S12)) := by
      intro S1 W Sm m N' hy hm
      rw [g276_18]
      rw [My_rd hy (mi_h (k := 96) (j := 4) (by decide)), hm 96 (by omega) (by omega), e96, if_neg (nI_ge (by omega) (by omega)), ck_at (by omega) (by omega), nI_clamp (by omega), My_rd hy (mi_h (show b < 4 by omega)), hm 123 (by omega) (by omega), e123, nI_1]
    rcases e5 with ⟨e, he, rfl, e6⟩ | ⟨rfl, hlen, hgood, hkp, e6⟩
    · refine ⟨S', tc', e2, e3, by omega, Or.inl ⟨e, he, by rw [hcl, if_neg (neg10 (by omega)).1], fun S1 W Sm m T N' Q hN hy hm hFA hT htr H => ?_⟩⟩
      obtain ⟨N', rfl⟩ : ∃ n, N' = n + 1 := ⟨N' - 1, by omega⟩
      rw [hmod S1 W Sm m N' hy hm]
      refine MG_b2 (e6 S1 W Sm m hy hm htr) fun v' S2 m2 h2 hq => ?_
      obtain ⟨q1, q2, q3, rfl⟩ := hq
      rw [if_neg (neg10 (by omega)).2]
      exact H S2 m2 h2 q1 q2 q3
    · have h3' : ∀ o, kc o → S'.1 o = A o := fun o ho => by rw [e2.2.1 o (by omega) (by omega) (by omega) (by omega), h3 o ho]
      have h6' : ∀ b', b' < b + 1 → gdB A f S'.1 b' := fun b' hb' => by
        by_cases c : b' = b
        · subst c
          exact hgood
        · exact fun j hj => hkp _ (h6 b' (by omega) j hj)
      obtain ⟨S2, tc2, z1, z2, z3, z4⟩ := pa hF hC hf r (b + 1) N tc' S' (by omega) (by omega) h3' e3 (by omega) h6'
      have hm2 : ∀ (S1 : AmT) (W : Mem) (Sm : AmT) (m : Mem) (T : List Ft) (N' : Nat) (Q : Int32 → Mem → Prop), My S1 Sm m W → (∀ o, 96 ≤ o → o ≤ 124 → m o = m0 o) → FA m T → T.length ≤ 512 * b → TR S m tc → (∀ S2 m2, My S1 S2 m2 W → (∀ o, 96 ≤ o → o ≤ 124 → m2 o = m0 o) → (∀ j, 29 ≤ j → j ≤ 35 → m2 95 j = m 95 j) → TR S' m2 tc' → FA m2 (T ++ sT A f (gv A b)) → (T ++ sT A f (gv A b)).length ≤ 512 * (b + 1) → MG S1 W (g276_18 F N' (nI f) x (nI (b + 1)) S2) Q) → MG S1 W (g276_18 F (N' + 1) (nI f) x (nI b) Sm) Q := by
        intro S1 W Sm m T N' Q hy hm hFA hT htr H
        rw [hmod S1 W Sm m N' hy hm]
        refine MG_b2 (e6 S1 W Sm m T hy hm hFA (by omega) htr) fun v' S3 m3 h3 hq => ?_
        obtain ⟨q1, q2, q3, rfl, q4⟩ := hq
        rw [if_pos (Int32.le_refl _)]
        refine H S3 m3 h3 q1 q2 q3 q4 ?_
        rw [List.length_append]
        have : (sT A f (gv A b)).length ≤ 512 := hlen
        omega
      refine ⟨S2, tc2, Sh_trans e2 z1, z2, by omega, ?_⟩
      rcases z4 with ⟨e, he, y1, y2⟩ | ⟨y1, y2, y3⟩
      · refine Or.inl ⟨e, he, by rw [hcl, if_pos (nI_le0 (by omega)), y1], fun S1 W Sm m T N' Q hN hy hm hFA hT htr H => ?_⟩
        obtain ⟨N', rfl⟩ : ∃ n, N' = n + 1 := ⟨N' - 1, by omega⟩
        refine hm2 S1 W Sm m T N' Q hy hm hFA hT htr fun S3 m3 h3 q1 q2 q3 q4 q5 => ?_
        exact y2 S1 W S3 m3 _ N' Q (by omega) h3 q1 q4 q5 q3 fun S4 m4 p1 p2 p3 p4 => H S4 m4 p1 p2 (fun j j1 j2 => by rw [p3 j j1 j2, q2 j j1 j2]) p4
      · refine Or.inr ⟨by rw [hcl, if_pos (nI_le0 (by omega)), y1], y2, fun S1 W Sm m T N' Q hN hy hm hFA hT htr H => ?_⟩
        obtain ⟨N', rfl⟩ : ∃ n, N' = n + 1 := ⟨N' - 1, by omega⟩
        refine hm2 S1 W Sm m T N' Q hy hm hFA hT htr fun S3 m3 h3 q1 q2 q3 q4 q5 => ?_
        refine y3 S1 W S3 m3 _ N' Q (by omega) h3 q1 q4 q5 q3 fun S4 m4 p1 p2 p3 p4 p5 => H S4 m4 p1 p2 (fun j j1 j2 => by rw [p3 j j1 j2, q2 j j1 j2]) p4 ?_
        unfold bkT
        rw [← List.append_assoc]
        exact p5
-- reading a face of the book, in the class
theorem f15_eq {F : Nat} (hF : 6000 ≤ F) {A m0 : Mem} {ns g w c f : Nat} {sq : Nat → Nat} {S : AmT} (hns : ns ≤ 8) (hg : SGN A m0 ns g w c sq) (hA : ∀ o, kc o → S.1 o = A o) (hgd : ∀ j, j < c → goodS A f S.1 (sq j)) : f15 F (nI g) S = some (nI (tot A f sq c), S) := by
  obtain ⟨g4, w1, c4, e73, e119, e75, e120, hsq⟩ := id hg
  have key : ∀ (r i N : Nat), i + r = c → r < N → g15_4 F N (nI g) (nI (tot A f sq i)) (nI i) S = some (nI (tot A f sq c), S) := by
    intro r
    induction r with
    | zero =>
      intro i N h1 h2
      obtain ⟨N, rfl⟩ : ∃ n, N = n + 1 := ⟨N - 1, by omega⟩
      have hi : i = c := by omega
      subst hi
      unfold g15_4
      rw [kg_at (by omega) (by omega), hA 75 (by omega), e75, if_pos (Int32.le_refl _)]
    | succ r ih =>
      intro i N h1 h2
      obtain ⟨N, rfl⟩ : ∃ n, N = n + 1 := ⟨N - 1, by omega⟩
      obtain ⟨hs, e77, -⟩ := hsq i (by omega)
      obtain ⟨g1, R, C, hR, hC, e52, e54, hlen, -⟩ := hgd i (by omega)
      have e99 := f99_eq (F := F) (S := S) (s := sq i) (by omega) (by rw [hA 52 (by omega), e52]) (by rw [hA 54 (by omega), e54])
      rw [← hlen] at e99
      unfold g15_4
      rw [kg_at (by omega) (by omega), hA 75 (by omega), e75, if_neg (nI_ge (by omega) (by omega)), f7_eq g4 (by omega) (by rw [hA 77 (by omega), e77]), b2_at, e99, b2_at, show (2 : Int32) * nI (LLf A f (sq i)).length = nI (2 * (LLf A f (sq i)).length) from nI_mul 2 _, nI_add, nI_1]
      exact ih (i + 1) N (by omega) (by omega)
  unfold f15
  exact key c 0 F (by omega) (by omega)
def rdN (A : Mem) (T : List Ft) (k : Nat) : Int32 := match T[k]? with
  | some t => if A 56 (frr t) = 0 then A 58 (fpl t) / 2 else -11
  | none => -12
theorem rdN_app {A : Mem} {a b : List Ft} {k : Nat} : rdN A (a ++ b) k = if k < a.length then rdN A a k else rdN A b (k - a.length) := by
  unfold rdN
  by_cases q : k < a.length
  · rw [if_pos q, List.getElem?_append_left q]
  · rw [if_neg q, List.getElem?_append_right (by omega)]
theorem sT_ok {A m0 I : Mem} {nj nf ns ng nb f b : Nat} (hC : Cur A m0 nj nf ns ng nb) (h52 : I 52 = A 52) (h54 : I 54 = A 54) (hb : b < nb) (hg : gdB A f I b) : ∀ t, t ∈ sT A f (gv A b) → okt I ns t := by
  obtain ⟨-, -, -, hbk⟩ := Cur_bk hC
  have hsg := Cur_sgx hC (hbk b hb).1
  exact sgT_ok h52 h54 (fun j hj => (hsg.2.2.2.2.2.2.2 j hj).1) hg
theorem bkT_ok {A m0 I : Mem} {nj nf ns ng nb f : Nat} (hC : Cur A m0 nj nf ns ng nb) (h52 : I 52 = A 52) (h54 : I 54 = A 54) (hg : ∀ b, b < nb → gdB A f I b) : ∀ r b, b + r ≤ nb → ∀ t, t ∈ bkT A f b r → okt I ns t
  | 0, b, _, t, ht => absurd ht (by unfold bkT; simp)
  | r + 1, b, h, t, ht => by
    unfold bkT at ht
    rcases List.mem_append.mp ht with ht | ht
    · exact sT_ok hC h52 h54 (by omega) (hg b (by omega)) t ht
    · exact bkT_ok hC h52 h54 hg r (b + 1) (by omega) t ht
theorem lp_48 {F : Nat} (hF : 6000 ≤ F) {A m0 : Mem} {nj nf ns ng nb f : Nat} {S : AmT} (hC : Cur A m0 nj nf ns ng nb) (hA : ∀ o, kc o → S.1 o = A o) (hg : ∀ b, b < nb → gdB A f S.1 b) :
    ∀ (r b N k : Nat), b + r = nb → r < N → k < 2147483648 → g14_48 F N (nI k) (nI b) S = some (rdN S.1 (bkT A f b r) k, S)
  | r, b, 0, k, h1, h2, h3 => absurd h2 (by omega)
  | 0, b, N + 1, k, h1, h2, h3 => by
    obtain ⟨hnb, e81, e96, hbk⟩ := Cur_bk hC
    unfold g14_48
    rw [kg_0 (by decide) (by decide), hA 81 (by omega), e81, if_pos (nI_le (by omega) (by omega))]
    rfl
  | r + 1, b, N + 1, k, h1, h2, h3 => by
    have hns := hC.2.2.1.1
    have hng := hC.2.2.2.1.1
    obtain ⟨hnb, e81, e96, hbk⟩ := Cur_bk hC
    obtain ⟨hgb, e83, -⟩ := hbk b (by omega)
    have hsg := Cur_sgx hC hgb
    have hgd := hg b (by omega)
    have e9 : f9 F (nI (gv A b)) (nI k) S = some (fnd (sT A f (gv A b)) (nI k), S) := f9_eq hF hns hsg (fun o ho _ => hA o ho) hgd
    have e15 : f15 F (nI (gv A b)) S = some (nI (sT A f (gv A b)).length, S) := by
      unfold sT
      rw [sgT_len hsg.2.1]
      exact f15_eq hF hns hsg hA hgd
    have hl := sT_len hC (show b < nb by omega) hgd
    have eT : bkT A f b (r + 1) = sT A f (gv A b) ++ bkT A f (b + 1) r := rfl
    unfold g14_48
    rw [kg_0 (by decide) (by decide), hA 81 (by omega), e81, if_neg (nI_ge (by omega) (by omega)), kg_at (by omega) (by omega), hA 83 (by omega), e83, e9, b2_at, eT, rdN_app]
    by_cases c : k < (sT A f (gv A b)).length
    · obtain ⟨tt, htt⟩ := at_ex c
      have hokt := sT_ok hC (hA 52 (by omega)) (hA 54 (by omega)) (show b < nb by omega) hgd tt (List.mem_of_getElem? htt)
      have ho1 := hokt.1
      have ho2 := okt_y hokt
      obtain ⟨d1, d2⟩ := nI_dv128 (s := tt.1) (k := tt.2.1) (by omega) (by omega)
      rw [fnd_at h3 htt, if_neg (nI_pos (by omega)), d2, d1, b2_id, f114_eq hns hokt rfl rfl rfl, if_pos c]
      unfold rdN
      rw [htt]
    · rw [fnd_out h3 (by omega), if_pos (by decide), show kg S.1 83 4 (nI b) = nI (gv A b) from by rw [kg_at (by omega) (by omega), hA 83 (by omega), e83], e15, b2_at, nI_sub (by omega), nI_1, if_neg c]
      exact lp_48 hF hC hA hg r (b + 1) N _ (by omega) (by omega) (by omega)
theorem lp_48n {F : Nat} (hF : 6000 ≤ F) {A m0 : Mem} {nj nf ns ng nb f : Nat} {S : AmT} {x : Int32} (hx : x < 0) (hC : Cur A m0 nj nf ns ng nb) (hA : ∀ o, kc o → S.1 o = A o) (hg : ∀ b, b < nb → gdB A f S.1 b) :
    ∀ (r b N cn : Nat), b + r = nb → r < N → cn ≤ 512 * b → g14_48 F N (x - nI cn) (nI b) S = some (-12, S)
  | r, b, 0, cn, h1, h2, h3 => absurd h2 (by omega)
  | 0, b, N + 1, cn, h1, h2, h3 => by
    obtain ⟨hnb, e81, e96, hbk⟩ := Cur_bk hC
    unfold g14_48
    rw [kg_0 (by decide) (by decide), hA 81 (by omega), e81, if_pos (nI_le (by omega) (by omega))]
  | r + 1, b, N + 1, cn, h1, h2, h3 => by
    have hns := hC.2.2.1.1
    have hng := hC.2.2.2.1.1
    obtain ⟨hnb, e81, e96, hbk⟩ := Cur_bk hC
    obtain ⟨hgb, e83, -⟩ := hbk b (by omega)
    have hsg := Cur_sgx hC hgb
    have hgd := hg b (by omega)
    have e9 : f9 F (nI (gv A b)) (x - nI cn) S = some (fnd (sT A f (gv A b)) (x - nI cn), S) := f9_eq hF hns hsg (fun o ho _ => hA o ho) hgd
    have e15 : f15 F (nI (gv A b)) S = some (nI (sT A f (gv A b)).length, S) := by
      unfold sT
      rw [sgT_len hsg.2.1]
      exact f15_eq hF hns hsg hA hgd
    have hl := sT_len hC (show b < nb by omega) hgd
    have hfn : fnd (sT A f (gv A b)) (x - nI cn) = -12 := by
      by_cases c : x - nI cn < 0
      · unfold fnd
        rw [if_pos c]
      · obtain ⟨k, hk, e⟩ := nI_of c
        rw [e]
        refine fnd_out hk ?_
        rcases Nat.lt_or_ge k 512 with z | z
        · have ex : x = nI (k + cn) := by
            rw [← nI_add, ← e]
            exact (Int32.sub_add_cancel _ _).symm
          rw [ex] at hx
          exact absurd hx (nI_pos (by omega))
        · omega
    unfold g14_48
    rw [kg_0 (by decide) (by decide), hA 81 (by omega), e81, if_neg (nI_ge (by omega) (by omega)), kg_at (by omega) (by omega), hA 83 (by omega), e83, e9, b2_at, hfn, if_pos (by decide), show kg S.1 83 4 (nI b) = nI (gv A b) from by rw [kg_at (by omega) (by omega), hA 83 (by omega), e83], e15, b2_at, nI_1]
    have e : x - nI cn - nI (sT A f (gv A b)).length = x - nI (cn + (sT A f (gv A b)).length) := by
      rw [← nI_add, Int32.sub_sub]
    rw [e]
    exact lp_48n hF hx hC hA hg r (b + 1) N _ (by omega) (by omega) (by omega)
theorem st_pageAt {F : Nat} (hF : 6000 ≤ F) (x1 x2 : Int32) : FpStep (f178 F x1 x2) (f276 F x1 x2) := by
  refine Fp_of fun S t ht hR => ?_
  obtain ⟨nj, nf, ns, ng, nb, hC⟩ := Rel_z hR
  unfold f178 f276
  refine RG_g1 (Gd_fold hC) hR ?_
  rintro ⟨f, hf, rfl⟩
  obtain ⟨hnb, e81, e96, hbk⟩ := Cur_bk hC
  have hTl := Tl_of hR.2.1
  obtain ⟨tc, htc, htr⟩ := Tl_tc hTl
  have hfrm : ∀ o, 96 ≤ o → o ≤ 124 → am_upI (mz S.1) 95 47 0 o = mz S.1 o := fun o o1 o2 => am_upI_ne (by omega)
  have htr' : TR S (am_upI (mz S.1) 95 47 0) tc := TR_m htr (by simp only [am_upI_at, am_upI_ne, pk_us, pk_un, ne_eq, Nat.reduceEqDiff, not_false_eq_true]) (by simp only [am_upI_at, am_upI_ne, pk_us, pk_un, ne_eq, Nat.reduceEqDiff, not_false_eq_true])
  have h95 : ∀ m2 : Mem, (∀ j, 29 ≤ j → j ≤ 35 → m2 95 j = am_upI (mz S.1) 95 47 0 95 j) → ∀ j, 29 ≤ j → j ≤ 35 → m2 95 j = mz S.1 95 j := fun m2 h j j1 j2 => by rw [h j j1 j2, am_upI_at, pk_un (by omega)]
  obtain ⟨S', tc', e2, e3, e4, e5⟩ := pa hF (x := x2) hC hf nb 0 F tc S (by omega) (by omega) (fun _ _ => rfl) htr.1 (by omega) (fun b' hb' => absurd hb' (by omega))
  have hfr5 := e2.2.2
  have hkc : ∀ o, kc o → S'.1 o = S.1 o := fun o ho => e2.2.1 o (by omega) (by omega) (by omega) (by omega)
  have hCur : Cur S'.1 (mz S.1) nj nf ns ng nb := Cur_congr hkc hC
  unfold f14
  rcases e5 with ⟨e, he, e1, e6⟩ | ⟨e1, hgd, e6⟩
  · rw [show g14_2 F F (nI f) x2 0 S = some (-10 - nI e, S') from e1, b2_at]
    refine RG_foldf (F := F) (e := e) hR (by omega) (S' := S') rfl (Kq_Sh e2) fun S1 q1 q2 q3 h0 => ?_
    refine MG_up h0 (Or.inl rfl) fun S5 h5 => ?_
    refine e6 S1 _ S5 _ [] F _ (by omega) h5 hfrm (FA_nil (by simp only [am_upI_at, am_upI_ne, pk_us, pk_un, ne_eq, Nat.reduceEqDiff, not_false_eq_true])) (by rw [List.length_nil]; omega) htr' fun S6 m6 h6 w1 w2 w3 => ?_
    exact MGf_fin (by omega) h6 w1 (h95 m6 w2 29 (by omega) (by omega)) (Tl_tr hTl hfr5 (fun j j1 j2 => h95 m6 w2 j (by omega) (by omega)) w3 (by omega))
  · have hrd : g14_48 F F x2 0 S' = some (rdx S'.1 (bkT S.1 f 0 nb) x2, S') := by
      unfold rdx
      by_cases c : x2 < 0
      · rw [if_pos c]
        have := lp_48n hF c hC hkc hgd nb 0 F 0 (by omega) (by omega) (by omega)
        rw [show x2 - nI 0 = x2 from Int32.sub_zero _] at this
        exact this
      · rw [if_neg c]
        obtain ⟨k, hk, rfl⟩ := nI_of c
        rw [nI_clamp hk]
        exact lp_48 hF hC hkc hgd nb 0 F k (by omega) (by omega) hk
    rw [show g14_2 F F (nI f) x2 0 S = g14_48 F F x2 0 S' from e1, hrd, b2_at]
    have hlen := bkT_len hC hgd nb 0 (by omega)
    rcases rd_c (F := F) (x := x2) hCur (show (bkT S.1 f 0 nb).length ≤ 2048 by omega) (bkT_ok hC (hkc 52 (by omega)) (hkc 54 (by omega)) hgd nb 0 (by omega)) with ⟨e, he, r1, r2⟩ | ⟨p, hp, r1, r2⟩
    · rw [r1]
      refine RG_foldf (F := F) (e := e) hR (by omega) (S' := S') rfl (Kq_Sh e2) fun S1 q1 q2 q3 h0 => ?_
      refine MG_up h0 (Or.inl rfl) fun S5 h5 => ?_
      refine e6 S1 _ S5 _ [] F _ (by omega) h5 hfrm (FA_nil (by simp only [am_upI_at, am_upI_ne, pk_us, pk_un, ne_eq, Nat.reduceEqDiff, not_false_eq_true])) (by rw [List.length_nil]; omega) htr' fun S6 m6 h6 w1 w2 w3 w4 => ?_
      rw [List.nil_append] at w4
      rw [r2 _ _ S6 m6 h6 w1 w4, b2_id]
      exact MGf_fin (by omega) h6 w1 (h95 m6 w2 29 (by omega) (by omega)) (Tl_tr hTl hfr5 (fun j j1 j2 => h95 m6 w2 j (by omega) (by omega)) w3 (by omega))
    · rw [r1]
      refine RG_qq hR ⟨nI p, S', S'.1, ?_, Kq_Sh e2, fun h0 => ?_⟩
      · rw [b2_id, f129_ok (nI_gt (by omega))]
      · refine MG_up h0 (Or.inl rfl) fun S5 h5 => ?_
        refine e6 S' _ S5 _ [] F _ (by omega) h5 hfrm (FA_nil (by simp only [am_upI_at, am_upI_ne, pk_us, pk_un, ne_eq, Nat.reduceEqDiff, not_false_eq_true])) (by rw [List.length_nil]; omega) htr' fun S6 m6 h6 w1 w2 w3 w4 => ?_
        rw [List.nil_append] at w4
        rw [r2 _ _ S6 m6 h6 w1 w4, b2_at]
        exact MG_ret h6 ⟨rfl, w1, Tl_tr hTl hfr5 (fun j j1 j2 => h95 m6 w2 j (by omega) (by omega)) w3 (by omega), h95 m6 w2 29 (by omega) (by omega)⟩
