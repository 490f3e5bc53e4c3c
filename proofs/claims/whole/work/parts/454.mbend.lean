/-! folding: a plain fold, in the model -/
def oc (k j : Nat) : Nat := if k = 3 then 2 * j else j
theorem lp_238b {F : Nat} (hF : 6000 ≤ F) {S1 : AmT} {m0 W : Mem} {ax lines n w l0 : Nat} {V : Nat → Nat → List Lf} {k72 : Int32 → Int32 → Int32 → Int32 → Int32 → AmT → Option (Int32 × AmT)} {Q : Int32 → Mem → Prop} (hax : ax ≤ 1) (hn : n = 3 * w) (hn8 : n ≤ 8) (hl8 : lines ≤ 8) (hok : okV ax lines n 2 w V) (hl0 : l0 < lines) (H : ∀ S' m', My S1 S' m' W → MK m0 m' ax lines n 2 w V l0 (ocn 2 w) → MG S1 W (k72 (nI 2) (nI ax) (nI lines) (nI w) (nI (l0 + 1)) S') Q) :
    ∀ (N j : Nat) (S : AmT) (m : Mem), j ≤ w → w < N + j → My S1 S m W → MK m0 m ax lines n 2 w V l0 (w + j) → MG S1 W (g238_238 F k72 N (nI 2) (nI ax) (nI lines) (nI w) (nI l0) (nI j) S) Q
  | 0, j, S, m, h1, h2, h, hM => absurd h2 (by omega)
  | N + 1, j, S, m, h1, h2, h, hM => by
    unfold g238_238 g238_285
    by_cases q : j = w
    · subst q
      rw [if_pos (nI_le (Nat.le_refl _) (by omega)), nI_1]
      rw [show j + j = ocn 2 j from (Nat.two_mul j).symm] at hM
      exact H S m h hM
    · rw [if_neg (nI_ge (by omega) (by omega)), if_pos (show nI 2 = 2 from rfl)]
      refine ms_step hF (k := 2) (j := w + j) hax (by omega) hn hn8 hl8 hok hl0 (show w + j < 2 * w by omega) ?_ ?_ h hM fun S' m' h' hM' => ?_
      · rw [show nI w - 1 = nI (w - 1) from nI_sub (b := 1) (by omega), nI_sub (by omega)]
        congr 1
        unfold osr
        rw [if_neg (by omega), if_pos rfl, if_neg (by omega), Nat.add_sub_cancel_left]
      · rw [nI_add]
        congr 1
        unfold ods
        rw [if_neg (by omega), if_pos rfl, if_neg (by omega), Nat.add_sub_cancel_left]
      · rw [nI_1]
        exact lp_238b hF hax hn hn8 hl8 hok hl0 H N (j + 1) S' m' (by omega) (by omega) h' hM'
theorem g238_skip {F : Nat} {k72 : Int32 → Int32 → Int32 → Int32 → Int32 → AmT → Option (Int32 × AmT)} {k : Nat} {x2 x4 x6 x7 x8 : Int32} {S : AmT} (hk : k = 1 ∨ k = 3) : ∀ N, 0 < N → g238_238 F k72 N (nI k) x2 x4 x6 x7 x8 S = k72 (nI k) x2 x4 x6 (x7 + 1) S
  | 0, h => absurd h (by omega)
  | N + 1, _ => by
    unfold g238_238 g238_285
    have : ¬ nI k = 2 := by rcases hk with rfl | rfl <;> decide
    by_cases q : x6 ≤ x8
    · rw [if_pos q]
    · rw [if_neg q, if_neg this]
theorem lp_238a {F : Nat} (hF : 6000 ≤ F) {S1 : AmT} {m0 W : Mem} {ax lines n k w l0 : Nat} {V : Nat → Nat → List Lf} {k72 : Int32 → Int32 → Int32 → Int32 → Int32 → AmT → Option (Int32 × AmT)} {Q : Int32 → Mem → Prop} (hax : ax ≤ 1) (hk : 1 ≤ k ∧ k ≤ 3) (hn : n = (k + 1) * w) (hn8 : n ≤ 8) (hl8 : lines ≤ 8) (hok : okV ax lines n k w V) (hl0 : l0 < lines) (H : ∀ S' m', My S1 S' m' W → MK m0 m' ax lines n k w V l0 (ocn k w) → MG S1 W (k72 (nI k) (nI ax) (nI lines) (nI w) (nI (l0 + 1)) S') Q) :
    ∀ (N j : Nat) (S : AmT) (m : Mem), j ≤ w → w < N + j → My S1 S m W → MK m0 m ax lines n k w V l0 (oc k j) → MG S1 W (g238_82 F k72 N (nI k) (nI ax) (nI lines) (nI w) (nI l0) (nI j) S) Q
  | 0, j, S, m, h1, h2, h, hM => absurd h2 (by omega)
  | N + 1, j, S, m, h1, h2, h, hM => by
    have hw8 : w ≤ 8 := by
      rcases (show k = 1 ∨ k = 2 ∨ k = 3 by omega) with rfl | rfl | rfl <;> omega
    unfold g238_82
    by_cases q : j = w
    · subst q
      rw [if_pos (nI_le (Nat.le_refl _) (by omega))]
      rcases (show k = 1 ∨ k = 2 ∨ k = 3 by omega) with rfl | rfl | rfl
      · rw [g238_skip (Or.inl rfl) F (by omega), nI_1]
        exact H S m h hM
      · exact lp_238b hF hax hn hn8 hl8 hok hl0 H F 0 S m (by omega) (by omega) h hM
      · rw [g238_skip (Or.inr rfl) F (by omega), nI_1]
        exact H S m h hM
    · rw [if_neg (nI_ge (by omega) (by omega))]
      unfold g238_229
      rcases (show k = 1 ∨ k = 2 ∨ k = 3 by omega) with rfl | rfl | rfl
      · rw [if_pos (show nI 1 = 1 from rfl)]
        refine ms_step hF (k := 1) (j := j) hax (by omega) hn hn8 hl8 hok hl0 (show j < w by omega) ?_ ?_ h hM fun S' m' h' hM' => ?_
        · rw [nI_add]
          rfl
        · rw [show nI w - 1 = nI (w - 1) from nI_sub (b := 1) (by omega), nI_sub (by omega)]
          rfl
        · rw [nI_1]
          exact lp_238a hF hax hk hn hn8 hl8 hok hl0 H N (j + 1) S' m' (by omega) (by omega) h' hM'
      · rw [if_neg (show ¬ nI 2 = 1 by decide), if_pos (show nI 2 = 2 from rfl)]
        refine ms_step hF (k := 2) (j := j) hax (by omega) hn hn8 hl8 hok hl0 (show j < 2 * w by omega) ?_ ?_ h hM fun S' m' h' hM' => ?_
        · rw [show (2 : Int32) * nI w = nI (2 * w) from nI_mul 2 w, nI_add]
          congr 1
          unfold osr
          rw [if_neg (by omega), if_pos rfl, if_pos (by omega)]
        · rw [show (2 : Int32) * nI w = nI (2 * w) from nI_mul 2 w, show nI (2 * w) - 1 = nI (2 * w - 1) from nI_sub (b := 1) (by omega), nI_sub (by omega)]
          congr 1
          unfold ods
          rw [if_neg (by omega), if_pos rfl, if_pos (by omega)]
        · rw [nI_1]
          exact lp_238a hF hax hk hn hn8 hl8 hok hl0 H N (j + 1) S' m' (by omega) (by omega) h' hM'
      · rw [if_neg (show ¬ nI 3 = 1 by decide), if_neg (show ¬ nI 3 = 2 by decide)]
        refine ms_step hF (k := 3) (j := 2 * j) hax (by omega) hn hn8 hl8 hok hl0 (show 2 * j < 2 * w by omega) ?_ ?_ h hM fun S' m' h' hM' => ?_
        · rw [show nI w - 1 = nI (w - 1) from nI_sub (b := 1) (by omega), nI_sub (by omega)]
          congr 1
          unfold osr
          rw [if_neg (by omega), if_neg (by omega), if_pos (by omega), show 2 * j / 2 = j by omega]
        · rw [nI_add]
          congr 1
          unfold ods
          rw [if_neg (by omega), if_neg (by omega), if_pos (by omega), show 2 * j / 2 = j by omega]
        refine ms_step hF (k := 3) (j := 2 * j + 1) hax (by omega) hn hn8 hl8 hok hl0 (show 2 * j + 1 < 2 * w by omega) ?_ ?_ h' hM' fun S'' m'' h'' hM'' => ?_
        · rw [show (3 : Int32) * nI w = nI (3 * w) from nI_mul 3 w, nI_add]
          congr 1
          unfold osr
          rw [if_neg (by omega), if_neg (by omega), if_neg (by omega), show (2 * j + 1) / 2 = j by omega]
        · rw [show (3 : Int32) * nI w = nI (3 * w) from nI_mul 3 w, show nI (3 * w) - 1 = nI (3 * w - 1) from nI_sub (b := 1) (by omega), nI_sub (by omega)]
          congr 1
          unfold ods
          rw [if_neg (by omega), if_neg (by omega), if_neg (by omega), show (2 * j + 1) / 2 = j by omega]
        rw [nI_1]
        exact lp_238a hF hax hk hn hn8 hl8 hok hl0 H N (j + 1) S'' m'' (by omega) (by omega) h'' hM''
theorem lp_238 {F : Nat} (hF : 6000 ≤ F) {S1 : AmT} {m0 W : Mem} {ax lines n k w : Nat} {V : Nat → Nat → List Lf} {Q : Int32 → Mem → Prop} (hax : ax ≤ 1) (hk : 1 ≤ k ∧ k ≤ 3) (hn : n = (k + 1) * w) (hn8 : n ≤ 8) (hl8 : lines ≤ 8) (hok : okV ax lines n k w V) (H : ∀ S' m', My S1 S' m' W → MK m0 m' ax lines n k w V lines 0 → MG S1 W ((f237 F (nI ax) (nI (osk k w)) (nI (olf k w)) S').bind fun S9 => some (1, S9)) Q) :
    ∀ (N l0 : Nat) (S : AmT) (m : Mem), l0 ≤ lines → lines < N + l0 → My S1 S m W → MK m0 m ax lines n k w V l0 0 → MG S1 W (g238_72 F N (nI k) (nI ax) (nI lines) (nI w) (nI l0) S) Q
  | 0, l0, S, m, h1, h2, h, hM => absurd h2 (by omega)
  | N + 1, l0, S, m, h1, h2, h, hM => by
    have hw8 : w ≤ 8 := by
      rcases (show k = 1 ∨ k = 2 ∨ k = 3 by omega) with rfl | rfl | rfl <;> omega
    unfold g238_72
    by_cases q : l0 = lines
    · subst q
      have := H S m h hM
      unfold g238_304 g238_318
      rw [if_pos (nI_le (Nat.le_refl _) (by omega))]
      rcases (show k = 1 ∨ k = 2 ∨ k = 3 by omega) with rfl | rfl | rfl
      · rw [if_pos (show nI 1 = 1 from rfl), if_neg (show ¬ nI 1 = 3 by decide)]
        exact this
      · rw [if_neg (show ¬ nI 2 = 1 by decide), if_neg (show ¬ nI 2 = 3 by decide)]
        exact this
      · rw [if_neg (show ¬ nI 3 = 1 by decide), if_pos (show nI 3 = 3 from rfl), show (2 : Int32) * nI w = nI (2 * w) from nI_mul 2 w]
        exact this
    · rw [if_neg (nI_ge (by omega) (by omega))]
      have e0 : oc k 0 = 0 := by
        unfold oc
        split <;> rfl
      refine lp_238a hF hax hk hn hn8 hl8 hok (show l0 < lines by omega) (fun S' m' h' hM' => ?_) F 0 S m (by omega) (by omega) h (by rw [e0]; exact hM)
      exact lp_238 hF hax hk hn hn8 hl8 hok H N (l0 + 1) S' m' (by omega) (by omega) h' (MK_next hM')
-- the window comes to the origin
theorem lp_237c {F : Nat} {S1 : AmT} {W : Mem} {k20 : Int32 → Int32 → Int32 → Int32 → Int32 → AmT → Option AmT} {k30 : Int32 → Int32 → Int32 → Int32 → Int32 → Int32 → AmT → Option AmT} {x1 x2 x3 x4 x5 x6 : Int32} {a b len : Nat} {Q : Mem → Prop} (ha : a < 64) (hb : b < 64) (hl : len ≤ 64) :
    ∀ (r i N : Nat) (S : AmT) (m : Mem), i + r = len → r < N → My S1 S m W → m 127 b = nI len → (∀ S' m', My S1 S' m' W → (∀ o, o ≠ 128 → m' o = m o) → (∀ q, m' 128 q = if 64 * a + i ≤ q ∧ q < 64 * a + len then m 128 (64 * b + (q - 64 * a)) else m 128 q) → MO S1 W (k30 x1 x2 x3 x4 x5 (x6 + 1) S') Q) → MO S1 W (g237_75 F k20 k30 N x1 x2 x3 x4 x5 x6 (nI a) (nI b) (nI i) S) Q
  | r, i, 0, S, m, h1, h2, h, hm, H => absurd h2 (by omega)
  | 0, i, N + 1, S, m, h1, h2, h, hm, H => by
    unfold g237_75
    rw [ck_at hb (by omega), nI_clamp (by omega), My_rd h (Or.inr (Or.inl (by omega))), hm, if_pos (nI_le (by omega) (by omega))]
    exact H S m h (fun _ _ => rfl) (fun q => by rw [if_neg (by omega)])
  | r + 1, i, N + 1, S, m, h1, h2, h, hm, H => by
    have e1 : (64 : Int32) * nI a + nI i = nI (64 * a + i) := by rw [show (64 : Int32) * nI a = nI (64 * a) from nI_mul 64 a, nI_add]
    have e2 : (64 : Int32) * nI b + nI i = nI (64 * b + i) := by rw [show (64 : Int32) * nI b = nI (64 * b) from nI_mul 64 b, nI_add]
    unfold g237_75
    rw [ck_at hb (by omega), nI_clamp (n := b) (by omega), My_rd h (Or.inr (Or.inl (by omega))), hm, if_neg (nI_ge (by omega) (by omega)), e1, e2, ck_at (by omega) (by omega), ck_at (by omega) (by omega), nI_clamp (by omega), nI_clamp (by omega), My_rd h (Or.inr (Or.inl (by omega)))]
    refine MO_up h (Or.inr (Or.inl (by omega))) fun S' h' => ?_
    rw [nI_1]
    refine lp_237c ha hb hl r (i + 1) N S' _ (by omega) (by omega) h' (by rw [am_upI_ne (by decide)]; exact hm) fun S'' m'' h'' q1 q2 => H S'' m'' h'' (fun o ho => by rw [q1 o ho, am_upI_ne ho]) fun q => ?_
    rw [q2 q]
    by_cases c1 : 64 * a + (i + 1) ≤ q ∧ q < 64 * a + len
    · rw [if_pos c1, if_pos ⟨by omega, by omega⟩, am_upI_at, pk_un (by omega)]
    · rw [if_neg c1, am_upI_at]
      by_cases c2 : q = 64 * a + i
      · subst c2
        rw [pk_us, if_pos ⟨by omega, by omega⟩]
        congr 1
        omega
      · rw [pk_un c2, if_neg (by omega)]
def sU (sk K l0 j : Nat) (V : Nat → Nat → List Lf) : Nat → Nat → List Lf := fun l t => if t < kap K l0 j l then V l (sk + t) else V l t
theorem sU_next {sk K l0 : Nat} {V : Nat → Nat → List Lf} : sU sk K l0 K V = sU sk K (l0 + 1) 0 V := by
  funext l t
  have e : kap K (l0 + 1) 0 l = kap K l0 K l := by
    unfold kap
    (repeat' split) <;> omega
  unfold sU
  rw [e]
theorem lp_237b {F : Nat} (hF : 6000 ≤ F) {S1 : AmT} {m0 W : Mem} {ax lines n sk lf l0 : Nat} {V : Nat → Nat → List Lf} {k20 : Int32 → Int32 → Int32 → Int32 → Int32 → AmT → Option AmT} {Q : Mem → Prop} (hax : ax ≤ 1) (hn8 : n ≤ 8) (hl8 : lines ≤ 8) (hw : sk + lf ≤ n) (hV : ∀ l t, l < lines → t < n → (V l t).length ≤ 64) (hl0 : l0 < lines) (H : ∀ S' m', My S1 S' m' W → (∀ o, o ≠ 127 → o ≠ 128 → m' o = m0 o) → MV m' ax lines n (sU sk lf l0 lf V) → MO S1 W (k20 (nI ax) (nI sk) (nI lf) (nI lines) (nI (l0 + 1)) S') Q) :
    ∀ (N j : Nat) (S : AmT) (m : Mem), j ≤ lf → lf < N + j → My S1 S m W → (∀ o, o ≠ 127 → o ≠ 128 → m o = m0 o) → MV m ax lines n (sU sk lf l0 j V) → MO S1 W (g237_30 F k20 N (nI ax) (nI sk) (nI lf) (nI lines) (nI l0) (nI j) S) Q
  | 0, j, S, m, h1, h2, h, hm, hM => absurd h2 (by omega)
  | N + 1, j, S, m, h1, h2, h, hm, hM => by
    unfold g237_30
    by_cases q : j = lf
    · subst q
      rw [if_pos (nI_le (Nat.le_refl _) (by omega)), nI_1]
      exact H S m h hm hM
    · have hb : bnd ax 0 0 lines n := ⟨fun _ => by omega, fun _ => by omega⟩
      have p1 := pcl_lt hb hl0 (show j < n by omega)
      have p2 := pcl_lt hb hl0 (show sk + j < n by omega)
      rw [if_neg (nI_ge (by omega) (by omega)), f235_eq hax, b2_at, nI_add, f235_eq hax, b2_at, ck_at p2 (by omega), ck_at p1 (by omega), nI_clamp (by omega), nI_clamp (by omega), My_rd h (Or.inr (Or.inl (by omega)))]
      have ek : kap lf l0 j l0 = j := by
        unfold kap
        rw [if_neg (by omega), if_pos rfl]
      have hsrc := hM l0 (sk + j) hl0 (by omega)
      unfold sU at hsrc
      rw [ek, if_neg (by omega)] at hsrc
      have hll := hV l0 (sk + j) hl0 (by omega)
      refine MO_up h (Or.inr (Or.inl (by omega))) fun S2 h2 => ?_
      refine lp_237c p1 p2 hll (V l0 (sk + j)).length 0 F S2 _ (by omega) (by omega) h2 ?_ fun S3 m3 h3 q1 q2 => ?_
      · rw [am_upI_at]
        by_cases c : pcl ax 0 0 l0 (sk + j) = pcl ax 0 0 l0 j
        · rw [c, pk_us, ← c]
          exact hsrc.1
        · rw [pk_un c]
          exact hsrc.1
      · rw [nI_1]
        refine lp_237b hF hax hn8 hl8 hw hV hl0 H N (j + 1) S3 m3 (by omega) (by omega) h3 (fun o o1 o2 => by rw [q1 o o2, am_upI_ne o1, hm o o1 o2]) fun l t hl ht => ?_
        have hold := hM l t hl ht
        have x127 : m3 127 = upd (m 127) (pcl ax 0 0 l0 j) (m 127 (pcl ax 0 0 l0 (sk + j))) := by rw [q1 127 (by decide), am_upI_at]
        have x128 : ∀ q, m3 128 q = if 64 * pcl ax 0 0 l0 j + 0 ≤ q ∧ q < 64 * pcl ax 0 0 l0 j + (V l0 (sk + j)).length then m 128 (64 * pcl ax 0 0 l0 (sk + j) + (q - 64 * pcl ax 0 0 l0 j)) else m 128 q := fun q => by
          rw [q2 q, am_upI_ne (by decide)]
        by_cases c : l = l0 ∧ t = j
        · obtain ⟨rfl, rfl⟩ := c
          have e : sU sk lf l (t + 1) V l t = V l (sk + t) := by
            unfold sU kap
            rw [if_neg (show ¬ l < l by omega), if_pos (show l = l from rfl), if_pos (by omega)]
          rw [e]
          refine ⟨?_, fun d y hy => ?_⟩
          · rw [x127, pk_us]
            exact hsrc.1
          · have hd : d < (V l (sk + t)).length := by
              rcases Nat.lt_or_ge d (V l (sk + t)).length with z | z
              · exact z
              · rw [List.getElem?_eq_none z] at hy
                exact absurd hy (by simp)
            rw [x128, if_pos ⟨by omega, by omega⟩, show 64 * pcl ax 0 0 l t + d - 64 * pcl ax 0 0 l t = d by omega]
            exact hsrc.2 d y hy
        · have e : sU sk lf l0 (j + 1) V l t = sU sk lf l0 j V l t := by
            unfold sU
            by_cases c1 : l = l0
            · have c2 : t ≠ j := fun z => c ⟨c1, z⟩
              subst c1
              have ek' : kap lf l (j + 1) l = j + 1 := by
                unfold kap
                rw [if_neg (by omega), if_pos rfl]
              rw [ek, ek']
              by_cases c3 : t < j
              · rw [if_pos c3, if_pos (by omega)]
              · rw [if_neg c3, if_neg (by omega)]
            · have ek' : kap lf l0 (j + 1) l = kap lf l0 j l := by
                unfold kap
                rw [if_neg c1, if_neg c1]
              rw [ek']
          rw [e]
          have hne : pcl ax 0 0 l t ≠ pcl ax 0 0 l0 j := fun z => c (pcl_inj hb hl ht hl0 (by omega) z)
          have hlt : (sU sk lf l0 j V l t).length ≤ 64 := by
            unfold sU
            by_cases c3 : t < kap lf l0 j l
            · rw [if_pos c3]
              refine hV l _ hl ?_
              have : kap lf l0 j l ≤ lf := by
                unfold kap
                (repeat' split) <;> omega
              omega
            · rw [if_neg c3]
              exact hV l t hl ht
          refine ⟨?_, fun d y hy => ?_⟩
          · rw [x127, pk_un hne]
            exact hold.1
          · have hd : d < (sU sk lf l0 j V l t).length := by
              rcases Nat.lt_or_ge d (sU sk lf l0 j V l t).length with z | z
              · exact z
              · rw [List.getElem?_eq_none z] at hy
                exact absurd hy (by simp)
            rw [x128, if_neg (by omega)]
            exact hold.2 d y hy
theorem lp_237 {F : Nat} (hF : 6000 ≤ F) {S1 : AmT} {m0 W : Mem} {ax lines n sk lf : Nat} {V : Nat → Nat → List Lf} {Q : Mem → Prop} (hax : ax ≤ 1) (hn8 : n ≤ 8) (hl8 : lines ≤ 8) (hw : sk + lf ≤ n) (hV : ∀ l t, l < lines → t < n → (V l t).length ≤ 64) (H : ∀ m', (∀ o, o ≠ 95 → o ≠ 127 → o ≠ 128 → m' o = m0 o) → m' 95 = upd (m0 95) (40 + ax) (nI lf) → MV m' ax lines lf (fun l t => V l (sk + t)) → Q m') :
    ∀ (N l0 : Nat) (S : AmT) (m : Mem), l0 ≤ lines → lines < N + l0 → My S1 S m W → (∀ o, o ≠ 127 → o ≠ 128 → m o = m0 o) → MV m ax lines n (sU sk lf l0 0 V) → MO S1 W (g237_20 F N (nI ax) (nI sk) (nI lf) (nI lines) (nI l0) S) Q
  | 0, l0, S, m, h1, h2, h, hm, hM => absurd h2 (by omega)
  | N + 1, l0, S, m, h1, h2, h, hm, hM => by
    unfold g237_20
    by_cases q : l0 = lines
    · subst q
      rw [if_pos (nI_le (Nat.le_refl _) (by omega))]
      have hfin : Q (am_upI m 95 (40 + ax) (nI lf)) := by
        refine H _ (fun o o1 o2 o3 => by rw [am_upI_ne o1, hm o o2 o3]) (by rw [am_upI_at, hm 95 (by decide) (by decide)]) ?_
        refine MV_congr (am_upI_ne (by decide)) (am_upI_ne (by decide)) fun l t hl ht => ?_
        have := hM l t hl (by omega)
        unfold sU kap at this
        rw [if_pos hl, if_pos ht] at this
        exact this
      rcases (show ax = 0 ∨ ax = 1 by omega) with rfl | rfl
      · rw [if_pos (show nI 0 = 0 from rfl)]
        exact MO_up h (Or.inl rfl) fun S' h' => ⟨S', _, rfl, h', hfin⟩
      · rw [if_neg (by decide)]
        exact MO_up h (Or.inl rfl) fun S' h' => ⟨S', _, rfl, h', hfin⟩
    · rw [if_neg (nI_ge (by omega) (by omega))]
      refine lp_237b hF hax hn8 hl8 hw hV (show l0 < lines by omega) (fun S' m' h' hm' hM' => ?_) F 0 S m (by omega) (by omega) h hm hM
      rw [sU_next] at hM'
      exact lp_237 hF hax hn8 hl8 hw hV H N (l0 + 1) S' m' (by omega) (by omega) h' hm' hM'
