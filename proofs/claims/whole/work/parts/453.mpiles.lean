/-! folding: piles of the model -/
def enc (y : Lf) : Int32 := nI (y.1 + 64 * (y.2 / 2) + 128 * (y.2 % 2))
def fx (ax : Nat) : Nat := if ax = 0 then 192 else 64
theorem enc_flp {ax : Nat} {y : Lf} (h1 : y.1 < 64) (h2 : y.2 < 4) : enc y ^^^ nI (fx ax) = enc (flp (flx ax) y) := by
  obtain ⟨p, l⟩ := y
  have key : ∀ p : Fin 64, ∀ l : Fin 4, (p.val + 64 * (l.val / 2) + 128 * (l.val % 2)) ^^^ 192 = p.val + 64 * ((l.val ^^^ 3) / 2) + 128 * ((l.val ^^^ 3) % 2) ∧ (p.val + 64 * (l.val / 2) + 128 * (l.val % 2)) ^^^ 64 = p.val + 64 * ((l.val ^^^ 2) / 2) + 128 * ((l.val ^^^ 2) % 2) := by decide
  have k := key ⟨p, h1⟩ ⟨l, h2⟩
  unfold enc flp fx flx
  rw [nI_xor]
  by_cases q : ax = 0
  · rw [if_pos q, if_pos q]
    exact congrArg nI k.1
  · rw [if_neg q, if_neg q]
    exact congrArg nI k.2
def MP (m : Mem) (i : Nat) (L : List Lf) : Prop := m 127 i = nI L.length ∧ ∀ d y, L[d]? = some y → m 128 (64 * i + d) = enc y
def MO (S1 : AmT) (W : Mem) (C : Option AmT) (Q : Mem → Prop) : Prop := ∃ S' m', C = some S' ∧ My S1 S' m' W ∧ Q m'
theorem MG_bq {S1 : AmT} {W : Mem} {C : Option AmT} {K : AmT → Option (Int32 × AmT)} {Q1 : Mem → Prop} {Q : Int32 → Mem → Prop} (h : MO S1 W C Q1) (H : ∀ S' m', My S1 S' m' W → Q1 m' → MG S1 W (K S') Q) : MG S1 W (C.bind K) Q := by
  obtain ⟨S', m', rfl, h1, h2⟩ := h
  exact H S' m' h1 h2
theorem MO_up {S1 S : AmT} {m W : Mem} {k p : Nat} {x : Int32} {K : AmT → Option AmT} {Q : Mem → Prop} (h : My S1 S m W) (hi : mi k p) (H : ∀ S', My S1 S' (am_upI m k p x) W → MO S1 W (K S') Q) : MO S1 W (am_lt ((am_upI S.1 k p x, S.2) : AmT) K) Q := H _ (My_up h hi)
theorem lp_236a {F : Nat} {S1 : AmT} {W : Mem} {s d ls ld : Nat} {x1 : Int32} {Q : Mem → Prop} (hd : d < 64) (hl : ls + ld ≤ 64) : ∀ (j n : Nat) (S : AmT) (m : Mem), j ≤ ld → j < n → My S1 S m W → (∀ S' m', My S1 S' m' W → (∀ o, o ≠ 128 → m' o = m o) → (∀ q, m' 128 q = if 64 * d + ls ≤ q ∧ q < 64 * d + ls + j then m 128 (q - ls) else m 128 q) → MO S1 W (g236_59 F F x1 (nI d) (nI s) (nI ls) 0 S') Q) → MO S1 W (g236_18 F n x1 (nI d) (nI s) (nI ls) (nI j - 1) S) Q
  | j, 0, S, m, h1, h2, h, H => absurd h2 (by omega)
  | 0, n + 1, S, m, h1, h2, h, H => by
    unfold g236_18
    rw [if_pos (by decide)]
    exact H S m h (fun _ _ => rfl) (fun q => by rw [if_neg (by omega)])
  | j + 1, n + 1, S, m, h1, h2, h, H => by
    have e1 : nI (j + 1) - 1 = nI j := nI_sub (a := j + 1) (b := 1) (by omega)
    have e2 : (64 : Int32) * nI d + nI j = nI (64 * d + j) := by rw [show (64 : Int32) * nI d = nI (64 * d) from nI_mul 64 d, nI_add]
    have e3 : (64 : Int32) * nI d + nI ls + nI j = nI (64 * d + ls + j) := by rw [show (64 : Int32) * nI d = nI (64 * d) from nI_mul 64 d, nI_add, nI_add]
    unfold g236_18
    rw [e1, if_neg (nI_pos (by omega)), e2, e3, ck_at (by omega) (by omega), ck_at (by omega) (by omega), nI_clamp (by omega), nI_clamp (by omega), My_rd h (Or.inr (Or.inl (by omega)))]
    refine MO_up h (Or.inr (Or.inl (by omega))) fun S' h' => ?_
    rw [show nI j + (-1) = nI j - 1 from (Int32.sub_eq_add_neg _ _).symm]
    refine lp_236a hd hl j n S' _ (by omega) (by omega) h' fun S'' m'' h'' q1 q2 => H S'' m'' h'' (fun o ho => by rw [q1 o ho, am_upI_ne ho]) fun q => ?_
    rw [q2 q]
    by_cases c1 : 64 * d + ls ≤ q ∧ q < 64 * d + ls + j
    · rw [if_pos c1, if_pos ⟨c1.1, by omega⟩, am_upI_at, pk_un (by omega)]
    · rw [if_neg c1, am_upI_at]
      by_cases c2 : q = 64 * d + ls + j
      · subst c2
        rw [pk_us, if_pos ⟨by omega, by omega⟩]
        congr 1
        omega
      · rw [pk_un c2, if_neg (by omega)]
theorem lp_236b {F : Nat} {S1 : AmT} {W : Mem} {ax s d ls : Nat} {Q : Mem → Prop} (hax : ax ≤ 1) (hs : s < 64) (hd : d < 64) (hne : s ≠ d) (hl : ls ≤ 64) : ∀ (r i n : Nat) (S : AmT) (m : Mem), i + r = ls → r < n → My S1 S m W → (∀ m', (∀ o, o ≠ 127 → o ≠ 128 → m' o = m o) → m' 127 = upd (m 127) d (m 127 d + nI ls) → (∀ q, m' 128 q = if 64 * d + i ≤ q ∧ q < 64 * d + ls then m 128 (64 * s + ls - 1 - (q - 64 * d)) ^^^ nI (fx ax) else m 128 q) → Q m') → MO S1 W (g236_59 F n (nI ax) (nI d) (nI s) (nI ls) (nI i) S) Q
  | r, i, 0, S, m, h1, h2, h, H => absurd h2 (by omega)
  | 0, i, n + 1, S, m, h1, h2, h, H => by
    unfold g236_59
    rw [if_pos (nI_le (by omega) (by omega)), ck_at (by omega) (by omega), ck_at (by omega) (by omega), nI_clamp (by omega), My_rd h (Or.inr (Or.inl (by omega)))]
    refine MO_up h (Or.inr (Or.inl (by omega))) fun S' h' => ⟨S', _, rfl, h', H _ (fun o o1 o2 => am_upI_ne o1) am_upI_at (fun q => ?_)⟩
    rw [if_neg (by omega), am_upI_ne (by decide)]
  | r + 1, i, n + 1, S, m, h1, h2, h, H => by
    have e1 : (64 : Int32) * nI s + nI ls - 1 - nI i = nI (64 * s + ls - 1 - i) := by rw [show (64 : Int32) * nI s = nI (64 * s) from nI_mul 64 s, nI_add, show nI (64 * s + ls) - 1 = nI (64 * s + ls - 1) from nI_sub (b := 1) (by omega), nI_sub (by omega)]
    have e2 : (64 : Int32) * nI d + nI i = nI (64 * d + i) := by rw [show (64 : Int32) * nI d = nI (64 * d) from nI_mul 64 d, nI_add]
    have key : MO S1 W (g236_106 F (fun x1 x2 x3 x4 x5 S => g236_59 F n x1 x2 x3 x4 x5 S) (nI ax) (nI d) (nI s) (nI ls) (nI i) (nI (64 * d + i)) (m 128 (64 * s + ls - 1 - i)) (nI (fx ax)) S) Q := by
      unfold g236_106
      rw [ck_at (by omega) (by omega), nI_clamp (by omega)]
      refine MO_up h (Or.inr (Or.inl (by omega))) fun S' h' => ?_
      rw [nI_1]
      refine lp_236b hax hs hd hne hl r (i + 1) n S' _ (by omega) (by omega) h' fun m' q0 q1 q2 => H m' (fun o o1 o2 => by rw [q0 o o1 o2, am_upI_ne o2]) (by rw [q1, am_upI_ne (by decide)]) fun q => ?_
      rw [q2 q]
      by_cases c1 : 64 * d + (i + 1) ≤ q ∧ q < 64 * d + ls
      · rw [if_pos c1, if_pos ⟨by omega, by omega⟩, am_upI_at, pk_un (by omega)]
      · rw [if_neg c1, am_upI_at]
        by_cases c2 : q = 64 * d + i
        · subst c2
          rw [pk_us, if_pos ⟨by omega, by omega⟩]
          congr 2
          omega
        · rw [pk_un c2, if_neg (by omega)]
    unfold g236_59
    rw [if_neg (nI_ge (by omega) (by omega)), e1, e2, ck_at (by omega) (by omega), nI_clamp (by omega), My_rd h (Or.inr (Or.inl (by omega)))]
    rcases (show ax = 0 ∨ ax = 1 by omega) with rfl | rfl
    · rw [if_pos nI_0]
      exact key
    · rw [if_neg (by decide)]
      exact key
theorem mvl_eq {fl : Nat} : ∀ (a d : List Lf), mvl fl a d = (a.map (flp fl)).reverse ++ d
  | [], d => rfl
  | x :: r, d => by
    unfold mvl
    rw [mvl_eq r]
    simp
/-- gets(): a pile comes over another -/
theorem MO_236 {F : Nat} (hF : 6000 ≤ F) {S1 S : AmT} {m W : Mem} {ax s d : Nat} {Ls Ld : List Lf} (h : My S1 S m W) (hax : ax ≤ 1) (hs : s < 64) (hd : d < 64) (hne : s ≠ d) (h1 : MP m s Ls) (h2 : MP m d Ld) (hl : Ls.length + Ld.length ≤ 64) (hg : ∀ y, y ∈ Ls → y.1 < 64 ∧ y.2 < 4) :
    MO S1 W (f236 F (nI ax) (nI d) (nI s) S) (fun m' => (∀ o, o ≠ 127 → o ≠ 128 → m' o = m o) ∧ MP m' d (mvl (flx ax) Ls Ld) ∧ ∀ i L, i ≠ d → L.length ≤ 64 → MP m i L → MP m' i L) := by
  have hz : nI 0 = 0 := rfl
  unfold f236
  rw [ck_at hs (by omega), ck_at hd (by omega), nI_clamp (by omega), nI_clamp (by omega), My_rd h (Or.inr (Or.inl (by omega))), My_rd h (Or.inr (Or.inl (by omega))), h1.1, h2.1]
  refine lp_236a (ld := Ld.length) hd hl Ld.length F S m (Nat.le_refl _) (by omega) h fun S2 m2 h2' a1 a2 => ?_
  rw [← hz]
  refine lp_236b hax hs hd hne (by omega) Ls.length 0 F S2 m2 (by omega) (by omega) h2' fun m3 b1 b2 b3 => ⟨fun o o1 o2 => (b1 o o1 o2).trans (a1 o o2), ⟨?_, ?_⟩, ?_⟩
  · rw [b2, pk_us, a1 127 (by decide), h2.1, nI_add, mvl_len, Nat.add_comm]
  · intro j y hy
    rw [mvl_eq] at hy
    rw [b3]
    by_cases c : j < Ls.length
    · rw [List.getElem?_append_left (by simp; exact c), List.getElem?_reverse (by simp; exact c), List.length_map, List.getElem?_map] at hy
      rw [if_pos ⟨by omega, by omega⟩, a2, if_neg (by omega), show 64 * s + Ls.length - 1 - (64 * d + j - 64 * d) = 64 * s + (Ls.length - 1 - j) by omega]
      cases hz : Ls[Ls.length - 1 - j]? with
      | none =>
        rw [hz] at hy
        exact absurd hy (by simp)
      | some z =>
        rw [hz] at hy
        have hy : flp (flx ax) z = y := by simpa using hy
        rw [h1.2 _ z hz, enc_flp (hg z (List.mem_of_getElem? hz)).1 (hg z (List.mem_of_getElem? hz)).2, hy]
    · rw [List.getElem?_append_right (by simp; omega), List.length_reverse, List.length_map] at hy
      have hj : j - Ls.length < Ld.length := by
        rcases Nat.lt_or_ge (j - Ls.length) Ld.length with z | z
        · exact z
        · rw [List.getElem?_eq_none z] at hy
          exact absurd hy (by simp)
      rw [if_neg (by omega), a2, if_pos ⟨by omega, by omega⟩, show 64 * d + j - Ls.length = 64 * d + (j - Ls.length) by omega]
      exact h2.2 _ y hy
  · intro i L hi hL hM
    refine ⟨?_, fun j y hy => ?_⟩
    · rw [b2, pk_un hi, a1 127 (by decide)]
      exact hM.1
    · have hj : j < L.length := by
        rcases Nat.lt_or_ge j L.length with z | z
        · exact z
        · rw [List.getElem?_eq_none z] at hy
          exact absurd hy (by simp)
      rw [b3, if_neg (by omega), a2, if_neg (by omega)]
      exact hM.2 j y hy
theorem f235_eq {F ax l t : Nat} {S : AmT} (hax : ax ≤ 1) : f235 F (nI ax) (nI l) (nI t) S = some (nI (pcl ax 0 0 l t), S) := by
  unfold f235 pcl
  rcases (show ax = 0 ∨ ax = 1 by omega) with rfl | rfl
  · rw [if_pos nI_0, if_pos rfl, show (8 : Int32) * nI t = nI (8 * t) from nI_mul 8 t, nI_add, Nat.zero_add, Nat.zero_add]
  · rw [if_neg (by decide), if_neg (by decide), show (8 : Int32) * nI l = nI (8 * l) from nI_mul 8 l, nI_add, Nat.zero_add, Nat.zero_add]
-- lines of piles
def MV (m : Mem) (ax lines n : Nat) (V : Nat → Nat → List Lf) : Prop := ∀ l t, l < lines → t < n → MP m (pcl ax 0 0 l t) (V l t)
theorem MV_congr {m m' : Mem} {ax lines n : Nat} {V : Nat → Nat → List Lf} (h1 : m' 127 = m 127) (h2 : m' 128 = m 128) (h : MV m ax lines n V) : MV m' ax lines n V := by
  unfold MV MP at h ⊢
  rw [h1, h2]
  exact h
def kap (K l0 j : Nat) (l : Nat) : Nat := if l < l0 then K else if l = l0 then j else 0
def MK (m0 m : Mem) (ax lines n k w : Nat) (V : Nat → Nat → List Lf) (l0 j : Nat) : Prop := (∀ o, o ≠ 127 → o ≠ 128 → m o = m0 o) ∧ MV m ax lines n (fun l t => Vs (flx ax) (osr k w) (ods k w) V (kap (ocn k w) l0 j l) l t)
theorem MK_next {m0 m : Mem} {ax lines n k w l0 : Nat} {V : Nat → Nat → List Lf} (h : MK m0 m ax lines n k w V l0 (ocn k w)) : MK m0 m ax lines n k w V (l0 + 1) 0 := by
  refine ⟨h.1, fun l t hl ht => ?_⟩
  have := h.2 l t hl ht
  have e : kap (ocn k w) (l0 + 1) 0 l = kap (ocn k w) l0 (ocn k w) l := by
    unfold kap
    (repeat' split) <;> omega
  dsimp only at this ⊢
  rw [e]
  exact this
-- what the class has shown of the lists
def okV (ax lines n k w : Nat) (V : Nat → Nat → List Lf) : Prop := ∀ l t, l < lines → t < n → (Vs (flx ax) (osr k w) (ods k w) V (ocn k w) l t).length ≤ 64 ∧ ∀ y, y ∈ V l t → y.1 < 64 ∧ y.2 < 4
theorem Vs_good {ax lines n k w : Nat} {V : Nat → Nat → List Lf} (hk : 1 ≤ k ∧ k ≤ 3) (hn : n = (k + 1) * w) (h : okV ax lines n k w V) : ∀ (j : Nat), j ≤ ocn k w → ∀ l t, l < lines → t < n → ∀ y, y ∈ Vs (flx ax) (osr k w) (ods k w) V j l t → y.1 < 64 ∧ y.2 < 4
  | 0, _, l, t, hl, ht, y, hy => (h l t hl ht).2 y hy
  | j + 1, hj, l, t, hl, ht, y, hy => by
    obtain ⟨o1, o2, -, -⟩ := o_ok (w := w) hk (show j < ocn k w by omega)
    have ih := Vs_good hk hn h j (by omega) l
    have hy : y ∈ trn (flx ax) (osr k w j) (ods k w j) (Vs (flx ax) (osr k w) (ods k w) V j) l t := hy
    unfold trn at hy
    by_cases q : t = ods k w j
    · rw [if_pos q] at hy
      rcases mvl_mem _ _ hy with hy | ⟨x, hx, rfl⟩
      · exact ih _ hl (by omega) y hy
      · have := ih _ hl (by omega) x hx
        exact ⟨this.1, xor_lt4 this.2 (by unfold flx; split <;> omega)⟩
    · rw [if_neg q] at hy
      exact ih t hl ht y hy
theorem ms_step {F : Nat} (hF : 6000 ≤ F) {S1 S : AmT} {m0 m W : Mem} {ax lines n k w l0 j : Nat} {V : Nat → Nat → List Lf} {xs xd : Int32} {Kc : AmT → Option (Int32 × AmT)} {Q : Int32 → Mem → Prop} (hax : ax ≤ 1) (hk : 1 ≤ k ∧ k ≤ 3) (hn : n = (k + 1) * w) (hn8 : n ≤ 8) (hl8 : lines ≤ 8) (hok : okV ax lines n k w V) (hl0 : l0 < lines) (hj : j < ocn k w) (hxs : xs = nI (osr k w j)) (hxd : xd = nI (ods k w j)) (h : My S1 S m W) (hM : MK m0 m ax lines n k w V l0 j)
    (H : ∀ S' m', My S1 S' m' W → MK m0 m' ax lines n k w V l0 (j + 1) → MG S1 W (Kc S') Q) : MG S1 W (am_b2 (f235 F (nI ax) (nI l0) xd S) fun v S' => am_b2 (f235 F (nI ax) (nI l0) xs S') fun v' S'' => (f236 F (nI ax) v v' S'').bind Kc) Q := by
  subst hxs hxd
  rw [f235_eq hax, b2_at, f235_eq hax, b2_at]
  obtain ⟨o1, o2, o3, -⟩ := o_ok (w := w) hk hj
  rw [← hn] at o1 o2
  have hb : bnd ax 0 0 lines n := ⟨fun _ => by omega, fun _ => by omega⟩
  have ek : kap (ocn k w) l0 j l0 = j := by
    unfold kap
    rw [if_neg (by omega), if_pos rfl]
  have a1 := hM.2 l0 _ hl0 o1
  have a2 := hM.2 l0 _ hl0 o2
  dsimp only at a1 a2
  rw [ek] at a1 a2
  have hlen : ∀ i l t, i ≤ ocn k w → l < lines → t < n → (Vs (flx ax) (osr k w) (ods k w) V i l t).length ≤ 64 := fun i l t hi hl ht => by
    have b1 := Vs_mono (fl := flx ax) (src := osr k w) (dst := ods k w) (V := V) (l := l) (t := t) (j := i) (ocn k w - i)
    rw [show i + (ocn k w - i) = ocn k w by omega] at b1
    have b2 := (hok l t hl ht).1
    omega
  have eV : Vs (flx ax) (osr k w) (ods k w) V (j + 1) = trn (flx ax) (osr k w j) (ods k w j) (Vs (flx ax) (osr k w) (ods k w) V j) := rfl
  have hsum : (Vs (flx ax) (osr k w) (ods k w) V j l0 (osr k w j)).length + (Vs (flx ax) (osr k w) (ods k w) V j l0 (ods k w j)).length ≤ 64 := by
    have b := hlen (j + 1) l0 (ods k w j) (by omega) hl0 o2
    rw [eV] at b
    unfold trn at b
    rw [if_pos rfl, mvl_len] at b
    exact b
  refine MG_bq (MO_236 hF h hax (pcl_lt hb hl0 o1) (pcl_lt hb hl0 o2) (fun z => o3 (pcl_inj hb hl0 o1 hl0 o2 z).2) a1 a2 hsum (Vs_good hk hn hok j (by omega) l0 _ hl0 o1)) fun S' m' h' hq => H S' m' h' ⟨fun o p1 p2 => (hq.1 o p1 p2).trans (hM.1 o p1 p2), fun l t hl ht => ?_⟩
  have hold := hM.2 l t hl ht
  dsimp only at hold ⊢
  have hkap : kap (ocn k w) l0 j l ≤ ocn k w := by
    unfold kap
    (repeat' split) <;> omega
  by_cases c : l = l0
  · subst c
    have ek' : kap (ocn k w) l (j + 1) l = j + 1 := by
      unfold kap
      rw [if_neg (by omega), if_pos rfl]
    rw [ek'] 
    rw [ek] at hold
    rw [eV]
    unfold trn
    by_cases c2 : t = ods k w j
    · subst c2
      rw [if_pos rfl]
      exact hq.2.1
    · rw [if_neg c2]
      exact hq.2.2 _ _ (fun z => c2 (pcl_inj hb hl ht hl0 o2 z).2) (hlen j l t (by omega) hl ht) hold
  · have ek' : kap (ocn k w) l0 (j + 1) l = kap (ocn k w) l0 j l := by
      unfold kap
      rw [if_neg c, if_neg c]
    rw [ek']
    exact hq.2.2 _ _ (fun z => c (pcl_inj hb hl ht hl0 o2 z).1) (hlen _ l t hkap hl ht) hold
