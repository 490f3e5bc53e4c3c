/-! folding: piles, and the class's way to turn them over -/
abbrev Lf : Type := Nat × Nat
def flp (fl : Nat) (x : Lf) : Lf := (x.1, x.2 ^^^ fl)
def mvl (fl : Nat) : List Lf → List Lf → List Lf
  | [], d => d
  | x :: r, d => mvl fl r (flp fl x :: d)
theorem mvl_len {fl : Nat} : ∀ (a d : List Lf), (mvl fl a d).length = a.length + d.length
  | [], d => by simp [mvl]
  | x :: r, d => by
    unfold mvl
    rw [mvl_len r (flp fl x :: d)]
    simp
    omega
theorem mvl_mem {fl : Nat} {y : Lf} : ∀ (a d : List Lf), y ∈ mvl fl a d → y ∈ d ∨ ∃ x, x ∈ a ∧ y = flp fl x
  | [], d, h => Or.inl h
  | x :: r, d, h => by
    unfold mvl at h
    rcases mvl_mem r (flp fl x :: d) h with h | ⟨z, h1, h2⟩
    · rcases List.mem_cons.mp h with h | h
      · exact Or.inr ⟨x, List.mem_cons_self, h⟩
      · exact Or.inl h
    · exact Or.inr ⟨z, List.mem_cons_of_mem _ h1, h2⟩
-- a pile of the class: from its top down
def chn (b l : Nat → Int32) : Int32 → List Lf → Prop
  | x, [] => x = -1
  | x, y :: r => x = nI y.1 ∧ y.1 < 64 ∧ y.2 < 4 ∧ l y.1 = nI y.2 ∧ chn b l (b y.1) r
theorem chn_congr {b l b' l' : Nat → Int32} : ∀ (L : List Lf) (x : Int32), (∀ y, y ∈ L → b' y.1 = b y.1 ∧ l' y.1 = l y.1) → chn b l x L → chn b' l' x L
  | [], _, _, h => h
  | y :: r, x, hh, h => by
    obtain ⟨h1, h2, h3, h4, h5⟩ := h
    obtain ⟨e1, e2⟩ := hh y List.mem_cons_self
    refine ⟨h1, h2, h3, e2.trans h4, ?_⟩
    rw [e1]
    exact chn_congr r _ (fun z hz => hh z (List.mem_cons_of_mem _ hz)) h5
def LV (I : Mem) (live : Nat → Prop) (pl : Nat → List Lf) (own : Nat → Nat) : Prop := ∀ i, live i → i < 64 ∧ chn (I 28) (I 29) (I 27 i) (pl i) ∧ (∀ y, y ∈ pl i → own y.1 = i) ∧ ((pl i).map Prod.fst).Nodup
def F3 (S S' : AmT) : Prop := S'.2 = S.2 ∧ ∀ o, o ≠ 27 → o ≠ 28 → o ≠ 29 → S'.1 o = S.1 o
theorem F3_refl (S : AmT) : F3 S S := ⟨rfl, fun _ _ _ _ => rfl⟩
theorem F3_trans {S S' S'' : AmT} (h : F3 S S') (h' : F3 S' S'') : F3 S S'' := ⟨h'.1.trans h.1, fun o a b c => (h'.2 o a b c).trans (h.2 o a b c)⟩
theorem xor_lt4 {a b : Nat} (ha : a < 4) (hb : b < 4) : a ^^^ b < 4 := Nat.xor_lt_two_pow (n := 2) ha hb
/-- one leaf comes over -/
theorem LV_mv {I : Mem} {live : Nat → Prop} {pl : Nat → List Lf} {own : Nat → Nat} {src dst q lf fl : Nat} {rest : List Lf} (h : LV I live pl own) (hs : live src) (hd : live dst) (hne : src ≠ dst) (hfl : fl < 4) (hp : pl src = (q, lf) :: rest) :
    LV (am_upI (am_upI (am_upI (am_upI I 27 src (I 28 q)) 28 q (I 27 dst)) 27 dst (nI q)) 29 q (nI (lf ^^^ fl))) live (fun i => if i = src then rest else if i = dst then flp fl (q, lf) :: pl dst else pl i) (fun p => if p = q then dst else own p) := by
  obtain ⟨s1, s2, s3, s4⟩ := h src hs
  rw [hp] at s2 s3 s4
  obtain ⟨c1, c2, c3, c4, c5⟩ := s2
  have hq : own q = src := s3 (q, lf) List.mem_cons_self
  have hnd : q ∉ rest.map Prod.fst ∧ (rest.map Prod.fst).Nodup := by
    rw [List.map_cons] at s4
    exact List.nodup_cons.mp s4
  have hnr : ∀ y, y ∈ rest → y.1 ≠ q := fun y hy z => hnd.1 (List.mem_map.mpr ⟨y, hy, z⟩)
  have e28 : (am_upI (am_upI (am_upI (am_upI I 27 src (I 28 q)) 28 q (I 27 dst)) 27 dst (nI q)) 29 q (nI (lf ^^^ fl))) 28 = upd (I 28) q (I 27 dst) := by simp only [am_upI_at, am_upI_ne, pk_us, pk_un, ne_eq, Nat.reduceEqDiff, not_false_eq_true]
  have e29 : (am_upI (am_upI (am_upI (am_upI I 27 src (I 28 q)) 28 q (I 27 dst)) 27 dst (nI q)) 29 q (nI (lf ^^^ fl))) 29 = upd (I 29) q (nI (lf ^^^ fl)) := by simp only [am_upI_at, am_upI_ne, pk_us, pk_un, ne_eq, Nat.reduceEqDiff, not_false_eq_true]
  have e27 : (am_upI (am_upI (am_upI (am_upI I 27 src (I 28 q)) 28 q (I 27 dst)) 27 dst (nI q)) 29 q (nI (lf ^^^ fl))) 27 = upd (upd (I 27) src (I 28 q)) dst (nI q) := by simp only [am_upI_at, am_upI_ne, pk_us, pk_un, ne_eq, Nat.reduceEqDiff, not_false_eq_true]
  intro i hi
  rw [e27, e28, e29]
  obtain ⟨i1, i2, i3, i4⟩ := h i hi
  have hoff : ∀ (L : List Lf) (x : Int32), (∀ y, y ∈ L → y.1 ≠ q) → chn (I 28) (I 29) x L → chn (upd (I 28) q (I 27 dst)) (upd (I 29) q (nI (lf ^^^ fl))) x L := fun L x hL hx => chn_congr L x (fun y hy => ⟨pk_un (hL y hy), pk_un (hL y hy)⟩) hx
  by_cases q1 : i = src
  · subst q1
    dsimp only
    rw [if_pos rfl, pk_un hne, pk_us]
    refine ⟨i1, hoff _ _ hnr c5, fun y hy => ?_, hnd.2⟩
    rw [if_neg (hnr y hy)]
    exact s3 y (List.mem_cons_of_mem _ hy)
  · by_cases q2 : i = dst
    · subst q2
      have hno : ∀ y, y ∈ pl i → y.1 ≠ q := fun y hy z => by
        have := i3 y hy
        rw [z, hq] at this
        exact hne this
      dsimp only
      rw [if_neg q1, if_pos rfl, pk_us]
      refine ⟨i1, ⟨rfl, c2, xor_lt4 c3 hfl, pk_us, ?_⟩, fun y hy => ?_, ?_⟩
      · show chn _ _ (upd (I 28) q (I 27 i) q) (pl i)
        rw [pk_us]
        exact hoff _ _ hno i2
      · rcases List.mem_cons.mp hy with hy | hy
        · subst hy
          exact if_pos rfl
        · rw [if_neg (hno y hy)]
          exact i3 y hy
      · rw [List.map_cons]
        refine List.nodup_cons.mpr ⟨fun z => ?_, i4⟩
        obtain ⟨y, hy, hy2⟩ := List.mem_map.mp z
        exact hno y hy hy2
    · have hno : ∀ y, y ∈ pl i → y.1 ≠ q := fun y hy z => by
        have := i3 y hy
        rw [z, hq] at this
        exact q1 this.symm
      dsimp only
      rw [if_neg q1, if_neg q2, pk_un q2, pk_un q1]
      refine ⟨i1, hoff _ _ hno i2, fun y hy => ?_, i4⟩
      rw [if_neg (hno y hy)]
      exact i3 y hy
def CQ (C : Option AmT) (Q : AmT → Prop) : Prop := ∃ S', C = some S' ∧ Q S'
theorem f298_no {F : Nat} {S : AmT} : f298 F (-1) S = some (0, S) := by
  unfold f298
  rw [if_pos (by decide)]
theorem f298_yes {F q : Nat} {S : AmT} (h : q < 64) : f298 F (nI q) S = some (1, S) := by
  unfold f298
  rw [if_neg (nI_pos (by omega)), if_neg (show ¬ (64 : Int32) ≤ nI q from nI_ge (b := 64) (by omega) (by omega))]
theorem LV_congr {I I' : Mem} {live : Nat → Prop} {pl : Nat → List Lf} {own : Nat → Nat} (h7 : ∀ i, I' 27 i = I 27 i) (h8 : I' 28 = I 28) (h9 : I' 29 = I 29) (h : LV I live pl own) : LV I' live pl own := by
  intro i hi
  obtain ⟨a1, a2, a3, a4⟩ := h i hi
  refine ⟨a1, ?_, a3, a4⟩
  rw [h7, h8, h9]
  exact a2
/-- a whole pile comes over -/
theorem lp_77 {F : Nat} {k43 : Int32 → Int32 → Int32 → Int32 → Int32 → Int32 → AmT → Option AmT} {x2 x3 x4 x5 x7 : Int32} {src dst fl : Nat} {Q : AmT → Prop} (hne : src ≠ dst) (hfl : fl < 4) {live : Nat → Prop} (hs : live src) (hd : live dst) (h64 : src < 64 ∧ dst < 64) :
    ∀ (L : List Lf) (n j : Nat) (x : Int32) (S : AmT) (pl : Nat → List Lf) (own : Nat → Nat), pl src = L → L.length + j ≤ 64 → L.length < n → LV (am_upI S.1 27 src x) live pl own → (∀ S' own', F3 S S' → LV S'.1 (fun i => live i ∧ i ≠ src) (fun i => if i = dst then mvl fl L (pl dst) else pl i) own' → CQ (k43 x2 x3 x4 x5 (nI fl) (x7 + 1) S') Q) → CQ (g77_110 F k43 n x2 x3 x4 x5 (nI fl) x7 (nI src) (nI dst) x (nI j) S) Q
  | L, 0, j, x, S, pl, own, h1, h2, h3, h4, H => absurd h3 (by omega)
  | [], n + 1, j, x, S, pl, own, h1, h2, h3, h4, H => by
    have ht : x = -1 := by
      have := (h4 src hs).2.1
      rw [h1, am_upI_at, pk_us] at this
      exact this
    subst ht
    have hfin : CQ (g77_179 F k43 x2 x3 x4 x5 (nI fl) x7 (nI src) S) Q := by
      unfold g77_179
      rw [ck_at h64.1 (by omega), nI_clamp (n := src) (by omega)]
      dsimp only [am_lt]
      refine H (am_upI S.1 27 src (-1), S.2) own ⟨rfl, fun o a b c => am_upI_ne a⟩ (fun i hi => ?_)
      obtain ⟨a1, a2, a3, a4⟩ := h4 i hi.1
      by_cases q : i = dst
      · subst q
        dsimp only
        rw [if_pos rfl]
        exact ⟨a1, a2, a3, a4⟩
      · dsimp only
        rw [if_neg q]
        exact ⟨a1, a2, a3, a4⟩
    unfold g77_110
    by_cases q : (64 : Int32) ≤ nI j
    · rw [if_pos q]
      exact hfin
    · rw [if_neg q, f298_no, b2_at, if_pos rfl]
      exact hfin
  | (q, lf) :: rest, n + 1, j, x, S, pl, own, h1, h2, h3, h4, H => by
    have hc := (h4 src hs).2.1
    rw [h1] at hc
    obtain ⟨c1, c2, c3, c4, c5⟩ := hc
    have c1 : x = nI q := by
      rw [am_upI_at, pk_us] at c1
      exact c1
    have c2 : q < 64 := c2
    have c4 : S.1 29 q = nI lf := by
      rw [am_upI_ne (by decide)] at c4
      exact c4
    subst c1
    rw [List.length_cons] at h2 h3
    unfold g77_110
    rw [if_neg (show ¬ (64 : Int32) ≤ nI j from nI_ge (b := 64) (by omega) (by omega)), f298_yes c2, b2_at, if_neg (by decide), ck_at c2 (by omega), ck_at h64.2 (by omega), ck_at c2 (by omega), nI_clamp (n := q) (by omega), nI_clamp (n := dst) (by omega)]
    dsimp only [am_lt]
    rw [ck_at h64.2 (by omega), ck_at c2 (by omega), ck_at c2 (by omega), nI_1]
    have e2 : am_upI (am_upI S.1 28 q (S.1 27 dst)) 27 dst (nI q) 29 q = nI lf := by simp only [am_upI_at, am_upI_ne, pk_us, pk_un, ne_eq, Nat.reduceEqDiff, not_false_eq_true]; exact c4
    rw [e2, nI_xor]
    have hmv := LV_mv h4 hs hd hne hfl h1
    refine lp_77 hne hfl hs hd h64 rest n (j + 1) _ _ (fun i => if i = src then rest else if i = dst then flp fl (q, lf) :: pl dst else pl i) (fun p => if p = q then dst else own p) (if_pos rfl) (by omega) (by omega) (LV_congr (fun i => ?_) ?_ ?_ hmv) (fun S' own' f3 hlv => H S' own' ?_ ?_)
    · simp only [am_upI_at, am_upI_ne, pk_us, pk_un, ne_eq, Nat.reduceEqDiff, not_false_eq_true]
      by_cases q1 : i = src
      · subst q1
        rw [pk_us, pk_un hne, pk_us]
      · by_cases q2 : i = dst
        · subst q2
          rw [pk_un q1, pk_us, pk_us]
        · rw [pk_un q1, pk_un q2, pk_un q2, pk_un q1, pk_un q1]
    · simp only [am_upI_at, am_upI_ne, pk_us, pk_un, ne_eq, Nat.reduceEqDiff, not_false_eq_true]
      rw [pk_un (Ne.symm hne)]
    · simp only [am_upI_at, am_upI_ne, pk_us, pk_un, ne_eq, Nat.reduceEqDiff, not_false_eq_true]
    · have f0 : F3 S (am_upI (am_upI (am_upI S.1 28 q (S.1 27 dst)) 27 dst (nI q)) 29 q (nI (lf ^^^ fl)), S.2) := ⟨rfl, fun o a b c => by
        show am_upI (am_upI (am_upI S.1 28 q (S.1 27 dst)) 27 dst (nI q)) 29 q (nI (lf ^^^ fl)) o = _
        rw [am_upI_ne c, am_upI_ne a, am_upI_ne b]⟩
      exact F3_trans f0 f3
    · intro i hi
      have := hlv i hi
      by_cases q1 : i = dst
      · subst q1
        dsimp only at this ⊢
        rw [if_pos rfl] at this ⊢
        rw [if_neg (Ne.symm hne), if_pos rfl] at this
        exact this
      · dsimp only at this ⊢
        rw [if_neg q1] at this ⊢
        rw [if_neg hi.2, if_neg q1] at this
        exact this
-- the window: lines of piles
def pcl (ax sr sc l t : Nat) : Nat := if ax = 0 then 8 * (sr + t) + (sc + l) else 8 * (sr + l) + (sc + t)
def CV (I : Mem) (ax sr sc lines n : Nat) (liv : Nat → Nat → Prop) (V : Nat → Nat → List Lf) : Prop := ∃ live pl own, LV I live pl own ∧ ∀ l t, l < lines → t < n → liv l t → live (pcl ax sr sc l t) ∧ pl (pcl ax sr sc l t) = V l t
def bnd (ax sr sc lines n : Nat) : Prop := (ax = 0 → sr + n ≤ 8 ∧ sc + lines ≤ 8) ∧ (ax ≠ 0 → sr + lines ≤ 8 ∧ sc + n ≤ 8)
theorem pcl_lt {ax sr sc lines n l t : Nat} (hb : bnd ax sr sc lines n) (hl : l < lines) (ht : t < n) : pcl ax sr sc l t < 64 := by
  unfold pcl
  by_cases h : ax = 0
  · have := hb.1 h
    rw [if_pos h]
    omega
  · have := hb.2 h
    rw [if_neg h]
    omega
theorem pcl_inj {ax sr sc lines n l t l' t' : Nat} (hb : bnd ax sr sc lines n) (hl : l < lines) (ht : t < n) (hl' : l' < lines) (ht' : t' < n) (h : pcl ax sr sc l t = pcl ax sr sc l' t') : l = l' ∧ t = t' := by
  unfold pcl at h
  by_cases q : ax = 0
  · have := hb.1 q
    rw [if_pos q, if_pos q] at h
    omega
  · have := hb.2 q
    rw [if_neg q, if_neg q] at h
    omega
theorem f78_eq {F : Nat} {S : AmT} {sr sc r c : Nat} (h0 : S.1 25 0 = nI sr) (h1 : S.1 25 1 = nI sc) (h : 8 * (sr + r) + (sc + c) < 64) : f78 F (nI r) (nI c) S = some (nI (8 * (sr + r) + (sc + c)), S) := by
  have e : ((nI sr + nI r) * 8 + nI sc) + nI c = nI (8 * (sr + r) + (sc + c)) := by
    show ((nI sr + nI r) * nI 8 + nI sc) + nI c = _
    rw [nI_add, nI_mul, nI_add, nI_add]
    congr 1
    omega
  unfold f78
  rw [h0, h1, e, if_neg (nI_pos (by omega)), if_pos (show nI (8 * (sr + r) + (sc + c)) < (64 : Int32) from nI_lt (b := 64) h (by omega))]
/-- one pile of a line over another -/
def tr1 (fl s d l0 : Nat) (V : Nat → Nat → List Lf) : Nat → Nat → List Lf := fun l t => if l = l0 ∧ t = d then mvl fl (V l s) (V l d) else V l t
def trn (fl s d : Nat) (V : Nat → Nat → List Lf) : Nat → Nat → List Lf := fun l t => if t = d then mvl fl (V l s) (V l d) else V l t
theorem lp_77c {F : Nat} (hF : 6000 ≤ F) {k43 : Int32 → Int32 → Int32 → Int32 → Int32 → Int32 → AmT → Option AmT} {x2 x3 x4 x5 x7 : Int32} {ax sr sc lines n fl s d l0 : Nat} {liv : Nat → Nat → Prop} {V : Nat → Nat → List Lf} {S : AmT} {Q : AmT → Prop} (hb : bnd ax sr sc lines n) (hfl : fl < 4) (hl : l0 < lines) (hs : s < n) (hd : d < n) (hne : s ≠ d) (hls : liv l0 s) (hld : liv l0 d) (hlen : (V l0 s).length ≤ 64) (h : CV S.1 ax sr sc lines n liv V)
    (H : ∀ S', F3 S S' → CV S'.1 ax sr sc lines n (fun l t => liv l t ∧ ¬ (l = l0 ∧ t = s)) (tr1 fl s d l0 V) → CQ (k43 x2 x3 x4 x5 (nI fl) (x7 + 1) S') Q) : CQ (g77_96 F k43 x2 x3 x4 x5 (nI fl) x7 (nI (pcl ax sr sc l0 s)) (nI (pcl ax sr sc l0 d)) S) Q := by
  obtain ⟨live, pl, own, hLV, hV⟩ := h
  obtain ⟨a1, a2⟩ := hV l0 s hl hs hls
  obtain ⟨b1, b2⟩ := hV l0 d hl hd hld
  have hne' : pcl ax sr sc l0 s ≠ pcl ax sr sc l0 d := fun z => hne (pcl_inj hb hl hs hl hd z).2
  have h64 := pcl_lt hb hl hs
  unfold g77_96
  rw [ck_at h64 (by omega), nI_clamp (by omega)]
  have hLV' : LV (am_upI S.1 27 (pcl ax sr sc l0 s) (S.1 27 (pcl ax sr sc l0 s))) live pl own := by
    refine LV_congr (fun i => ?_) (am_upI_ne (by decide)) (am_upI_ne (by decide)) hLV
    rw [am_upI_at]
    by_cases q : i = pcl ax sr sc l0 s
    · rw [q, pk_us]
    · rw [pk_un q]
  refine lp_77 hne' hfl a1 b1 ⟨h64, pcl_lt hb hl hd⟩ (V l0 s) F 0 _ S pl own a2 (by omega) (by omega) hLV' fun S' own' f3 hlv => H S' f3 ⟨_, _, own', hlv, fun l t hl' ht' hlt => ?_⟩
  obtain ⟨c1, c2⟩ := hV l t hl' ht' hlt.1
  refine ⟨⟨c1, fun z => hlt.2 (pcl_inj hb hl' ht' hl hs z)⟩, ?_⟩
  unfold tr1
  by_cases q : l = l0 ∧ t = d
  · obtain ⟨rfl, rfl⟩ := q
    rw [if_pos rfl, if_pos ⟨rfl, rfl⟩, b2]
  · rw [if_neg q, if_neg (fun z => q (pcl_inj hb hl' ht' hl hd z)), c2]
theorem lp_77l {F : Nat} (hF : 6000 ≤ F) {ax sr sc lines n fl s d : Nat} {by_ : Int32} {liv : Nat → Nat → Prop} {V : Nat → Nat → List Lf} {S0 : AmT} {Q : AmT → Prop} (hax : by_ = if ax = 0 then 1 else 0) (hb : bnd ax sr sc lines n) (hlines : lines ≤ 8) (hfl : fl < 4) (hs : s < n) (hd : d < n) (hne : s ≠ d) (hls : ∀ l, l < lines → liv l s ∧ liv l d) (hlen : ∀ l, l < lines → (V l s).length ≤ 64)
    (H : ∀ S', F3 S0 S' → CV S'.1 ax sr sc lines n (fun l t => liv l t ∧ t ≠ s) (trn fl s d V) → CQ (some S') Q) :
    ∀ (m l0 : Nat) (S : AmT), l0 ≤ lines → lines < m + l0 → F3 S0 S → S.1 25 0 = nI sr → S.1 25 1 = nI sc → CV S.1 ax sr sc lines n (fun l t => liv l t ∧ ¬ (l < l0 ∧ t = s)) (fun l t => if l < l0 then trn fl s d V l t else V l t) → CQ (g77_43 F m (nI s) (nI d) by_ (nI lines) (nI fl) (nI l0) S) Q
  | 0, l0, S, g1, g2, g3, g4, g5, g6 => absurd g2 (by omega)
  | m + 1, l0, S, g1, g2, g3, g4, g5, g6 => by
    unfold g77_43
    by_cases hl : l0 = lines
    · subst hl
      rw [if_pos (nI_le (Nat.le_refl _) (by omega))]
      refine H S g3 ?_
      obtain ⟨live, pl, own, hLV, hV⟩ := g6
      refine ⟨live, pl, own, hLV, fun l t hl ht hlt => ?_⟩
      have := hV l t hl ht ⟨hlt.1, fun z => hlt.2 z.2⟩
      dsimp only at this
      rw [if_pos hl] at this
      exact this
    · rw [if_neg (nI_ge (by omega) (by omega))]
      have hl' : l0 < lines := by omega
      have key : CQ (g77_96 F (fun x2 x3 x4 x5 x6 x7 S => g77_43 F m x2 x3 x4 x5 x6 x7 S) (nI s) (nI d) by_ (nI lines) (nI fl) (nI l0) (nI (pcl ax sr sc l0 s)) (nI (pcl ax sr sc l0 d)) S) Q := by
        refine lp_77c hF hb hfl hl' hs hd hne ⟨(hls l0 hl').1, by omega⟩ ⟨(hls l0 hl').2, by omega⟩ ?_ g6 fun S' f3 hcv => ?_
        · rw [if_neg (by omega)]
          exact hlen l0 hl'
        · rw [nI_1]
          refine lp_77l hF hax hb hlines hfl hs hd hne hls hlen H m (l0 + 1) S' (by omega) (by omega) (F3_trans g3 f3) ?_ ?_ ?_
          · rw [f3.2 25 (by decide) (by decide) (by decide)]
            exact g4
          · rw [f3.2 25 (by decide) (by decide) (by decide)]
            exact g5
          · obtain ⟨live, pl, own, hLV, hV⟩ := hcv
            refine ⟨live, pl, own, hLV, fun l t hl ht hlt => ?_⟩
            obtain ⟨c1, c2⟩ := hV l t hl ht ⟨⟨hlt.1, fun z => hlt.2 ⟨by omega, z.2⟩⟩, fun z => hlt.2 ⟨by omega, z.2⟩⟩
            refine ⟨c1, c2.trans ?_⟩
            unfold tr1 trn
            dsimp only
            by_cases q : l = l0
            · subst q
              rw [if_pos (show l < l + 1 by omega)]
              simp only [Nat.lt_irrefl, if_false, true_and]
            · rw [if_neg (fun z => q z.1)]
              by_cases q2 : l < l0
              · rw [if_pos q2, if_pos (show l < l0 + 1 by omega)]
              · rw [if_neg q2, if_neg (show ¬ l < l0 + 1 by omega)]
      unfold g77_72
      by_cases q : ax = 0
      · have hb0 := hb.1 q
        rw [if_pos q] at hax
        subst hax
        rw [if_neg (by decide), f78_eq g4 g5 (by omega), b2_at, if_neg (by decide), f78_eq g4 g5 (by omega), b2_at]
        unfold pcl at key
        rw [if_pos q, if_pos q] at key
        exact key
      · have hb0 := hb.2 q
        rw [if_neg q] at hax
        subst hax
        rw [if_pos rfl, f78_eq g4 g5 (by omega), b2_at, if_pos rfl, f78_eq g4 g5 (by omega), b2_at]
        unfold pcl at key
        rw [if_neg q, if_neg q] at key
        exact key
def flx (ax : Nat) : Nat := if ax = 0 then 3 else 2
/-- turnOver() -/
theorem f77_ok {F : Nat} (hF : 6000 ≤ F) {ax sr sc lines n s d : Nat} {liv : Nat → Nat → Prop} {V : Nat → Nat → List Lf} {S : AmT} (hax : ax ≤ 1) (hb : bnd ax sr sc lines n) (hlines : lines ≤ 8) (hs : s < n) (hd : d < n) (hne : s ≠ d) (hls : ∀ l, l < lines → liv l s ∧ liv l d) (hlen : ∀ l, l < lines → (V l s).length ≤ 64) (h0 : S.1 25 0 = nI sr) (h1 : S.1 25 1 = nI sc) (h2 : S.1 26 (if ax = 0 then 1 else 0) = nI lines) (h : CV S.1 ax sr sc lines n liv V) :
    ∃ S', f77 F (nI ax) (nI s) (nI d) S = some S' ∧ F3 S S' ∧ CV S'.1 ax sr sc lines n (fun l t => liv l t ∧ t ≠ s) (trn (flx ax) s d V) := by
  have key : CQ (g77_43 F F (nI s) (nI d) (if ax = 0 then 1 else 0) (nI lines) (nI (flx ax)) 0 S) (fun S' => F3 S S' ∧ CV S'.1 ax sr sc lines n (fun l t => liv l t ∧ t ≠ s) (trn (flx ax) s d V)) := by
    refine lp_77l hF rfl hb hlines (by unfold flx; split <;> omega) hs hd hne hls hlen (fun S' f3 hcv => ⟨S', rfl, f3, hcv⟩) F 0 S (by omega) (by omega) (F3_refl S) h0 h1 ?_
    obtain ⟨live, pl, own, hLV, hV⟩ := h
    refine ⟨live, pl, own, hLV, fun l t hl ht hlt => ?_⟩
    dsimp only
    rw [if_neg (by omega)]
    exact hV l t hl ht hlt.1
  obtain ⟨S', k1, k2, k3⟩ := key
  refine ⟨S', ?_, k2, k3⟩
  rcases (show ax = 0 ∨ ax = 1 by omega) with rfl | rfl
  · rw [← k1]
    unfold f77 g77_9 g77_25 g77_38
    rw [if_pos nI_0, if_neg (by decide), show ∀ k : Option AmT, am_ck (1 : Int32) 2 k = k from fun k => ck_at (p := 1) (by omega) (by omega)]
    rw [if_pos rfl] at h2
    rw [tz1, h2]
    rfl
  · rw [← k1]
    unfold f77 g77_9 g77_25 g77_38
    rw [if_neg (by decide), if_pos rfl, show ∀ k : Option AmT, am_ck (0 : Int32) 2 k = k from fun k => ck_at (p := 0) (by omega) (by omega)]
    rw [if_neg (by omega)] at h2
    rw [tz0, h2]
    rfl
