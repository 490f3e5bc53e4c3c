/-! the model's change() and undo(): halves of its arrays copied (printed by wip/gen/gen41.py) -/
def hfs : List (Nat × Nat) := [(96, 16), (97, 3), (98, 3), (99, 3), (100, 72), (101, 576), (102, 5760), (103, 16), (104, 16), (105, 16), (106, 16), (107, 16), (108, 8), (109, 8), (110, 8), (111, 8), (112, 8), (113, 8), (114, 8), (115, 8), (116, 128), (117, 1024), (118, 1024), (119, 4), (120, 4), (121, 16), (122, 4), (123, 4), (124, 5)]
def hf (k : Nat) : Nat := match hfs.find? (fun q => q.1 == k) with
  | some q => q.2
  | none => 0
def cpF (I : Mem) (K h i : Nat) : Mem := fun k j => if k = K ∧ h ≤ j ∧ j < h + i then I K (j - h) else I k j
def cpB (I : Mem) (K h i : Nat) : Mem := fun k j => if k = K ∧ j < i then I K (h + j) else I k j
theorem cpF_0 {I : Mem} {K h : Nat} : cpF I K h 0 = I := by
  funext k j
  unfold cpF
  rw [if_neg (by omega)]
theorem cpB_0 {I : Mem} {K h : Nat} : cpB I K h 0 = I := by
  funext k j
  unfold cpB
  rw [if_neg (by omega)]
theorem cpF_s {I : Mem} {K h i : Nat} (hi : i < h) : am_upI (cpF I K h i) K (h + i) (cpF I K h i K i) = cpF I K h (i + 1) := by
  funext k j
  unfold am_upI cpF
  by_cases hk : k = K
  · subst hk
    by_cases hj : j = h + i
    · subst hj
      rw [if_pos rfl, if_pos rfl, if_neg (by omega), if_pos ⟨rfl, by omega, by omega⟩]
      congr 1
      omega
    · rw [if_pos rfl, if_neg hj]
      by_cases h2 : h ≤ j ∧ j < h + i
      · rw [if_pos ⟨rfl, h2⟩, if_pos ⟨rfl, h2.1, by omega⟩]
      · rw [if_neg (fun z => h2 z.2), if_neg (fun z => by omega)]
  · rw [if_neg hk, if_neg (fun z => hk z.1), if_neg (fun z => hk z.1)]
theorem cpB_s {I : Mem} {K h i : Nat} (hi : i < h) : am_upI (cpB I K h i) K i (cpB I K h i K (h + i)) = cpB I K h (i + 1) := by
  funext k j
  unfold am_upI cpB
  by_cases hk : k = K
  · subst hk
    by_cases hj : j = i
    · subst hj
      rw [if_pos rfl, if_pos rfl, if_neg (by omega), if_pos ⟨rfl, by omega⟩]
    · rw [if_pos rfl, if_neg hj]
      by_cases h2 : j < i
      · rw [if_pos ⟨rfl, h2⟩, if_pos ⟨rfl, by omega⟩]
      · rw [if_neg (fun z => h2 z.2), if_neg (fun z => by omega)]
  · rw [if_neg hk, if_neg (fun z => hk z.1), if_neg (fun z => hk z.1)]
theorem ck_at {α : Type} {p n : Nat} {k : Option α} (h : p < n) (hn : n < 2147483648) : am_ck (nI p) n k = k := by
  unfold am_ck
  rw [if_neg (nI_in h hn)]
theorem b01_at {α : Type} {x : Int32} {k : Option α} (h : x = 0 ∨ x = 1) : am_b01 x k = k := by
  unfold am_b01
  rw [if_pos h]
theorem lt_at {α β : Type} {x : α} {k : α → β} : am_lt x k = k x := rfl
theorem b2_at {α β γ : Type} {v : α} {S : β} {k : α → β → Option γ} : am_b2 (some (v, S)) k = k v S := rfl
theorem bind_at {α β : Type} {v : α} {k : α → Option β} : (some v).bind k = k v := rfl
theorem nI_add1 {i : Nat} : nI i + 1 = nI (i + 1) := nI_1 i
theorem kF_96 {F : Nat} {I : Mem} {R : Nat → Option Nat} : ∀ (m i : Nat), i ≤ 16 → 16 < m + i → g198c96_2 F m (nI 16) 0 (nI i) (cpF I 96 16 i, R) = some (cpF I 96 16 16, R)
  | 0, i, h1, h2 => absurd h2 (by omega)
  | m + 1, i, h1, h2 => by
    unfold g198c96_2
    by_cases hi : i = 16
    · subst hi
      rw [if_pos (nI_le (Nat.le_refl _) (by omega))]
    · have hlt : i < 16 := by omega
      rw [if_neg (nI_ge hlt (by omega)), if_pos rfl]
      unfold g198c96_19
      rw [if_pos rfl]
      unfold g198c96_31
      rw [nI_add, ck_at (by omega) (by omega), ck_at (by omega) (by omega), lt_at]
      simp only [nI_clamp (show i < 2 ^ 31 by omega), nI_clamp (show 16 + i < 2 ^ 31 by omega)]
      rw [cpF_s hlt, nI_add1]
      exact kF_96 m (i + 1) (by omega) (by omega)
theorem kB_96 {F : Nat} {I : Mem} {R : Nat → Option Nat} : ∀ (m i : Nat), i ≤ 16 → 16 < m + i → g198c96_2 F m (nI 16) 1 (nI i) (cpB I 96 16 i, R) = some (cpB I 96 16 16, R)
  | 0, i, h1, h2 => absurd h2 (by omega)
  | m + 1, i, h1, h2 => by
    unfold g198c96_2
    by_cases hi : i = 16
    · subst hi
      rw [if_pos (nI_le (Nat.le_refl _) (by omega))]
    · have hlt : i < 16 := by omega
      rw [if_neg (nI_ge hlt (by omega)), if_neg (by decide)]
      unfold g198c96_19
      rw [if_neg (by decide)]
      unfold g198c96_31
      rw [nI_add, ck_at (by omega) (by omega), ck_at (by omega) (by omega), lt_at]
      simp only [nI_clamp (show i < 2 ^ 31 by omega), nI_clamp (show 16 + i < 2 ^ 31 by omega)]
      rw [cpB_s hlt, nI_add1]
      exact kB_96 m (i + 1) (by omega) (by omega)
theorem kF_97 {F : Nat} {I : Mem} {R : Nat → Option Nat} : ∀ (m i : Nat), i ≤ 3 → 3 < m + i → g198c97_2 F m (nI 3) 0 (nI i) (cpF I 97 3 i, R) = some (cpF I 97 3 3, R)
  | 0, i, h1, h2 => absurd h2 (by omega)
  | m + 1, i, h1, h2 => by
    unfold g198c97_2
    by_cases hi : i = 3
    · subst hi
      rw [if_pos (nI_le (Nat.le_refl _) (by omega))]
    · have hlt : i < 3 := by omega
      rw [if_neg (nI_ge hlt (by omega)), if_pos rfl]
      unfold g198c97_19
      rw [if_pos rfl]
      unfold g198c97_31
      rw [nI_add, ck_at (by omega) (by omega), ck_at (by omega) (by omega), lt_at]
      simp only [nI_clamp (show i < 2 ^ 31 by omega), nI_clamp (show 3 + i < 2 ^ 31 by omega)]
      rw [cpF_s hlt, nI_add1]
      exact kF_97 m (i + 1) (by omega) (by omega)
theorem kB_97 {F : Nat} {I : Mem} {R : Nat → Option Nat} : ∀ (m i : Nat), i ≤ 3 → 3 < m + i → g198c97_2 F m (nI 3) 1 (nI i) (cpB I 97 3 i, R) = some (cpB I 97 3 3, R)
  | 0, i, h1, h2 => absurd h2 (by omega)
  | m + 1, i, h1, h2 => by
    unfold g198c97_2
    by_cases hi : i = 3
    · subst hi
      rw [if_pos (nI_le (Nat.le_refl _) (by omega))]
    · have hlt : i < 3 := by omega
      rw [if_neg (nI_ge hlt (by omega)), if_neg (by decide)]
      unfold g198c97_19
      rw [if_neg (by decide)]
      unfold g198c97_31
      rw [nI_add, ck_at (by omega) (by omega), ck_at (by omega) (by omega), lt_at]
      simp only [nI_clamp (show i < 2 ^ 31 by omega), nI_clamp (show 3 + i < 2 ^ 31 by omega)]
      rw [cpB_s hlt, nI_add1]
      exact kB_97 m (i + 1) (by omega) (by omega)
theorem kF_98 {F : Nat} {I : Mem} {R : Nat → Option Nat} : ∀ (m i : Nat), i ≤ 3 → 3 < m + i → g198c98_2 F m (nI 3) 0 (nI i) (cpF I 98 3 i, R) = some (cpF I 98 3 3, R)
  | 0, i, h1, h2 => absurd h2 (by omega)
  | m + 1, i, h1, h2 => by
    unfold g198c98_2
    by_cases hi : i = 3
    · subst hi
      rw [if_pos (nI_le (Nat.le_refl _) (by omega))]
    · have hlt : i < 3 := by omega
      rw [if_neg (nI_ge hlt (by omega)), if_pos rfl]
      unfold g198c98_19
      rw [if_pos rfl]
      unfold g198c98_31
      rw [nI_add, ck_at (by omega) (by omega), ck_at (by omega) (by omega), lt_at]
      simp only [nI_clamp (show i < 2 ^ 31 by omega), nI_clamp (show 3 + i < 2 ^ 31 by omega)]
      rw [cpF_s hlt, nI_add1]
      exact kF_98 m (i + 1) (by omega) (by omega)
theorem kB_98 {F : Nat} {I : Mem} {R : Nat → Option Nat} : ∀ (m i : Nat), i ≤ 3 → 3 < m + i → g198c98_2 F m (nI 3) 1 (nI i) (cpB I 98 3 i, R) = some (cpB I 98 3 3, R)
  | 0, i, h1, h2 => absurd h2 (by omega)
  | m + 1, i, h1, h2 => by
    unfold g198c98_2
    by_cases hi : i = 3
    · subst hi
      rw [if_pos (nI_le (Nat.le_refl _) (by omega))]
    · have hlt : i < 3 := by omega
      rw [if_neg (nI_ge hlt (by omega)), if_neg (by decide)]
      unfold g198c98_19
      rw [if_neg (by decide)]
      unfold g198c98_31
      rw [nI_add, ck_at (by omega) (by omega), ck_at (by omega) (by omega), lt_at]
      simp only [nI_clamp (show i < 2 ^ 31 by omega), nI_clamp (show 3 + i < 2 ^ 31 by omega)]
      rw [cpB_s hlt, nI_add1]
      exact kB_98 m (i + 1) (by omega) (by omega)
theorem kF_99 {F : Nat} {I : Mem} {R : Nat → Option Nat} : ∀ (m i : Nat), i ≤ 3 → 3 < m + i → g198c99_2 F m (nI 3) 0 (nI i) (cpF I 99 3 i, R) = some (cpF I 99 3 3, R)
  | 0, i, h1, h2 => absurd h2 (by omega)
  | m + 1, i, h1, h2 => by
    unfold g198c99_2
    by_cases hi : i = 3
    · subst hi
      rw [if_pos (nI_le (Nat.le_refl _) (by omega))]
    · have hlt : i < 3 := by omega
      rw [if_neg (nI_ge hlt (by omega)), if_pos rfl]
      unfold g198c99_19
      rw [if_pos rfl]
      unfold g198c99_31
      rw [nI_add, ck_at (by omega) (by omega), ck_at (by omega) (by omega), lt_at]
      simp only [nI_clamp (show i < 2 ^ 31 by omega), nI_clamp (show 3 + i < 2 ^ 31 by omega)]
      rw [cpF_s hlt, nI_add1]
      exact kF_99 m (i + 1) (by omega) (by omega)
theorem kB_99 {F : Nat} {I : Mem} {R : Nat → Option Nat} : ∀ (m i : Nat), i ≤ 3 → 3 < m + i → g198c99_2 F m (nI 3) 1 (nI i) (cpB I 99 3 i, R) = some (cpB I 99 3 3, R)
  | 0, i, h1, h2 => absurd h2 (by omega)
  | m + 1, i, h1, h2 => by
    unfold g198c99_2
    by_cases hi : i = 3
    · subst hi
      rw [if_pos (nI_le (Nat.le_refl _) (by omega))]
    · have hlt : i < 3 := by omega
      rw [if_neg (nI_ge hlt (by omega)), if_neg (by decide)]
      unfold g198c99_19
      rw [if_neg (by decide)]
      unfold g198c99_31
      rw [nI_add, ck_at (by omega) (by omega), ck_at (by omega) (by omega), lt_at]
      simp only [nI_clamp (show i < 2 ^ 31 by omega), nI_clamp (show 3 + i < 2 ^ 31 by omega)]
      rw [cpB_s hlt, nI_add1]
      exact kB_99 m (i + 1) (by omega) (by omega)
theorem kF_100 {F : Nat} {I : Mem} {R : Nat → Option Nat} : ∀ (m i : Nat), i ≤ 72 → 72 < m + i → g198c100_2 F m (nI 72) 0 (nI i) (cpF I 100 72 i, R) = some (cpF I 100 72 72, R)
  | 0, i, h1, h2 => absurd h2 (by omega)
  | m + 1, i, h1, h2 => by
    unfold g198c100_2
    by_cases hi : i = 72
    · subst hi
      rw [if_pos (nI_le (Nat.le_refl _) (by omega))]
    · have hlt : i < 72 := by omega
      rw [if_neg (nI_ge hlt (by omega)), if_pos rfl]
      unfold g198c100_19
      rw [if_pos rfl]
      unfold g198c100_31
      rw [nI_add, ck_at (by omega) (by omega), ck_at (by omega) (by omega), lt_at]
      simp only [nI_clamp (show i < 2 ^ 31 by omega), nI_clamp (show 72 + i < 2 ^ 31 by omega)]
      rw [cpF_s hlt, nI_add1]
      exact kF_100 m (i + 1) (by omega) (by omega)
theorem kB_100 {F : Nat} {I : Mem} {R : Nat → Option Nat} : ∀ (m i : Nat), i ≤ 72 → 72 < m + i → g198c100_2 F m (nI 72) 1 (nI i) (cpB I 100 72 i, R) = some (cpB I 100 72 72, R)
  | 0, i, h1, h2 => absurd h2 (by omega)
  | m + 1, i, h1, h2 => by
    unfold g198c100_2
    by_cases hi : i = 72
    · subst hi
      rw [if_pos (nI_le (Nat.le_refl _) (by omega))]
    · have hlt : i < 72 := by omega
      rw [if_neg (nI_ge hlt (by omega)), if_neg (by decide)]
      unfold g198c100_19
      rw [if_neg (by decide)]
      unfold g198c100_31
      rw [nI_add, ck_at (by omega) (by omega), ck_at (by omega) (by omega), lt_at]
      simp only [nI_clamp (show i < 2 ^ 31 by omega), nI_clamp (show 72 + i < 2 ^ 31 by omega)]
      rw [cpB_s hlt, nI_add1]
      exact kB_100 m (i + 1) (by omega) (by omega)
theorem kF_101 {F : Nat} {I : Mem} {R : Nat → Option Nat} : ∀ (m i : Nat), i ≤ 576 → 576 < m + i → g198c101_2 F m (nI 576) 0 (nI i) (cpF I 101 576 i, R) = some (cpF I 101 576 576, R)
  | 0, i, h1, h2 => absurd h2 (by omega)
  | m + 1, i, h1, h2 => by
    unfold g198c101_2
    by_cases hi : i = 576
    · subst hi
      rw [if_pos (nI_le (Nat.le_refl _) (by omega))]
    · have hlt : i < 576 := by omega
      rw [if_neg (nI_ge hlt (by omega)), if_pos rfl]
      unfold g198c101_19
      rw [if_pos rfl]
      unfold g198c101_31
      rw [nI_add, ck_at (by omega) (by omega), ck_at (by omega) (by omega), lt_at]
      simp only [nI_clamp (show i < 2 ^ 31 by omega), nI_clamp (show 576 + i < 2 ^ 31 by omega)]
      rw [cpF_s hlt, nI_add1]
      exact kF_101 m (i + 1) (by omega) (by omega)
theorem kB_101 {F : Nat} {I : Mem} {R : Nat → Option Nat} : ∀ (m i : Nat), i ≤ 576 → 576 < m + i → g198c101_2 F m (nI 576) 1 (nI i) (cpB I 101 576 i, R) = some (cpB I 101 576 576, R)
  | 0, i, h1, h2 => absurd h2 (by omega)
  | m + 1, i, h1, h2 => by
    unfold g198c101_2
    by_cases hi : i = 576
    · subst hi
      rw [if_pos (nI_le (Nat.le_refl _) (by omega))]
    · have hlt : i < 576 := by omega
      rw [if_neg (nI_ge hlt (by omega)), if_neg (by decide)]
      unfold g198c101_19
      rw [if_neg (by decide)]
      unfold g198c101_31
      rw [nI_add, ck_at (by omega) (by omega), ck_at (by omega) (by omega), lt_at]
      simp only [nI_clamp (show i < 2 ^ 31 by omega), nI_clamp (show 576 + i < 2 ^ 31 by omega)]
      rw [cpB_s hlt, nI_add1]
      exact kB_101 m (i + 1) (by omega) (by omega)
theorem kF_102 {F : Nat} {I : Mem} {R : Nat → Option Nat} : ∀ (m i : Nat), i ≤ 5760 → 5760 < m + i → g198c102_2 F m (nI 5760) 0 (nI i) (cpF I 102 5760 i, R) = some (cpF I 102 5760 5760, R)
  | 0, i, h1, h2 => absurd h2 (by omega)
  | m + 1, i, h1, h2 => by
    unfold g198c102_2
    by_cases hi : i = 5760
    · subst hi
      rw [if_pos (nI_le (Nat.le_refl _) (by omega))]
    · have hlt : i < 5760 := by omega
      rw [if_neg (nI_ge hlt (by omega)), if_pos rfl]
      unfold g198c102_19
      rw [if_pos rfl]
      unfold g198c102_31
      rw [nI_add, ck_at (by omega) (by omega), ck_at (by omega) (by omega), lt_at]
      simp only [nI_clamp (show i < 2 ^ 31 by omega), nI_clamp (show 5760 + i < 2 ^ 31 by omega)]
      rw [cpF_s hlt, nI_add1]
      exact kF_102 m (i + 1) (by omega) (by omega)
theorem kB_102 {F : Nat} {I : Mem} {R : Nat → Option Nat} : ∀ (m i : Nat), i ≤ 5760 → 5760 < m + i → g198c102_2 F m (nI 5760) 1 (nI i) (cpB I 102 5760 i, R) = some (cpB I 102 5760 5760, R)
  | 0, i, h1, h2 => absurd h2 (by omega)
  | m + 1, i, h1, h2 => by
    unfold g198c102_2
    by_cases hi : i = 5760
    · subst hi
      rw [if_pos (nI_le (Nat.le_refl _) (by omega))]
    · have hlt : i < 5760 := by omega
      rw [if_neg (nI_ge hlt (by omega)), if_neg (by decide)]
      unfold g198c102_19
      rw [if_neg (by decide)]
      unfold g198c102_31
      rw [nI_add, ck_at (by omega) (by omega), ck_at (by omega) (by omega), lt_at]
      simp only [nI_clamp (show i < 2 ^ 31 by omega), nI_clamp (show 5760 + i < 2 ^ 31 by omega)]
      rw [cpB_s hlt, nI_add1]
      exact kB_102 m (i + 1) (by omega) (by omega)
theorem kF_103 {F : Nat} {I : Mem} {R : Nat → Option Nat} : ∀ (m i : Nat), i ≤ 16 → 16 < m + i → g198c103_2 F m (nI 16) 0 (nI i) (cpF I 103 16 i, R) = some (cpF I 103 16 16, R)
  | 0, i, h1, h2 => absurd h2 (by omega)
  | m + 1, i, h1, h2 => by
    unfold g198c103_2
    by_cases hi : i = 16
    · subst hi
      rw [if_pos (nI_le (Nat.le_refl _) (by omega))]
    · have hlt : i < 16 := by omega
      rw [if_neg (nI_ge hlt (by omega)), if_pos rfl]
      unfold g198c103_19
      rw [if_pos rfl]
      unfold g198c103_31
      rw [nI_add, ck_at (by omega) (by omega), ck_at (by omega) (by omega), lt_at]
      simp only [nI_clamp (show i < 2 ^ 31 by omega), nI_clamp (show 16 + i < 2 ^ 31 by omega)]
      rw [cpF_s hlt, nI_add1]
      exact kF_103 m (i + 1) (by omega) (by omega)
theorem kB_103 {F : Nat} {I : Mem} {R : Nat → Option Nat} : ∀ (m i : Nat), i ≤ 16 → 16 < m + i → g198c103_2 F m (nI 16) 1 (nI i) (cpB I 103 16 i, R) = some (cpB I 103 16 16, R)
  | 0, i, h1, h2 => absurd h2 (by omega)
  | m + 1, i, h1, h2 => by
    unfold g198c103_2
    by_cases hi : i = 16
    · subst hi
      rw [if_pos (nI_le (Nat.le_refl _) (by omega))]
    · have hlt : i < 16 := by omega
      rw [if_neg (nI_ge hlt (by omega)), if_neg (by decide)]
      unfold g198c103_19
      rw [if_neg (by decide)]
      unfold g198c103_31
      rw [nI_add, ck_at (by omega) (by omega), ck_at (by omega) (by omega), lt_at]
      simp only [nI_clamp (show i < 2 ^ 31 by omega), nI_clamp (show 16 + i < 2 ^ 31 by omega)]
      rw [cpB_s hlt, nI_add1]
      exact kB_103 m (i + 1) (by omega) (by omega)
theorem kF_104 {F : Nat} {I : Mem} {R : Nat → Option Nat} : ∀ (m i : Nat), i ≤ 16 → 16 < m + i → g198c104_2 F m (nI 16) 0 (nI i) (cpF I 104 16 i, R) = some (cpF I 104 16 16, R)
  | 0, i, h1, h2 => absurd h2 (by omega)
  | m + 1, i, h1, h2 => by
    unfold g198c104_2
    by_cases hi : i = 16
    · subst hi
      rw [if_pos (nI_le (Nat.le_refl _) (by omega))]
    · have hlt : i < 16 := by omega
      rw [if_neg (nI_ge hlt (by omega)), if_pos rfl]
      unfold g198c104_19
      rw [if_pos rfl]
      unfold g198c104_31
      rw [nI_add, ck_at (by omega) (by omega), ck_at (by omega) (by omega), lt_at]
      simp only [nI_clamp (show i < 2 ^ 31 by omega), nI_clamp (show 16 + i < 2 ^ 31 by omega)]
      rw [cpF_s hlt, nI_add1]
      exact kF_104 m (i + 1) (by omega) (by omega)
theorem kB_104 {F : Nat} {I : Mem} {R : Nat → Option Nat} : ∀ (m i : Nat), i ≤ 16 → 16 < m + i → g198c104_2 F m (nI 16) 1 (nI i) (cpB I 104 16 i, R) = some (cpB I 104 16 16, R)
  | 0, i, h1, h2 => absurd h2 (by omega)
  | m + 1, i, h1, h2 => by
    unfold g198c104_2
    by_cases hi : i = 16
    · subst hi
      rw [if_pos (nI_le (Nat.le_refl _) (by omega))]
    · have hlt : i < 16 := by omega
      rw [if_neg (nI_ge hlt (by omega)), if_neg (by decide)]
      unfold g198c104_19
      rw [if_neg (by decide)]
      unfold g198c104_31
      rw [nI_add, ck_at (by omega) (by omega), ck_at (by omega) (by omega), lt_at]
      simp only [nI_clamp (show i < 2 ^ 31 by omega), nI_clamp (show 16 + i < 2 ^ 31 by omega)]
      rw [cpB_s hlt, nI_add1]
      exact kB_104 m (i + 1) (by omega) (by omega)
theorem kF_105 {F : Nat} {I : Mem} {R : Nat → Option Nat} : ∀ (m i : Nat), i ≤ 16 → 16 < m + i → g198c105_2 F m (nI 16) 0 (nI i) (cpF I 105 16 i, R) = some (cpF I 105 16 16, R)
  | 0, i, h1, h2 => absurd h2 (by omega)
  | m + 1, i, h1, h2 => by
    unfold g198c105_2
    by_cases hi : i = 16
    · subst hi
      rw [if_pos (nI_le (Nat.le_refl _) (by omega))]
    · have hlt : i < 16 := by omega
      rw [if_neg (nI_ge hlt (by omega)), if_pos rfl]
      unfold g198c105_19
      rw [if_pos rfl]
      unfold g198c105_31
      rw [nI_add, ck_at (by omega) (by omega), ck_at (by omega) (by omega), lt_at]
      simp only [nI_clamp (show i < 2 ^ 31 by omega), nI_clamp (show 16 + i < 2 ^ 31 by omega)]
      rw [cpF_s hlt, nI_add1]
      exact kF_105 m (i + 1) (by omega) (by omega)
theorem kB_105 {F : Nat} {I : Mem} {R : Nat → Option Nat} : ∀ (m i : Nat), i ≤ 16 → 16 < m + i → g198c105_2 F m (nI 16) 1 (nI i) (cpB I 105 16 i, R) = some (cpB I 105 16 16, R)
  | 0, i, h1, h2 => absurd h2 (by omega)
  | m + 1, i, h1, h2 => by
    unfold g198c105_2
    by_cases hi : i = 16
    · subst hi
      rw [if_pos (nI_le (Nat.le_refl _) (by omega))]
    · have hlt : i < 16 := by omega
      rw [if_neg (nI_ge hlt (by omega)), if_neg (by decide)]
      unfold g198c105_19
      rw [if_neg (by decide)]
      unfold g198c105_31
      rw [nI_add, ck_at (by omega) (by omega), ck_at (by omega) (by omega), lt_at]
      simp only [nI_clamp (show i < 2 ^ 31 by omega), nI_clamp (show 16 + i < 2 ^ 31 by omega)]
      rw [cpB_s hlt, nI_add1]
      exact kB_105 m (i + 1) (by omega) (by omega)
theorem kF_106 {F : Nat} {I : Mem} {R : Nat → Option Nat} : ∀ (m i : Nat), i ≤ 16 → 16 < m + i → g198c106_2 F m (nI 16) 0 (nI i) (cpF I 106 16 i, R) = some (cpF I 106 16 16, R)
  | 0, i, h1, h2 => absurd h2 (by omega)
  | m + 1, i, h1, h2 => by
    unfold g198c106_2
    by_cases hi : i = 16
    · subst hi
      rw [if_pos (nI_le (Nat.le_refl _) (by omega))]
    · have hlt : i < 16 := by omega
      rw [if_neg (nI_ge hlt (by omega)), if_pos rfl]
      unfold g198c106_19
      rw [if_pos rfl]
      unfold g198c106_31
      rw [nI_add, ck_at (by omega) (by omega), ck_at (by omega) (by omega), lt_at]
      simp only [nI_clamp (show i < 2 ^ 31 by omega), nI_clamp (show 16 + i < 2 ^ 31 by omega)]
      rw [cpF_s hlt, nI_add1]
      exact kF_106 m (i + 1) (by omega) (by omega)
theorem kB_106 {F : Nat} {I : Mem} {R : Nat → Option Nat} : ∀ (m i : Nat), i ≤ 16 → 16 < m + i → g198c106_2 F m (nI 16) 1 (nI i) (cpB I 106 16 i, R) = some (cpB I 106 16 16, R)
  | 0, i, h1, h2 => absurd h2 (by omega)
  | m + 1, i, h1, h2 => by
    unfold g198c106_2
    by_cases hi : i = 16
    · subst hi
      rw [if_pos (nI_le (Nat.le_refl _) (by omega))]
    · have hlt : i < 16 := by omega
      rw [if_neg (nI_ge hlt (by omega)), if_neg (by decide)]
      unfold g198c106_19
      rw [if_neg (by decide)]
      unfold g198c106_31
      rw [nI_add, ck_at (by omega) (by omega), ck_at (by omega) (by omega), lt_at]
      simp only [nI_clamp (show i < 2 ^ 31 by omega), nI_clamp (show 16 + i < 2 ^ 31 by omega)]
      rw [cpB_s hlt, nI_add1]
      exact kB_106 m (i + 1) (by omega) (by omega)
theorem kF_107 {F : Nat} {I : Mem} {R : Nat → Option Nat} : ∀ (m i : Nat), i ≤ 16 → 16 < m + i → g198c107_2 F m (nI 16) 0 (nI i) (cpF I 107 16 i, R) = some (cpF I 107 16 16, R)
  | 0, i, h1, h2 => absurd h2 (by omega)
  | m + 1, i, h1, h2 => by
    unfold g198c107_2
    by_cases hi : i = 16
    · subst hi
      rw [if_pos (nI_le (Nat.le_refl _) (by omega))]
    · have hlt : i < 16 := by omega
      rw [if_neg (nI_ge hlt (by omega)), if_pos rfl]
      unfold g198c107_19
      rw [if_pos rfl]
      unfold g198c107_31
      rw [nI_add, ck_at (by omega) (by omega), ck_at (by omega) (by omega), lt_at]
      simp only [nI_clamp (show i < 2 ^ 31 by omega), nI_clamp (show 16 + i < 2 ^ 31 by omega)]
      rw [cpF_s hlt, nI_add1]
      exact kF_107 m (i + 1) (by omega) (by omega)
theorem kB_107 {F : Nat} {I : Mem} {R : Nat → Option Nat} : ∀ (m i : Nat), i ≤ 16 → 16 < m + i → g198c107_2 F m (nI 16) 1 (nI i) (cpB I 107 16 i, R) = some (cpB I 107 16 16, R)
  | 0, i, h1, h2 => absurd h2 (by omega)
  | m + 1, i, h1, h2 => by
    unfold g198c107_2
    by_cases hi : i = 16
    · subst hi
      rw [if_pos (nI_le (Nat.le_refl _) (by omega))]
    · have hlt : i < 16 := by omega
      rw [if_neg (nI_ge hlt (by omega)), if_neg (by decide)]
      unfold g198c107_19
      rw [if_neg (by decide)]
      unfold g198c107_31
      rw [nI_add, ck_at (by omega) (by omega), ck_at (by omega) (by omega), lt_at]
      simp only [nI_clamp (show i < 2 ^ 31 by omega), nI_clamp (show 16 + i < 2 ^ 31 by omega)]
      rw [cpB_s hlt, nI_add1]
      exact kB_107 m (i + 1) (by omega) (by omega)
theorem kF_108 {F : Nat} {I : Mem} {R : Nat → Option Nat} : ∀ (m i : Nat), i ≤ 8 → 8 < m + i → g198c108_2 F m (nI 8) 0 (nI i) (cpF I 108 8 i, R) = some (cpF I 108 8 8, R)
  | 0, i, h1, h2 => absurd h2 (by omega)
  | m + 1, i, h1, h2 => by
    unfold g198c108_2
    by_cases hi : i = 8
    · subst hi
      rw [if_pos (nI_le (Nat.le_refl _) (by omega))]
    · have hlt : i < 8 := by omega
      rw [if_neg (nI_ge hlt (by omega)), if_pos rfl]
      unfold g198c108_19
      rw [if_pos rfl]
      unfold g198c108_31
      rw [nI_add, ck_at (by omega) (by omega), ck_at (by omega) (by omega), lt_at]
      simp only [nI_clamp (show i < 2 ^ 31 by omega), nI_clamp (show 8 + i < 2 ^ 31 by omega)]
      rw [cpF_s hlt, nI_add1]
      exact kF_108 m (i + 1) (by omega) (by omega)
theorem kB_108 {F : Nat} {I : Mem} {R : Nat → Option Nat} : ∀ (m i : Nat), i ≤ 8 → 8 < m + i → g198c108_2 F m (nI 8) 1 (nI i) (cpB I 108 8 i, R) = some (cpB I 108 8 8, R)
  | 0, i, h1, h2 => absurd h2 (by omega)
  | m + 1, i, h1, h2 => by
    unfold g198c108_2
    by_cases hi : i = 8
    · subst hi
      rw [if_pos (nI_le (Nat.le_refl _) (by omega))]
    · have hlt : i < 8 := by omega
      rw [if_neg (nI_ge hlt (by omega)), if_neg (by decide)]
      unfold g198c108_19
      rw [if_neg (by decide)]
      unfold g198c108_31
      rw [nI_add, ck_at (by omega) (by omega), ck_at (by omega) (by omega), lt_at]
      simp only [nI_clamp (show i < 2 ^ 31 by omega), nI_clamp (show 8 + i < 2 ^ 31 by omega)]
      rw [cpB_s hlt, nI_add1]
      exact kB_108 m (i + 1) (by omega) (by omega)
theorem kF_109 {F : Nat} {I : Mem} {R : Nat → Option Nat} : ∀ (m i : Nat), i ≤ 8 → 8 < m + i → g198c109_2 F m (nI 8) 0 (nI i) (cpF I 109 8 i, R) = some (cpF I 109 8 8, R)
  | 0, i, h1, h2 => absurd h2 (by omega)
  | m + 1, i, h1, h2 => by
    unfold g198c109_2
    by_cases hi : i = 8
    · subst hi
      rw [if_pos (nI_le (Nat.le_refl _) (by omega))]
    · have hlt : i < 8 := by omega
      rw [if_neg (nI_ge hlt (by omega)), if_pos rfl]
      unfold g198c109_19
      rw [if_pos rfl]
      unfold g198c109_31
      rw [nI_add, ck_at (by omega) (by omega), ck_at (by omega) (by omega), lt_at]
      simp only [nI_clamp (show i < 2 ^ 31 by omega), nI_clamp (show 8 + i < 2 ^ 31 by omega)]
      rw [cpF_s hlt, nI_add1]
      exact kF_109 m (i + 1) (by omega) (by omega)
theorem kB_109 {F : Nat} {I : Mem} {R : Nat → Option Nat} : ∀ (m i : Nat), i ≤ 8 → 8 < m + i → g198c109_2 F m (nI 8) 1 (nI i) (cpB I 109 8 i, R) = some (cpB I 109 8 8, R)
  | 0, i, h1, h2 => absurd h2 (by omega)
  | m + 1, i, h1, h2 => by
    unfold g198c109_2
    by_cases hi : i = 8
    · subst hi
      rw [if_pos (nI_le (Nat.le_refl _) (by omega))]
    · have hlt : i < 8 := by omega
      rw [if_neg (nI_ge hlt (by omega)), if_neg (by decide)]
      unfold g198c109_19
      rw [if_neg (by decide)]
      unfold g198c109_31
      rw [nI_add, ck_at (by omega) (by omega), ck_at (by omega) (by omega), lt_at]
      simp only [nI_clamp (show i < 2 ^ 31 by omega), nI_clamp (show 8 + i < 2 ^ 31 by omega)]
      rw [cpB_s hlt, nI_add1]
      exact kB_109 m (i + 1) (by omega) (by omega)
theorem kF_110 {F : Nat} {I : Mem} {R : Nat → Option Nat} : ∀ (m i : Nat), i ≤ 8 → 8 < m + i → g198c110_2 F m (nI 8) 0 (nI i) (cpF I 110 8 i, R) = some (cpF I 110 8 8, R)
  | 0, i, h1, h2 => absurd h2 (by omega)
  | m + 1, i, h1, h2 => by
    unfold g198c110_2
    by_cases hi : i = 8
    · subst hi
      rw [if_pos (nI_le (Nat.le_refl _) (by omega))]
    · have hlt : i < 8 := by omega
      rw [if_neg (nI_ge hlt (by omega)), if_pos rfl]
      unfold g198c110_19
      rw [if_pos rfl]
      unfold g198c110_31
      rw [nI_add, ck_at (by omega) (by omega), ck_at (by omega) (by omega), lt_at]
      simp only [nI_clamp (show i < 2 ^ 31 by omega), nI_clamp (show 8 + i < 2 ^ 31 by omega)]
      rw [cpF_s hlt, nI_add1]
      exact kF_110 m (i + 1) (by omega) (by omega)
theorem kB_110 {F : Nat} {I : Mem} {R : Nat → Option Nat} : ∀ (m i : Nat), i ≤ 8 → 8 < m + i → g198c110_2 F m (nI 8) 1 (nI i) (cpB I 110 8 i, R) = some (cpB I 110 8 8, R)
  | 0, i, h1, h2 => absurd h2 (by omega)
  | m + 1, i, h1, h2 => by
    unfold g198c110_2
    by_cases hi : i = 8
    · subst hi
      rw [if_pos (nI_le (Nat.le_refl _) (by omega))]
    · have hlt : i < 8 := by omega
      rw [if_neg (nI_ge hlt (by omega)), if_neg (by decide)]
      unfold g198c110_19
      rw [if_neg (by decide)]
      unfold g198c110_31
      rw [nI_add, ck_at (by omega) (by omega), ck_at (by omega) (by omega), lt_at]
      simp only [nI_clamp (show i < 2 ^ 31 by omega), nI_clamp (show 8 + i < 2 ^ 31 by omega)]
      rw [cpB_s hlt, nI_add1]
      exact kB_110 m (i + 1) (by omega) (by omega)
theorem kF_111 {F : Nat} {I : Mem} {R : Nat → Option Nat} : ∀ (m i : Nat), i ≤ 8 → 8 < m + i → g198c111_2 F m (nI 8) 0 (nI i) (cpF I 111 8 i, R) = some (cpF I 111 8 8, R)
  | 0, i, h1, h2 => absurd h2 (by omega)
  | m + 1, i, h1, h2 => by
    unfold g198c111_2
    by_cases hi : i = 8
    · subst hi
      rw [if_pos (nI_le (Nat.le_refl _) (by omega))]
    · have hlt : i < 8 := by omega
      rw [if_neg (nI_ge hlt (by omega)), if_pos rfl]
      unfold g198c111_19
      rw [if_pos rfl]
      unfold g198c111_31
      rw [nI_add, ck_at (by omega) (by omega), ck_at (by omega) (by omega), lt_at]
      simp only [nI_clamp (show i < 2 ^ 31 by omega), nI_clamp (show 8 + i < 2 ^ 31 by omega)]
      rw [cpF_s hlt, nI_add1]
      exact kF_111 m (i + 1) (by omega) (by omega)
theorem kB_111 {F : Nat} {I : Mem} {R : Nat → Option Nat} : ∀ (m i : Nat), i ≤ 8 → 8 < m + i → g198c111_2 F m (nI 8) 1 (nI i) (cpB I 111 8 i, R) = some (cpB I 111 8 8, R)
  | 0, i, h1, h2 => absurd h2 (by omega)
  | m + 1, i, h1, h2 => by
    unfold g198c111_2
    by_cases hi : i = 8
    · subst hi
      rw [if_pos (nI_le (Nat.le_refl _) (by omega))]
    · have hlt : i < 8 := by omega
      rw [if_neg (nI_ge hlt (by omega)), if_neg (by decide)]
      unfold g198c111_19
      rw [if_neg (by decide)]
      unfold g198c111_31
      rw [nI_add, ck_at (by omega) (by omega), ck_at (by omega) (by omega), lt_at]
      simp only [nI_clamp (show i < 2 ^ 31 by omega), nI_clamp (show 8 + i < 2 ^ 31 by omega)]
      rw [cpB_s hlt, nI_add1]
      exact kB_111 m (i + 1) (by omega) (by omega)
theorem kF_112 {F : Nat} {I : Mem} {R : Nat → Option Nat} : ∀ (m i : Nat), i ≤ 8 → 8 < m + i → g198c112_2 F m (nI 8) 0 (nI i) (cpF I 112 8 i, R) = some (cpF I 112 8 8, R)
  | 0, i, h1, h2 => absurd h2 (by omega)
  | m + 1, i, h1, h2 => by
    unfold g198c112_2
    by_cases hi : i = 8
    · subst hi
      rw [if_pos (nI_le (Nat.le_refl _) (by omega))]
    · have hlt : i < 8 := by omega
      rw [if_neg (nI_ge hlt (by omega)), if_pos rfl]
      unfold g198c112_19
      rw [if_pos rfl]
      unfold g198c112_31
      rw [nI_add, ck_at (by omega) (by omega), ck_at (by omega) (by omega), lt_at]
      simp only [nI_clamp (show i < 2 ^ 31 by omega), nI_clamp (show 8 + i < 2 ^ 31 by omega)]
      rw [cpF_s hlt, nI_add1]
      exact kF_112 m (i + 1) (by omega) (by omega)
theorem kB_112 {F : Nat} {I : Mem} {R : Nat → Option Nat} : ∀ (m i : Nat), i ≤ 8 → 8 < m + i → g198c112_2 F m (nI 8) 1 (nI i) (cpB I 112 8 i, R) = some (cpB I 112 8 8, R)
  | 0, i, h1, h2 => absurd h2 (by omega)
  | m + 1, i, h1, h2 => by
    unfold g198c112_2
    by_cases hi : i = 8
    · subst hi
      rw [if_pos (nI_le (Nat.le_refl _) (by omega))]
    · have hlt : i < 8 := by omega
      rw [if_neg (nI_ge hlt (by omega)), if_neg (by decide)]
      unfold g198c112_19
      rw [if_neg (by decide)]
      unfold g198c112_31
      rw [nI_add, ck_at (by omega) (by omega), ck_at (by omega) (by omega), lt_at]
      simp only [nI_clamp (show i < 2 ^ 31 by omega), nI_clamp (show 8 + i < 2 ^ 31 by omega)]
      rw [cpB_s hlt, nI_add1]
      exact kB_112 m (i + 1) (by omega) (by omega)
theorem kF_113 {F : Nat} {I : Mem} {R : Nat → Option Nat} : ∀ (m i : Nat), i ≤ 8 → 8 < m + i → g198c113_2 F m (nI 8) 0 (nI i) (cpF I 113 8 i, R) = some (cpF I 113 8 8, R)
  | 0, i, h1, h2 => absurd h2 (by omega)
  | m + 1, i, h1, h2 => by
    unfold g198c113_2
    by_cases hi : i = 8
    · subst hi
      rw [if_pos (nI_le (Nat.le_refl _) (by omega))]
    · have hlt : i < 8 := by omega
      rw [if_neg (nI_ge hlt (by omega)), if_pos rfl]
      unfold g198c113_19
      rw [if_pos rfl]
      unfold g198c113_31
      rw [nI_add, ck_at (by omega) (by omega), ck_at (by omega) (by omega), lt_at]
      simp only [nI_clamp (show i < 2 ^ 31 by omega), nI_clamp (show 8 + i < 2 ^ 31 by omega)]
      rw [cpF_s hlt, nI_add1]
      exact kF_113 m (i + 1) (by omega) (by omega)
theorem kB_113 {F : Nat} {I : Mem} {R : Nat → Option Nat} : ∀ (m i : Nat), i ≤ 8 → 8 < m + i → g198c113_2 F m (nI 8) 1 (nI i) (cpB I 113 8 i, R) = some (cpB I 113 8 8, R)
  | 0, i, h1, h2 => absurd h2 (by omega)
  | m + 1, i, h1, h2 => by
    unfold g198c113_2
    by_cases hi : i = 8
    · subst hi
      rw [if_pos (nI_le (Nat.le_refl _) (by omega))]
    · have hlt : i < 8 := by omega
      rw [if_neg (nI_ge hlt (by omega)), if_neg (by decide)]
      unfold g198c113_19
      rw [if_neg (by decide)]
      unfold g198c113_31
      rw [nI_add, ck_at (by omega) (by omega), ck_at (by omega) (by omega), lt_at]
      simp only [nI_clamp (show i < 2 ^ 31 by omega), nI_clamp (show 8 + i < 2 ^ 31 by omega)]
      rw [cpB_s hlt, nI_add1]
      exact kB_113 m (i + 1) (by omega) (by omega)
theorem kF_114 {F : Nat} {I : Mem} {R : Nat → Option Nat} : ∀ (m i : Nat), i ≤ 8 → 8 < m + i → g198c114_2 F m (nI 8) 0 (nI i) (cpF I 114 8 i, R) = some (cpF I 114 8 8, R)
  | 0, i, h1, h2 => absurd h2 (by omega)
  | m + 1, i, h1, h2 => by
    unfold g198c114_2
    by_cases hi : i = 8
    · subst hi
      rw [if_pos (nI_le (Nat.le_refl _) (by omega))]
    · have hlt : i < 8 := by omega
      rw [if_neg (nI_ge hlt (by omega)), if_pos rfl]
      unfold g198c114_19
      rw [if_pos rfl]
      unfold g198c114_31
      rw [nI_add, ck_at (by omega) (by omega), ck_at (by omega) (by omega), lt_at]
      simp only [nI_clamp (show i < 2 ^ 31 by omega), nI_clamp (show 8 + i < 2 ^ 31 by omega)]
      rw [cpF_s hlt, nI_add1]
      exact kF_114 m (i + 1) (by omega) (by omega)
theorem kB_114 {F : Nat} {I : Mem} {R : Nat → Option Nat} : ∀ (m i : Nat), i ≤ 8 → 8 < m + i → g198c114_2 F m (nI 8) 1 (nI i) (cpB I 114 8 i, R) = some (cpB I 114 8 8, R)
  | 0, i, h1, h2 => absurd h2 (by omega)
  | m + 1, i, h1, h2 => by
    unfold g198c114_2
    by_cases hi : i = 8
    · subst hi
      rw [if_pos (nI_le (Nat.le_refl _) (by omega))]
    · have hlt : i < 8 := by omega
      rw [if_neg (nI_ge hlt (by omega)), if_neg (by decide)]
      unfold g198c114_19
      rw [if_neg (by decide)]
      unfold g198c114_31
      rw [nI_add, ck_at (by omega) (by omega), ck_at (by omega) (by omega), lt_at]
      simp only [nI_clamp (show i < 2 ^ 31 by omega), nI_clamp (show 8 + i < 2 ^ 31 by omega)]
      rw [cpB_s hlt, nI_add1]
      exact kB_114 m (i + 1) (by omega) (by omega)
theorem kF_115 {F : Nat} {I : Mem} {R : Nat → Option Nat} : ∀ (m i : Nat), i ≤ 8 → 8 < m + i → g198c115_2 F m (nI 8) 0 (nI i) (cpF I 115 8 i, R) = some (cpF I 115 8 8, R)
  | 0, i, h1, h2 => absurd h2 (by omega)
  | m + 1, i, h1, h2 => by
    unfold g198c115_2
    by_cases hi : i = 8
    · subst hi
      rw [if_pos (nI_le (Nat.le_refl _) (by omega))]
    · have hlt : i < 8 := by omega
      rw [if_neg (nI_ge hlt (by omega)), if_pos rfl]
      unfold g198c115_19
      rw [if_pos rfl]
      unfold g198c115_31
      rw [nI_add, ck_at (by omega) (by omega), ck_at (by omega) (by omega), lt_at]
      simp only [nI_clamp (show i < 2 ^ 31 by omega), nI_clamp (show 8 + i < 2 ^ 31 by omega)]
      rw [cpF_s hlt, nI_add1]
      exact kF_115 m (i + 1) (by omega) (by omega)
theorem kB_115 {F : Nat} {I : Mem} {R : Nat → Option Nat} : ∀ (m i : Nat), i ≤ 8 → 8 < m + i → g198c115_2 F m (nI 8) 1 (nI i) (cpB I 115 8 i, R) = some (cpB I 115 8 8, R)
  | 0, i, h1, h2 => absurd h2 (by omega)
  | m + 1, i, h1, h2 => by
    unfold g198c115_2
    by_cases hi : i = 8
    · subst hi
      rw [if_pos (nI_le (Nat.le_refl _) (by omega))]
    · have hlt : i < 8 := by omega
      rw [if_neg (nI_ge hlt (by omega)), if_neg (by decide)]
      unfold g198c115_19
      rw [if_neg (by decide)]
      unfold g198c115_31
      rw [nI_add, ck_at (by omega) (by omega), ck_at (by omega) (by omega), lt_at]
      simp only [nI_clamp (show i < 2 ^ 31 by omega), nI_clamp (show 8 + i < 2 ^ 31 by omega)]
      rw [cpB_s hlt, nI_add1]
      exact kB_115 m (i + 1) (by omega) (by omega)
theorem kF_116 {F : Nat} {I : Mem} {R : Nat → Option Nat} (hb : ∀ j, j < 256 → I 116 j = 0 ∨ I 116 j = 1) : ∀ (m i : Nat), i ≤ 128 → 128 < m + i → g199c116_2 F m (nI 128) 0 (nI i) (cpF I 116 128 i, R) = some (cpF I 116 128 128, R)
  | 0, i, h1, h2 => absurd h2 (by omega)
  | m + 1, i, h1, h2 => by
    unfold g199c116_2
    by_cases hi : i = 128
    · subst hi
      rw [if_pos (nI_le (Nat.le_refl _) (by omega))]
    · have hlt : i < 128 := by omega
      rw [if_neg (nI_ge hlt (by omega)), if_pos rfl]
      unfold g199c116_19
      rw [if_pos rfl]
      unfold g199c116_31
      rw [nI_add, ck_at (by omega) (by omega), ck_at (by omega) (by omega), b01_at (by simp only [nI_clamp (show i < 2 ^ 31 by omega)]; unfold cpF; rw [if_neg (by omega)]; exact hb i (by omega)), lt_at]
      simp only [nI_clamp (show i < 2 ^ 31 by omega), nI_clamp (show 128 + i < 2 ^ 31 by omega)]
      rw [cpF_s hlt, nI_add1]
      exact kF_116 hb m (i + 1) (by omega) (by omega)
theorem kB_116 {F : Nat} {I : Mem} {R : Nat → Option Nat} (hb : ∀ j, j < 256 → I 116 j = 0 ∨ I 116 j = 1) : ∀ (m i : Nat), i ≤ 128 → 128 < m + i → g199c116_2 F m (nI 128) 1 (nI i) (cpB I 116 128 i, R) = some (cpB I 116 128 128, R)
  | 0, i, h1, h2 => absurd h2 (by omega)
  | m + 1, i, h1, h2 => by
    unfold g199c116_2
    by_cases hi : i = 128
    · subst hi
      rw [if_pos (nI_le (Nat.le_refl _) (by omega))]
    · have hlt : i < 128 := by omega
      rw [if_neg (nI_ge hlt (by omega)), if_neg (by decide)]
      unfold g199c116_19
      rw [if_neg (by decide)]
      unfold g199c116_31
      rw [nI_add, ck_at (by omega) (by omega), ck_at (by omega) (by omega), b01_at (by simp only [nI_clamp (show 128 + i < 2 ^ 31 by omega)]; unfold cpB; rw [if_neg (by omega)]; exact hb (128 + i) (by omega)), lt_at]
      simp only [nI_clamp (show i < 2 ^ 31 by omega), nI_clamp (show 128 + i < 2 ^ 31 by omega)]
      rw [cpB_s hlt, nI_add1]
      exact kB_116 hb m (i + 1) (by omega) (by omega)
theorem kF_117 {F : Nat} {I : Mem} {R : Nat → Option Nat} : ∀ (m i : Nat), i ≤ 1024 → 1024 < m + i → g198c117_2 F m (nI 1024) 0 (nI i) (cpF I 117 1024 i, R) = some (cpF I 117 1024 1024, R)
  | 0, i, h1, h2 => absurd h2 (by omega)
  | m + 1, i, h1, h2 => by
    unfold g198c117_2
    by_cases hi : i = 1024
    · subst hi
      rw [if_pos (nI_le (Nat.le_refl _) (by omega))]
    · have hlt : i < 1024 := by omega
      rw [if_neg (nI_ge hlt (by omega)), if_pos rfl]
      unfold g198c117_19
      rw [if_pos rfl]
      unfold g198c117_31
      rw [nI_add, ck_at (by omega) (by omega), ck_at (by omega) (by omega), lt_at]
      simp only [nI_clamp (show i < 2 ^ 31 by omega), nI_clamp (show 1024 + i < 2 ^ 31 by omega)]
      rw [cpF_s hlt, nI_add1]
      exact kF_117 m (i + 1) (by omega) (by omega)
theorem kB_117 {F : Nat} {I : Mem} {R : Nat → Option Nat} : ∀ (m i : Nat), i ≤ 1024 → 1024 < m + i → g198c117_2 F m (nI 1024) 1 (nI i) (cpB I 117 1024 i, R) = some (cpB I 117 1024 1024, R)
  | 0, i, h1, h2 => absurd h2 (by omega)
  | m + 1, i, h1, h2 => by
    unfold g198c117_2
    by_cases hi : i = 1024
    · subst hi
      rw [if_pos (nI_le (Nat.le_refl _) (by omega))]
    · have hlt : i < 1024 := by omega
      rw [if_neg (nI_ge hlt (by omega)), if_neg (by decide)]
      unfold g198c117_19
      rw [if_neg (by decide)]
      unfold g198c117_31
      rw [nI_add, ck_at (by omega) (by omega), ck_at (by omega) (by omega), lt_at]
      simp only [nI_clamp (show i < 2 ^ 31 by omega), nI_clamp (show 1024 + i < 2 ^ 31 by omega)]
      rw [cpB_s hlt, nI_add1]
      exact kB_117 m (i + 1) (by omega) (by omega)
theorem kF_118 {F : Nat} {I : Mem} {R : Nat → Option Nat} : ∀ (m i : Nat), i ≤ 1024 → 1024 < m + i → g198c118_2 F m (nI 1024) 0 (nI i) (cpF I 118 1024 i, R) = some (cpF I 118 1024 1024, R)
  | 0, i, h1, h2 => absurd h2 (by omega)
  | m + 1, i, h1, h2 => by
    unfold g198c118_2
    by_cases hi : i = 1024
    · subst hi
      rw [if_pos (nI_le (Nat.le_refl _) (by omega))]
    · have hlt : i < 1024 := by omega
      rw [if_neg (nI_ge hlt (by omega)), if_pos rfl]
      unfold g198c118_19
      rw [if_pos rfl]
      unfold g198c118_31
      rw [nI_add, ck_at (by omega) (by omega), ck_at (by omega) (by omega), lt_at]
      simp only [nI_clamp (show i < 2 ^ 31 by omega), nI_clamp (show 1024 + i < 2 ^ 31 by omega)]
      rw [cpF_s hlt, nI_add1]
      exact kF_118 m (i + 1) (by omega) (by omega)
theorem kB_118 {F : Nat} {I : Mem} {R : Nat → Option Nat} : ∀ (m i : Nat), i ≤ 1024 → 1024 < m + i → g198c118_2 F m (nI 1024) 1 (nI i) (cpB I 118 1024 i, R) = some (cpB I 118 1024 1024, R)
  | 0, i, h1, h2 => absurd h2 (by omega)
  | m + 1, i, h1, h2 => by
    unfold g198c118_2
    by_cases hi : i = 1024
    · subst hi
      rw [if_pos (nI_le (Nat.le_refl _) (by omega))]
    · have hlt : i < 1024 := by omega
      rw [if_neg (nI_ge hlt (by omega)), if_neg (by decide)]
      unfold g198c118_19
      rw [if_neg (by decide)]
      unfold g198c118_31
      rw [nI_add, ck_at (by omega) (by omega), ck_at (by omega) (by omega), lt_at]
      simp only [nI_clamp (show i < 2 ^ 31 by omega), nI_clamp (show 1024 + i < 2 ^ 31 by omega)]
      rw [cpB_s hlt, nI_add1]
      exact kB_118 m (i + 1) (by omega) (by omega)
theorem kF_119 {F : Nat} {I : Mem} {R : Nat → Option Nat} : ∀ (m i : Nat), i ≤ 4 → 4 < m + i → g198c119_2 F m (nI 4) 0 (nI i) (cpF I 119 4 i, R) = some (cpF I 119 4 4, R)
  | 0, i, h1, h2 => absurd h2 (by omega)
  | m + 1, i, h1, h2 => by
    unfold g198c119_2
    by_cases hi : i = 4
    · subst hi
      rw [if_pos (nI_le (Nat.le_refl _) (by omega))]
    · have hlt : i < 4 := by omega
      rw [if_neg (nI_ge hlt (by omega)), if_pos rfl]
      unfold g198c119_19
      rw [if_pos rfl]
      unfold g198c119_31
      rw [nI_add, ck_at (by omega) (by omega), ck_at (by omega) (by omega), lt_at]
      simp only [nI_clamp (show i < 2 ^ 31 by omega), nI_clamp (show 4 + i < 2 ^ 31 by omega)]
      rw [cpF_s hlt, nI_add1]
      exact kF_119 m (i + 1) (by omega) (by omega)
theorem kB_119 {F : Nat} {I : Mem} {R : Nat → Option Nat} : ∀ (m i : Nat), i ≤ 4 → 4 < m + i → g198c119_2 F m (nI 4) 1 (nI i) (cpB I 119 4 i, R) = some (cpB I 119 4 4, R)
  | 0, i, h1, h2 => absurd h2 (by omega)
  | m + 1, i, h1, h2 => by
    unfold g198c119_2
    by_cases hi : i = 4
    · subst hi
      rw [if_pos (nI_le (Nat.le_refl _) (by omega))]
    · have hlt : i < 4 := by omega
      rw [if_neg (nI_ge hlt (by omega)), if_neg (by decide)]
      unfold g198c119_19
      rw [if_neg (by decide)]
      unfold g198c119_31
      rw [nI_add, ck_at (by omega) (by omega), ck_at (by omega) (by omega), lt_at]
      simp only [nI_clamp (show i < 2 ^ 31 by omega), nI_clamp (show 4 + i < 2 ^ 31 by omega)]
      rw [cpB_s hlt, nI_add1]
      exact kB_119 m (i + 1) (by omega) (by omega)
theorem kF_120 {F : Nat} {I : Mem} {R : Nat → Option Nat} : ∀ (m i : Nat), i ≤ 4 → 4 < m + i → g198c120_2 F m (nI 4) 0 (nI i) (cpF I 120 4 i, R) = some (cpF I 120 4 4, R)
  | 0, i, h1, h2 => absurd h2 (by omega)
  | m + 1, i, h1, h2 => by
    unfold g198c120_2
    by_cases hi : i = 4
    · subst hi
      rw [if_pos (nI_le (Nat.le_refl _) (by omega))]
    · have hlt : i < 4 := by omega
      rw [if_neg (nI_ge hlt (by omega)), if_pos rfl]
      unfold g198c120_19
      rw [if_pos rfl]
      unfold g198c120_31
      rw [nI_add, ck_at (by omega) (by omega), ck_at (by omega) (by omega), lt_at]
      simp only [nI_clamp (show i < 2 ^ 31 by omega), nI_clamp (show 4 + i < 2 ^ 31 by omega)]
      rw [cpF_s hlt, nI_add1]
      exact kF_120 m (i + 1) (by omega) (by omega)
theorem kB_120 {F : Nat} {I : Mem} {R : Nat → Option Nat} : ∀ (m i : Nat), i ≤ 4 → 4 < m + i → g198c120_2 F m (nI 4) 1 (nI i) (cpB I 120 4 i, R) = some (cpB I 120 4 4, R)
  | 0, i, h1, h2 => absurd h2 (by omega)
  | m + 1, i, h1, h2 => by
    unfold g198c120_2
    by_cases hi : i = 4
    · subst hi
      rw [if_pos (nI_le (Nat.le_refl _) (by omega))]
    · have hlt : i < 4 := by omega
      rw [if_neg (nI_ge hlt (by omega)), if_neg (by decide)]
      unfold g198c120_19
      rw [if_neg (by decide)]
      unfold g198c120_31
      rw [nI_add, ck_at (by omega) (by omega), ck_at (by omega) (by omega), lt_at]
      simp only [nI_clamp (show i < 2 ^ 31 by omega), nI_clamp (show 4 + i < 2 ^ 31 by omega)]
      rw [cpB_s hlt, nI_add1]
      exact kB_120 m (i + 1) (by omega) (by omega)
theorem kF_121 {F : Nat} {I : Mem} {R : Nat → Option Nat} : ∀ (m i : Nat), i ≤ 16 → 16 < m + i → g198c121_2 F m (nI 16) 0 (nI i) (cpF I 121 16 i, R) = some (cpF I 121 16 16, R)
  | 0, i, h1, h2 => absurd h2 (by omega)
  | m + 1, i, h1, h2 => by
    unfold g198c121_2
    by_cases hi : i = 16
    · subst hi
      rw [if_pos (nI_le (Nat.le_refl _) (by omega))]
    · have hlt : i < 16 := by omega
      rw [if_neg (nI_ge hlt (by omega)), if_pos rfl]
      unfold g198c121_19
      rw [if_pos rfl]
      unfold g198c121_31
      rw [nI_add, ck_at (by omega) (by omega), ck_at (by omega) (by omega), lt_at]
      simp only [nI_clamp (show i < 2 ^ 31 by omega), nI_clamp (show 16 + i < 2 ^ 31 by omega)]
      rw [cpF_s hlt, nI_add1]
      exact kF_121 m (i + 1) (by omega) (by omega)
theorem kB_121 {F : Nat} {I : Mem} {R : Nat → Option Nat} : ∀ (m i : Nat), i ≤ 16 → 16 < m + i → g198c121_2 F m (nI 16) 1 (nI i) (cpB I 121 16 i, R) = some (cpB I 121 16 16, R)
  | 0, i, h1, h2 => absurd h2 (by omega)
  | m + 1, i, h1, h2 => by
    unfold g198c121_2
    by_cases hi : i = 16
    · subst hi
      rw [if_pos (nI_le (Nat.le_refl _) (by omega))]
    · have hlt : i < 16 := by omega
      rw [if_neg (nI_ge hlt (by omega)), if_neg (by decide)]
      unfold g198c121_19
      rw [if_neg (by decide)]
      unfold g198c121_31
      rw [nI_add, ck_at (by omega) (by omega), ck_at (by omega) (by omega), lt_at]
      simp only [nI_clamp (show i < 2 ^ 31 by omega), nI_clamp (show 16 + i < 2 ^ 31 by omega)]
      rw [cpB_s hlt, nI_add1]
      exact kB_121 m (i + 1) (by omega) (by omega)
theorem kF_122 {F : Nat} {I : Mem} {R : Nat → Option Nat} (hb : ∀ j, j < 8 → I 122 j = 0 ∨ I 122 j = 1) : ∀ (m i : Nat), i ≤ 4 → 4 < m + i → g199c122_2 F m (nI 4) 0 (nI i) (cpF I 122 4 i, R) = some (cpF I 122 4 4, R)
  | 0, i, h1, h2 => absurd h2 (by omega)
  | m + 1, i, h1, h2 => by
    unfold g199c122_2
    by_cases hi : i = 4
    · subst hi
      rw [if_pos (nI_le (Nat.le_refl _) (by omega))]
    · have hlt : i < 4 := by omega
      rw [if_neg (nI_ge hlt (by omega)), if_pos rfl]
      unfold g199c122_19
      rw [if_pos rfl]
      unfold g199c122_31
      rw [nI_add, ck_at (by omega) (by omega), ck_at (by omega) (by omega), b01_at (by simp only [nI_clamp (show i < 2 ^ 31 by omega)]; unfold cpF; rw [if_neg (by omega)]; exact hb i (by omega)), lt_at]
      simp only [nI_clamp (show i < 2 ^ 31 by omega), nI_clamp (show 4 + i < 2 ^ 31 by omega)]
      rw [cpF_s hlt, nI_add1]
      exact kF_122 hb m (i + 1) (by omega) (by omega)
theorem kB_122 {F : Nat} {I : Mem} {R : Nat → Option Nat} (hb : ∀ j, j < 8 → I 122 j = 0 ∨ I 122 j = 1) : ∀ (m i : Nat), i ≤ 4 → 4 < m + i → g199c122_2 F m (nI 4) 1 (nI i) (cpB I 122 4 i, R) = some (cpB I 122 4 4, R)
  | 0, i, h1, h2 => absurd h2 (by omega)
  | m + 1, i, h1, h2 => by
    unfold g199c122_2
    by_cases hi : i = 4
    · subst hi
      rw [if_pos (nI_le (Nat.le_refl _) (by omega))]
    · have hlt : i < 4 := by omega
      rw [if_neg (nI_ge hlt (by omega)), if_neg (by decide)]
      unfold g199c122_19
      rw [if_neg (by decide)]
      unfold g199c122_31
      rw [nI_add, ck_at (by omega) (by omega), ck_at (by omega) (by omega), b01_at (by simp only [nI_clamp (show 4 + i < 2 ^ 31 by omega)]; unfold cpB; rw [if_neg (by omega)]; exact hb (4 + i) (by omega)), lt_at]
      simp only [nI_clamp (show i < 2 ^ 31 by omega), nI_clamp (show 4 + i < 2 ^ 31 by omega)]
      rw [cpB_s hlt, nI_add1]
      exact kB_122 hb m (i + 1) (by omega) (by omega)
theorem kF_123 {F : Nat} {I : Mem} {R : Nat → Option Nat} : ∀ (m i : Nat), i ≤ 4 → 4 < m + i → g198c123_2 F m (nI 4) 0 (nI i) (cpF I 123 4 i, R) = some (cpF I 123 4 4, R)
  | 0, i, h1, h2 => absurd h2 (by omega)
  | m + 1, i, h1, h2 => by
    unfold g198c123_2
    by_cases hi : i = 4
    · subst hi
      rw [if_pos (nI_le (Nat.le_refl _) (by omega))]
    · have hlt : i < 4 := by omega
      rw [if_neg (nI_ge hlt (by omega)), if_pos rfl]
      unfold g198c123_19
      rw [if_pos rfl]
      unfold g198c123_31
      rw [nI_add, ck_at (by omega) (by omega), ck_at (by omega) (by omega), lt_at]
      simp only [nI_clamp (show i < 2 ^ 31 by omega), nI_clamp (show 4 + i < 2 ^ 31 by omega)]
      rw [cpF_s hlt, nI_add1]
      exact kF_123 m (i + 1) (by omega) (by omega)
theorem kB_123 {F : Nat} {I : Mem} {R : Nat → Option Nat} : ∀ (m i : Nat), i ≤ 4 → 4 < m + i → g198c123_2 F m (nI 4) 1 (nI i) (cpB I 123 4 i, R) = some (cpB I 123 4 4, R)
  | 0, i, h1, h2 => absurd h2 (by omega)
  | m + 1, i, h1, h2 => by
    unfold g198c123_2
    by_cases hi : i = 4
    · subst hi
      rw [if_pos (nI_le (Nat.le_refl _) (by omega))]
    · have hlt : i < 4 := by omega
      rw [if_neg (nI_ge hlt (by omega)), if_neg (by decide)]
      unfold g198c123_19
      rw [if_neg (by decide)]
      unfold g198c123_31
      rw [nI_add, ck_at (by omega) (by omega), ck_at (by omega) (by omega), lt_at]
      simp only [nI_clamp (show i < 2 ^ 31 by omega), nI_clamp (show 4 + i < 2 ^ 31 by omega)]
      rw [cpB_s hlt, nI_add1]
      exact kB_123 m (i + 1) (by omega) (by omega)
theorem kF_124 {F : Nat} {I : Mem} {R : Nat → Option Nat} (hb : ∀ j, j < 10 → I 124 j = 0 ∨ I 124 j = 1) : ∀ (m i : Nat), i ≤ 5 → 5 < m + i → g199c124_2 F m (nI 5) 0 (nI i) (cpF I 124 5 i, R) = some (cpF I 124 5 5, R)
  | 0, i, h1, h2 => absurd h2 (by omega)
  | m + 1, i, h1, h2 => by
    unfold g199c124_2
    by_cases hi : i = 5
    · subst hi
      rw [if_pos (nI_le (Nat.le_refl _) (by omega))]
    · have hlt : i < 5 := by omega
      rw [if_neg (nI_ge hlt (by omega)), if_pos rfl]
      unfold g199c124_19
      rw [if_pos rfl]
      unfold g199c124_31
      rw [nI_add, ck_at (by omega) (by omega), ck_at (by omega) (by omega), b01_at (by simp only [nI_clamp (show i < 2 ^ 31 by omega)]; unfold cpF; rw [if_neg (by omega)]; exact hb i (by omega)), lt_at]
      simp only [nI_clamp (show i < 2 ^ 31 by omega), nI_clamp (show 5 + i < 2 ^ 31 by omega)]
      rw [cpF_s hlt, nI_add1]
      exact kF_124 hb m (i + 1) (by omega) (by omega)
theorem kB_124 {F : Nat} {I : Mem} {R : Nat → Option Nat} (hb : ∀ j, j < 10 → I 124 j = 0 ∨ I 124 j = 1) : ∀ (m i : Nat), i ≤ 5 → 5 < m + i → g199c124_2 F m (nI 5) 1 (nI i) (cpB I 124 5 i, R) = some (cpB I 124 5 5, R)
  | 0, i, h1, h2 => absurd h2 (by omega)
  | m + 1, i, h1, h2 => by
    unfold g199c124_2
    by_cases hi : i = 5
    · subst hi
      rw [if_pos (nI_le (Nat.le_refl _) (by omega))]
    · have hlt : i < 5 := by omega
      rw [if_neg (nI_ge hlt (by omega)), if_neg (by decide)]
      unfold g199c124_19
      rw [if_neg (by decide)]
      unfold g199c124_31
      rw [nI_add, ck_at (by omega) (by omega), ck_at (by omega) (by omega), b01_at (by simp only [nI_clamp (show 5 + i < 2 ^ 31 by omega)]; unfold cpB; rw [if_neg (by omega)]; exact hb (5 + i) (by omega)), lt_at]
      simp only [nI_clamp (show i < 2 ^ 31 by omega), nI_clamp (show 5 + i < 2 ^ 31 by omega)]
      rw [cpB_s hlt, nI_add1]
      exact kB_124 hb m (i + 1) (by omega) (by omega)
def cpP (I : Mem) (l : List Nat) : Mem := fun k j => if k ∈ l ∧ hf k ≤ j ∧ j < hf k + hf k then I k (j - hf k) else I k j
def cpQ (I : Mem) (l : List Nat) : Mem := fun k j => if k ∈ l ∧ j < hf k then I k (hf k + j) else I k j
theorem cpP_s {I : Mem} {l : List Nat} {K h : Nat} (hh : hf K = h) (hK : K ∉ l) : cpF (cpP I l) K h h = cpP I (K :: l) := by
  funext k j
  unfold cpF cpP
  by_cases hk : k = K
  · subst hk
    by_cases h2 : h ≤ j ∧ j < h + h
    · rw [if_pos ⟨rfl, h2⟩, if_neg (fun z => hK z.1), if_pos ⟨List.mem_cons_self, by rw [hh]; exact h2⟩, hh]
    · rw [if_neg (fun z => h2 z.2), if_neg (fun z => hK z.1), if_neg (fun z => h2 (by rw [hh] at z; exact z.2))]
  · rw [if_neg (fun z => hk z.1)]
    by_cases h3 : k ∈ l ∧ hf k ≤ j ∧ j < hf k + hf k
    · rw [if_pos h3, if_pos ⟨List.mem_cons_of_mem _ h3.1, h3.2⟩]
    · rw [if_neg h3, if_neg (fun z => h3 ⟨(List.mem_cons.mp z.1).resolve_left hk, z.2⟩)]
theorem cpQ_s {I : Mem} {l : List Nat} {K h : Nat} (hh : hf K = h) (hK : K ∉ l) : cpB (cpQ I l) K h h = cpQ I (K :: l) := by
  funext k j
  unfold cpB cpQ
  by_cases hk : k = K
  · subst hk
    by_cases h2 : j < h
    · rw [if_pos ⟨rfl, h2⟩, if_neg (fun z => hK z.1), if_pos ⟨List.mem_cons_self, by rw [hh]; exact h2⟩, hh]
    · rw [if_neg (fun z => h2 z.2), if_neg (fun z => hK z.1), if_neg (fun z => h2 (by rw [hh] at z; exact z.2))]
  · rw [if_neg (fun z => hk z.1)]
    by_cases h3 : k ∈ l ∧ j < hf k
    · rw [if_pos h3, if_pos ⟨List.mem_cons_of_mem _ h3.1, h3.2⟩]
    · rw [if_neg h3, if_neg (fun z => h3 ⟨(List.mem_cons.mp z.1).resolve_left hk, z.2⟩)]
def hl (n : Nat) : List Nat := ((hfs.take n).map (fun q => q.1)).reverse
theorem cpP_nil {I : Mem} : cpP I [] = I := by funext k j; simp [cpP]
theorem cpQ_nil {I : Mem} : cpQ I [] = I := by funext k j; simp [cpQ]
def bools (I : Mem) : Prop := (∀ j, j < 256 → I 116 j = 0 ∨ I 116 j = 1) ∧ (∀ j, j < 8 → I 122 j = 0 ∨ I 122 j = 1) ∧ (∀ j, j < 10 → I 124 j = 0 ∨ I 124 j = 1)
theorem cpP_bool {I : Mem} {l : List Nat} {K : Nat} (hK : K ∉ l) : cpP I l K = I K := by
  funext j
  unfold cpP
  rw [if_neg (fun z => hK z.1)]
theorem cpQ_bool {I : Mem} {l : List Nat} {K : Nat} (hK : K ∉ l) : cpQ I l K = I K := by
  funext j
  unfold cpQ
  rw [if_neg (fun z => hK z.1)]
theorem kf_96 {F : Nat} (hF : 6000 ≤ F) {I : Mem} {R : Nat → Option Nat} : f198c96 F 16 0 (cpP I (hl 0), R) = some (cpP I (hl 1), R) := by
  have h := kF_96 (F := F) (I := cpP I (hl 0)) (R := R) F 0 (by omega) (by omega)
  rw [cpF_0, cpP_s (show hf 96 = 16 by decide) (by decide)] at h
  exact h
theorem kb_96 {F : Nat} (hF : 6000 ≤ F) {I : Mem} {R : Nat → Option Nat} : f198c96 F 16 1 (cpQ I (hl 0), R) = some (cpQ I (hl 1), R) := by
  have h := kB_96 (F := F) (I := cpQ I (hl 0)) (R := R) F 0 (by omega) (by omega)
  rw [cpB_0, cpQ_s (show hf 96 = 16 by decide) (by decide)] at h
  exact h
theorem kf_97 {F : Nat} (hF : 6000 ≤ F) {I : Mem} {R : Nat → Option Nat} : f198c97 F 3 0 (cpP I (hl 1), R) = some (cpP I (hl 2), R) := by
  have h := kF_97 (F := F) (I := cpP I (hl 1)) (R := R) F 0 (by omega) (by omega)
  rw [cpF_0, cpP_s (show hf 97 = 3 by decide) (by decide)] at h
  exact h
theorem kb_97 {F : Nat} (hF : 6000 ≤ F) {I : Mem} {R : Nat → Option Nat} : f198c97 F 3 1 (cpQ I (hl 1), R) = some (cpQ I (hl 2), R) := by
  have h := kB_97 (F := F) (I := cpQ I (hl 1)) (R := R) F 0 (by omega) (by omega)
  rw [cpB_0, cpQ_s (show hf 97 = 3 by decide) (by decide)] at h
  exact h
theorem kf_98 {F : Nat} (hF : 6000 ≤ F) {I : Mem} {R : Nat → Option Nat} : f198c98 F 3 0 (cpP I (hl 2), R) = some (cpP I (hl 3), R) := by
  have h := kF_98 (F := F) (I := cpP I (hl 2)) (R := R) F 0 (by omega) (by omega)
  rw [cpF_0, cpP_s (show hf 98 = 3 by decide) (by decide)] at h
  exact h
theorem kb_98 {F : Nat} (hF : 6000 ≤ F) {I : Mem} {R : Nat → Option Nat} : f198c98 F 3 1 (cpQ I (hl 2), R) = some (cpQ I (hl 3), R) := by
  have h := kB_98 (F := F) (I := cpQ I (hl 2)) (R := R) F 0 (by omega) (by omega)
  rw [cpB_0, cpQ_s (show hf 98 = 3 by decide) (by decide)] at h
  exact h
theorem kf_99 {F : Nat} (hF : 6000 ≤ F) {I : Mem} {R : Nat → Option Nat} : f198c99 F 3 0 (cpP I (hl 3), R) = some (cpP I (hl 4), R) := by
  have h := kF_99 (F := F) (I := cpP I (hl 3)) (R := R) F 0 (by omega) (by omega)
  rw [cpF_0, cpP_s (show hf 99 = 3 by decide) (by decide)] at h
  exact h
theorem kb_99 {F : Nat} (hF : 6000 ≤ F) {I : Mem} {R : Nat → Option Nat} : f198c99 F 3 1 (cpQ I (hl 3), R) = some (cpQ I (hl 4), R) := by
  have h := kB_99 (F := F) (I := cpQ I (hl 3)) (R := R) F 0 (by omega) (by omega)
  rw [cpB_0, cpQ_s (show hf 99 = 3 by decide) (by decide)] at h
  exact h
theorem kf_100 {F : Nat} (hF : 6000 ≤ F) {I : Mem} {R : Nat → Option Nat} : f198c100 F 72 0 (cpP I (hl 4), R) = some (cpP I (hl 5), R) := by
  have h := kF_100 (F := F) (I := cpP I (hl 4)) (R := R) F 0 (by omega) (by omega)
  rw [cpF_0, cpP_s (show hf 100 = 72 by decide) (by decide)] at h
  exact h
theorem kb_100 {F : Nat} (hF : 6000 ≤ F) {I : Mem} {R : Nat → Option Nat} : f198c100 F 72 1 (cpQ I (hl 4), R) = some (cpQ I (hl 5), R) := by
  have h := kB_100 (F := F) (I := cpQ I (hl 4)) (R := R) F 0 (by omega) (by omega)
  rw [cpB_0, cpQ_s (show hf 100 = 72 by decide) (by decide)] at h
  exact h
theorem kf_101 {F : Nat} (hF : 6000 ≤ F) {I : Mem} {R : Nat → Option Nat} : f198c101 F 576 0 (cpP I (hl 5), R) = some (cpP I (hl 6), R) := by
  have h := kF_101 (F := F) (I := cpP I (hl 5)) (R := R) F 0 (by omega) (by omega)
  rw [cpF_0, cpP_s (show hf 101 = 576 by decide) (by decide)] at h
  exact h
theorem kb_101 {F : Nat} (hF : 6000 ≤ F) {I : Mem} {R : Nat → Option Nat} : f198c101 F 576 1 (cpQ I (hl 5), R) = some (cpQ I (hl 6), R) := by
  have h := kB_101 (F := F) (I := cpQ I (hl 5)) (R := R) F 0 (by omega) (by omega)
  rw [cpB_0, cpQ_s (show hf 101 = 576 by decide) (by decide)] at h
  exact h
theorem kf_102 {F : Nat} (hF : 6000 ≤ F) {I : Mem} {R : Nat → Option Nat} : f198c102 F 5760 0 (cpP I (hl 6), R) = some (cpP I (hl 7), R) := by
  have h := kF_102 (F := F) (I := cpP I (hl 6)) (R := R) F 0 (by omega) (by omega)
  rw [cpF_0, cpP_s (show hf 102 = 5760 by decide) (by decide)] at h
  exact h
theorem kb_102 {F : Nat} (hF : 6000 ≤ F) {I : Mem} {R : Nat → Option Nat} : f198c102 F 5760 1 (cpQ I (hl 6), R) = some (cpQ I (hl 7), R) := by
  have h := kB_102 (F := F) (I := cpQ I (hl 6)) (R := R) F 0 (by omega) (by omega)
  rw [cpB_0, cpQ_s (show hf 102 = 5760 by decide) (by decide)] at h
  exact h
theorem kf_103 {F : Nat} (hF : 6000 ≤ F) {I : Mem} {R : Nat → Option Nat} : f198c103 F 16 0 (cpP I (hl 7), R) = some (cpP I (hl 8), R) := by
  have h := kF_103 (F := F) (I := cpP I (hl 7)) (R := R) F 0 (by omega) (by omega)
  rw [cpF_0, cpP_s (show hf 103 = 16 by decide) (by decide)] at h
  exact h
theorem kb_103 {F : Nat} (hF : 6000 ≤ F) {I : Mem} {R : Nat → Option Nat} : f198c103 F 16 1 (cpQ I (hl 7), R) = some (cpQ I (hl 8), R) := by
  have h := kB_103 (F := F) (I := cpQ I (hl 7)) (R := R) F 0 (by omega) (by omega)
  rw [cpB_0, cpQ_s (show hf 103 = 16 by decide) (by decide)] at h
  exact h
theorem kf_104 {F : Nat} (hF : 6000 ≤ F) {I : Mem} {R : Nat → Option Nat} : f198c104 F 16 0 (cpP I (hl 8), R) = some (cpP I (hl 9), R) := by
  have h := kF_104 (F := F) (I := cpP I (hl 8)) (R := R) F 0 (by omega) (by omega)
  rw [cpF_0, cpP_s (show hf 104 = 16 by decide) (by decide)] at h
  exact h
theorem kb_104 {F : Nat} (hF : 6000 ≤ F) {I : Mem} {R : Nat → Option Nat} : f198c104 F 16 1 (cpQ I (hl 8), R) = some (cpQ I (hl 9), R) := by
  have h := kB_104 (F := F) (I := cpQ I (hl 8)) (R := R) F 0 (by omega) (by omega)
  rw [cpB_0, cpQ_s (show hf 104 = 16 by decide) (by decide)] at h
  exact h
theorem kf_105 {F : Nat} (hF : 6000 ≤ F) {I : Mem} {R : Nat → Option Nat} : f198c105 F 16 0 (cpP I (hl 9), R) = some (cpP I (hl 10), R) := by
  have h := kF_105 (F := F) (I := cpP I (hl 9)) (R := R) F 0 (by omega) (by omega)
  rw [cpF_0, cpP_s (show hf 105 = 16 by decide) (by decide)] at h
  exact h
theorem kb_105 {F : Nat} (hF : 6000 ≤ F) {I : Mem} {R : Nat → Option Nat} : f198c105 F 16 1 (cpQ I (hl 9), R) = some (cpQ I (hl 10), R) := by
  have h := kB_105 (F := F) (I := cpQ I (hl 9)) (R := R) F 0 (by omega) (by omega)
  rw [cpB_0, cpQ_s (show hf 105 = 16 by decide) (by decide)] at h
  exact h
theorem kf_106 {F : Nat} (hF : 6000 ≤ F) {I : Mem} {R : Nat → Option Nat} : f198c106 F 16 0 (cpP I (hl 10), R) = some (cpP I (hl 11), R) := by
  have h := kF_106 (F := F) (I := cpP I (hl 10)) (R := R) F 0 (by omega) (by omega)
  rw [cpF_0, cpP_s (show hf 106 = 16 by decide) (by decide)] at h
  exact h
theorem kb_106 {F : Nat} (hF : 6000 ≤ F) {I : Mem} {R : Nat → Option Nat} : f198c106 F 16 1 (cpQ I (hl 10), R) = some (cpQ I (hl 11), R) := by
  have h := kB_106 (F := F) (I := cpQ I (hl 10)) (R := R) F 0 (by omega) (by omega)
  rw [cpB_0, cpQ_s (show hf 106 = 16 by decide) (by decide)] at h
  exact h
theorem kf_107 {F : Nat} (hF : 6000 ≤ F) {I : Mem} {R : Nat → Option Nat} : f198c107 F 16 0 (cpP I (hl 11), R) = some (cpP I (hl 12), R) := by
  have h := kF_107 (F := F) (I := cpP I (hl 11)) (R := R) F 0 (by omega) (by omega)
  rw [cpF_0, cpP_s (show hf 107 = 16 by decide) (by decide)] at h
  exact h
theorem kb_107 {F : Nat} (hF : 6000 ≤ F) {I : Mem} {R : Nat → Option Nat} : f198c107 F 16 1 (cpQ I (hl 11), R) = some (cpQ I (hl 12), R) := by
  have h := kB_107 (F := F) (I := cpQ I (hl 11)) (R := R) F 0 (by omega) (by omega)
  rw [cpB_0, cpQ_s (show hf 107 = 16 by decide) (by decide)] at h
  exact h
theorem kf_108 {F : Nat} (hF : 6000 ≤ F) {I : Mem} {R : Nat → Option Nat} : f198c108 F 8 0 (cpP I (hl 12), R) = some (cpP I (hl 13), R) := by
  have h := kF_108 (F := F) (I := cpP I (hl 12)) (R := R) F 0 (by omega) (by omega)
  rw [cpF_0, cpP_s (show hf 108 = 8 by decide) (by decide)] at h
  exact h
theorem kb_108 {F : Nat} (hF : 6000 ≤ F) {I : Mem} {R : Nat → Option Nat} : f198c108 F 8 1 (cpQ I (hl 12), R) = some (cpQ I (hl 13), R) := by
  have h := kB_108 (F := F) (I := cpQ I (hl 12)) (R := R) F 0 (by omega) (by omega)
  rw [cpB_0, cpQ_s (show hf 108 = 8 by decide) (by decide)] at h
  exact h
theorem kf_109 {F : Nat} (hF : 6000 ≤ F) {I : Mem} {R : Nat → Option Nat} : f198c109 F 8 0 (cpP I (hl 13), R) = some (cpP I (hl 14), R) := by
  have h := kF_109 (F := F) (I := cpP I (hl 13)) (R := R) F 0 (by omega) (by omega)
  rw [cpF_0, cpP_s (show hf 109 = 8 by decide) (by decide)] at h
  exact h
theorem kb_109 {F : Nat} (hF : 6000 ≤ F) {I : Mem} {R : Nat → Option Nat} : f198c109 F 8 1 (cpQ I (hl 13), R) = some (cpQ I (hl 14), R) := by
  have h := kB_109 (F := F) (I := cpQ I (hl 13)) (R := R) F 0 (by omega) (by omega)
  rw [cpB_0, cpQ_s (show hf 109 = 8 by decide) (by decide)] at h
  exact h
theorem kf_110 {F : Nat} (hF : 6000 ≤ F) {I : Mem} {R : Nat → Option Nat} : f198c110 F 8 0 (cpP I (hl 14), R) = some (cpP I (hl 15), R) := by
  have h := kF_110 (F := F) (I := cpP I (hl 14)) (R := R) F 0 (by omega) (by omega)
  rw [cpF_0, cpP_s (show hf 110 = 8 by decide) (by decide)] at h
  exact h
theorem kb_110 {F : Nat} (hF : 6000 ≤ F) {I : Mem} {R : Nat → Option Nat} : f198c110 F 8 1 (cpQ I (hl 14), R) = some (cpQ I (hl 15), R) := by
  have h := kB_110 (F := F) (I := cpQ I (hl 14)) (R := R) F 0 (by omega) (by omega)
  rw [cpB_0, cpQ_s (show hf 110 = 8 by decide) (by decide)] at h
  exact h
theorem kf_111 {F : Nat} (hF : 6000 ≤ F) {I : Mem} {R : Nat → Option Nat} : f198c111 F 8 0 (cpP I (hl 15), R) = some (cpP I (hl 16), R) := by
  have h := kF_111 (F := F) (I := cpP I (hl 15)) (R := R) F 0 (by omega) (by omega)
  rw [cpF_0, cpP_s (show hf 111 = 8 by decide) (by decide)] at h
  exact h
theorem kb_111 {F : Nat} (hF : 6000 ≤ F) {I : Mem} {R : Nat → Option Nat} : f198c111 F 8 1 (cpQ I (hl 15), R) = some (cpQ I (hl 16), R) := by
  have h := kB_111 (F := F) (I := cpQ I (hl 15)) (R := R) F 0 (by omega) (by omega)
  rw [cpB_0, cpQ_s (show hf 111 = 8 by decide) (by decide)] at h
  exact h
theorem kf_112 {F : Nat} (hF : 6000 ≤ F) {I : Mem} {R : Nat → Option Nat} : f198c112 F 8 0 (cpP I (hl 16), R) = some (cpP I (hl 17), R) := by
  have h := kF_112 (F := F) (I := cpP I (hl 16)) (R := R) F 0 (by omega) (by omega)
  rw [cpF_0, cpP_s (show hf 112 = 8 by decide) (by decide)] at h
  exact h
theorem kb_112 {F : Nat} (hF : 6000 ≤ F) {I : Mem} {R : Nat → Option Nat} : f198c112 F 8 1 (cpQ I (hl 16), R) = some (cpQ I (hl 17), R) := by
  have h := kB_112 (F := F) (I := cpQ I (hl 16)) (R := R) F 0 (by omega) (by omega)
  rw [cpB_0, cpQ_s (show hf 112 = 8 by decide) (by decide)] at h
  exact h
theorem kf_113 {F : Nat} (hF : 6000 ≤ F) {I : Mem} {R : Nat → Option Nat} : f198c113 F 8 0 (cpP I (hl 17), R) = some (cpP I (hl 18), R) := by
  have h := kF_113 (F := F) (I := cpP I (hl 17)) (R := R) F 0 (by omega) (by omega)
  rw [cpF_0, cpP_s (show hf 113 = 8 by decide) (by decide)] at h
  exact h
theorem kb_113 {F : Nat} (hF : 6000 ≤ F) {I : Mem} {R : Nat → Option Nat} : f198c113 F 8 1 (cpQ I (hl 17), R) = some (cpQ I (hl 18), R) := by
  have h := kB_113 (F := F) (I := cpQ I (hl 17)) (R := R) F 0 (by omega) (by omega)
  rw [cpB_0, cpQ_s (show hf 113 = 8 by decide) (by decide)] at h
  exact h
theorem kf_114 {F : Nat} (hF : 6000 ≤ F) {I : Mem} {R : Nat → Option Nat} : f198c114 F 8 0 (cpP I (hl 18), R) = some (cpP I (hl 19), R) := by
  have h := kF_114 (F := F) (I := cpP I (hl 18)) (R := R) F 0 (by omega) (by omega)
  rw [cpF_0, cpP_s (show hf 114 = 8 by decide) (by decide)] at h
  exact h
theorem kb_114 {F : Nat} (hF : 6000 ≤ F) {I : Mem} {R : Nat → Option Nat} : f198c114 F 8 1 (cpQ I (hl 18), R) = some (cpQ I (hl 19), R) := by
  have h := kB_114 (F := F) (I := cpQ I (hl 18)) (R := R) F 0 (by omega) (by omega)
  rw [cpB_0, cpQ_s (show hf 114 = 8 by decide) (by decide)] at h
  exact h
theorem kf_115 {F : Nat} (hF : 6000 ≤ F) {I : Mem} {R : Nat → Option Nat} : f198c115 F 8 0 (cpP I (hl 19), R) = some (cpP I (hl 20), R) := by
  have h := kF_115 (F := F) (I := cpP I (hl 19)) (R := R) F 0 (by omega) (by omega)
  rw [cpF_0, cpP_s (show hf 115 = 8 by decide) (by decide)] at h
  exact h
theorem kb_115 {F : Nat} (hF : 6000 ≤ F) {I : Mem} {R : Nat → Option Nat} : f198c115 F 8 1 (cpQ I (hl 19), R) = some (cpQ I (hl 20), R) := by
  have h := kB_115 (F := F) (I := cpQ I (hl 19)) (R := R) F 0 (by omega) (by omega)
  rw [cpB_0, cpQ_s (show hf 115 = 8 by decide) (by decide)] at h
  exact h
theorem kf_116 {F : Nat} (hF : 6000 ≤ F) {I : Mem} {R : Nat → Option Nat} (hb : ∀ j, j < 256 → I 116 j = 0 ∨ I 116 j = 1) : f199c116 F 128 0 (cpP I (hl 20), R) = some (cpP I (hl 21), R) := by
  have h := kF_116 (F := F) (I := cpP I (hl 20)) (R := R) (fun j hj => by rw [cpP_bool (by decide)]; exact hb j hj) F 0 (by omega) (by omega)
  rw [cpF_0, cpP_s (show hf 116 = 128 by decide) (by decide)] at h
  exact h
theorem kb_116 {F : Nat} (hF : 6000 ≤ F) {I : Mem} {R : Nat → Option Nat} (hb : ∀ j, j < 256 → I 116 j = 0 ∨ I 116 j = 1) : f199c116 F 128 1 (cpQ I (hl 20), R) = some (cpQ I (hl 21), R) := by
  have h := kB_116 (F := F) (I := cpQ I (hl 20)) (R := R) (fun j hj => by rw [cpQ_bool (by decide)]; exact hb j hj) F 0 (by omega) (by omega)
  rw [cpB_0, cpQ_s (show hf 116 = 128 by decide) (by decide)] at h
  exact h
theorem kf_117 {F : Nat} (hF : 6000 ≤ F) {I : Mem} {R : Nat → Option Nat} : f198c117 F 1024 0 (cpP I (hl 21), R) = some (cpP I (hl 22), R) := by
  have h := kF_117 (F := F) (I := cpP I (hl 21)) (R := R) F 0 (by omega) (by omega)
  rw [cpF_0, cpP_s (show hf 117 = 1024 by decide) (by decide)] at h
  exact h
theorem kb_117 {F : Nat} (hF : 6000 ≤ F) {I : Mem} {R : Nat → Option Nat} : f198c117 F 1024 1 (cpQ I (hl 21), R) = some (cpQ I (hl 22), R) := by
  have h := kB_117 (F := F) (I := cpQ I (hl 21)) (R := R) F 0 (by omega) (by omega)
  rw [cpB_0, cpQ_s (show hf 117 = 1024 by decide) (by decide)] at h
  exact h
theorem kf_118 {F : Nat} (hF : 6000 ≤ F) {I : Mem} {R : Nat → Option Nat} : f198c118 F 1024 0 (cpP I (hl 22), R) = some (cpP I (hl 23), R) := by
  have h := kF_118 (F := F) (I := cpP I (hl 22)) (R := R) F 0 (by omega) (by omega)
  rw [cpF_0, cpP_s (show hf 118 = 1024 by decide) (by decide)] at h
  exact h
theorem kb_118 {F : Nat} (hF : 6000 ≤ F) {I : Mem} {R : Nat → Option Nat} : f198c118 F 1024 1 (cpQ I (hl 22), R) = some (cpQ I (hl 23), R) := by
  have h := kB_118 (F := F) (I := cpQ I (hl 22)) (R := R) F 0 (by omega) (by omega)
  rw [cpB_0, cpQ_s (show hf 118 = 1024 by decide) (by decide)] at h
  exact h
theorem kf_119 {F : Nat} (hF : 6000 ≤ F) {I : Mem} {R : Nat → Option Nat} : f198c119 F 4 0 (cpP I (hl 23), R) = some (cpP I (hl 24), R) := by
  have h := kF_119 (F := F) (I := cpP I (hl 23)) (R := R) F 0 (by omega) (by omega)
  rw [cpF_0, cpP_s (show hf 119 = 4 by decide) (by decide)] at h
  exact h
theorem kb_119 {F : Nat} (hF : 6000 ≤ F) {I : Mem} {R : Nat → Option Nat} : f198c119 F 4 1 (cpQ I (hl 23), R) = some (cpQ I (hl 24), R) := by
  have h := kB_119 (F := F) (I := cpQ I (hl 23)) (R := R) F 0 (by omega) (by omega)
  rw [cpB_0, cpQ_s (show hf 119 = 4 by decide) (by decide)] at h
  exact h
theorem kf_120 {F : Nat} (hF : 6000 ≤ F) {I : Mem} {R : Nat → Option Nat} : f198c120 F 4 0 (cpP I (hl 24), R) = some (cpP I (hl 25), R) := by
  have h := kF_120 (F := F) (I := cpP I (hl 24)) (R := R) F 0 (by omega) (by omega)
  rw [cpF_0, cpP_s (show hf 120 = 4 by decide) (by decide)] at h
  exact h
theorem kb_120 {F : Nat} (hF : 6000 ≤ F) {I : Mem} {R : Nat → Option Nat} : f198c120 F 4 1 (cpQ I (hl 24), R) = some (cpQ I (hl 25), R) := by
  have h := kB_120 (F := F) (I := cpQ I (hl 24)) (R := R) F 0 (by omega) (by omega)
  rw [cpB_0, cpQ_s (show hf 120 = 4 by decide) (by decide)] at h
  exact h
theorem kf_121 {F : Nat} (hF : 6000 ≤ F) {I : Mem} {R : Nat → Option Nat} : f198c121 F 16 0 (cpP I (hl 25), R) = some (cpP I (hl 26), R) := by
  have h := kF_121 (F := F) (I := cpP I (hl 25)) (R := R) F 0 (by omega) (by omega)
  rw [cpF_0, cpP_s (show hf 121 = 16 by decide) (by decide)] at h
  exact h
theorem kb_121 {F : Nat} (hF : 6000 ≤ F) {I : Mem} {R : Nat → Option Nat} : f198c121 F 16 1 (cpQ I (hl 25), R) = some (cpQ I (hl 26), R) := by
  have h := kB_121 (F := F) (I := cpQ I (hl 25)) (R := R) F 0 (by omega) (by omega)
  rw [cpB_0, cpQ_s (show hf 121 = 16 by decide) (by decide)] at h
  exact h
theorem kf_122 {F : Nat} (hF : 6000 ≤ F) {I : Mem} {R : Nat → Option Nat} (hb : ∀ j, j < 8 → I 122 j = 0 ∨ I 122 j = 1) : f199c122 F 4 0 (cpP I (hl 26), R) = some (cpP I (hl 27), R) := by
  have h := kF_122 (F := F) (I := cpP I (hl 26)) (R := R) (fun j hj => by rw [cpP_bool (by decide)]; exact hb j hj) F 0 (by omega) (by omega)
  rw [cpF_0, cpP_s (show hf 122 = 4 by decide) (by decide)] at h
  exact h
theorem kb_122 {F : Nat} (hF : 6000 ≤ F) {I : Mem} {R : Nat → Option Nat} (hb : ∀ j, j < 8 → I 122 j = 0 ∨ I 122 j = 1) : f199c122 F 4 1 (cpQ I (hl 26), R) = some (cpQ I (hl 27), R) := by
  have h := kB_122 (F := F) (I := cpQ I (hl 26)) (R := R) (fun j hj => by rw [cpQ_bool (by decide)]; exact hb j hj) F 0 (by omega) (by omega)
  rw [cpB_0, cpQ_s (show hf 122 = 4 by decide) (by decide)] at h
  exact h
theorem kf_123 {F : Nat} (hF : 6000 ≤ F) {I : Mem} {R : Nat → Option Nat} : f198c123 F 4 0 (cpP I (hl 27), R) = some (cpP I (hl 28), R) := by
  have h := kF_123 (F := F) (I := cpP I (hl 27)) (R := R) F 0 (by omega) (by omega)
  rw [cpF_0, cpP_s (show hf 123 = 4 by decide) (by decide)] at h
  exact h
theorem kb_123 {F : Nat} (hF : 6000 ≤ F) {I : Mem} {R : Nat → Option Nat} : f198c123 F 4 1 (cpQ I (hl 27), R) = some (cpQ I (hl 28), R) := by
  have h := kB_123 (F := F) (I := cpQ I (hl 27)) (R := R) F 0 (by omega) (by omega)
  rw [cpB_0, cpQ_s (show hf 123 = 4 by decide) (by decide)] at h
  exact h
theorem kf_124 {F : Nat} (hF : 6000 ≤ F) {I : Mem} {R : Nat → Option Nat} (hb : ∀ j, j < 10 → I 124 j = 0 ∨ I 124 j = 1) : f199c124 F 5 0 (cpP I (hl 28), R) = some (cpP I (hl 29), R) := by
  have h := kF_124 (F := F) (I := cpP I (hl 28)) (R := R) (fun j hj => by rw [cpP_bool (by decide)]; exact hb j hj) F 0 (by omega) (by omega)
  rw [cpF_0, cpP_s (show hf 124 = 5 by decide) (by decide)] at h
  exact h
theorem kb_124 {F : Nat} (hF : 6000 ≤ F) {I : Mem} {R : Nat → Option Nat} (hb : ∀ j, j < 10 → I 124 j = 0 ∨ I 124 j = 1) : f199c124 F 5 1 (cpQ I (hl 28), R) = some (cpQ I (hl 29), R) := by
  have h := kB_124 (F := F) (I := cpQ I (hl 28)) (R := R) (fun j hj => by rw [cpQ_bool (by decide)]; exact hb j hj) F 0 (by omega) (by omega)
  rw [cpB_0, cpQ_s (show hf 124 = 5 by decide) (by decide)] at h
  exact h
theorem kf_all {F : Nat} (hF : 6000 ≤ F) {I : Mem} {R : Nat → Option Nat} (hb : bools I) : f200 F 0 (I, R) = some (cpP I (hl 29), R) := by
  have h0 : (I, R) = (cpP I (hl 0), R) := by rw [show hl 0 = [] from rfl, cpP_nil]
  rw [h0]
  unfold f200
  rw [kf_96 hF, bind_at]
  rw [kf_97 hF, bind_at]
  rw [kf_98 hF, bind_at]
  rw [kf_99 hF, bind_at]
  rw [kf_100 hF, bind_at]
  rw [kf_101 hF, bind_at]
  rw [kf_102 hF, bind_at]
  rw [kf_103 hF, bind_at]
  rw [kf_104 hF, bind_at]
  rw [kf_105 hF, bind_at]
  rw [kf_106 hF, bind_at]
  rw [kf_107 hF, bind_at]
  rw [kf_108 hF, bind_at]
  rw [kf_109 hF, bind_at]
  rw [kf_110 hF, bind_at]
  rw [kf_111 hF, bind_at]
  rw [kf_112 hF, bind_at]
  rw [kf_113 hF, bind_at]
  rw [kf_114 hF, bind_at]
  rw [kf_115 hF, bind_at]
  rw [kf_116 hF hb.1, bind_at]
  rw [kf_117 hF, bind_at]
  rw [kf_118 hF, bind_at]
  rw [kf_119 hF, bind_at]
  rw [kf_120 hF, bind_at]
  rw [kf_121 hF, bind_at]
  rw [kf_122 hF hb.2.1, bind_at]
  rw [kf_123 hF, bind_at]
  rw [kf_124 hF hb.2.2, bind_at]
theorem kb_all {F : Nat} (hF : 6000 ≤ F) {I : Mem} {R : Nat → Option Nat} (hb : bools I) : f200 F 1 (I, R) = some (cpQ I (hl 29), R) := by
  have h0 : (I, R) = (cpQ I (hl 0), R) := by rw [show hl 0 = [] from rfl, cpQ_nil]
  rw [h0]
  unfold f200
  rw [kb_96 hF, bind_at]
  rw [kb_97 hF, bind_at]
  rw [kb_98 hF, bind_at]
  rw [kb_99 hF, bind_at]
  rw [kb_100 hF, bind_at]
  rw [kb_101 hF, bind_at]
  rw [kb_102 hF, bind_at]
  rw [kb_103 hF, bind_at]
  rw [kb_104 hF, bind_at]
  rw [kb_105 hF, bind_at]
  rw [kb_106 hF, bind_at]
  rw [kb_107 hF, bind_at]
  rw [kb_108 hF, bind_at]
  rw [kb_109 hF, bind_at]
  rw [kb_110 hF, bind_at]
  rw [kb_111 hF, bind_at]
  rw [kb_112 hF, bind_at]
  rw [kb_113 hF, bind_at]
  rw [kb_114 hF, bind_at]
  rw [kb_115 hF, bind_at]
  rw [kb_116 hF hb.1, bind_at]
  rw [kb_117 hF, bind_at]
  rw [kb_118 hF, bind_at]
  rw [kb_119 hF, bind_at]
  rw [kb_120 hF, bind_at]
  rw [kb_121 hF, bind_at]
  rw [kb_122 hF hb.2.1, bind_at]
  rw [kb_123 hF, bind_at]
  rw [kb_124 hF hb.2.2, bind_at]
