/-! the beginning -/
theorem S0_z {o : Nat} (h1 : o ≠ 85) (h2 : o ≠ 94) (h3 : o ≠ 96) : S0.1 o = fun _ => 0 := by
  funext b
  have key : ∀ l : List (Nat × Nat × Int32), (∀ q, q ∈ l → q.2.2 = 0 ∨ q.1 = 85 ∨ q.1 = 94 ∨ q.1 = 96) → ht_look l o b = 0 := by
    intro l
    induction l with
    | nil => intro _; rfl
    | cons q l ih =>
      intro h
      unfold ht_look
      by_cases c : q.1 = o ∧ q.2.1 = b
      · rw [if_pos c]
        rcases h q List.mem_cons_self with z | z | z | z
        · exact z
        · exact absurd (c.1.symm.trans z) h1
        · exact absurd (c.1.symm.trans z) h2
        · exact absurd (c.1.symm.trans z) h3
      · rw [if_neg c]
        exact ih (fun q hq => h q (List.mem_cons_of_mem _ hq))
  refine key _ (fun q hq => ?_)
  have h : ∀ q, q ∈ (ht_il.take 13).reverse → q.2.2 = 0 ∨ q.1 = 85 ∨ q.1 = 94 ∨ q.1 = 96 := by decide
  exact h q hq
theorem S0_m {o : Nat} (h1 : o ≠ 85) (h2 : o ≠ 94) (h3 : o ≠ 96) : mv S0.1 o = fun _ => 0 := by
  funext b
  unfold mv
  rw [S0_z h1 h2 h3]
  split <;> rfl
theorem Cur_0 : Cur S0.1 (mv S0.1) 0 0 0 0 0 := by
  have e96 : ∀ j, j < 9 → mv S0.1 96 j = S0.1 96 j := fun j hj => mv_at (Nat.lt_of_lt_of_le hj (show 9 ≤ hf 96 by decide))
  have x0 : S0.1 96 0 = 0 := by decide
  have x1 : S0.1 96 1 = 0 := by decide
  have x2 : S0.1 96 2 = 0 := by decide
  have x3 : S0.1 96 3 = 0 := by decide
  have x4 : S0.1 96 4 = 0 := by decide
  have x5 : S0.1 96 5 = -1 := by decide
  have x6 : S0.1 96 6 = 3 := by decide
  have x7 : S0.1 96 7 = 0 := by decide
  have x8 : S0.1 96 8 = 0 := by decide
  have y85 : S0.1 85 0 = -1 := by decide
  have y94 : S0.1 94 0 = 3 := by decide
  unfold Cur
  rw [e96 0 (by omega), e96 1 (by omega), e96 2 (by omega), e96 3 (by omega), e96 4 (by omega), e96 5 (by omega), e96 6 (by omega), e96 7 (by omega), e96 8 (by omega), x0, x1, x2, x3, x4, x5, x6, x7, x8, y85, y94]
  rw [S0_z (o := 9) (by decide) (by decide) (by decide), S0_z (o := 11) (by decide) (by decide) (by decide), S0_z (o := 13) (by decide) (by decide) (by decide), S0_z (o := 15) (by decide) (by decide) (by decide), S0_z (o := 17) (by decide) (by decide) (by decide), S0_z (o := 19) (by decide) (by decide) (by decide), S0_z (o := 21) (by decide) (by decide) (by decide), S0_z (o := 31) (by decide) (by decide) (by decide), S0_z (o := 33) (by decide) (by decide) (by decide), S0_z (o := 35) (by decide) (by decide) (by decide), S0_z (o := 37) (by decide) (by decide) (by decide), S0_z (o := 39) (by decide) (by decide) (by decide), S0_z (o := 41) (by decide) (by decide) (by decide), S0_z (o := 43) (by decide) (by decide) (by decide), S0_z (o := 45) (by decide) (by decide) (by decide), S0_z (o := 48) (by decide) (by decide) (by decide), S0_z (o := 50) (by decide) (by decide) (by decide), S0_z (o := 52) (by decide) (by decide) (by decide), S0_z (o := 54) (by decide) (by decide) (by decide), S0_z (o := 56) (by decide) (by decide) (by decide), S0_z (o := 58) (by decide) (by decide) (by decide), S0_z (o := 60) (by decide) (by decide) (by decide), S0_z (o := 62) (by decide) (by decide) (by decide), S0_z (o := 64) (by decide) (by decide) (by decide), S0_z (o := 66) (by decide) (by decide) (by decide), S0_z (o := 68) (by decide) (by decide) (by decide), S0_z (o := 71) (by decide) (by decide) (by decide), S0_z (o := 73) (by decide) (by decide) (by decide), S0_z (o := 75) (by decide) (by decide) (by decide), S0_z (o := 77) (by decide) (by decide) (by decide), S0_z (o := 79) (by decide) (by decide) (by decide), S0_z (o := 81) (by decide) (by decide) (by decide), S0_z (o := 83) (by decide) (by decide) (by decide), S0_z (o := 88) (by decide) (by decide) (by decide), S0_z (o := 90) (by decide) (by decide) (by decide), S0_z (o := 92) (by decide) (by decide) (by decide)]
  rw [S0_m (o := 97) (by decide) (by decide) (by decide), S0_m (o := 98) (by decide) (by decide) (by decide), S0_m (o := 99) (by decide) (by decide) (by decide), S0_m (o := 100) (by decide) (by decide) (by decide), S0_m (o := 101) (by decide) (by decide) (by decide), S0_m (o := 102) (by decide) (by decide) (by decide), S0_m (o := 103) (by decide) (by decide) (by decide), S0_m (o := 104) (by decide) (by decide) (by decide), S0_m (o := 105) (by decide) (by decide) (by decide), S0_m (o := 106) (by decide) (by decide) (by decide), S0_m (o := 107) (by decide) (by decide) (by decide), S0_m (o := 108) (by decide) (by decide) (by decide), S0_m (o := 109) (by decide) (by decide) (by decide), S0_m (o := 110) (by decide) (by decide) (by decide), S0_m (o := 111) (by decide) (by decide) (by decide), S0_m (o := 112) (by decide) (by decide) (by decide), S0_m (o := 113) (by decide) (by decide) (by decide), S0_m (o := 114) (by decide) (by decide) (by decide), S0_m (o := 115) (by decide) (by decide) (by decide), S0_m (o := 116) (by decide) (by decide) (by decide), S0_m (o := 117) (by decide) (by decide) (by decide), S0_m (o := 118) (by decide) (by decide) (by decide), S0_m (o := 119) (by decide) (by decide) (by decide), S0_m (o := 120) (by decide) (by decide) (by decide), S0_m (o := 121) (by decide) (by decide) (by decide), S0_m (o := 122) (by decide) (by decide) (by decide), S0_m (o := 123) (by decide) (by decide) (by decide), S0_m (o := 124) (by decide) (by decide) (by decide)]
  refine ⟨⟨by omega, rfl, rfl, fun j hj => ⟨rfl, rfl, rfl, 0, 0, 0, by omega, by omega, by omega, rfl, rfl, rfl, fun _ => rfl, fun s h1 h2 => absurd h2 (by omega)⟩⟩, ⟨by omega, rfl, rfl, fun f hf => ⟨rfl, rfl, rfl, rfl, rfl, fun _ => ⟨rfl, rfl, rfl⟩⟩, fun f hf => absurd hf (by omega)⟩, ⟨by omega, rfl, rfl, fun s hs => ⟨rfl, rfl, rfl, rfl, rfl, rfl, rfl⟩, fun j hj => ⟨rfl, Or.inl rfl⟩, fun j hj => ⟨0, 0, by omega, by omega, rfl, rfl, rfl⟩, fun s hs => absurd hs (by omega), fun s _ _ => ⟨rfl, rfl, fun _ _ => rfl, fun _ _ => rfl⟩⟩, ⟨by omega, rfl, rfl, rfl, rfl, rfl, Or.inl rfl, fun g hg => ⟨rfl, rfl, rfl, rfl, Or.inl rfl, fun _ => ⟨rfl, rfl⟩⟩, fun j hj => rfl, fun g hg => absurd hg (by omega), fun b hb => absurd hb (by omega), rfl⟩, ⟨fun j hj => ⟨rfl, Or.inl rfl⟩, rfl, Or.inl rfl, rfl, Or.inl rfl, rfl, 3, by omega, rfl⟩⟩
theorem Rel_0 : Rel S0 0 := by
  refine ⟨⟨0, 0, 0, 0, 0, Cur_0⟩, ?_, ?_, Or.inl (congrFun (S0_z (by decide) (by decide) (by decide)) 4), ?_, fun h => ?_⟩
  · unfold Tal
    rw [S0_z (o := 5) (by decide) (by decide) (by decide), S0_z (o := 6) (by decide) (by decide) (by decide), S0_z (o := 95) (by decide) (by decide) (by decide), S0_z (o := 125) (by decide) (by decide) (by decide)]
    exact ⟨rfl, rfl, rfl, rfl, rfl, rfl, ⟨0, by omega, rfl, rfl⟩, fun _ _ => rfl⟩
  · unfold bools
    rw [S0_z (o := 116) (by decide) (by decide) (by decide), S0_z (o := 122) (by decide) (by decide) (by decide), S0_z (o := 124) (by decide) (by decide) (by decide)]
    exact ⟨fun _ _ => Or.inl rfl, fun _ _ => Or.inl rfl, fun _ _ => Or.inl rfl⟩
  · rw [S0_z (o := 95) (by decide) (by decide) (by decide), S0_z (o := 1) (by decide) (by decide) (by decide)]
  · rw [S0_z (o := 1) (by decide) (by decide) (by decide)] at h
    exact absurd h (by decide)
theorem hloop : ∀ (L : Nat) (xs : Nat → Int32), L ≤ 4608 → ∃ S, g299_18 L xs 6000 6000 0 S0 = some (1, S) := fun L xs hL => law_lp (F := 6000) (by omega) hL xs 6000 0 S0 (by omega) (by omega) Rel_0
