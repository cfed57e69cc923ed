/-! ===== acts; line, change, clear, silent ===== -/
theorem rngV (x : Int32) : (∃ j, j ≤ 3 ∧ x = nI j ∧ f_X8_isWithin x (3 : Int32) = some 1 ∧ f_X9_isVariable x = some 1) ∨ (f_X8_isWithin x (3 : Int32) = some 0 ∧ f_X9_isVariable x = some 0) := by
  rcases rng x 3 (by decide) with ⟨j, hj, e, a, b⟩ | ⟨_, a, b⟩
  · left
    exact ⟨j, hj, e, a, by unfold f_X9_isVariable; rw [show (3 : Int64) = lN 3 from rfl, b]; rfl⟩
  · right
    exact ⟨a, by unfold f_X9_isVariable; rw [show (3 : Int64) = lN 3 from rfl, b]; rfl⟩
theorem rngB (x : Int32) : (∃ j, j ≤ 12 ∧ x = nI j ∧ f_X8_isWithin x (12 : Int32) = some 1 ∧ f_X9_in x.toInt64 (0 : Int64) (12 : Int64) = some 1) ∨ (f_X8_isWithin x (12 : Int32) = some 0 ∧ f_X9_in x.toInt64 (0 : Int64) (12 : Int64) = some 0) := by
  rcases rng x 12 (by decide) with ⟨j, hj, e, a, b⟩ | ⟨_, a, b⟩
  · exact Or.inl ⟨j, hj, e, a, b⟩
  · exact Or.inr ⟨a, b⟩
/-- an act as it must be, or not, on both sides -/
def ActD (act a b c : Int32) : Prop := (∃ L : Ln, VL L ∧ act = nI L.1 ∧ a = nI L.2.1 ∧ b = nI L.2.2.1 ∧ c = nI L.2.2.2 ∧ f_X8_isAct act a b c = some 1 ∧ f_X9_isLine act a b c = some 1) ∨ (f_X8_isAct act a b c = some 0 ∧ f_X9_isLine act a b c = some 0)
theorem act_0 (a b c : Int32) : ActD 0 a b c := by
  rcases rngV a with ⟨ja, ha, rfl, a1, a2⟩ | ⟨a1, a2⟩
  rotate_left
  · exact Or.inr ⟨by simp (config := { decide := true }) only [f_X8_isAct, f_X9_isLine, if_true, if_false, Option.bind_some, a1, a2], by simp (config := { decide := true }) only [f_X8_isAct, f_X9_isLine, if_true, if_false, Option.bind_some, a1, a2]⟩
  rcases rngV b with ⟨jb, hb, rfl, b1, b2⟩ | ⟨b1, b2⟩
  rotate_left
  · exact Or.inr ⟨by simp (config := { decide := true }) only [f_X8_isAct, f_X9_isLine, if_true, if_false, Option.bind_some, a1, a2, b1, b2], by simp (config := { decide := true }) only [f_X8_isAct, f_X9_isLine, if_true, if_false, Option.bind_some, a1, a2, b1, b2]⟩
  by_cases hc : c = 0
  rotate_left
  · exact Or.inr ⟨by simp (config := { decide := true }) only [f_X8_isAct, f_X9_isLine, if_true, if_false, Option.bind_some, a1, a2, b1, b2, if_neg hc], by simp (config := { decide := true }) only [f_X8_isAct, f_X9_isLine, if_true, if_false, Option.bind_some, a1, a2, b1, b2, if_neg hc]⟩
  subst hc
  refine Or.inl ⟨(0, ja, jb, 0), ⟨show 0 ≤ 7 by decide, by exact ha, fun h => absurd (show 0 = 5 from h) (by decide), fun _ => hb, Nat.zero_le 3⟩, rfl, rfl, rfl, rfl, by simp (config := { decide := true }) only [f_X8_isAct, f_X9_isLine, if_true, if_false, Option.bind_some, a1, a2, b1, b2], by simp (config := { decide := true }) only [f_X8_isAct, f_X9_isLine, if_true, if_false, Option.bind_some, a1, a2, b1, b2]⟩
theorem act_1 (a b c : Int32) : ActD 1 a b c := by
  rcases rngV a with ⟨ja, ha, rfl, a1, a2⟩ | ⟨a1, a2⟩
  rotate_left
  · exact Or.inr ⟨by simp (config := { decide := true }) only [f_X8_isAct, f_X9_isLine, if_true, if_false, Option.bind_some, a1, a2], by simp (config := { decide := true }) only [f_X8_isAct, f_X9_isLine, if_true, if_false, Option.bind_some, a1, a2]⟩
  rcases rngV b with ⟨jb, hb, rfl, b1, b2⟩ | ⟨b1, b2⟩
  rotate_left
  · exact Or.inr ⟨by simp (config := { decide := true }) only [f_X8_isAct, f_X9_isLine, if_true, if_false, Option.bind_some, a1, a2, b1, b2], by simp (config := { decide := true }) only [f_X8_isAct, f_X9_isLine, if_true, if_false, Option.bind_some, a1, a2, b1, b2]⟩
  by_cases hc : c = 0
  rotate_left
  · exact Or.inr ⟨by simp (config := { decide := true }) only [f_X8_isAct, f_X9_isLine, if_true, if_false, Option.bind_some, a1, a2, b1, b2, if_neg hc], by simp (config := { decide := true }) only [f_X8_isAct, f_X9_isLine, if_true, if_false, Option.bind_some, a1, a2, b1, b2, if_neg hc]⟩
  subst hc
  refine Or.inl ⟨(1, ja, jb, 0), ⟨show 1 ≤ 7 by decide, by exact ha, fun h => absurd (show 1 = 5 from h) (by decide), fun _ => hb, Nat.zero_le 3⟩, rfl, rfl, rfl, rfl, by simp (config := { decide := true }) only [f_X8_isAct, f_X9_isLine, if_true, if_false, Option.bind_some, a1, a2, b1, b2], by simp (config := { decide := true }) only [f_X8_isAct, f_X9_isLine, if_true, if_false, Option.bind_some, a1, a2, b1, b2]⟩
theorem act_2 (a b c : Int32) : ActD 2 a b c := by
  rcases rngV a with ⟨ja, ha, rfl, a1, a2⟩ | ⟨a1, a2⟩
  rotate_left
  · exact Or.inr ⟨by simp (config := { decide := true }) only [f_X8_isAct, f_X9_isLine, if_true, if_false, Option.bind_some, a1, a2], by simp (config := { decide := true }) only [f_X8_isAct, f_X9_isLine, if_true, if_false, Option.bind_some, a1, a2]⟩
  rcases rngV b with ⟨jb, hb, rfl, b1, b2⟩ | ⟨b1, b2⟩
  rotate_left
  · exact Or.inr ⟨by simp (config := { decide := true }) only [f_X8_isAct, f_X9_isLine, if_true, if_false, Option.bind_some, a1, a2, b1, b2], by simp (config := { decide := true }) only [f_X8_isAct, f_X9_isLine, if_true, if_false, Option.bind_some, a1, a2, b1, b2]⟩
  rcases rngV c with ⟨jc, hc, rfl, c1, c2⟩ | ⟨c1, c2⟩
  rotate_left
  · exact Or.inr ⟨by simp (config := { decide := true }) only [f_X8_isAct, f_X9_isLine, if_true, if_false, Option.bind_some, a1, a2, b1, b2, c1, c2], by simp (config := { decide := true }) only [f_X8_isAct, f_X9_isLine, if_true, if_false, Option.bind_some, a1, a2, b1, b2, c1, c2]⟩
  refine Or.inl ⟨(2, ja, jb, jc), ⟨show 2 ≤ 7 by decide, by exact ha, fun h => absurd (show 2 = 5 from h) (by decide), fun _ => hb, by exact hc⟩, rfl, rfl, rfl, rfl, by simp (config := { decide := true }) only [f_X8_isAct, f_X9_isLine, if_true, if_false, Option.bind_some, a1, a2, b1, b2, c1, c2], by simp (config := { decide := true }) only [f_X8_isAct, f_X9_isLine, if_true, if_false, Option.bind_some, a1, a2, b1, b2, c1, c2]⟩
theorem act_3 (a b c : Int32) : ActD 3 a b c := by
  rcases rngV a with ⟨ja, ha, rfl, a1, a2⟩ | ⟨a1, a2⟩
  rotate_left
  · exact Or.inr ⟨by simp (config := { decide := true }) only [f_X8_isAct, f_X9_isLine, if_true, if_false, Option.bind_some, a1, a2], by simp (config := { decide := true }) only [f_X8_isAct, f_X9_isLine, if_true, if_false, Option.bind_some, a1, a2]⟩
  rcases rngV b with ⟨jb, hb, rfl, b1, b2⟩ | ⟨b1, b2⟩
  rotate_left
  · exact Or.inr ⟨by simp (config := { decide := true }) only [f_X8_isAct, f_X9_isLine, if_true, if_false, Option.bind_some, a1, a2, b1, b2], by simp (config := { decide := true }) only [f_X8_isAct, f_X9_isLine, if_true, if_false, Option.bind_some, a1, a2, b1, b2]⟩
  rcases rngV c with ⟨jc, hc, rfl, c1, c2⟩ | ⟨c1, c2⟩
  rotate_left
  · exact Or.inr ⟨by simp (config := { decide := true }) only [f_X8_isAct, f_X9_isLine, if_true, if_false, Option.bind_some, a1, a2, b1, b2, c1, c2], by simp (config := { decide := true }) only [f_X8_isAct, f_X9_isLine, if_true, if_false, Option.bind_some, a1, a2, b1, b2, c1, c2]⟩
  refine Or.inl ⟨(3, ja, jb, jc), ⟨show 3 ≤ 7 by decide, by exact ha, fun h => absurd (show 3 = 5 from h) (by decide), fun _ => hb, by exact hc⟩, rfl, rfl, rfl, rfl, by simp (config := { decide := true }) only [f_X8_isAct, f_X9_isLine, if_true, if_false, Option.bind_some, a1, a2, b1, b2, c1, c2], by simp (config := { decide := true }) only [f_X8_isAct, f_X9_isLine, if_true, if_false, Option.bind_some, a1, a2, b1, b2, c1, c2]⟩
theorem act_4 (a b c : Int32) : ActD 4 a b c := by
  rcases rngV a with ⟨ja, ha, rfl, a1, a2⟩ | ⟨a1, a2⟩
  rotate_left
  · exact Or.inr ⟨by simp (config := { decide := true }) only [f_X8_isAct, f_X9_isLine, if_true, if_false, Option.bind_some, a1, a2], by simp (config := { decide := true }) only [f_X8_isAct, f_X9_isLine, if_true, if_false, Option.bind_some, a1, a2]⟩
  rcases rngV b with ⟨jb, hb, rfl, b1, b2⟩ | ⟨b1, b2⟩
  rotate_left
  · exact Or.inr ⟨by simp (config := { decide := true }) only [f_X8_isAct, f_X9_isLine, if_true, if_false, Option.bind_some, a1, a2, b1, b2], by simp (config := { decide := true }) only [f_X8_isAct, f_X9_isLine, if_true, if_false, Option.bind_some, a1, a2, b1, b2]⟩
  rcases rngV c with ⟨jc, hc, rfl, c1, c2⟩ | ⟨c1, c2⟩
  rotate_left
  · exact Or.inr ⟨by simp (config := { decide := true }) only [f_X8_isAct, f_X9_isLine, if_true, if_false, Option.bind_some, a1, a2, b1, b2, c1, c2], by simp (config := { decide := true }) only [f_X8_isAct, f_X9_isLine, if_true, if_false, Option.bind_some, a1, a2, b1, b2, c1, c2]⟩
  refine Or.inl ⟨(4, ja, jb, jc), ⟨show 4 ≤ 7 by decide, by exact ha, fun h => absurd (show 4 = 5 from h) (by decide), fun _ => hb, by exact hc⟩, rfl, rfl, rfl, rfl, by simp (config := { decide := true }) only [f_X8_isAct, f_X9_isLine, if_true, if_false, Option.bind_some, a1, a2, b1, b2, c1, c2], by simp (config := { decide := true }) only [f_X8_isAct, f_X9_isLine, if_true, if_false, Option.bind_some, a1, a2, b1, b2, c1, c2]⟩
theorem act_5 (a b c : Int32) : ActD 5 a b c := by
  rcases rngV a with ⟨ja, ha, rfl, a1, a2⟩ | ⟨a1, a2⟩
  rotate_left
  · exact Or.inr ⟨by simp (config := { decide := true }) only [f_X8_isAct, f_X9_isLine, if_true, if_false, Option.bind_some, a1, a2], by simp (config := { decide := true }) only [f_X8_isAct, f_X9_isLine, if_true, if_false, Option.bind_some, a1, a2]⟩
  rcases rngB b with ⟨jb, hb, rfl, b1, b2⟩ | ⟨b1, b2⟩
  rotate_left
  · exact Or.inr ⟨by simp (config := { decide := true }) only [f_X8_isAct, f_X9_isLine, if_true, if_false, Option.bind_some, a1, a2, b1, b2], by simp (config := { decide := true }) only [f_X8_isAct, f_X9_isLine, if_true, if_false, Option.bind_some, a1, a2, b1, b2]⟩
  by_cases hc : c = 0
  rotate_left
  · exact Or.inr ⟨by simp (config := { decide := true }) only [f_X8_isAct, f_X9_isLine, if_true, if_false, Option.bind_some, a1, a2, b1, b2, if_neg hc], by simp (config := { decide := true }) only [f_X8_isAct, f_X9_isLine, if_true, if_false, Option.bind_some, a1, a2, b1, b2, if_neg hc]⟩
  subst hc
  refine Or.inl ⟨(5, ja, jb, 0), ⟨show 5 ≤ 7 by decide, by exact ha, fun _ => hb, fun h => absurd rfl h, Nat.zero_le 3⟩, rfl, rfl, rfl, rfl, by simp (config := { decide := true }) only [f_X8_isAct, f_X9_isLine, if_true, if_false, Option.bind_some, a1, a2, b1, b2], by simp (config := { decide := true }) only [f_X8_isAct, f_X9_isLine, if_true, if_false, Option.bind_some, a1, a2, b1, b2]⟩
theorem act_6 (a b c : Int32) : ActD 6 a b c := by
  rcases rngV a with ⟨ja, ha, rfl, a1, a2⟩ | ⟨a1, a2⟩
  rotate_left
  · exact Or.inr ⟨by simp (config := { decide := true }) only [f_X8_isAct, f_X9_isLine, if_true, if_false, Option.bind_some, a1, a2], by simp (config := { decide := true }) only [f_X8_isAct, f_X9_isLine, if_true, if_false, Option.bind_some, a1, a2]⟩
  by_cases hb : b = 0
  rotate_left
  · exact Or.inr ⟨by simp (config := { decide := true }) only [f_X8_isAct, f_X9_isLine, if_true, if_false, Option.bind_some, a1, a2, if_neg hb], by simp (config := { decide := true }) only [f_X8_isAct, f_X9_isLine, if_true, if_false, Option.bind_some, a1, a2, if_neg hb]⟩
  subst hb
  by_cases hc : c = 0
  rotate_left
  · exact Or.inr ⟨by simp (config := { decide := true }) only [f_X8_isAct, f_X9_isLine, if_true, if_false, Option.bind_some, a1, a2, if_neg hc], by simp (config := { decide := true }) only [f_X8_isAct, f_X9_isLine, if_true, if_false, Option.bind_some, a1, a2, if_neg hc]⟩
  subst hc
  refine Or.inl ⟨(6, ja, 0, 0), ⟨show 6 ≤ 7 by decide, by exact ha, fun h => absurd (show 6 = 5 from h) (by decide), fun _ => Nat.zero_le 3, Nat.zero_le 3⟩, rfl, rfl, rfl, rfl, by simp (config := { decide := true }) only [f_X8_isAct, f_X9_isLine, if_true, if_false, Option.bind_some, a1, a2], by simp (config := { decide := true }) only [f_X8_isAct, f_X9_isLine, if_true, if_false, Option.bind_some, a1, a2]⟩
theorem act_7 (a b c : Int32) : ActD 7 a b c := by
  by_cases ha : a = 0
  rotate_left
  · exact Or.inr ⟨by simp (config := { decide := true }) only [f_X8_isAct, f_X9_isLine, if_true, if_false, Option.bind_some, if_neg ha], by simp (config := { decide := true }) only [f_X8_isAct, f_X9_isLine, if_true, if_false, Option.bind_some, if_neg ha]⟩
  subst ha
  by_cases hb : b = 0
  rotate_left
  · exact Or.inr ⟨by simp (config := { decide := true }) only [f_X8_isAct, f_X9_isLine, if_true, if_false, Option.bind_some, if_neg hb], by simp (config := { decide := true }) only [f_X8_isAct, f_X9_isLine, if_true, if_false, Option.bind_some, if_neg hb]⟩
  subst hb
  by_cases hc : c = 0
  rotate_left
  · exact Or.inr ⟨by simp (config := { decide := true }) only [f_X8_isAct, f_X9_isLine, if_true, if_false, Option.bind_some, if_neg hc], by simp (config := { decide := true }) only [f_X8_isAct, f_X9_isLine, if_true, if_false, Option.bind_some, if_neg hc]⟩
  subst hc
  refine Or.inl ⟨(7, 0, 0, 0), ⟨show 7 ≤ 7 by decide, Nat.zero_le 3, fun h => absurd (show 7 = 5 from h) (by decide), fun _ => Nat.zero_le 3, Nat.zero_le 3⟩, rfl, rfl, rfl, rfl, by simp (config := { decide := true }) only [f_X8_isAct, f_X9_isLine, if_true, if_false], by simp (config := { decide := true }) only [f_X8_isAct, f_X9_isLine, if_true, if_false]⟩
theorem act_dich (act a b c : Int32) : ActD act a b c := by
  by_cases h0 : act = 0
  · subst h0; exact act_0 a b c
  by_cases h1 : act = 1
  · subst h1; exact act_1 a b c
  by_cases h2 : act = 2
  · subst h2; exact act_2 a b c
  by_cases h3 : act = 3
  · subst h3; exact act_3 a b c
  by_cases h4 : act = 4
  · subst h4; exact act_4 a b c
  by_cases h5 : act = 5
  · subst h5; exact act_5 a b c
  by_cases h6 : act = 6
  · subst h6; exact act_6 a b c
  by_cases h7 : act = 7
  · subst h7; exact act_7 a b c
  exact Or.inr ⟨by simp only [f_X8_isAct, if_neg h0, if_neg h1, if_neg h2, if_neg h3, if_neg h4, if_neg h5, if_neg h6, if_neg h7], by simp only [f_X9_isLine, if_neg h0, if_neg h1, if_neg h2, if_neg h3, if_neg h4, if_neg h5, if_neg h6, if_neg h7]⟩
