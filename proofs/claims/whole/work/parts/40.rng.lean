/-! ===== numbers in a range, on both sides ===== -/
theorem rng (x : Int32) (N : Nat) (hN : N < 2 ^ 30) : (∃ j, j ≤ N ∧ x = nI j ∧ f_X8_isWithin x (nI N) = some 1 ∧ f_X9_in x.toInt64 0 (lN N) = some 1) ∨ ((∀ j, j ≤ N → x ≠ nI j) ∧ f_X8_isWithin x (nI N) = some 0 ∧ f_X9_in x.toInt64 0 (lN N) = some 0) := by
  have hx : x.toInt64.toInt = x.toInt := Int32.toInt_toInt64 x
  have h0 : (0 : Int64).toInt = 0 := rfl
  have hNl : (lN N).toInt = (N : Int) := pk_lT (by omega)
  have hNi : (nI N).toInt = (N : Int) := nI_toInt (by omega)
  have h0i : (0 : Int32).toInt = 0 := rfl
  have lo : (lg_cmp x.toInt64 0 < (0 : Int32)) ↔ x.toInt < 0 := by rw [lg_cmp_lt, Int64.lt_iff_toInt_lt, hx, h0]
  have hi : ((0 : Int32) < lg_cmp x.toInt64 (lN N)) ↔ (N : Int) < x.toInt := by rw [lg_cmp_gt, Int64.lt_iff_toInt_lt, hx, hNl]
  have loI : (x < (0 : Int32)) ↔ x.toInt < 0 := by rw [Int32.lt_iff_toInt_lt, h0i]
  have hiI : (nI N < x) ↔ (N : Int) < x.toInt := by rw [Int32.lt_iff_toInt_lt, hNi]
  by_cases c1 : x.toInt < 0
  · right
    refine ⟨fun j hj e => ?_, ?_, ?_⟩
    · rw [e, nI_toInt (by omega)] at c1; omega
    · unfold f_X8_isWithin; rw [if_pos (loI.mpr c1)]
    · unfold f_X9_in; rw [if_pos (lo.mpr c1)]
  · by_cases c2 : (N : Int) < x.toInt
    · right
      refine ⟨fun j hj e => ?_, ?_, ?_⟩
      · rw [e, nI_toInt (by omega)] at c2; omega
      · unfold f_X8_isWithin; rw [if_neg (fun h => c1 (loI.mp h)), if_pos (hiI.mpr c2)]
      · unfold f_X9_in; rw [if_neg (fun h => c1 (lo.mp h)), if_pos (hi.mpr c2)]
    · left
      refine ⟨x.toInt.toNat, by omega, ?_, ?_, ?_⟩
      · apply Int32.toInt_inj.mp
        rw [nI_toInt (by omega)]; omega
      · unfold f_X8_isWithin; rw [if_neg (fun h => c1 (loI.mp h)), if_neg (fun h => c2 (hiI.mp h))]
      · unfold f_X9_in; rw [if_neg (fun h => c1 (lo.mp h)), if_neg (fun h => c2 (hi.mp h))]
theorem isb1 : isb (1 : Int32) = true := by decide
theorem isb0 : isb (0 : Int32) = true := by decide
theorem rngP (x : Int32) : (∃ j, j < 4 ∧ x = nI j ∧ f_X8_isProgram x = some 1 ∧ f_X9_isProgram x = some 1) ∨ (f_X8_isProgram x = some 0 ∧ f_X9_isProgram x = some 0) := by
  rcases rng x 3 (by decide) with ⟨j, hj, e, a, b⟩ | ⟨_, a, b⟩
  · left
    exact ⟨j, by omega, e, by unfold f_X8_isProgram; rw [L3, a]; rfl, by unfold f_X9_isProgram; rw [show (3 : Int64) = lN 3 from rfl, b]; rfl⟩
  · right
    exact ⟨by unfold f_X8_isProgram; rw [L3, a]; rfl, by unfold f_X9_isProgram; rw [show (3 : Int64) = lN 3 from rfl, b]; rfl⟩
theorem rngS (x : Int32) : (∃ j, j < 256 ∧ x = nI j ∧ f_X8_isMemory x = some 1 ∧ f_X9_isStart x = some 1) ∨ (f_X8_isMemory x = some 0 ∧ f_X9_isStart x = some 0) := by
  rcases rng x 255 (by decide) with ⟨j, hj, e, a, b⟩ | ⟨_, a, b⟩
  · left
    exact ⟨j, by omega, e, by unfold f_X8_isMemory; rw [L255, a]; rfl, by unfold f_X9_isStart; rw [show (255 : Int64) = lN 255 from rfl, b]; rfl⟩
  · right
    exact ⟨by unfold f_X8_isMemory; rw [L255, a]; rfl, by unfold f_X9_isStart; rw [show (255 : Int64) = lN 255 from rfl, b]; rfl⟩
