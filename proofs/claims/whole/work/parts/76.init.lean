/-! ===== the start ===== -/
def A0 : Ab := ((fun _ => (0, fun _ => (0, 0, 0, 0))), (fun _ => 0), 0, (fun _ => (0, fun _ => 0)), (fun _ _ => 0), fun _ => 4095)
theorem A0_v : VA A0 := by
  refine ⟨fun p hp => ⟨⟨Nat.zero_le _, fun i hi => absurd hi (Nat.not_lt_zero i)⟩, by show 0 < 4096; decide⟩, Nat.zero_le _, fun s hs => ⟨Nat.zero_le _, fun i hi => absurd hi (Nat.not_lt_zero i)⟩, fun s hs => absurd hs (Nat.not_lt_zero s), fun a b _ _ => Nat.zero_le _, fun j hj => by show 4095 < 4096; decide⟩
theorem init_x {σ : St} (h : InitX σ) : CXa HSp WSp OSp 0 A0 σ := by
  obtain ⟨gF, gK, rfl, h1, h2, h3, h4⟩ := h
  have p4 : ∀ p, p < 4 → CXp 0 (zX gF gK) (4 + 13 * p) (aP A0 p) (aH A0 p) := by
    intro p hp
    rcases (show p = 0 ∨ p = 1 ∨ p = 2 ∨ p = 3 by omega) with rfl | rfl | rfl | rfl
    all_goals exact ⟨⟨rfl, fun i hi => absurd hi (Nat.not_lt_zero i)⟩, rfl, 1, Nat.le_refl _, Nat.le_refl _, rfl, fun m _ => ⟨0, Nat.zero_le _, rfl, fun e => absurd e (by decide)⟩⟩
  refine ⟨fun m hm => h1 m hm, p4, ⟨rfl, fun s hs => ?_, fun s hs => absurd hs (Nat.not_lt_zero s)⟩, ⟨fun a b ha hb => ?_, fun a ha => ?_, fun b hb => ?_⟩, fun j hj => h3 j hj, Or.inl rfl, Or.inl ?_, Or.inl rfl⟩
  · rcases hs with hs | rfl
    · exact absurd hs (Nat.not_lt_zero s)
    · exact ⟨rfl, fun i hi => absurd hi (Nat.not_lt_zero i)⟩
  · show gK 1 (13 * a + b) = nI 0
    rw [h2, wv, if_neg (by omega), if_neg (by omega)]; rfl
  · show gK 1 (13 * a + 12) = 1
    rw [h2, wv, if_pos (by omega)]
  · show gK 1 (156 + b) = 2
    rw [h2, wv, if_neg (by omega), if_pos (by omega)]
  · show gK 0 1 = -6
    rw [h4 0 1 (by decide) (by decide)]
    rfl
theorem init_m {σ : St} (h : InitM σ) : CMa HSp WSp SSp 0 A0 σ := by
  obtain ⟨h1, h2, h3⟩ := h
  have z : ∀ k j, k ≠ 0 → k ≠ 20 → k ≠ 17 → σ.1 k j = 0 := by
    intro k j h0 a b
    rw [h3 k j a b]
    show zM.1 k j = 0
    cases k with
    | zero => exact absurd rfl h0
    | succ k => rfl
  have y : ∀ j, σ.1 0 j = zM.1 0 j := fun j => h3 0 j (by decide) (by decide)
  refine ⟨h1, fun p hp => ⟨⟨z 5 p (by decide) (by decide) (by decide), fun i hi => absurd hi (Nat.not_lt_zero i)⟩, z 6 p (by decide) (by decide) (by decide), Or.inl (z 7 p (by decide) (by decide) (by decide)), fun _ i m hi => absurd hi (Nat.not_lt_zero i)⟩, ⟨by rw [y]; rfl, fun s hs => ⟨z 15 s (by decide) (by decide) (by decide), fun i hi => absurd hi (Nat.not_lt_zero i)⟩⟩, fun a b _ _ => z 16 _ (by decide) (by decide) (by decide), fun j hj => h2 j hj, ⟨⟨0, Nat.le_refl _, by rw [y]; rfl, Or.inl (by rw [y]; rfl), Or.inl (by rw [y]; rfl)⟩, 0, Nat.le_refl _, by rw [y]; rfl, Or.inl (by rw [y]; rfl)⟩, fun q => ?_, fun q => ?_, fun q => ?_⟩
  · rw [y, y] at q
    exact absurd q (by decide)
  · rw [y, y] at q
    exact absurd q (by decide)
  · rw [y, y] at q
    exact absurd q (by decide)
theorem init_r (σX σM : St) (hX : InitX σX) (hM : InitM σM) : Rel HSp WSp OSp SSp 0 σX σM := ⟨A0, A0_v, init_x hX, init_m hM⟩
theorem step_ok : StepOK (Rel HSp WSp OSp SSp) := ⟨fun k _ _ h => h.mono (Nat.le_succ k), ok_line _ _ _ _, ok_change _ _ _ _, ok_clear _ _ _ _, ok_silent _ _ _ _, ok_run _ _ _ _, ok_say _ _ _ _, ok_wipe _ _ _ _, ok_fault _ _ _ _, ok_saying _ _ _ _, ok_pair _ _ _ _, ok_holds _ _ _, ok_part _ _ _ _, ok_wait _ _ _ _, ok_walk _ _ _, ok_shape _ _ _, ok_tell _ _ _ _, ok_fails _ _ _, ok_so _ _ _, ok_fit _ _ _ _, ok_far _ _ _ _, ok_changed _ _ _ _, ok_orders _ _ _, ok_told _ _ _ _⟩
