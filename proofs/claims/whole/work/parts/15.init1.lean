/-! ===== what the constructors' loops come to ===== -/
def hotP (m : Nat) : Nat → Nat
  | 0 => 0
  | k + 1 => hotP m k + 2 ^ (4 * k + val m k)
def lanP (m : Nat) : Nat → Nat
  | 0 => 0
  | k + 1 => lanP m k + val m k * 8 ^ k
theorem hotP_step : ∀ m, m < 256 → ∀ k, k < 4 → (nI (hotP m k)) ||| ((1 : Int32) <<< ((((4 : Int32) * nI k) + nI (val m k)) &&& 31)) = nI (hotP m (k + 1)) := by decide +kernel
theorem lanP_step : ∀ m, m < 256 → ∀ k, k < 4 → (nI (lanP m k)) ||| (nI (val m k) <<< (((3 : Int32) * nI k) &&& 31)) = nI (lanP m (k + 1)) := by decide +kernel
theorem p_X1_33 (m : Nat) (hm : m < 256) (σ0 : St) (h1 : σ0.1 1 m = 0) (h2 : σ0.1 2 m = 0) : ∃ σ', wh FU (b_X1_init_33 (nI m)) ((0 : Int32), σ0) = some σ' ∧ (σ'.1 1 m = nI (hotP m 4) ∧ σ'.1 2 m = nI (lanP m 4) ∧ (∀ k j, ¬ ((k = 1 ∨ k = 2) ∧ j = m) → σ'.1 k j = σ0.1 k j) ∧ σ'.2 = σ0.2) := by
  refine wh_cnt 4 (fun k s => s.1 = nI k ∧ s.2.1 1 m = nI (hotP m k) ∧ s.2.1 2 m = nI (lanP m k) ∧ (∀ k j, ¬ ((k = 1 ∨ k = 2) ∧ j = m) → s.2.1 k j = σ0.1 k j) ∧ s.2.2 = σ0.2) _ ?_ ?_ FU 0 _ (by decide) ⟨rfl, h1, h2, fun _ _ _ => rfl, rfl⟩ (by decide)
  · rintro k ⟨i, σ⟩ hk ⟨rfl, e1, e2, e3, e4⟩
    left
    have hc : ¬ ((4 : Int32) ≤ nI k) := nI_ge hk (by decide)
    refine ⟨(nI (k + 1), stI (stI σ 1 m (nI (hotP m (k + 1)))) 2 m (nI (lanP m (k + 1)))), ?_, rfl, ?_, ?_, ?_, e4⟩
    · dsimp only at e1 e2
      simp only [b_X1_init_33, un_, if_neg hc, p_valueOfX m hm k hk, Option.bind_some, inb_nI hm (by decide : 256 < 2 ^ 31), chk_t, nm_, nI_clamp (show m < 2 ^ 31 by omega), e1, stI_nk (show 2 ≠ 1 by decide), e2, hotP_step m hm k hk, lanP_step m hm k hk, nI_1]
    · rw [stI_ne (by simp), stI_same]
    · rw [stI_same]
    · intro k' j' h'
      rw [stI_ne (fun h => h' ⟨Or.inr h.1, h.2⟩), stI_ne (fun h => h' ⟨Or.inl h.1, h.2⟩)]
      exact e3 k' j' h'
  · rintro ⟨i, σ⟩ ⟨rfl, e1, e2, e3, e4⟩
    refine ⟨σ, ?_, e1, e2, e3, e4⟩
    simp only [b_X1_init_33, un_]
    rfl
theorem p_X1_init (σ0 : St) (h1 : ∀ j, σ0.1 1 j = 0) (h2 : ∀ j, σ0.1 2 j = 0) : ∃ σ', f_X1_initL σ0 = some σ' ∧ (∀ m, m < 256 → σ'.1 1 m = nI (hotP m 4) ∧ σ'.1 2 m = nI (lanP m 4)) := by
  have key : ∃ σ', wh FU b_X1_init_24 ((0 : Int32), σ0) = some σ' ∧ (∀ m, m < 256 → σ'.1 1 m = nI (hotP m 4) ∧ σ'.1 2 m = nI (lanP m 4)) := by
    refine wh_cnt 256 (fun k s => s.1 = nI k ∧ (∀ m, m < k → s.2.1 1 m = nI (hotP m 4) ∧ s.2.1 2 m = nI (lanP m 4)) ∧ (∀ m, k ≤ m → s.2.1 1 m = 0 ∧ s.2.1 2 m = 0)) _ ?_ ?_ FU 0 _ (by decide) ⟨rfl, fun m h => absurd h (Nat.not_lt_zero m), fun m _ => ⟨h1 m, h2 m⟩⟩ (by decide)
    · rintro k ⟨i, σ⟩ hk ⟨rfl, e1, e2⟩
      left
      have hc : ¬ ((256 : Int32) ≤ nI k) := nI_ge hk (by decide)
      obtain ⟨σ', e, f1, f2, f3, f4⟩ := p_X1_33 k hk σ (e2 k (Nat.le_refl k)).1 (e2 k (Nat.le_refl k)).2
      refine ⟨(nI (k + 1), σ'), ?_, rfl, ?_, ?_⟩
      · simp only [b_X1_init_24, un_, if_neg hc, e, Option.bind_some, nm_, nI_1]
      · intro m hm
        by_cases h : m = k
        · subst h; exact ⟨f1, f2⟩
        · rw [f3 1 m (by simp [h]), f3 2 m (by simp [h])]
          exact e1 m (by omega)
      · intro m hm
        rw [f3 1 m (by simp; omega), f3 2 m (by simp; omega)]
        exact e2 m (by omega)
    · rintro ⟨i, σ⟩ ⟨rfl, e1, e2⟩
      exact ⟨σ, by simp only [b_X1_init_24, un_]; rfl, e1⟩
  obtain ⟨σ', e, h⟩ := key
  exact ⟨σ', by unfold f_X1_initL; rw [e]; rfl, h⟩
