/-! ===== Walker's and the reference's loops ===== -/
def wv (k j : Nat) : Int32 := if j % 13 = 12 ∧ j / 13 < k then 1 else if 156 ≤ j ∧ j < 156 + k then 2 else 0
theorem p_X7_init (σ0 : St) (h1 : ∀ j, σ0.1 1 j = 0) : ∃ σ', f_X7_initL σ0 = some σ' ∧ (∀ j, σ'.1 1 j = wv 12 j) ∧ (∀ j, j < 169 → σ'.1 2 j = 4095) ∧ (∀ k j, k ≠ 1 → k ≠ 2 → σ'.1 k j = σ0.1 k j) := by
  obtain ⟨s1, e, f1, f2, f3⟩ := p_fillI 2 169 (by decide) 4095 σ0
  have key : ∃ σ', wh FU b_X7_init_99 ((0 : Int32), s1) = some σ' ∧ ((∀ j, σ'.1 1 j = wv 12 j) ∧ (∀ k j, k ≠ 1 → σ'.1 k j = s1.1 k j)) := by
    refine wh_cnt 12 (fun k s => s.1 = nI k ∧ (∀ j, s.2.1 1 j = wv k j) ∧ (∀ k j, k ≠ 1 → s.2.1 k j = s1.1 k j)) _ ?_ ?_ FU 0 _ (by decide) ⟨rfl, fun j => ?_, fun _ _ _ => rfl⟩ (by decide)
    · rintro k ⟨i, s⟩ hk ⟨rfl, e1, e2⟩
      left
      have hc : ¬ ((12 : Int32) ≤ nI k) := nI_ge hk (by decide)
      refine ⟨(nI (k + 1), stI (stI s 1 (k * 13 + 12) 1) 1 (156 + k) 2), ?_, rfl, ?_, ?_⟩
      · have ea : nI k * (13 : Int32) + (12 : Int32) = nI (k * 13 + 12) := by rw [L13, L12, pk_mul, nI_add]
        have eb : (156 : Int32) + nI k = nI (156 + k) := by rw [L156, nI_add]
        simp only [b_X7_init_99, un_, if_neg hc, ea, eb, inb_nI (show k * 13 + 12 < 169 by omega) (by decide : 169 < 2 ^ 31), inb_nI (show 156 + k < 169 by omega) (by decide : 169 < 2 ^ 31), chk_t, nm_, nI_clamp (show k * 13 + 12 < 2 ^ 31 by omega), nI_clamp (show 156 + k < 2 ^ 31 by omega), nI_1]
      · intro j
        show (stI (stI s 1 (k * 13 + 12) 1) 1 (156 + k) 2).1 1 j = _
        rw [stI_v, stI_v]
        have e1j := e1 j
        dsimp only at e1j
        rw [e1j]
        unfold wv
        by_cases a1 : j = 156 + k
        · subst a1
          rw [if_pos ⟨rfl, rfl⟩, if_neg (by omega), if_pos (by omega)]
        · rw [if_neg (by simp [a1])]
          by_cases a2 : j = k * 13 + 12
          · rw [if_pos ⟨rfl, a2⟩, if_pos (by omega)]
          · rw [if_neg (by simp [a2])]
            by_cases a3 : j % 13 = 12 ∧ j / 13 < k
            · rw [if_pos a3, if_pos (by omega)]
            · rw [if_neg a3, if_neg (show ¬ (j % 13 = 12 ∧ j / 13 < k + 1) by omega)]
              by_cases a4 : 156 ≤ j ∧ j < 156 + k
              · rw [if_pos a4, if_pos (by omega)]
              · rw [if_neg a4, if_neg (by omega)]
      · intro k' j' h'
        show (stI (stI s 1 (k * 13 + 12) 1) 1 (156 + k) 2).1 k' j' = _
        rw [stI_ne (fun h => h' h.1), stI_ne (fun h => h' h.1)]
        exact e2 k' j' h'
    · rintro ⟨i, s⟩ ⟨rfl, e1, e2⟩
      exact ⟨s, by simp only [b_X7_init_99, un_]; rfl, e1, e2⟩
    · show s1.1 1 j = wv 0 j
      rw [f2 1 j (by simp), h1]
      unfold wv
      rw [if_neg (by omega), if_neg (by omega)]
  obtain ⟨σ', e', g1, g2⟩ := key
  refine ⟨σ', by unfold f_X7_initL; rw [e, Option.bind_some, e']; rfl, g1, fun j hj => ?_, fun k j hk1 hk2 => ?_⟩
  · rw [g2 2 j (by decide)]; exact f1 j hj
  · rw [g2 k j hk1]; exact f2 k j (by simp [hk2])
theorem p_X9_241 (x : Nat) (hx : x < 256) (σ0 : St) : ∃ σ', wh FU (b_X9_init_241 (nI x)) ((0 : Int32), σ0) = some σ' ∧ ((∀ y, y < 256 → σ'.1 20 (256 * x + y) = nI (saysP x y 4)) ∧ (∀ k j, ¬ (k = 20 ∧ 256 * x ≤ j ∧ j < 256 * x + 256) → σ'.1 k j = σ0.1 k j)) := by
  refine wh_cnt 256 (fun k s => s.1 = nI k ∧ (∀ y, y < k → s.2.1 20 (256 * x + y) = nI (saysP x y 4)) ∧ (∀ k j, ¬ (k = 20 ∧ 256 * x ≤ j ∧ j < 256 * x + 256) → s.2.1 k j = σ0.1 k j)) _ ?_ ?_ FU 0 _ (by decide) ⟨rfl, fun y h => absurd h (Nat.not_lt_zero y), fun _ _ _ => rfl⟩ (by decide)
  · rintro k ⟨i, s⟩ hk ⟨rfl, e1, e2⟩
    left
    have hc : ¬ ((256 : Int32) ≤ nI k) := nI_ge hk (by decide)
    refine ⟨(nI (k + 1), stI s 20 (256 * x + k) (nI (saysP x k 4))), ?_, rfl, ?_, ?_⟩
    · have ea : (256 : Int32) * nI x + nI k = nI (256 * x + k) := by rw [L256, pk_mul, nI_add]
      simp only [b_X9_init_241, un_, if_neg hc, p_saysOf x k hx hk, Option.bind_some, ea, inb_nI (show 256 * x + k < 65536 by omega) (by decide : 65536 < 2 ^ 31), chk_t, nm_, nI_clamp (show 256 * x + k < 2 ^ 31 by omega), nI_1]
    · intro y hy
      show (stI s 20 (256 * x + k) (nI (saysP x k 4))).1 20 (256 * x + y) = _
      rw [stI_v]
      by_cases h : y = k
      · subst h; rw [if_pos ⟨rfl, rfl⟩]
      · rw [if_neg (by omega)]; exact e1 y (by omega)
    · intro k' j' h'
      show (stI s 20 (256 * x + k) (nI (saysP x k 4))).1 k' j' = _
      rw [stI_ne (fun h => h' ⟨h.1, by omega, by omega⟩)]
      exact e2 k' j' h'
  · rintro ⟨i, s⟩ ⟨rfl, e1, e2⟩
    exact ⟨s, by simp only [b_X9_init_241, un_]; rfl, e1, e2⟩
theorem p_X9_init (σ0 : St) : ∃ σ', f_X9_initL σ0 = some σ' ∧ (∀ x y, x < 256 → y < 256 → σ'.1 20 (256 * x + y) = nI (saysP x y 4)) ∧ (∀ j, j < 169 → σ'.1 17 j = 4095) ∧ (∀ k j, k ≠ 20 → k ≠ 17 → σ'.1 k j = σ0.1 k j) := by
  have key1 : ∃ s1, wh FU b_X9_init_208 ((0 : Int32), σ0) = some s1 ∧ ((∀ j, j < 169 → s1.1 17 j = 4095) ∧ (∀ k j, k ≠ 17 → s1.1 k j = σ0.1 k j)) := by
    refine wh_cnt 169 (fun k s => s.1 = nI k ∧ (∀ j, j < k → s.2.1 17 j = 4095) ∧ (∀ k j, k ≠ 17 → s.2.1 k j = σ0.1 k j)) _ ?_ ?_ FU 0 _ (by decide) ⟨rfl, fun y h => absurd h (Nat.not_lt_zero y), fun _ _ _ => rfl⟩ (by decide)
    · rintro k ⟨i, s⟩ hk ⟨rfl, e1, e2⟩
      left
      have hc : ¬ ((169 : Int32) ≤ nI k) := nI_ge hk (by decide)
      refine ⟨(nI (k + 1), stI s 17 k 4095), ?_, rfl, ?_, ?_⟩
      · simp only [b_X9_init_208, un_, if_neg hc, inb_nI hk (by decide : 169 < 2 ^ 31), chk_t, nm_, nI_clamp (show k < 2 ^ 31 by omega), nI_1]
      · intro y hy
        show (stI s 17 k 4095).1 17 y = _
        rw [stI_v]
        by_cases h : y = k
        · subst h; rw [if_pos ⟨rfl, rfl⟩]
        · rw [if_neg (by omega)]; exact e1 y (by omega)
      · intro k' j' h'
        show (stI s 17 k 4095).1 k' j' = _
        rw [stI_ne (fun h => h' h.1)]
        exact e2 k' j' h'
    · rintro ⟨i, s⟩ ⟨rfl, e1, e2⟩
      exact ⟨s, by simp only [b_X9_init_208, un_]; rfl, e1, e2⟩
  obtain ⟨s1, e1, f1, f2⟩ := key1
  have key2 : ∃ s2, wh FU b_X9_init_232 ((0 : Int32), s1) = some s2 ∧ ((∀ x y, x < 256 → y < 256 → s2.1 20 (256 * x + y) = nI (saysP x y 4)) ∧ (∀ k j, k ≠ 20 → s2.1 k j = s1.1 k j)) := by
    refine wh_cnt 256 (fun k s => s.1 = nI k ∧ (∀ x y, x < k → y < 256 → s.2.1 20 (256 * x + y) = nI (saysP x y 4)) ∧ (∀ k j, k ≠ 20 → s.2.1 k j = s1.1 k j)) _ ?_ ?_ FU 0 _ (by decide) ⟨rfl, fun x y h => absurd h (Nat.not_lt_zero x), fun _ _ _ => rfl⟩ (by decide)
    · rintro k ⟨i, s⟩ hk ⟨rfl, e1, e2⟩
      left
      have hc : ¬ ((256 : Int32) ≤ nI k) := nI_ge hk (by decide)
      obtain ⟨s', e, g1, g2⟩ := p_X9_241 k hk s
      refine ⟨(nI (k + 1), s'), ?_, rfl, ?_, ?_⟩
      · simp only [b_X9_init_232, un_, if_neg hc, e, Option.bind_some, nm_, nI_1]
      · intro x y hx hy
        by_cases h : x = k
        · subst h; exact g1 y hy
        · show s'.1 20 _ = _
          rw [g2 20 _ (by omega)]
          exact e1 x y (by omega) hy
      · intro k' j' h'
        show s'.1 k' j' = _
        rw [g2 k' j' (fun h => h' h.1)]
        exact e2 k' j' h'
    · rintro ⟨i, s⟩ ⟨rfl, e1, e2⟩
      exact ⟨s, by simp only [b_X9_init_232, un_]; rfl, e1, e2⟩
  obtain ⟨s2, e2, g1, g2⟩ := key2
  refine ⟨s2, by unfold f_X9_initL; rw [e1, Option.bind_some, e2]; rfl, g1, fun j hj => ?_, fun k j h1 h2 => ?_⟩
  · rw [g2 17 j (by decide)]; exact f1 j hj
  · rw [g2 k j h1]; exact f2 k j h2
