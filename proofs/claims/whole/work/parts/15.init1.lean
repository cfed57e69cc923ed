/-! ===== what the constructors' loops come to ===== -/
def hotP (m : Nat) : Nat → Nat
  | 0 => 0
  | k + 1 => hotP m k + 2 ^ (4 * k + val m k)
def lanP (m : Nat) : Nat → Nat
  | 0 => 0
  | k + 1 => lanP m k + val m k * 8 ^ k
theorem hotP_step : ∀ m, m < 256 → ∀ k, k < 4 → (nI (hotP m k)) ||| ((1 : Int32) <<< ((((4 : Int32) * nI k) + nI (val m k)) &&& 31)) = nI (hotP m (k + 1)) := by decide +kernel
theorem lanP_step : ∀ m, m < 256 → ∀ k, k < 4 → (nI (lanP m k)) ||| (nI (val m k) <<< (((3 : Int32) * nI k) &&& 31)) = nI (lanP m (k + 1)) := by decide +kernel
theorem p_X1_33 (m : Nat) (hm : m < 256) (σ0 : St) (h1 : σ0.1 1 m = 0) (h2 : σ0.1 2 m = 0) : ∃ σ', wh FU (b_X1_init_33 (nI m)) ((0 : Int32), σ0) = some σ' ∧ (σ'.1 1 m = nI (hotP m 4) ∧ σ'.1 2 m = nI (lanP m 4) ∧ (∀ k j, ¬ ((k = 1 ∨ k = 2) ∧ j = m) → σ'.1 k j = σ0.1 k j) ∧ σ'.2 = σ0.2) := by
  refine wh_cnt 4 (fun k s => s.1 = nI k ∧ s.2.1 1 m = nI (hotP m k) ∧ s.2.1 2 m = nI (lanP m k) ∧ (∀ k j, ¬ ((k = 1 ∨ k = 2) ∧ j = m) → s.2.1 k j = σ0.1 k j) ∧ s.2.2 = σ0.2) _ ?_ ?_ FU 0 _ (by decide) ⟨rfl, h1, h2, fun _ _ _ => rfl, rfl⟩ (by decide)
  · rintro k ⟨i, σ⟩ hk ⟨rfl, e1, e2, e3, e4⟩
    left
    have hc : ¬ ((4 : Int32) ≤ nI k) := nI_ge hk (by decide)
    refine ⟨(nI (k + 1), stI (stI σ 1 m (nI (hotP m (k + 1)))) 2 m (nI (lanP m (k + 1)))), ?_, rfl, ?_, ?_, ?_, e4⟩
    · dsimp only at e1 e2
      simp only [b_X1_init_33, un_, if_neg hc, p_valueOfX m hm k hk, Option.bind_some, inb_nI hm (by decide : 256 < 2 ^ 31), chk_t, nm_, nI_clamp (show m < 2 ^ 31 by omega), e1, stI_nk (show 2 ≠ 1 by decide), e2, hotP_step m hm k hk, lanP_step m hm k hk, nI_1]
    · rw [stI_ne (by simp), stI_same]
    · rw [stI_same]
    · intro k' j' h'
      rw [stI_ne (fun h => h' ⟨Or.inr h.1, h.2⟩), stI_ne (fun h => h' ⟨Or.inl h.1, h.2⟩)]
      exact e3 k' j' h'
  · rintro ⟨i, σ⟩ ⟨rfl, e1, e2, e3, e4⟩
    refine ⟨σ, ?_, e1, e2, e3, e4⟩
    simp only [b_X1_init_33, un_]
    rfl
theorem p_X1_init (σ0 : St) (h1 : ∀ j, σ0.1 1 j = 0) (h2 : ∀ j, σ0.1 2 j = 0) : ∃ σ', f_X1_initL σ0 = some σ' ∧ (∀ m, m < 256 → σ'.1 1 m = nI (hotP m 4) ∧ σ'.1 2 m = nI (lanP m 4)) := by
  have key : ∃ σ', wh FU b_X1_init_24 ((0 : Int32), σ0) = some σ' ∧ (∀ m, m < 256 → σ'.1 1 m = nI (hotP m 4) ∧ σ'.1 2 m = nI (lanP m 4)) := by
    refine wh_cnt 256 (fun k s => s.1 = nI k ∧ (∀ m, m < k → s.2.1 1 m = nI (hotP m 4) ∧ s.2.1 2 m = nI (lanP m 4)) ∧ (∀ m, k ≤ m → s.2.1 1 m = 0 ∧ s.2.1 2 m = 0)) _ ?_ ?_ FU 0 _ (by decide) ⟨rfl, fun m h => absurd h (Nat.not_lt_zero m), fun m _ => ⟨h1 m, h2 m⟩⟩ (by decide)
    · rintro k ⟨i, σ⟩ hk ⟨rfl, e1, e2⟩
      left
      have hc : ¬ ((256 : Int32) ≤ nI k) := nI_ge hk (by decide)
      obtain ⟨σ', e, f1, f2, f3, f4⟩ := p_X1_33 k hk σ (e2 k (Nat.le_refl k)).1 (e2 k (Nat.le_refl k)).2
      refine ⟨(nI (k + 1), σ'), ?_, rfl, ?_, ?_⟩
      · simp only [b_X1_init_24, un_, if_neg hc, e, Option.bind_some, nm_, nI_1]
      · intro m hm
        by_cases h : m = k
        · subst h; exact ⟨f1, f2⟩
        · rw [f3 1 m (by simp [h]), f3 2 m (by simp [h])]
          exact e1 m (by omega)
      · intro m hm
        rw [f3 1 m (by simp; omega), f3 2 m (by simp; omega)]
        exact e2 m (by omega)
    · rintro ⟨i, σ⟩ ⟨rfl, e1, e2⟩
      exact ⟨σ, by simp only [b_X1_init_24, un_]; rfl, e1⟩
  obtain ⟨σ', e, h⟩ := key
  exact ⟨σ', by unfold f_X1_initL; rw [e]; rfl, h⟩
/-- two digits, how they stand: 7 alike, 4 less, 2 greater -/
def sgn (a b : Nat) : Nat := if a = b then 7 else if a < b then 4 else 2
def saysP (x y : Nat) : Nat → Nat
  | 0 => 0
  | k + 1 => saysP x y k + sgn (val x k) (val y k) * 8 ^ k
theorem sgn_lt (a b : Nat) : sgn a b < 8 := by unfold sgn; split; decide; split <;> decide
theorem saysP_lt (x y k : Nat) : saysP x y k < 8 ^ k := by
  induction k with
  | zero => exact Nat.one_pos
  | succ k ih =>
    have h1 := sgn_lt (val x k) (val y k)
    have h2 : sgn (val x k) (val y k) * 8 ^ k ≤ 7 * 8 ^ k := Nat.mul_le_mul_right _ (by omega)
    have h3 : 8 ^ (k + 1) = 8 * 8 ^ k := by rw [Nat.pow_succ, Nat.mul_comm]
    show saysP x y k + _ < _
    omega
theorem or_lane {acc k : Nat} (b : Nat) (h : acc < 8 ^ k) : nI acc ||| nI (b * 8 ^ k) = nI (acc + b * 8 ^ k) := by
  have e : 8 ^ k = 2 ^ (3 * k) := by rw [Nat.pow_mul]
  rw [e] at h ⊢
  have := fa_or_sum b h
  rw [fa_or] at this ⊢
  rw [Nat.or_comm, Nat.mul_comm b, this, Nat.add_comm]
theorem bits_7 : ∀ k, k < 4 → ((((1 : Int32) <<< (((3 : Int32) * nI k) &&& 31)) ||| ((2 : Int32) <<< (((3 : Int32) * nI k) &&& 31))) ||| ((4 : Int32) <<< (((3 : Int32) * nI k) &&& 31))) = nI (7 * 8 ^ k) := by decide +kernel
theorem bits_4 : ∀ k, k < 4 → (((0 : Int32) ||| (0 : Int32)) ||| ((4 : Int32) <<< (((3 : Int32) * nI k) &&& 31))) = nI (4 * 8 ^ k) := by decide +kernel
theorem bits_2 : ∀ k, k < 4 → (((0 : Int32) ||| ((2 : Int32) <<< (((3 : Int32) * nI k) &&& 31))) ||| (0 : Int32)) = nI (2 * 8 ^ k) := by decide +kernel
theorem p_saysOf (x y : Nat) (hx : x < 256) (hy : y < 256) : f_X9_saysOf (nI x) (nI y) = some (nI (saysP x y 4)) := by
  have key : ∃ r, wh FU (b_X9_saysOf_4 (nI x) (nI y)) ((0 : Int32), (0 : Int32)) = some r ∧ r = nI (saysP x y 4) := by
    refine wh_cnt 4 (fun k s => s.1 = nI (saysP x y k) ∧ s.2 = nI k) _ ?_ ?_ FU 0 _ (by decide) ⟨rfl, rfl⟩ (by decide)
    · rintro k ⟨i, j⟩ hk ⟨rfl, rfl⟩
      left
      have hc : ¬ ((4 : Int32) ≤ nI k) := nI_ge hk (by decide)
      refine ⟨(nI (saysP x y (k + 1)), nI (k + 1)), ?_, rfl, rfl⟩
      have ha := val_lt x k
      have hb := val_lt y k
      have hl := saysP_lt x y k
      simp only [b_X9_saysOf_4, un_, if_neg hc, p_valueOfM x hx k hk, p_valueOfM y hy k hk, Option.bind_some, nm_, nI_1, eq_nI (show val x k < 2 ^ 31 by omega) (show val y k < 2 ^ 31 by omega), lt_nI (show val x k < 2 ^ 31 by omega) (show val y k < 2 ^ 31 by omega), lt_nI (show val y k < 2 ^ 31 by omega) (show val x k < 2 ^ 31 by omega), bits_7 k hk, bits_4 k hk, bits_2 k hk, or_lane _ hl]
      rcases Nat.lt_trichotomy (val x k) (val y k) with h | h | h
      · rw [if_neg (by omega), if_pos h, if_neg (by omega)]
        simp only [saysP, sgn, if_neg (show ¬ val x k = val y k by omega), if_pos h]
      · rw [if_pos h, if_neg (by omega), if_neg (by omega)]
        simp only [saysP, sgn, if_pos h]
      · rw [if_neg (by omega), if_neg (by omega), if_pos h]
        simp only [saysP, sgn, if_neg (show ¬ val x k = val y k by omega), if_neg (show ¬ val x k < val y k by omega)]
    · rintro ⟨i, j⟩ ⟨rfl, rfl⟩
      exact ⟨_, by simp only [b_X9_saysOf_4, un_]; rfl, rfl⟩
  obtain ⟨r, e, rfl⟩ := key
  unfold f_X9_saysOf
  rw [e]; rfl
theorem p_fillI (k n : Nat) (hn : n < 65536) (x : Int32) (σ : St) : ∃ σ', f_J7_fill_53178 k n x σ = some σ' ∧ (∀ j, j < n → σ'.1 k j = x) ∧ (∀ k' j', ¬ (k' = k ∧ j' < n) → σ'.1 k' j' = σ.1 k' j') ∧ σ'.2 = σ.2 := by
  have key : ∃ σ', wh FU (b_J7_fill_53178_5 k n x (nI n)) ((0 : Int32), σ) = some σ' ∧ ((∀ j, j < n → σ'.1 k j = x) ∧ (∀ k' j', ¬ (k' = k ∧ j' < n) → σ'.1 k' j' = σ.1 k' j') ∧ σ'.2 = σ.2) := by
    refine wh_cnt n (fun i s => s.1 = nI i ∧ (∀ j, j < i → s.2.1 k j = x) ∧ (∀ k' j', ¬ (k' = k ∧ j' < i) → s.2.1 k' j' = σ.1 k' j') ∧ s.2.2 = σ.2) _ ?_ ?_ FU 0 _ (Nat.zero_le n) ⟨rfl, fun j h => absurd h (Nat.not_lt_zero j), fun _ _ _ => rfl, rfl⟩ (by rw [FU_]; omega)
    · rintro i ⟨i', s⟩ hi ⟨rfl, e1, e2, e3⟩
      left
      have hc : ¬ (nI n ≤ nI i) := nI_ge hi (by omega)
      refine ⟨(nI (i + 1), stI s k i x), ?_, rfl, ?_, ?_, e3⟩
      · simp only [b_J7_fill_53178_5, un_, if_neg hc, inb_nI hi (show n < 2 ^ 31 by omega), chk_t, nm_, nI_clamp (show i < 2 ^ 31 by omega), nI_1]
      · intro j hj
        show (stI s k i x).1 k j = x
        rw [stI_v]
        split
        · rfl
        · rename_i h; exact e1 j (by have : ¬ j = i := fun e => h ⟨rfl, e⟩; omega)
      · intro k' j' h
        show (stI s k i x).1 k' j' = _
        rw [stI_ne (fun h2 => h ⟨h2.1, by omega⟩)]
        exact e2 k' j' (fun h2 => h ⟨h2.1, by omega⟩)
    · rintro ⟨i', s⟩ ⟨rfl, e1, e2, e3⟩
      refine ⟨s, ?_, e1, e2, e3⟩
      simp only [b_J7_fill_53178_5, un_]
      rw [if_pos (nI_le (Nat.le_refl n) (by omega))]
  obtain ⟨σ', e, h⟩ := key
  exact ⟨σ', by unfold f_J7_fill_53178; rw [nm_, show Int32.ofNat n = nI n from rfl, e]; rfl, h⟩
theorem p_fillL (k n : Nat) (hn : n < 65536) (x : Int64) (σ : St) : ∃ σ', f_J7_fill_d0a16 k n x σ = some σ' ∧ (∀ j, j < n → σ'.2 k j = x) ∧ (∀ k' j', ¬ (k' = k ∧ j' < n) → σ'.2 k' j' = σ.2 k' j') ∧ σ'.1 = σ.1 := by
  have key : ∃ σ', wh FU (b_J7_fill_d0a16_6 k n x (nI n)) ((0 : Int32), σ) = some σ' ∧ ((∀ j, j < n → σ'.2 k j = x) ∧ (∀ k' j', ¬ (k' = k ∧ j' < n) → σ'.2 k' j' = σ.2 k' j') ∧ σ'.1 = σ.1) := by
    refine wh_cnt n (fun i s => s.1 = nI i ∧ (∀ j, j < i → s.2.2 k j = x) ∧ (∀ k' j', ¬ (k' = k ∧ j' < i) → s.2.2 k' j' = σ.2 k' j') ∧ s.2.1 = σ.1) _ ?_ ?_ FU 0 _ (Nat.zero_le n) ⟨rfl, fun j h => absurd h (Nat.not_lt_zero j), fun _ _ _ => rfl, rfl⟩ (by rw [FU_]; omega)
    · rintro i ⟨i', s⟩ hi ⟨rfl, e1, e2, e3⟩
      left
      have hc : ¬ (nI n ≤ nI i) := nI_ge hi (by omega)
      refine ⟨(nI (i + 1), stL s k i x), ?_, rfl, ?_, ?_, e3⟩
      · simp only [b_J7_fill_d0a16_6, un_, if_neg hc, inb_nI hi (show n < 2 ^ 31 by omega), chk_t, nm_, nI_clamp (show i < 2 ^ 31 by omega), nI_1]
      · intro j hj
        show (stL s k i x).2 k j = x
        rw [stL_v]
        split
        · rfl
        · rename_i h; exact e1 j (by have : ¬ j = i := fun e => h ⟨rfl, e⟩; omega)
      · intro k' j' h
        show (stL s k i x).2 k' j' = _
        rw [stL_ne (fun h2 => h ⟨h2.1, by omega⟩)]
        exact e2 k' j' (fun h2 => h ⟨h2.1, by omega⟩)
    · rintro ⟨i', s⟩ ⟨rfl, e1, e2, e3⟩
      refine ⟨s, ?_, e1, e2, e3⟩
      simp only [b_J7_fill_d0a16_6, un_]
      rw [if_pos (nI_le (Nat.le_refl n) (by omega))]
  obtain ⟨σ', e, h⟩ := key
  exact ⟨σ', by unfold f_J7_fill_d0a16; rw [nm_, show Int32.ofNat n = nI n from rfl, e]; rfl, h⟩
