/-! ===== what is meant: programs and their steps ===== -/
abbrev Ln : Type := Nat × Nat × Nat × Nat
/-- a PROGRAM: how many LINES, and which -/
abbrev Pg : Type := Nat × (Nat → Ln)
def nl (P : Pg) (j : Nat) : Nat := if j < P.1 then j else 12
def setv (m v x : Nat) : Nat := m - val m v * 4 ^ (3 - v) + x * 4 ^ (3 - v)
/-- a STEP from LINE i with MEMORY m: 256 times the next LINE, and the MEMORY; 4096 more if it is REFUSED -/
def cod (P : Pg) (i m : Nat) : Nat :=
  if (P.2 i).1 = 0 then 256 * nl P (i + 1) + setv m (P.2 i).2.1 (P.2 i).2.2.1
  else if (P.2 i).1 = 1 then 256 * nl P (i + 1) + setv m (P.2 i).2.1 (val m ((P.2 i).2.2.1 % 4))
  else if (P.2 i).1 = 2 then 256 * nl P (i + 1) + setv m (P.2 i).2.1 ((val m ((P.2 i).2.2.1 % 4) + val m ((P.2 i).2.2.2 % 4)) % 4)
  else if (P.2 i).1 = 3 then 256 * nl P (i + 1) + setv m (P.2 i).2.1 ((val m ((P.2 i).2.2.1 % 4) + 4 - val m ((P.2 i).2.2.2 % 4)) % 4)
  else if (P.2 i).1 = 4 then (if val m ((P.2 i).2.2.2 % 4) = 0 then 7168 + m else 256 * nl P (i + 1) + setv m (P.2 i).2.1 (val m ((P.2 i).2.2.1 % 4) % val m ((P.2 i).2.2.2 % 4)))
  else if (P.2 i).1 = 5 then (if val m (P.2 i).2.1 = 0 then 256 * nl P (i + 1) + m else 256 * nl P (P.2 i).2.2.1 + m)
  else if (P.2 i).1 = 6 then 256 * nl P (i + 1) + m
  else 3072 + m
def VL (L : Ln) : Prop := L.1 ≤ 7 ∧ L.2.1 ≤ 3 ∧ (L.1 = 5 → L.2.2.1 ≤ 12) ∧ (L.1 ≠ 5 → L.2.2.1 ≤ 3) ∧ L.2.2.2 ≤ 3
def VP (P : Pg) : Prop := P.1 ≤ 12 ∧ ∀ i, i < P.1 → VL (P.2 i)
def PX (σ : St) (pa : Nat) (P : Pg) : Prop := σ.1 pa 5 = nI P.1 ∧ ∀ i, i < P.1 → σ.1 (pa + 1) i = nI (P.2 i).1 ∧ σ.1 (pa + 2) i = nI (P.2 i).2.1 ∧ σ.1 (pa + 3) i = nI (P.2 i).2.2.1 ∧ σ.1 (pa + 4) i = nI (P.2 i).2.2.2
def PM (σ : St) (p : Nat) (P : Pg) : Prop := σ.1 5 p = nI P.1 ∧ ∀ i, i < P.1 → σ.1 1 (12 * p + i) = nI (P.2 i).1 ∧ σ.1 2 (12 * p + i) = nI (P.2 i).2.1 ∧ σ.1 3 (12 * p + i) = nI (P.2 i).2.2.1 ∧ σ.1 4 (12 * p + i) = nI (P.2 i).2.2.2
theorem nl_lt {P : Pg} (h : P.1 ≤ 12) (j : Nat) : nl P j ≤ 12 := by unfold nl; split <;> omega
theorem and3 (n : Nat) : nI n &&& (3 : Int32) = nI (n % 4) := fa_mask n 2
theorem p_withX : ∀ m, m < 256 → ∀ v, v < 4 → ∀ x, x < 4 → f_X8_withValue (nI m) (nI v) (nI x) = some (nI (setv m v x)) := by decide +kernel
theorem p_withM : ∀ m, m < 256 → ∀ v, v < 4 → ∀ x, x < 4 → f_X9_with (nI m) (nI v) (nI x) = some (nI (setv m v x)) := by decide +kernel
theorem setv_lt : ∀ m, m < 256 → ∀ v, v < 4 → ∀ x, x < 4 → setv m v x < 256 := by decide +kernel
theorem with_cong {m v x y : Int32} (h : x &&& 3 = y &&& 3) : f_X8_withValue m v x = f_X8_withValue m v y := by unfold f_X8_withValue; rw [h]
theorem add3 : ∀ a, a < 4 → ∀ b, b < 4 → (nI a + nI b) &&& (3 : Int32) = nI ((a + b) % 4) &&& 3 ∧ (nI a - nI b) &&& (3 : Int32) = nI ((a + 4 - b) % 4) &&& 3 := by decide +kernel
theorem add3' : ∀ a, a < 4 → ∀ b, b < 4 → (nI a + nI b) &&& (3 : Int32) = nI ((a + b) % 4) ∧ (nI a - nI b) &&& (3 : Int32) = nI ((a + 4 - b) % 4) := by decide +kernel
theorem rem4 : ∀ a, a < 4 → ∀ b, b < 4 → 0 < b → nI a - nI a / nI b * nI b = nI (a % b) := by decide +kernel
theorem p_stateAt {σ : St} {pa : Nat} {P : Pg} (h1 : σ.1 pa 5 = nI P.1) (hP : P.1 ≤ 12) {j m : Nat} (hj : j < 100) : f_X4_stateAt pa (nI j) (nI m) σ = some (nI (256 * nl P j + m)) := by
  unfold f_X4_stateAt nl
  rw [h1]
  by_cases h : j < P.1
  · rw [if_pos (nI_lt h (by omega)), if_pos h, L256, pk_mul, nI_add, Nat.mul_comm]
  · rw [if_neg (nI_nlt (by omega) (by omega)), if_neg h, L12, L256, pk_mul, nI_add]
theorem p_stepped {σ : St} {pa : Nat} {P : Pg} (hV : VP P) (hX : PX σ pa P) {i m : Nat} (hi : i < P.1) (hm : m < 256) : f_X4_stepped pa (nI i) (nI m) σ = some (nI (cod P i m)) := by
  obtain ⟨h5, hl⟩ := hX
  obtain ⟨e1, e2, e3, e4⟩ := hl i hi
  obtain ⟨v1, v2, v3, v4, v5⟩ := hV.2 i hi
  have h12 := hV.1
  have c1 : ¬ (nI i < (0 : Int32)) := nI_pos (by omega)
  have c2 : ¬ (nI P.1 ≤ nI i) := nI_ge hi (by omega)
  have c3 : nI i < (12 : Int32) := nI_lt (show i < 12 by omega) (by decide)
  have hb := val_lt m ((P.2 i).2.2.1 % 4)
  have hc := val_lt m ((P.2 i).2.2.2 % 4)
  have q0 := p_valueOfX m hm ((P.2 i).2.2.1 % 4) (Nat.mod_lt _ (by decide))
  have q1 := p_valueOfX m hm ((P.2 i).2.2.2 % 4) (Nat.mod_lt _ (by decide))
  have q2 := p_valueOfX m hm (P.2 i).2.1 (by omega)
  have st : ∀ j m', j < 100 → f_X4_stateAt pa (nI j) (nI m') σ = some (nI (256 * nl P j + m')) := fun j m' h => p_stateAt h5 h12 h
  have wx : ∀ x, x < 4 → f_X8_withValue (nI m) (nI (P.2 i).2.1) (nI x) = some (nI (setv m (P.2 i).2.1 x)) := fun x hx => p_withX m hm _ (by omega) x hx
  have s1 := fun m' => st (i + 1) m' (by omega)
  have ii : inb (nI i) 12 = true := inb_nI (by omega) (by decide)
  have lit3072 : (3072 : Int32) + nI m = nI (3072 + m) := by rw [L3072, nI_add]
  have lit7168 : (7168 : Int32) + nI m = nI (7168 + m) := by rw [L7168, nI_add]
  unfold f_X4_stepped
  simp only [h5, if_neg c1, if_neg c2, if_pos c3, ii, chk_t, nm_, nI_clamp (show i < 2 ^ 31 by omega), e1, e2, e3, e4, and3, q0, q1, Option.bind_some, nI_1]
  unfold cod
  have hact : (P.2 i).1 = 0 ∨ (P.2 i).1 = 1 ∨ (P.2 i).1 = 2 ∨ (P.2 i).1 = 3 ∨ (P.2 i).1 = 4 ∨ (P.2 i).1 = 5 ∨ (P.2 i).1 = 6 ∨ (P.2 i).1 = 7 := by omega
  rcases hact with a | a | a | a | a | a | a | a
  · simp (config := { decide := true }) only [a, if_true, if_false, wx _ (show (P.2 i).2.2.1 < 4 by have := v4 (by omega); omega), Option.bind_some, s1]
  · simp (config := { decide := true }) only [a, if_true, if_false, wx _ hb, Option.bind_some, s1]
  · rw [with_cong (add3 _ hb _ hc).1]
    simp (config := { decide := true }) only [a, if_true, if_false, wx _ (Nat.mod_lt _ (show 0 < 4 by decide)), Option.bind_some, s1]
  · rw [with_cong (add3 _ hb _ hc).2]
    simp (config := { decide := true }) only [a, if_true, if_false, wx _ (Nat.mod_lt _ (show 0 < 4 by decide)), Option.bind_some, s1]
  · by_cases hz : val m ((P.2 i).2.2.2 % 4) = 0
    · simp (config := { decide := true }) only [a, if_true, if_false, hz, lit7168]
    · have nz0 : ¬ (nI (val m ((P.2 i).2.2.2 % 4)) = (0 : Int32)) := nI_ne0 (by omega) (by omega)
      have nz1 : nz (nI (val m ((P.2 i).2.2.2 % 4))) = true := decide_eq_true nz0
      have hr : val m ((P.2 i).2.2.1 % 4) % val m ((P.2 i).2.2.2 % 4) < 4 := Nat.lt_of_le_of_lt (Nat.mod_le _ _) hb
      simp (config := { decide := true }) only [a, if_true, if_false, if_neg hz, if_neg nz0, nz1, chk_t, rem4 _ hb _ hc (by omega), wx _ hr, Option.bind_some, s1]
  · have hv := val_lt m (P.2 i).2.1
    by_cases hz : val m (P.2 i).2.1 = 0
    · simp (config := { decide := true }) only [a, if_true, if_false, q2, hz, Option.bind_some, s1]
    · have n0 : ¬ (nI (val m (P.2 i).2.1) ≤ (0 : Int32)) := nI_nle (by omega) (by omega)
      simp (config := { decide := true }) only [a, if_true, if_false, q2, if_neg hz, if_neg n0, Option.bind_some, st _ m (show (P.2 i).2.2.1 < 100 by have := v3 a; omega)]
  · simp (config := { decide := true }) only [a, if_true, if_false, Option.bind_some, s1]
  · simp (config := { decide := true }) only [a, if_true, if_false, lit3072]
