/-! ===== shapes: what a SHAPE denies ===== -/
/-- what a value denies to the other one's, by the three bits of a SHAPE, as bits of values -/
def hre (t a : Nat) : Nat := ((if t % 2 = 0 then 0 else (2 ^ a - 1) ||| (16 - 2 ^ (a + 1))) ||| (if t / 2 % 2 = 0 then 0 else 16 - 2 ^ (a + 1))) ||| (if t / 4 % 2 = 0 then 0 else 2 ^ a - 1)
def dnyN (bits m : Nat) : Nat → Nat
  | 0 => 0
  | v + 1 => dnyN bits m v + hre (bits / 8 ^ v) (val m v) * 16 ^ v
def dny (bits m : Nat) : Nat := dnyN bits m 4
theorem hre_8 (t a : Nat) : hre t a = hre (t % 8) a := by
  unfold hre
  rw [show t % 8 % 2 = t % 2 by omega, show t % 8 / 2 % 2 = t / 2 % 2 by omega, show t % 8 / 4 % 2 = t / 4 % 2 by omega]
theorem hre_f : ∀ t, t < 8 → ∀ a, a < 4 → hre t a < 16 ∧ ∀ b, b < 4 → decide (hre t a / 2 ^ b % 2 = 0) = decide (t &&& (7 - sgn a b) = 0) := by decide +kernel
theorem hre_lt (t : Nat) {a : Nat} (ha : a < 4) : hre t a < 16 := by rw [hre_8]; exact (hre_f _ (Nat.mod_lt _ (by decide)) a ha).1
theorem hre_b (t : Nat) {a b : Nat} (ha : a < 4) (hb : b < 4) : hre t a / 2 ^ b % 2 = 0 ↔ (t % 8) &&& (7 - sgn a b) = 0 := by
  rw [hre_8]
  exact decide_eq_decide.mp ((hre_f _ (Nat.mod_lt _ (by decide)) a ha).2 b hb)
theorem hot_tb : ∀ y, y < 256 → ∀ w, w < 4 → ∀ h, h < 16 → decide (hotP y 4 &&& (h * 16 ^ w) = 0) = decide (h / 2 ^ val y w % 2 = 0) := by decide +kernel
theorem dnyN_lt (bits : Nat) (m : Nat) : ∀ v, v ≤ 4 → dnyN bits m v < 16 ^ v := by
  intro v
  induction v with
  | zero => intro _; exact Nat.one_pos
  | succ v ih =>
    intro hv
    have h1 := ih (by omega)
    have h2 := hre_lt (bits / 8 ^ v) (val_lt m v)
    rw [dnyN, Nat.pow_succ]
    have h3 : hre (bits / 8 ^ v) (val m v) * 16 ^ v ≤ 15 * 16 ^ v := Nat.mul_le_mul_right _ (by omega)
    omega
theorem dny_lt (bits m : Nat) : dny bits m < 2 ^ 16 := dnyN_lt bits m 4 (by decide)
theorem dnyN_or (bits m : Nat) {v : Nat} (hv : v < 4) : dnyN bits m v ||| (hre (bits / 8 ^ v) (val m v) * 16 ^ v) = dnyN bits m (v + 1) := by
  have h1 := dnyN_lt bits m v (by omega)
  rw [dnyN, show (16 : Nat) ^ v = 2 ^ (4 * v) by rw [Nat.pow_mul], Nat.or_comm, Nat.mul_comm, ← Nat.two_pow_add_eq_or_of_lt (by rw [Nat.pow_mul]; exact h1), Nat.add_comm]
/-- two MEMORIES have the bits of a SHAPE -/
def shq (bits x y : Nat) : Prop := ∀ v, v < 4 → (bits / 8 ^ v % 8) &&& (7 - sgn (val x v) (val y v)) = 0
theorem dny_n (bits : Nat) {x y : Nat} (hy : y < 256) : ∀ n, n ≤ 4 → (hotP y 4 &&& dnyN bits x n = 0 ↔ ∀ v, v < n → (bits / 8 ^ v % 8) &&& (7 - sgn (val x v) (val y v)) = 0) := by
  intro n
  induction n with
  | zero => intro _; exact ⟨fun _ v hv => absurd hv (Nat.not_lt_zero v), fun _ => Nat.and_zero _⟩
  | succ n ih =>
    intro hn
    rw [← dnyN_or bits x (show n < 4 by omega), Nat.and_or_distrib_left, Nat.or_eq_zero_iff, ih (by omega)]
    have e : (hotP y 4 &&& (hre (bits / 8 ^ n) (val x n) * 16 ^ n) = 0) ↔ ((bits / 8 ^ n % 8) &&& (7 - sgn (val x n) (val y n)) = 0) := by
      rw [← hre_b _ (val_lt x n) (val_lt y n)]
      exact decide_eq_decide.mp (hot_tb y hy n (by omega) _ (hre_lt _ (val_lt x n)))
    rw [e]
    constructor
    · rintro ⟨a, b⟩ v hv
      by_cases q : v = n
      · subst q; exact b
      · exact a v (by omega)
    · intro a
      exact ⟨fun v hv => a v (by omega), a n (by omega)⟩
theorem shq_x (bits : Nat) {x y : Nat} (hy : y < 256) : hotP y 4 &&& dny bits x = 0 ↔ shq bits x y := dny_n bits hy 4 (Nat.le_refl 4)
theorem not_nI {b : Nat} (h : b < 2 ^ 32) : nI b ^^^ (-1 : Int32) = nI (2 ^ 32 - 1 - b) := by
  apply Int32.toBitVec_inj.1
  show BitVec.ofNat 32 b ^^^ BitVec.allOnes 32 = BitVec.ofNat 32 (2 ^ 32 - 1 - b)
  rw [BitVec.xor_allOnes]
  apply BitVec.eq_of_toNat_eq
  rw [BitVec.toNat_not, BitVec.toNat_ofNat, BitVec.toNat_ofNat, Nat.mod_eq_of_lt h, Nat.mod_eq_of_lt (by omega)]
theorem hz_0 {a b c d : Nat} : hz a b c d = 0 ↔ a = 0 ∧ b = 0 ∧ c = 0 ∧ d = 0 := by unfold hz; omega
theorem shq_m {bits x y : Nat} (hb : bits < 4096) : (nI bits &&& (nI (saysP x y 4) ^^^ (-1 : Int32)) = (0 : Int32)) ↔ shq bits x y := by
  have g0 := sgn_lt (val x 0) (val y 0)
  have g1 := sgn_lt (val x 1) (val y 1)
  have g2 := sgn_lt (val x 2) (val y 2)
  have g3 := sgn_lt (val x 3) (val y 3)
  have e1 : bits = hz (bits % 8) (bits / 8 % 8) (bits / 64 % 8) (bits / 512 % 8) := by unfold hz; omega
  have hs := says_hz x y
  have hs2 : saysP x y 4 < 4096 := saysP_lt x y 4
  have ex : 2 ^ 32 - 1 - saysP x y 4 = hz (7 - sgn (val x 0) (val y 0)) (7 - sgn (val x 1) (val y 1)) (7 - sgn (val x 2) (val y 2)) (7 - sgn (val x 3) (val y 3) + 8 * 1048575) := by
    rw [hs]; unfold hz; omega
  have ea : bits &&& (2 ^ 32 - 1 - saysP x y 4) = hz (bits % 8 &&& (7 - sgn (val x 0) (val y 0))) (bits / 8 % 8 &&& (7 - sgn (val x 1) (val y 1))) (bits / 64 % 8 &&& (7 - sgn (val x 2) (val y 2))) (bits / 512 % 8 &&& (7 - sgn (val x 3) (val y 3))) := by
    rw [ex]
    refine (congrArg (fun z => z &&& hz (7 - sgn (val x 0) (val y 0)) (7 - sgn (val x 1) (val y 1)) (7 - sgn (val x 2) (val y 2)) (7 - sgn (val x 3) (val y 3) + 8 * 1048575)) e1).trans ?_
    rw [hz_and (by omega) (by omega) (by omega) (by omega) (by omega) (by omega)]
    have := and8 (A := 0) (B := 1048575) (r := bits / 512 % 8) (s := 7 - sgn (val x 3) (val y 3)) (by omega) (by omega)
    rw [show bits / 512 % 8 + 8 * 0 = bits / 512 % 8 from rfl, Nat.zero_and] at this
    rw [this]
    rfl
  rw [not_nI (by omega), fa_and, L0, eq_nI (Nat.lt_of_le_of_lt Nat.and_le_left (by omega)) (by decide), ea, hz_0]
  unfold shq
  constructor
  · rintro ⟨a, b, c, d⟩ v hv
    rcases (show v = 0 ∨ v = 1 ∨ v = 2 ∨ v = 3 by omega) with rfl | rfl | rfl | rfl
    · rw [show bits / 8 ^ 0 = bits by simp]; exact a
    · exact b
    · exact c
    · exact d
  · intro h
    refine ⟨?_, h 1 (by decide), h 2 (by decide), h 3 (by decide)⟩
    have := h 0 (by decide)
    rw [show bits / 8 ^ 0 = bits by simp] at this
    exact this
-- the class's
theorem hre_x : ∀ a, a < 4 → ((15 : Int32) &&& (((((1 : Int32) <<< (nI a &&& 31)) - (1 : Int32)) ||| ((1 : Int32) <<< (nI a &&& 31))) ^^^ (-1 : Int32)) = nI (16 - 2 ^ (a + 1))) ∧ (((1 : Int32) <<< (nI a &&& 31)) - (1 : Int32) = nI (2 ^ a - 1)) := by decide +kernel
theorem sh3_ {bits v : Nat} (hb : bits < 4096) (hv : v < 4) : nI bits >>> (((3 : Int32) * nI v) &&& 31) = nI (bits / 8 ^ v) := by
  rw [L3, pk_mul, pk_shrN (by omega) _ (3 * v) (sh32 (3 * v) (by omega)), Nat.pow_mul]
theorem bt0 (t : Nat) : ((nI t &&& (1 : Int32) = 0) = (t % 2 = 0)) ∧ ((nI t &&& (2 : Int32) = 0) = (t / 2 % 2 = 0)) ∧ ((nI t &&& (4 : Int32) = 0) = (t / 4 % 2 = 0)) := by
  have f : ∀ k, k < 3 → (nI t &&& nI (2 ^ k) = nI 0) = (t / 2 ^ k % 2 = 0) := by
    intro k hk
    have h2 : (2 : Nat) ^ k < 8 := by rcases (show k = 0 ∨ k = 1 ∨ k = 2 by omega) with rfl | rfl | rfl <;> decide
    rw [fa_and, eq_nI (Nat.lt_of_le_of_lt Nat.and_le_right (by omega)) (by decide), propext (fb_bit_nat t k), Nat.testBit_eq_decide_div_mod_eq]
    apply propext
    rw [decide_eq_false_iff_not]
    omega
  have f0 := f 0 (by decide)
  rw [show t / 2 ^ 0 = t by simp] at f0
  exact ⟨f0, f 1 (by decide), f 2 (by decide)⟩
theorem p_denyX {bits m : Nat} (hb : bits < 4096) (hm : m < 256) : f_X1_deniedBy (nI bits) (nI m) = some (nI (dny bits m)) := by
  have key := wh_cnt (b := b_X1_deniedBy_5 (nI bits) (nI m)) 4 (fun v z => z = (nI (dnyN bits m v), nI v)) (fun r => r = nI (dny bits m)) ?_ ?_ FU 0 ((0 : Int32), (0 : Int32)) (Nat.zero_le _) rfl (by rw [FU_]; omega)
  · obtain ⟨r, e, rfl⟩ := key
    unfold f_X1_deniedBy; rw [e]; rfl
  · rintro v z hv rfl
    left
    refine ⟨_, ?_, rfl⟩
    obtain ⟨q2, q1⟩ := hre_x (val m v) (val_lt m v)
    obtain ⟨c1, c2, c3⟩ := bt0 (bits / 8 ^ v)
    have fin : ∀ H, H = hre (bits / 8 ^ v) (val m v) → nI (dnyN bits m v) ||| (nI H <<< (((4 : Int32) * nI v) &&& 31)) = nI (dnyN bits m (v + 1)) := by
      intro H hH
      rw [hH, (p_sh4 _ (hre_lt _ (val_lt m v)) v hv).1, fa_or, dnyN_or bits m hv]
    unfold b_X1_deniedBy_5
    rw [un_, if_neg (show ¬ ((4 : Int32) ≤ nI v) from nI_ge hv (by decide)), p_valueOfX m hm v hv, Option.bind_some]
    simp only [nm_]
    rw [q2, q1, sh3_ hb hv]
    unfold hre at fin
    simp only [c1, c2, c3, nI_1]
    by_cases d1 : bits / 8 ^ v % 2 = 0
    · by_cases d2 : bits / 8 ^ v / 2 % 2 = 0
      · by_cases d3 : bits / 8 ^ v / 4 % 2 = 0
        · simp only [if_pos d1, if_pos d2, if_pos d3] at fin ⊢
          rw [L0, fa_or, fa_or, fin _ rfl]
        · simp only [if_pos d1, if_pos d2, if_neg d3] at fin ⊢
          rw [L0, fa_or, fa_or, fin _ rfl]
      · by_cases d3 : bits / 8 ^ v / 4 % 2 = 0
        · simp only [if_pos d1, if_neg d2, if_pos d3] at fin ⊢
          rw [L0, fa_or, fa_or, fin _ rfl]
        · simp only [if_pos d1, if_neg d2, if_neg d3] at fin ⊢
          rw [L0, fa_or, fa_or, fin _ rfl]
    · by_cases d2 : bits / 8 ^ v / 2 % 2 = 0
      · by_cases d3 : bits / 8 ^ v / 4 % 2 = 0
        · simp only [if_neg d1, if_pos d2, if_pos d3] at fin ⊢
          rw [L0, fa_or, fa_or, fa_or, fin _ rfl]
        · simp only [if_neg d1, if_pos d2, if_neg d3] at fin ⊢
          rw [L0, fa_or, fa_or, fa_or, fin _ rfl]
      · by_cases d3 : bits / 8 ^ v / 4 % 2 = 0
        · simp only [if_neg d1, if_neg d2, if_pos d3] at fin ⊢
          rw [L0, fa_or, fa_or, fa_or, fin _ rfl]
        · simp only [if_neg d1, if_neg d2, if_neg d3] at fin ⊢
          rw [fa_or, fa_or, fa_or, fin _ rfl]
  · rintro z rfl
    refine ⟨_, ?_, rfl⟩
    unfold b_X1_deniedBy_5
    rw [un_, if_pos (by decide)]
    rfl
