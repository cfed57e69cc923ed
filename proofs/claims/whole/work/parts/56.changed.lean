/-! ===== changed ===== -/
theorem xor0 {a b : Nat} : a ^^^ b = 0 ↔ a = b := by
  constructor
  · intro h
    apply Nat.eq_of_testBit_eq
    intro i
    have := congrArg (fun n => n.testBit i) h
    simp only [Nat.testBit_xor, Nat.zero_testBit] at this
    cases ha : a.testBit i <;> cases hb : b.testBit i <;> simp [ha, hb] at this <;> rfl
  · intro h; subst h; exact Nat.xor_self a
theorem and_sh (x m j : Nat) : x &&& (m * 2 ^ j) = ((x / 2 ^ j) &&& m) * 2 ^ j := by
  apply Nat.eq_of_testBit_eq
  intro i
  rw [Nat.testBit_and, Nat.testBit_mul_two_pow, Nat.testBit_mul_two_pow, Nat.testBit_and, Nat.testBit_div_two_pow]
  by_cases h : j ≤ i
  · simp [h]
  · simp [h]
/-- a part of two numbers is the same -/
theorem prt (a b w j : Nat) : ((a ^^^ b) &&& ((2 ^ w - 1) * 2 ^ j) = 0) ↔ a / 2 ^ j % 2 ^ w = b / 2 ^ j % 2 ^ w := by
  rw [and_sh, Nat.and_two_pow_sub_one_eq_mod, Nat.xor_div_two_pow, Nat.xor_mod_two_pow]
  have h := Nat.two_pow_pos j
  constructor
  · intro q
    rcases Nat.mul_eq_zero.mp q with q | q
    · exact xor0.mp q
    · omega
  · intro q; rw [xor0.mpr q, Nat.zero_mul]
theorem lg00 {n : Nat} (h : n < 2 ^ 63) : (lg_cmp (lN n) (0 : Int64) = 0) = (n = 0) := lg0 h (by decide)
/-- the parts of what a run comes to -/
theorem cto_p {P : Pg} (hV : VP P) {hu m : Nat} (hm : m < 256) : cto P hu m / 2 ^ 0 % 2 ^ 50 = enc (shw P hu m 24) ∧ cto P hu m / 2 ^ 50 % 2 ^ 2 = endv P m ∧ cto P hu m / 2 ^ 52 % 2 ^ 5 = stp P m 24 ∧ cto P hu m / 2 ^ 0 % 2 ^ 52 = enc (shw P hu m 24) + 2 ^ 50 * endv P m := by
  have h := encs_lt P hu m
  have h2 := endv_le hV hm
  have h3 := stp_le P m 24
  unfold cto
  omega
theorem enc_iff (P Q : Pg) (hu hu' m m' : Nat) : enc (shw P hu m 24) = enc (shw Q hu' m' 24) ↔ shw P hu m 24 = shw Q hu' m' 24 := ⟨enc_inj (shw_lt4 P hu m 24) (shw_lt4 Q hu' m' 24), fun e => by rw [e]⟩
theorem and_lt {a b k : Nat} (hb : b < 2 ^ k) : a &&& b < 2 ^ k := Nat.lt_of_le_of_lt Nat.and_le_right hb
theorem cto_se {P Q : Pg} (hP : VP P) (hQ : VP Q) {hu hu' m m' : Nat} (hm : m < 256) (hm' : m' < 256) : (lg_cmp ((lN (cto P hu m) ^^^ lN (cto Q hu' m')) &&& (4503599627370495 : Int64)) (0 : Int64) = 0) ↔ (endv P m = endv Q m' ∧ shw P hu m 24 = shw Q hu' m' 24) := by
  rw [show (4503599627370495 : Int64) = lN ((2 ^ 52 - 1) * 2 ^ 0) from rfl, fb_xorL, fb_andL, lg00 (Nat.lt_of_lt_of_le (and_lt (k := 52) (by decide)) (by decide)), prt, (cto_p hP hm).2.2.2, (cto_p hQ hm').2.2.2, ← enc_iff]
  have h := encs_lt P hu m
  have h' := encs_lt Q hu' m'
  omega
theorem sh1 : ∀ k, k < 13 → (1 : Int32) <<< (nI k &&& 31) = nI (2 ^ k) := by decide +kernel
/-- LINES that are not the same -/
def aln (P Q : Pg) (i : Nat) : Bool := decide ((i < P.1 ↔ i < Q.1) ∧ (i < P.1 → P.2 i = Q.2 i))
def unl (P Q : Pg) : Nat → Nat
  | 0 => 0
  | k + 1 => if aln P Q k = true then unl P Q k else unl P Q k ||| 2 ^ k
theorem ln4 {L L' : Ln} (h : VL L) (h' : VL L') : ((nI L.1 = nI L'.1) = (L.1 = L'.1)) ∧ ((nI L.2.1 = nI L'.2.1) = (L.2.1 = L'.2.1)) ∧ ((nI L.2.2.1 = nI L'.2.2.1) = (L.2.2.1 = L'.2.2.1)) ∧ ((nI L.2.2.2 = nI L'.2.2.2) = (L.2.2.2 = L'.2.2.2)) := by
  obtain ⟨v1, v2, v3, v4, v5⟩ := h
  obtain ⟨w1, w2, w3, w4, w5⟩ := h'
  have a : L.2.2.1 ≤ 12 := by
    by_cases c : L.1 = 5
    · exact v3 c
    · have := v4 c; omega
  have b : L'.2.2.1 ≤ 12 := by
    by_cases c : L'.1 = 5
    · exact w3 c
    · have := w4 c; omega
  exact ⟨eq_nI (by omega) (by omega), eq_nI (by omega) (by omega), eq_nI (by omega) (by omega), eq_nI (by omega) (by omega)⟩
theorem lnext (L L' : Ln) : (L = L') ↔ (L.1 = L'.1 ∧ L.2.1 = L'.2.1 ∧ L.2.2.1 = L'.2.2.1 ∧ L.2.2.2 = L'.2.2.2) := by
  obtain ⟨a, b, c, d⟩ := L
  obtain ⟨a', b', c', d'⟩ := L'
  simp only [Prod.mk.injEq]
theorem p_same {σ : St} {pa pb i : Nat} {P Q : Pg} (hP : VP P) (hQ : VP Q) (hX : PX σ pa P) (hY : PX σ pb Q) (hi : i < P.1) (hi' : i < Q.1) : f_X4_isSameLine pa pb (nI i) σ = some (bI (decide (P.2 i = Q.2 i))) := by
  obtain ⟨e1, e2, e3, e4⟩ := hX.2 i hi
  obtain ⟨g1, g2, g3, g4⟩ := hY.2 i hi'
  obtain ⟨q1, q2, q3, q4⟩ := ln4 (hP.2 i hi) (hQ.2 i hi')
  have h12 := hP.1
  unfold f_X4_isSameLine
  simp only [inb_nI (show i < 12 by omega) (by decide : 12 < 2 ^ 31), chk_t, nI_clamp (show i < 2 ^ 31 by omega), e1, e2, e3, e4, g1, g2, g3, g4, q1, q2, q3, q4, lnext]
  by_cases a1 : (P.2 i).1 = (Q.2 i).1
  · by_cases a2 : (P.2 i).2.1 = (Q.2 i).2.1
    · by_cases a3 : (P.2 i).2.2.1 = (Q.2 i).2.2.1
      · by_cases a4 : (P.2 i).2.2.2 = (Q.2 i).2.2.2
        · rw [if_pos a1, if_pos a2, if_pos a3, if_pos a4, decide_eq_true ⟨a1, a2, a3, a4⟩]; rfl
        · rw [if_pos a1, if_pos a2, if_pos a3, if_neg a4, decide_eq_false (fun h => a4 h.2.2.2)]; rfl
      · rw [if_pos a1, if_pos a2, if_neg a3, decide_eq_false (fun h => a3 h.2.2.1)]; rfl
    · rw [if_pos a1, if_neg a2, decide_eq_false (fun h => a2 h.2.1)]; rfl
  · rw [if_neg a1, decide_eq_false (fun h => a1 h.1)]; rfl
theorem p_unlX {σ : St} {pa pb : Nat} {P Q : Pg} (hP : VP P) (hQ : VP Q) (hX : PX σ pa P) (hY : PX σ pb Q) : f_X4_unlikeLines pa pb σ = some (nI (unl P Q 12)) := by
  have h1 := hP.1
  have h2 := hQ.1
  have key := wh_cnt (b := b_X4_unlikeLines_4 pa pb σ) 12 (fun i y => y = (nI (unl P Q i), nI i)) (fun r => r = nI (unl P Q 12)) ?_ ?_ FU 0 ((0 : Int32), (0 : Int32)) (Nat.zero_le _) rfl (by rw [FU_]; omega)
  · obtain ⟨r, e, rfl⟩ := key
    unfold f_X4_unlikeLines
    rw [e]; rfl
  · rintro i y hi rfl
    left
    refine ⟨_, ?_, rfl⟩
    unfold b_X4_unlikeLines_4
    rw [un_, if_neg (show ¬ ((12 : Int32) ≤ nI i) from nI_ge hi (by decide)), hX.1, hY.1]
    simp only [nm_, nI_1, sh1 i (by omega), fa_or, le_nI (show P.1 < 2 ^ 31 by omega) (show i < 2 ^ 31 by omega), le_nI (show Q.1 < 2 ^ 31 by omega) (show i < 2 ^ 31 by omega)]
    rw [unl]
    by_cases a : P.1 ≤ i
    · by_cases b : Q.1 ≤ i
      · rw [if_pos a, if_pos b, if_pos trivial, if_pos (show aln P Q i = true from decide_eq_true ⟨by omega, by omega⟩)]
      · rw [if_pos a, if_neg b, if_neg (by decide), if_neg (show ¬ aln P Q i = true from fun h => by have := of_decide_eq_true h; omega)]
    · by_cases b : Q.1 ≤ i
      · rw [if_neg a, if_pos b, if_neg (by decide), if_neg (show ¬ aln P Q i = true from fun h => by have := of_decide_eq_true h; omega)]
      · rw [if_neg a, if_neg b, if_pos trivial, p_same hP hQ hX hY (by omega) (by omega), Option.bind_some]
        by_cases e : P.2 i = Q.2 i
        · rw [decide_eq_true e, if_neg (by decide), if_pos (show aln P Q i = true from decide_eq_true ⟨by omega, fun _ => e⟩)]
        · rw [decide_eq_false e, if_pos (by decide), if_neg (show ¬ aln P Q i = true from fun h => e ((of_decide_eq_true h).2 (by omega)))]
  · rintro y rfl
    refine ⟨_, ?_, rfl⟩
    unfold b_X4_unlikeLines_4
    rw [un_, if_pos (by decide)]
theorem or0 (x : Int32) : x ||| (0 : Int32) = x := by simp
theorem p_unlM {σ : St} {p q : Nat} {P Q : Pg} (hp : p < 4) (hq : q < 4) (hP : VP P) (hQ : VP Q) (hX : PM σ p P) (hY : PM σ q Q) : f_X9_unlikeLines (nI p) (nI q) σ = some (nI (unl P Q 12)) := by
  have h1 := hP.1
  have h2 := hQ.1
  have key := wh_cnt (b := b_X9_unlikeLines_5 (nI p) (nI q) σ) 12 (fun i y => y = (nI (unl P Q i), nI i)) (fun r => r = nI (unl P Q 12)) ?_ ?_ FU 0 ((0 : Int32), (0 : Int32)) (Nat.zero_le _) rfl (by rw [FU_]; omega)
  · obtain ⟨r, e, rfl⟩ := key
    unfold f_X9_unlikeLines
    rw [e]; rfl
  · rintro i y hi rfl
    left
    refine ⟨_, ?_, rfl⟩
    have hx : (12 : Int32) * nI p + nI i = nI (12 * p + i) := by rw [L12, pk_mul, nI_add]
    have hy : (12 : Int32) * nI q + nI i = nI (12 * q + i) := by rw [L12, pk_mul, nI_add]
    unfold b_X9_unlikeLines_5
    rw [un_, if_neg (show ¬ ((12 : Int32) ≤ nI i) from nI_ge hi (by decide))]
    simp only [ip4 hp, ip4 hq, cp4 hp, cp4 hq, chk_t, hX.1, hY.1, nm_, nI_1, sh1 i (by omega), fa_or, or0, hx, hy, inb_nI (show 12 * p + i < 48 by omega) (by decide : 48 < 2 ^ 31), inb_nI (show 12 * q + i < 48 by omega) (by decide : 48 < 2 ^ 31), nI_clamp (show 12 * p + i < 2 ^ 31 by omega), nI_clamp (show 12 * q + i < 2 ^ 31 by omega), le_nI (show P.1 < 2 ^ 31 by omega) (show i < 2 ^ 31 by omega), le_nI (show Q.1 < 2 ^ 31 by omega) (show i < 2 ^ 31 by omega)]
    rw [unl]
    by_cases a : P.1 ≤ i
    · by_cases b : Q.1 ≤ i
      · rw [if_pos a, if_pos b, if_pos trivial, if_pos (show aln P Q i = true from decide_eq_true ⟨by omega, by omega⟩)]
      · rw [if_pos a, if_neg b, if_neg (by decide), if_neg (show ¬ aln P Q i = true from fun h => by have := of_decide_eq_true h; omega)]
    · by_cases b : Q.1 ≤ i
      · rw [if_neg a, if_pos b, if_neg (by decide), if_neg (show ¬ aln P Q i = true from fun h => by have := of_decide_eq_true h; omega)]
      · rw [if_neg a, if_neg b, if_pos trivial]
        obtain ⟨e1, e2, e3, e4⟩ := hX.2 i (by omega)
        obtain ⟨g1, g2, g3, g4⟩ := hY.2 i (by omega)
        obtain ⟨q1, q2, q3, q4⟩ := ln4 (hP.2 i (by omega)) (hQ.2 i (by omega))
        simp only [e1, e2, e3, e4, g1, g2, g3, g4, q1, q2, q3, q4]
        by_cases e : P.2 i = Q.2 i
        · rw [if_pos (show aln P Q i = true from decide_eq_true ⟨by omega, fun _ => e⟩)]
          rw [lnext] at e
          rw [if_pos e.1, if_pos e.2.1, if_pos e.2.2.1, if_pos e.2.2.2]
        · rw [if_neg (show ¬ aln P Q i = true from fun h => e ((of_decide_eq_true h).2 (by omega)))]
          rw [lnext] at e
          by_cases a1 : (P.2 i).1 = (Q.2 i).1
          · rw [if_pos a1]
            by_cases a2 : (P.2 i).2.1 = (Q.2 i).2.1
            · rw [if_pos a2]
              by_cases a3 : (P.2 i).2.2.1 = (Q.2 i).2.2.1
              · rw [if_pos a3, if_neg (fun a4 => e ⟨a1, a2, a3, a4⟩)]
              · rw [if_neg a3]
            · rw [if_neg a2]
          · rw [if_neg a1]
  · rintro y rfl
    refine ⟨_, ?_, rfl⟩
    unfold b_X9_unlikeLines_5
    rw [un_, if_pos (by decide)]
/-- two runs do not come to the same -/
def cgq (P : Pg) (hu : Nat) (Q : Pg) (hu' i : Nat) : Bool := !(decide (sq P i 24 % 256 = sq Q i 24 % 256) && decide (endv P i = endv Q i) && decide (shw P hu i 24 = shw Q hu' i 24))
theorem cgq_t {P : Pg} {hu : Nat} {Q : Pg} {hu' i : Nat} : cgq P hu Q hu' i = false ↔ (sq P i 24 % 256 = sq Q i 24 % 256 ∧ endv P i = endv Q i ∧ shw P hu i 24 = shw Q hu' i 24) := by
  unfold cgq; simp [Bool.and_eq_true, and_assoc]
theorem p_cgX {σ : St} {pa pb hu hu' : Nat} {P Q : Pg} (hP : VP P) (hQ : VP Q) (h1 : ∀ m, m < 256 → TraceRow σ pa P hu m) (h2 : ∀ m, m < 256 → TraceRow σ pb Q hu' m) : wh FU (b_X8_changed_76 pa pb σ) ((0 : Int32), (-6 : Int32), (0 : Int32)) = some (nI (cnt (cgq P hu Q hu') 256), fst_ (cgq P hu Q hu') 256) := by
  have hdef : ∀ i, cgq P hu Q hu' i = false ↔ (sq P i 24 % 256 = sq Q i 24 % 256 ∧ endv P i = endv Q i ∧ shw P hu i 24 = shw Q hu' i 24) := fun i => cgq_t
  generalize cgq P hu Q hu' = C at *
  have key := wh_cnt (b := b_X8_changed_76 pa pb σ) 256 (fun i y => y = (nI (cnt C i), fst_ C i, nI i)) (fun r => r = (nI (cnt C 256), fst_ C 256)) ?_ ?_ FU 0 ((0 : Int32), (-6 : Int32), (0 : Int32)) (Nat.zero_le _) rfl (by rw [FU_]; omega)
  · obtain ⟨r, e, rfl⟩ := key
    exact e
  · rintro i y hi rfl
    left
    refine ⟨_, ?_, rfl⟩
    unfold b_X8_changed_76
    rw [un_, un_, if_neg (show ¬ ((256 : Int32) ≤ nI i) from nI_ge hi (by decide))]
    have g1 := (h1 i hi).2.1
    have g2 := (h2 i hi).2.1
    have g3 := (h1 i hi).2.2.2.2.2.1
    have g4 := (h2 i hi).2.2.2.2.2.1
    have gq := eq_nI (show sq P i 24 % 256 < 2 ^ 31 by omega) (show sq Q i 24 % 256 < 2 ^ 31 by omega)
    rw [inb_nI hi (by decide), chk_t, chk_t, nm_, nI_clamp (by omega), g3, g4]
    have ce := cto_se hP hQ (hu := hu) (hu' := hu') hi hi
    have cf := fst6 C i (by omega)
    have hd := hdef i
    cases hc : C i
    · have hh := hd.mp hc
      rw [if_pos (ce.mpr hh.2), chk_t, chk_t, g1, g2, if_pos (by rw [hh.1]), nm_, nI_1, cnt_f hc, fst_f hc]
    · have hn : ¬ (sq P i 24 % 256 = sq Q i 24 % 256 ∧ endv P i = endv Q i ∧ shw P hu i 24 = shw Q hu' i 24) := fun q => by rw [hd.mpr q] at hc; cases hc
      have fin : (if fst_ C i = (-6 : Int32) then some (Sum.inl (nI (cnt C i + 1), nI i, nI (i + 1))) else some (Sum.inl (nI (cnt C i + 1), fst_ C i, nI (i + 1)))) = (some (Sum.inl (nI (cnt C (i + 1)), fst_ C (i + 1), nI (i + 1))) : Option ((Int32 × Int32 × Int32) ⊕ (Int32 × Int32))) := by
        by_cases c : cnt C i = 0
        · rw [if_pos (cf.mpr c), cnt_t hc, fst_t0 hc c]
        · rw [if_neg (fun q => c (cf.mp q)), cnt_t hc, fst_t1 c]
      by_cases b : endv P i = endv Q i ∧ shw P hu i 24 = shw Q hu' i 24
      · rw [if_pos (ce.mpr b), chk_t, chk_t, g1, g2, if_neg (by rw [gq]; exact fun a => hn ⟨a, b⟩), nm_, nm_, nm_, nI_1, nI_1]
        exact fin
      · rw [if_neg (fun a => b (ce.mp a)), nm_, nm_, nm_, nI_1, nI_1]
        exact fin
  · rintro y rfl
    refine ⟨_, ?_, rfl⟩
    unfold b_X8_changed_76
    rw [un_, un_, if_pos (by decide)]
theorem p_shA {σ : St} {x y hu hu' m m' : Nat} {P Q : Pg} (hx : x < 512) (hy : y < 512) (h : RunM σ x P hu m) (h' : RunM σ y Q hu' m') (hl : (shw P hu m 24).length = (shw Q hu' m' 24).length) : f_X9_areShownAlike (nI x) (nI y) (nI (shw P hu m 24).length) σ = some (bI (decide (shw P hu m 24 = shw Q hu' m' 24))) := by
  have gl := shw_len P hu m 24
  have ea := p_shownAlike (σ := σ) (x := x) (y := y) (n := (shw P hu m 24).length) (l := shw P hu m 24) (l' := shw Q hu' m' 24) hx hy (Nat.le_refl _) (by omega) (by omega) (shw_lt4 _ _ _ _) (shw_lt4 _ _ _ _) h.2.2.2.2 h'.2.2.2.2
  rw [List.take_length, List.take_of_length_le (by omega)] at ea
  exact ea
theorem p_cgM {σ : St} {hu hu' : Nat} {P Q : Pg} (hP : VP P) (hQ : VP Q) (h1 : ∀ m, m < 256 → RunM σ m P hu m ∧ RunM σ (256 + m) Q hu' m) : wh FU (b_X9_changed_65 σ) ((0 : Int32), (-6 : Int32), (0 : Int32)) = some (nI (cnt (cgq P hu Q hu') 256), fst_ (cgq P hu Q hu') 256) := by
  have hdef : ∀ i, cgq P hu Q hu' i = false ↔ (sq P i 24 % 256 = sq Q i 24 % 256 ∧ endv P i = endv Q i ∧ shw P hu i 24 = shw Q hu' i 24) := fun i => cgq_t
  generalize cgq P hu Q hu' = C at *
  have key := wh_cnt (b := b_X9_changed_65 σ) 256 (fun i y => y = (nI (cnt C i), fst_ C i, nI i)) (fun r => r = (nI (cnt C 256), fst_ C 256)) ?_ ?_ FU 0 ((0 : Int32), (-6 : Int32), (0 : Int32)) (Nat.zero_le _) rfl (by rw [FU_]; omega)
  · obtain ⟨r, e, rfl⟩ := key
    exact e
  · rintro i y hi rfl
    left
    refine ⟨_, ?_, rfl⟩
    obtain ⟨r1, r2⟩ := h1 i hi
    have b1 := endv_le hP hi
    have b2 := endv_le hQ hi
    have l1 := shw_len P hu i 24
    have l2 := shw_len Q hu' i 24
    unfold b_X9_changed_65
    rw [un_, un_, if_neg (show ¬ ((256 : Int32) ≤ nI i) from nI_ge hi (by decide))]
    have e256 : (256 : Int32) + nI i = nI (256 + i) := by rw [L256, nI_add]
    simp only [e256, inb_nI (show i < 512 by omega) (by decide : 512 < 2 ^ 31), inb_nI (show 256 + i < 512 by omega) (by decide : 512 < 2 ^ 31), chk_t, nm_, nI_clamp (show i < 2 ^ 31 by omega), nI_clamp (show 256 + i < 2 ^ 31 by omega), r1.1, r1.2.1, r1.2.2.2.1, r2.1, r2.2.1, r2.2.2.2.1, nI_1, eq_nI (show sq P i 24 % 256 < 2 ^ 31 by omega) (show sq Q i 24 % 256 < 2 ^ 31 by omega), eq_nI (show endv P i < 2 ^ 31 by omega) (show endv Q i < 2 ^ 31 by omega), eq_nI (show (shw P hu i 24).length < 2 ^ 31 by omega) (show (shw Q hu' i 24).length < 2 ^ 31 by omega), cnt0 C (show i ≤ 65536 by omega)]
    have hd := hdef i
    have fin : C i = true → (if cnt C i = 0 then some (Sum.inl (nI (cnt C i + 1), nI i, nI (i + 1))) else some (Sum.inl (nI (cnt C i + 1), fst_ C i, nI (i + 1)))) = (some (Sum.inl (nI (cnt C (i + 1)), fst_ C (i + 1), nI (i + 1))) : Option ((Int32 × Int32 × Int32) ⊕ (Int32 × Int32))) := by
      intro hc
      by_cases c : cnt C i = 0
      · rw [if_pos c, cnt_t hc, fst_t0 hc c]
      · rw [if_neg c, cnt_t hc, fst_t1 c]
    have tr : ¬ (sq P i 24 % 256 = sq Q i 24 % 256 ∧ endv P i = endv Q i ∧ shw P hu i 24 = shw Q hu' i 24) → C i = true := fun q => by
      cases hc : C i
      · exact absurd (hd.mp hc) q
      · rfl
    by_cases a : sq P i 24 % 256 = sq Q i 24 % 256
    · rw [if_pos a]
      by_cases b : endv P i = endv Q i
      · rw [if_pos b]
        by_cases c : (shw P hu i 24).length = (shw Q hu' i 24).length
        · rw [if_pos c, p_shA (by omega) (by omega) r1 r2 c, Option.bind_some]
          by_cases d : shw P hu i 24 = shw Q hu' i 24
          · have hc := hd.mpr ⟨a, b, d⟩
            rw [decide_eq_true d, if_neg (by decide), cnt_f hc, fst_f hc]
            rw [show nI (cnt C i) + (0 : Int32) = nI (cnt C i) from nI_add _ 0]
          · rw [decide_eq_false d, if_pos (by decide)]
            exact fin (tr (fun q => d q.2.2))
        · rw [if_neg c]; exact fin (tr (fun q => c (by rw [q.2.2])))
      · rw [if_neg b]; exact fin (tr (fun q => b q.2.1))
    · rw [if_neg a]; exact fin (tr (fun q => a q.1))
  · rintro y rfl
    refine ⟨_, ?_, rfl⟩
    unfold b_X9_changed_65
    rw [un_, un_, if_pos (by decide)]
theorem RunM.ag {σ σ' : St} {a hu m : Nat} {P : Pg} (h : RunM σ a P hu m) (e : ∀ k, 9 ≤ k → k ≤ 13 → σ'.1 k = σ.1 k) : RunM σ' a P hu m := by
  unfold RunM
  rw [e 9 (by decide) (by decide), e 10 (by decide) (by decide), e 11 (by decide) (by decide), e 12 (by decide) (by decide), e 13 (by decide) (by decide)]
  exact h
section PR9
variable (HS : HSt) (WS : WSt) (OS : OSt) (SS : SSt)
theorem ok_changed : Ok_changed (Rel HS WS OS SS) := by
  intro k σX σM a1 a2 a3 hk hR
  rcases rngP a1 with ⟨p, hp, rfl, pa, pb⟩ | ⟨pa, pb⟩
  rotate_left
  · exact ansE HS WS OS SS hR (r := -1) (by unfold f_X8_changed; rw [pa]; rfl) (by unfold f_X9_changed; rw [pb]; rfl)
  rcases rngP a2 with ⟨q, hq, rfl, qa, qb⟩ | ⟨qa, qb⟩
  rotate_left
  · exact ansE HS WS OS SS hR (r := -1) (by unfold f_X8_changed; rw [pa, Option.bind_some, if_neg (by decide), qa]; rfl) (by unfold f_X9_changed; rw [pb, Option.bind_some, if_neg (by decide), qb]; rfl)
  rcases rng a3 2 (by decide) with ⟨w, hw, rfl, wa, wb⟩ | ⟨_, wa, wb⟩
  rotate_left
  · exact ansE HS WS OS SS hR (r := -2) (by unfold f_X8_changed; rw [pa, Option.bind_some, if_neg (by decide), qa, Option.bind_some, if_neg (by decide), L2, wa]; rfl) (by unfold f_X9_changed; rw [pb, Option.bind_some, if_neg (by decide), qb, Option.bind_some, if_neg (by decide), show (2 : Int64) = lN 2 from rfl, wb]; rfl)
  have wa : f_X8_isWithin (nI w) (2 : Int32) = some 1 := wa
  have wb : f_X9_in (nI w).toInt64 0 (2 : Int64) = some 1 := wb
  have hR0 := hR
  obtain ⟨A, hV, hX, hM⟩ := hR
  have hP := (hV.1 p hp).1
  have hQ := (hV.1 q hq).1
  by_cases w2 : nI w = (2 : Int32)
  · refine ansE HS WS OS SS hR0 (r := nI (unl (aP A p) (aP A q) 12)) ?_ ?_
    · unfold f_X8_changed
      rw [pa, Option.bind_some, if_neg (by decide), qa, Option.bind_some, if_neg (by decide), wa, Option.bind_some, if_neg (by decide), ip4 hp, chk_t, nm_, cp4 hp, ip4 hq, chk_t, nm_, cp4 hq, if_pos w2, p_unlX hP hQ (hX.2.1 p hp).1 (hX.2.1 q hq).1]
      rfl
    · unfold f_X9_changed
      rw [pb, Option.bind_some, if_neg (by decide), qb, Option.bind_some, if_neg (by decide), wb, Option.bind_some, if_neg (by decide), if_pos w2, p_unlM hp hq hP hQ (hM.2.1 p hp).1 (hM.2.1 q hq).1]
      rfl
  · obtain ⟨x1, eX1, cX1, tX1, kX1⟩ := hX.2.1.all hV (by omega) hX.1 hp
    obtain ⟨x2, eX2, cX2, tX2, kX2⟩ := cX1.all hV (by omega) (hX.1.kp kX1) hq
    obtain ⟨s1, e1, c1, t1, f1⟩ := hM.2.1.all hV hp hq
    have eg := p_cgX (σ := x2) hP hQ (fun m hm => kX2.2 p m hp hm (tX1 m hm)) tX2
    have eg' := p_cgM (σ := stI s1 0 22 (-6)) hP hQ (fun m hm => ⟨(t1 m hm).1.ag (fun k h1 _ => stI_nk (by omega)), (t1 m hm).2.ag (fun k h1 _ => stI_nk (by omega))⟩)
    refine ansP (r := if nI w = (0 : Int32) then nI (cnt (cgq (aP A p) (aH A p) (aP A q) (aH A q)) 256) else fst_ (cgq (aP A p) (aH A p) (aP A q) (aH A q)) 256) (by omega) hV hX hM ?_ ?_ cX2 (kX1.trans kX2) c1 f1
    · unfold f_X8_changed
      rw [pa, Option.bind_some, if_neg (by decide), qa, Option.bind_some, if_neg (by decide), wa, Option.bind_some, if_neg (by decide), ip4 hp, chk_t, nm_, cp4 hp, ip4 hq, chk_t, nm_, cp4 hq, if_neg w2, eX1, Option.bind_some, eX2, Option.bind_some, eg, Option.bind_some, un_]
      split <;> rfl
    · unfold f_X9_changed
      rw [pb, Option.bind_some, if_neg (by decide), qb, Option.bind_some, if_neg (by decide), wb, Option.bind_some, if_neg (by decide), if_neg w2, e1, Option.bind_some, nm_, eg', Option.bind_some, un_]
      split <;> rfl
end PR9
