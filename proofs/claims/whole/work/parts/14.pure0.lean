/-! ===== pure: numbers, states, loops ===== -/
theorem lit_ (n : Nat) : (OfNat.ofNat n : Int32) = nI n := rfl
theorem L0 : (0 : Int32) = nI 0 := rfl
theorem L1 : (1 : Int32) = nI 1 := rfl
theorem L2 : (2 : Int32) = nI 2 := rfl
theorem L3 : (3 : Int32) = nI 3 := rfl
theorem L4 : (4 : Int32) = nI 4 := rfl
theorem L5 : (5 : Int32) = nI 5 := rfl
theorem L6 : (6 : Int32) = nI 6 := rfl
theorem L7 : (7 : Int32) = nI 7 := rfl
theorem L8 : (8 : Int32) = nI 8 := rfl
theorem L9 : (9 : Int32) = nI 9 := rfl
theorem L10 : (10 : Int32) = nI 10 := rfl
theorem L11 : (11 : Int32) = nI 11 := rfl
theorem L12 : (12 : Int32) = nI 12 := rfl
theorem L13 : (13 : Int32) = nI 13 := rfl
theorem L15 : (15 : Int32) = nI 15 := rfl
theorem L16 : (16 : Int32) = nI 16 := rfl
theorem L20 : (20 : Int32) = nI 20 := rfl
theorem L24 : (24 : Int32) = nI 24 := rfl
theorem L25 : (25 : Int32) = nI 25 := rfl
theorem L33 : (33 : Int32) = nI 33 := rfl
theorem L34 : (34 : Int32) = nI 34 := rfl
theorem L35 : (35 : Int32) = nI 35 := rfl
theorem L38 : (38 : Int32) = nI 38 := rfl
theorem L40 : (40 : Int32) = nI 40 := rfl
theorem L48 : (48 : Int32) = nI 48 := rfl
theorem L50 : (50 : Int32) = nI 50 := rfl
theorem L52 : (52 : Int32) = nI 52 := rfl
theorem L58 : (58 : Int32) = nI 58 := rfl
theorem L60 : (60 : Int32) = nI 60 := rfl
theorem L61 : (61 : Int32) = nI 61 := rfl
theorem L62 : (62 : Int32) = nI 62 := rfl
theorem L63 : (63 : Int32) = nI 63 := rfl
theorem L64 : (64 : Int32) = nI 64 := rfl
theorem L97 : (97 : Int32) = nI 97 := rfl
theorem L100 : (100 : Int32) = nI 100 := rfl
theorem L101 : (101 : Int32) = nI 101 := rfl
theorem L111 : (111 : Int32) = nI 111 := rfl
theorem L116 : (116 : Int32) = nI 116 := rfl
theorem L126 : (126 : Int32) = nI 126 := rfl
theorem L156 : (156 : Int32) = nI 156 := rfl
theorem L168 : (168 : Int32) = nI 168 := rfl
theorem L169 : (169 : Int32) = nI 169 := rfl
theorem L240 : (240 : Int32) = nI 240 := rfl
theorem L255 : (255 : Int32) = nI 255 := rfl
theorem L256 : (256 : Int32) = nI 256 := rfl
theorem L266 : (266 : Int32) = nI 266 := rfl
theorem L2340 : (2340 : Int32) = nI 2340 := rfl
theorem L3072 : (3072 : Int32) = nI 3072 := rfl
theorem L4095 : (4095 : Int32) = nI 4095 := rfl
theorem L4096 : (4096 : Int32) = nI 4096 := rfl
theorem L7168 : (7168 : Int32) = nI 7168 := rfl
theorem L43008 : (43008 : Int32) = nI 43008 := rfl
theorem L43264 : (43264 : Int32) = nI 43264 := rfl
theorem L252645135 : (252645135 : Int32) = nI 252645135 := rfl
theorem L858993459 : (858993459 : Int32) = nI 858993459 := rfl
theorem L1431655765 : (1431655765 : Int32) = nI 1431655765 := rfl
theorem inb_nI {k n : Nat} (h : k < n) (hn : n < 2 ^ 31) : inb (nI k) n = true := decide_eq_true (vp_in_nI h hn)
theorem le_nI {a b : Nat} (ha : a < 2 ^ 31) (hb : b < 2 ^ 31) : (nI a ≤ nI b) = (a ≤ b) := propext (nI_leI ha hb)
theorem lt_nI {a b : Nat} (ha : a < 2 ^ 31) (hb : b < 2 ^ 31) : (nI a < nI b) = (a < b) := propext (nI_ltI ha hb)
theorem eq_nI {a b : Nat} (ha : a < 2 ^ 31) (hb : b < 2 ^ 31) : (nI a = nI b) = (a = b) := propext (nI_eq ha hb)
theorem chk_t {X : Type} (o : Option X) : chk true o = o := rfl
theorem chk_of {X : Type} {b : Bool} (h : b = true) (o : Option X) : chk b o = o := by rw [h]; rfl
theorem nm_ {A X : Type} (a : A) (k : A → Option X) : nm a k = k a := rfl
theorem un_ {A B X : Type} (g : A → B → Option X) (a : A) (b : B) : un g (a, b) = g a b := rfl
theorem stI_v (σ : St) (k j : Nat) (x : Int32) (k' j' : Nat) : (stI σ k j x).1 k' j' = if k' = k ∧ j' = j then x else σ.1 k' j' := by
  unfold stI va_up upd
  by_cases h : k' = k
  · subst h
    by_cases h2 : j' = j
    · simp [h2]
    · simp [h2]
  · simp [h]
theorem stI_same (σ : St) (k j : Nat) (x : Int32) : (stI σ k j x).1 k j = x := by rw [stI_v]; simp
theorem stI_ne {σ : St} {k j : Nat} {x : Int32} {k' j' : Nat} (h : ¬ (k' = k ∧ j' = j)) : (stI σ k j x).1 k' j' = σ.1 k' j' := by rw [stI_v, if_neg h]
theorem stI_nk {σ : St} {k j : Nat} {x : Int32} {k' : Nat} (h : k' ≠ k) : (stI σ k j x).1 k' = σ.1 k' := by funext j'; rw [stI_v]; simp [h]
theorem stI_2 (σ : St) (k j : Nat) (x : Int32) : (stI σ k j x).2 = σ.2 := rfl
theorem stL_v (σ : St) (k j : Nat) (x : Int64) (k' j' : Nat) : (stL σ k j x).2 k' j' = if k' = k ∧ j' = j then x else σ.2 k' j' := by
  unfold stL va_up vp_updL
  by_cases h : k' = k
  · subst h
    by_cases h2 : j' = j
    · simp [h2]
    · simp [h2]
  · simp [h]
theorem stL_1 (σ : St) (k j : Nat) (x : Int64) : (stL σ k j x).1 = σ.1 := rfl
theorem stL_same (σ : St) (k j : Nat) (x : Int64) : (stL σ k j x).2 k j = x := by rw [stL_v]; simp
theorem stL_ne {σ : St} {k j : Nat} {x : Int64} {k' j' : Nat} (h : ¬ (k' = k ∧ j' = j)) : (stL σ k j x).2 k' j' = σ.2 k' j' := by rw [stL_v, if_neg h]
theorem stL_nk {σ : St} {k j : Nat} {x : Int64} {k' : Nat} (h : k' ≠ k) : (stL σ k j x).2 k' = σ.2 k' := by funext j'; rw [stL_v]; simp [h]
theorem stR_v (σ : St) (k : Nat) (f : Nat → Int32) (k' : Nat) : (stR σ k f).1 k' = if k' = k then f else σ.1 k' := by
  unfold stR va_up; rfl
/-- the loop's rule: an invariant, a measure -/
theorem wh_rule {S R : Type} {b : S → Option (S ⊕ R)} (I : S → Prop) (μ : S → Nat) (Q : R → Prop) (h : ∀ s, I s → (∃ s', b s = some (.inl s') ∧ I s' ∧ μ s' < μ s) ∨ (∃ r, b s = some (.inr r) ∧ Q r)) : ∀ n s, I s → μ s < n → ∃ r, wh n b s = some r ∧ Q r := by
  intro n
  induction n with
  | zero => intro s _ h1; omega
  | succ n ih =>
    intro s hs hn
    rcases h s hs with ⟨s', e, hI, hm⟩ | ⟨r, e, hQ⟩
    · obtain ⟨r, e2, hQ⟩ := ih s' hI (by omega)
      exact ⟨r, by show (b s).bind _ = _; rw [e]; exact e2, hQ⟩
    · exact ⟨r, by show (b s).bind _ = _; rw [e]; rfl, hQ⟩
/-- a loop that counts k from a up to N -/
theorem wh_cnt {S R : Type} {b : S → Option (S ⊕ R)} (N : Nat) (I : Nat → S → Prop) (Q : R → Prop) (hs : ∀ k s, k < N → I k s → (∃ s', b s = some (.inl s') ∧ I (k + 1) s') ∨ (∃ r, b s = some (.inr r) ∧ Q r)) (he : ∀ s, I N s → ∃ r, b s = some (.inr r) ∧ Q r) : ∀ (n a : Nat) (s : S), a ≤ N → I a s → N - a < n → ∃ r, wh n b s = some r ∧ Q r := by
  intro n
  induction n with
  | zero => intro a s _ _ h1; omega
  | succ n ih =>
    intro a s ha hI hn
    rcases Nat.lt_or_ge a N with hl | hg
    · rcases hs a s hl hI with ⟨s', e, hI'⟩ | ⟨r, e, hQ⟩
      · obtain ⟨r, e2, hQ⟩ := ih (a + 1) s' hl hI' (by omega)
        exact ⟨r, by show (b s).bind _ = _; rw [e]; exact e2, hQ⟩
      · exact ⟨r, by show (b s).bind _ = _; rw [e]; rfl, hQ⟩
    · have : a = N := by omega
      subst this
      obtain ⟨r, e, hQ⟩ := he s hI
      exact ⟨r, by show (b s).bind _ = _; rw [e]; rfl, hQ⟩
theorem FU_ : FU = 65536 := rfl
/-- VARIABLE v of a MEMORY -/
def val (m v : Nat) : Nat := m / 4 ^ (3 - v) % 4
theorem val_lt (m v : Nat) : val m v < 4 := Nat.mod_lt _ (by decide)
theorem p_valueOfX : ∀ m, m < 256 → ∀ v, v < 4 → f_X8_valueOf (nI m) (nI v) = some (nI (val m v)) := by decide +kernel
theorem p_valueOfM : ∀ m, m < 256 → ∀ v, v < 4 → f_X9_valueOf (nI m) (nI v) = some (nI (val m v)) := by decide +kernel
-- rows pasted from kit/laws/NUMBERS
theorem fa_and (a b : Nat) : nI a &&& nI b = nI (a &&& b) := by
  apply Int32.toBitVec_inj.1
  show BitVec.ofNat 32 a &&& BitVec.ofNat 32 b = BitVec.ofNat 32 (a &&& b)
  apply BitVec.eq_of_getLsbD_eq
  intro i hi
  simp [hi]
theorem fa_or (a b : Nat) : nI a ||| nI b = nI (a ||| b) := by
  apply Int32.toBitVec_inj.1
  show BitVec.ofNat 32 a ||| BitVec.ofNat 32 b = BitVec.ofNat 32 (a ||| b)
  apply BitVec.eq_of_getLsbD_eq
  intro i hi
  simp [hi]
theorem fa_mask (n k : Nat) : nI n &&& nI (2 ^ k - 1) = nI (n % 2 ^ k) := by rw [fa_and, Nat.and_two_pow_sub_one_eq_mod]
theorem fa_or_sum {a k : Nat} (b : Nat) (h : a < 2 ^ k) : nI (2 ^ k * b) ||| nI a = nI (2 ^ k * b + a) := by rw [fa_or, Nat.two_pow_add_eq_or_of_lt h]
