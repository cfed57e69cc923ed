/-! ===== so: what is meant ===== -/
/-- how many bits -/
def popN (n : Nat) : Nat → Nat
  | 0 => 0
  | k + 1 => popN n k + n / 2 ^ k % 2
def pop (n : Nat) : Nat := popN n 12
theorem popN_le (n : Nat) : ∀ k, popN n k ≤ k := by
  intro k
  induction k with
  | zero => exact Nat.le_refl _
  | succ k ih =>
    rw [popN]
    have := Nat.mod_lt (n / 2 ^ k) (show 0 < 2 by decide)
    omega
theorem pop_le (n : Nat) : pop n ≤ 12 := popN_le n 12
theorem pop0 : pop 0 = 0 := by decide
theorem p_bc : ∀ a, a < 16 → ∀ b, b < 256 → f_J6_bitCount_0f7a4 (nI (256 * a + b)) = some (nI (pop (256 * a + b))) := by decide +kernel
theorem p_bitCount (n : Nat) (hn : n < 4096) : f_J6_bitCount_0f7a4 (nI n) = some (nI (pop n)) := by
  have := p_bc (n / 256) (by omega) (n % 256) (by omega)
  rw [show 256 * (n / 256) + n % 256 = n by omega] at this
  exact this
theorem p_ones {n : Nat} (hn : n < 4096) : f_X9_ones (nI n) = some (nI (pop n)) := by
  have key := wh_cnt (b := b_X9_ones_4 (nI n)) 12 (fun k z => z = (nI (popN n k), nI k)) (fun r => r = nI (pop n)) ?_ ?_ FU 0 ((0 : Int32), (0 : Int32)) (Nat.zero_le _) rfl (by rw [FU_]; omega)
  · obtain ⟨r, e, rfl⟩ := key
    unfold f_X9_ones; rw [e]; rfl
  · rintro k z hk rfl
    left
    refine ⟨_, ?_, rfl⟩
    unfold b_X9_ones_4
    rw [un_, if_neg (show ¬ ((12 : Int32) ≤ nI k) from nI_ge hk (by decide)), bitI (by omega) (by omega), nm_, nm_, nI_1, nI_add]
    rfl
  · rintro z rfl
    refine ⟨_, ?_, rfl⟩
    unfold b_X9_ones_4
    rw [un_, if_pos (by decide)]
    rfl
/-- LINES of SHOW that are not SILENT -/
def ldN (P : Pg) (hu : Nat) : Nat → Nat
  | 0 => 0
  | i + 1 => if (P.2 i).1 = 6 then (if hu / 2 ^ i % 2 = 0 then ldN P hu i ||| 2 ^ i else ldN P hu i) else ldN P hu i
def lod (P : Pg) (hu : Nat) : Nat := ldN P hu P.1
theorem ldN_lt (P : Pg) (hu : Nat) : ∀ i, ldN P hu i < 2 ^ i := by
  intro i
  induction i with
  | zero => exact Nat.one_pos
  | succ i ih =>
    have h2 : 2 ^ i < 2 ^ (i + 1) := wb_lt2 (Nat.lt_succ_self i)
    rw [ldN]
    split
    · split
      · exact Nat.or_lt_two_pow (by omega) h2
      · omega
    · omega
theorem lod_lt {P : Pg} (hV : VP P) (hu : Nat) : lod P hu < 4096 := Nat.lt_of_lt_of_le (ldN_lt P hu P.1) (Nat.pow_le_pow_right (by decide) hV.1)
theorem n6_ {L : Ln} (h : VL L) : (nI L.1 = (6 : Int32)) = (L.1 = 6) := eq_nI (by have := h.1; omega) (by decide)
theorem p_loudX {σ : St} {pa hu : Nat} {P : Pg} (hV : VP P) (hX : PX σ pa P) (hh : hu < 4096) (h6 : σ.1 pa 6 = nI hu) : f_X4_loudLines pa σ = some (nI (lod P hu)) := by
  have h12 := hV.1
  have key := wh_cnt (b := b_X4_loudLines_4 pa σ) P.1 (fun i z => z = (nI (ldN P hu i), nI i)) (fun r => r = nI (lod P hu)) ?_ ?_ FU 0 ((0 : Int32), (0 : Int32)) (Nat.zero_le _) rfl (by rw [FU_]; omega)
  · obtain ⟨r, e, rfl⟩ := key
    unfold f_X4_loudLines; rw [e]; rfl
  · rintro i z hi rfl
    left
    refine ⟨_, ?_, rfl⟩
    unfold b_X4_loudLines_4
    rw [un_, hX.1, if_neg (nI_ge hi (by omega)), inb_nI (show i < 12 by omega) (by decide), chk_t, nI_clamp (by omega), (hX.2 i hi).1, h6, sh1 i (by omega), fa_or, nI_1]
    simp only [nm_]
    rw [ldN]
    by_cases c : (P.2 i).1 = 6
    · rw [if_pos (show nI (P.2 i).1 = (6 : Int32) by rw [n6_ (hV.2 i hi)]; exact c), if_pos c]
      by_cases d : hu / 2 ^ i % 2 = 0
      · rw [if_pos (show _ = (0 : Int32) by rw [bit0 (by omega) (by omega)]; exact d), if_pos d]
      · rw [if_neg (show ¬ (_ = (0 : Int32)) by rw [bit0 (by omega) (by omega)]; exact d), if_neg d]
    · rw [if_neg (show ¬ (nI (P.2 i).1 = (6 : Int32)) by rw [n6_ (hV.2 i hi)]; exact c), if_neg c]
  · rintro z rfl
    refine ⟨_, ?_, rfl⟩
    unfold b_X4_loudLines_4
    rw [un_, hX.1, if_pos (Int32.le_refl _)]
    rfl
theorem p_loudM {σ : St} {p hu : Nat} {P : Pg} (hp : p < 4) (hV : VP P) (hX : PM σ p P) (hh : hu < 4096) (h6 : σ.1 6 p = nI hu) : wh FU (b_X9_so_36 (nI p) σ) ((0 : Int32), (0 : Int32)) = some (nI (lod P hu)) := by
  have h12 := hV.1
  have key := wh_cnt (b := b_X9_so_36 (nI p) σ) P.1 (fun i z => z = (nI (ldN P hu i), nI i)) (fun r => r = nI (lod P hu)) ?_ ?_ FU 0 ((0 : Int32), (0 : Int32)) (Nat.zero_le _) rfl (by rw [FU_]; omega)
  · obtain ⟨r, e, rfl⟩ := key
    exact e
  · rintro i z hi rfl
    left
    refine ⟨_, ?_, rfl⟩
    have ei : (12 : Int32) * nI p + nI i = nI (12 * p + i) := by rw [L12, pk_mul, nI_add]
    unfold b_X9_so_36
    rw [un_, inb_nI hp (by decide), chk_t, nI_clamp (by omega), hX.1, if_neg (nI_ge hi (by omega)), ei, inb_nI (show 12 * p + i < 48 by omega) (by decide), chk_t, nI_clamp (by omega), (hX.2 i hi).1, chk_t, h6, sh1 i (by omega), fa_or, or0, nI_1]
    simp only [nm_]
    rw [ldN]
    by_cases c : (P.2 i).1 = 6
    · rw [if_pos (show nI (P.2 i).1 = (6 : Int32) by rw [n6_ (hV.2 i hi)]; exact c), if_pos c]
      by_cases d : hu / 2 ^ i % 2 = 0
      · rw [if_pos (show _ = (0 : Int32) by rw [bit0 (by omega) (by omega)]; exact d), if_pos d]
      · rw [if_neg (show ¬ (_ = (0 : Int32)) by rw [bit0 (by omega) (by omega)]; exact d), if_neg d]
    · rw [if_neg (show ¬ (nI (P.2 i).1 = (6 : Int32)) by rw [n6_ (hV.2 i hi)]; exact c), if_neg c]
  · rintro z rfl
    refine ⟨_, ?_, rfl⟩
    unfold b_X9_so_36
    rw [un_, inb_nI hp (by decide), chk_t, nI_clamp (by omega), hX.1, if_pos (Int32.le_refl _)]
    rfl
/-- the next choice among the bits of m -/
def nxs (m x : Nat) : Nat := (x + 4096 - m) &&& m
def sbs (m : Nat) : Nat → Nat
  | 0 => 0
  | i + 1 => nxs m (sbs m i)
theorem and_4096 (a : Nat) {m : Nat} (hm : m < 4096) : a &&& m = (a % 4096) &&& m := by
  have h1 : m = 4095 &&& m := by
    rw [Nat.and_comm, show 4095 = 2 ^ 12 - 1 from rfl, Nat.and_two_pow_sub_one_eq_mod, Nat.mod_eq_of_lt hm]
  have h2 : a &&& 4095 = a % 4096 := by rw [show 4095 = 2 ^ 12 - 1 from rfl, Nat.and_two_pow_sub_one_eq_mod]
  rw [← h2, Nat.and_assoc, ← h1]
theorem p_nxs {m x : Nat} (hm : m < 4096) (hx : x < 4096) : (nI x - nI m) &&& nI m = nI (nxs m x) := by
  have e : nI x - nI m = nI (x + 4294967296 - m) := by
    apply Int32.toBitVec_inj.1
    show BitVec.ofNat 32 x - BitVec.ofNat 32 m = BitVec.ofNat 32 (x + 4294967296 - m)
    apply BitVec.eq_of_toNat_eq
    rw [BitVec.toNat_sub, BitVec.toNat_ofNat, BitVec.toNat_ofNat, BitVec.toNat_ofNat]
    omega
  rw [e, fa_and, nxs, and_4096 (x + 4294967296 - m) hm, and_4096 (x + 4096 - m) hm, show (x + 4294967296 - m) % 4096 = (x + 4096 - m) % 4096 by omega]
theorem sbs_lt {m : Nat} (hm : m < 4096) : ∀ i, sbs m i < 4096 := by
  intro i
  cases i with
  | zero => exact (show 0 < 4096 by decide)
  | succ i => exact Nat.lt_of_le_of_lt Nat.and_le_right hm
noncomputable def sck (m n : Nat) : Nat → Bool := Nat.rec (motive := fun _ => Nat → Bool) (fun x => Nat.beq x 0) (fun _ ih x => !(Nat.beq x 0) && ih (nxs m x)) n
noncomputable def sca (n : Nat) : Bool := Nat.rec (motive := fun _ => Bool) true (fun m ih => (Nat.ble 7 (pop m) || sck m (2 ^ pop m - 1) (nxs m 0)) && ih) n
theorem sca_ok : sca 4096 = true := by decide +kernel
theorem sca_m : ∀ n m, sca n = true → m < n → Nat.ble 7 (pop m) = true ∨ sck m (2 ^ pop m - 1) (nxs m 0) = true := by
  intro n
  induction n with
  | zero => intro m _ h; omega
  | succ n ih =>
    intro m h hm
    have h : ((Nat.ble 7 (pop n) || sck n (2 ^ pop n - 1) (nxs n 0)) && sca n) = true := h
    rw [Bool.and_eq_true, Bool.or_eq_true] at h
    by_cases e : m = n
    · subst e; exact h.1
    · exact ih m h.2 (by omega)
theorem sck_ok (m : Nat) : ∀ n k, sck m n (sbs m k) = true → (∀ i, i < n → sbs m (k + i) ≠ 0) ∧ sbs m (k + n) = 0 := by
  intro n
  induction n with
  | zero =>
    intro k h
    have h : Nat.beq (sbs m k) 0 = true := h
    exact ⟨fun i hi => absurd hi (Nat.not_lt_zero i), Nat.eq_of_beq_eq_true h⟩
  | succ n ih =>
    intro k h
    have h : (!(Nat.beq (sbs m k) 0) && sck m n (sbs m (k + 1))) = true := h
    rw [Bool.and_eq_true] at h
    obtain ⟨a, b⟩ := ih (k + 1) h.2
    refine ⟨fun i hi => ?_, by rw [show k + (n + 1) = k + 1 + n by omega]; exact b⟩
    cases i with
    | zero =>
      intro e
      have e : sbs m k = 0 := e
      rw [e] at h
      exact absurd h.1 (by decide)
    | succ i => rw [show k + (i + 1) = k + 1 + i by omega]; exact a i (by omega)
theorem sbs_ok {m : Nat} (hm : m < 4096) (h6 : pop m ≤ 6) : (∀ i, 0 < i → i < 2 ^ pop m → sbs m i ≠ 0) ∧ sbs m (2 ^ pop m) = 0 := by
  have hp : 0 < 2 ^ pop m := Nat.two_pow_pos _
  rcases sca_m 4096 m sca_ok hm with h | h
  · have := Nat.le_of_ble_eq_true h
    omega
  · obtain ⟨a, b⟩ := sck_ok m (2 ^ pop m - 1) 1 h
    rw [show 1 + (2 ^ pop m - 1) = 2 ^ pop m by omega] at b
    refine ⟨fun i h0 hi => ?_, b⟩
    have := a (i - 1) (by omega)
    rw [show 1 + (i - 1) = i by omega] at this
    exact this
/-- the best choice of the first n -/
def bup (g : Nat → Bool) (s : Nat) (b : Option Nat) : Option Nat := match b with
  | none => if g s = true then some s else none
  | some c => if pop s < pop c then (if g s = true then some s else some c) else some c
def bsn (g : Nat → Bool) (m : Nat) : Nat → Option Nat
  | 0 => none
  | i + 1 => bup g (sbs m i) (bsn g m i)
def oI (b : Option Nat) : Int32 := match b with
  | none => -6
  | some c => nI c
theorem bsn_lt {g : Nat → Bool} {m : Nat} (hm : m < 4096) : ∀ n c, bsn g m n = some c → c < 4096 := by
  intro n
  induction n with
  | zero => intro c h; cases h
  | succ n ih =>
    intro c h
    rw [bsn] at h
    have hs := sbs_lt hm n
    cases e : bsn g m n with
    | none =>
      rw [e, bup] at h
      split at h
      · rw [← Option.some.inj h]; exact hs
      · cases h
    | some d =>
      rw [e, bup] at h
      have := ih d e
      split at h
      · split at h
        · rw [← Option.some.inj h]; exact hs
        · rw [← Option.some.inj h]; exact this
      · rw [← Option.some.inj h]; exact this
theorem bsn_none {g : Nat → Bool} {m : Nat} (h : ∀ s, g s = false) : ∀ n, bsn g m n = none := by
  intro n
  induction n with
  | zero => rfl
  | succ n ih => rw [bsn, ih, bup, if_neg (by rw [h]; decide)]
theorem bsn_zero {g : Nat → Bool} {m : Nat} (h : g 0 = true) : ∀ n, bsn g m (n + 1) = some 0 := by
  intro n
  induction n with
  | zero => rw [bsn, bsn, bup, sbs, if_pos h]
  | succ n ih => rw [bsn, ih, bup, pop0, if_neg (Nat.not_lt_zero _)]
/-- no MEANT PAIR is BROKEN if these LINES are SILENT too -/
noncomputable def gdq (T : Tx) (P : Pg) (hu s : Nat) : Bool := cb (∀ x, x < 256 → ∀ y, y < 256 → mtq T x y = true → asq T P (hu ||| s) x P (hu ||| s) y = true)
noncomputable def SSp : SSt := fun T P hu => oI (bsn (gdq T P hu) (lod P hu) (2 ^ pop (lod P hu)))
theorem oI_m {b : Option Nat} (hb : ∀ c, b = some c → c < 4096) : (oI b = (-6 : Int32) ↔ b = none) ∧ ((0 : Int32) ≤ oI b ↔ b ≠ none) ∧ (oI b < (0 : Int32) ↔ b = none) := by
  cases b with
  | none => exact ⟨⟨fun _ => rfl, fun _ => rfl⟩, ⟨fun h => absurd h (by decide), fun h => absurd rfl h⟩, ⟨fun _ => rfl, fun _ => by decide⟩⟩
  | some c =>
    have h := hb c rfl
    refine ⟨⟨fun e => absurd e (nI_n6 (by omega)), fun e => by cases e⟩, ⟨fun _ e => (by cases e), fun _ => ?_⟩, ⟨fun e => absurd e (nI_pos (by omega)), fun e => by cases e⟩⟩
    show (0 : Int32) ≤ nI c
    rw [L0, le_nI (by decide) (by omega)]
    exact Nat.zero_le _
