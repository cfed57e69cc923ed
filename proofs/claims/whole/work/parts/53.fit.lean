/-! ===== fit ===== -/
/-- how many of the first n, and the first of them -/
def cnt (Q : Nat → Bool) : Nat → Nat
  | 0 => 0
  | n + 1 => if Q n = true then cnt Q n + 1 else cnt Q n
def fst_ (Q : Nat → Bool) : Nat → Int32
  | 0 => -6
  | n + 1 => if Q n = true ∧ cnt Q n = 0 then nI n else fst_ Q n
theorem cnt_le (Q : Nat → Bool) : ∀ n, cnt Q n ≤ n := by
  intro n
  induction n with
  | zero => exact Nat.le_refl 0
  | succ n ih => rw [cnt]; split <;> omega
theorem nI_n6 {n : Nat} (h : n < 2 ^ 31) : ¬ (nI n = (-6 : Int32)) := fun e => by
  have := congrArg Int32.toInt e
  rw [nI_toInt h, show (-6 : Int32).toInt = -6 from rfl] at this; omega
theorem fst6 (Q : Nat → Bool) : ∀ n, n ≤ 65536 → (fst_ Q n = -6 ↔ cnt Q n = 0) := by
  intro n
  induction n with
  | zero => intro _; exact ⟨fun _ => rfl, fun _ => rfl⟩
  | succ n ih =>
    intro hn
    have ih := ih (by omega)
    rw [fst_, cnt]
    by_cases q : Q n = true
    · rw [if_pos q]
      by_cases c : cnt Q n = 0
      · rw [if_pos ⟨q, c⟩]; exact ⟨fun e => absurd e (nI_n6 (by omega)), fun e => by omega⟩
      · rw [if_neg (fun h => c h.2)]; exact ⟨fun e => absurd (ih.mp e) c, fun e => by omega⟩
    · rw [if_neg q, if_neg (fun h => q h.1)]; exact ih
theorem take_iff : ∀ {l l' : List Nat} {n : Nat}, n ≤ l.length → n ≤ l'.length → (l.take n = l'.take n ↔ ∀ j, j < n → l.getD j 0 = l'.getD j 0)
  | _, _, 0, _, _ => ⟨fun _ j hj => absurd hj (Nat.not_lt_zero j), fun _ => by simp⟩
  | [], _, n + 1, h, _ => by simp at h
  | x :: l, [], n + 1, _, h => by simp at h
  | x :: l, y :: l', n + 1, h, h' => by
    have ih := take_iff (l := l) (l' := l') (n := n) (by simpa using h) (by simpa using h')
    rw [List.take_succ_cons, List.take_succ_cons, List.cons.injEq, ih]
    constructor
    · rintro ⟨e, h⟩ j hj
      rcases j with _ | j
      · rw [List.getD_cons_zero, List.getD_cons_zero]; exact e
      · rw [List.getD_cons_succ, List.getD_cons_succ]; exact h j (by omega)
    · intro h
      refine ⟨?_, fun j hj => ?_⟩
      · have := h 0 (by omega); rwa [List.getD_cons_zero, List.getD_cons_zero] at this
      · have := h (j + 1) (by omega); rwa [List.getD_cons_succ, List.getD_cons_succ] at this
theorem p_shownAlike {σ : St} {x y n : Nat} {l l' : List Nat} (hx : x < 512) (hy : y < 512) (hn : n ≤ l.length) (hn' : n ≤ l'.length) (h24 : n ≤ 24) (h4 : ∀ z ∈ l, z < 4) (h4' : ∀ z ∈ l', z < 4) (h : ∀ i, i < l.length → σ.1 13 (24 * x + i) = nI (l.getD i 0)) (h' : ∀ i, i < l'.length → σ.1 13 (24 * y + i) = nI (l'.getD i 0)) : f_X9_areShownAlike (nI x) (nI y) (nI n) σ = some (bI (decide (l.take n = l'.take n))) := by
  have gl : ∀ (l : List Nat), (∀ z ∈ l, z < 4) → ∀ i, l.getD i 0 < 4 := by
    intro l hl i
    rw [List.getD_eq_getElem?_getD]
    rcases hh : l[i]? with _ | z
    · show 0 < 4; decide
    · exact hl z (List.mem_of_getElem? hh)
  have key := wh_cnt (b := b_X9_areShownAlike_6 (nI x) (nI y) (nI n) σ) n (fun i s => (s = ((1 : Int32), nI i) ∧ ∀ j, j < i → l.getD j 0 = l'.getD j 0) ∨ (s.1 = 0 ∧ s.2 = nI i ∧ ∃ j, j < n ∧ l.getD j 0 ≠ l'.getD j 0)) (fun r => r = bI (decide (l.take n = l'.take n))) ?_ ?_ FU 0 ((1 : Int32), (0 : Int32)) (Nat.zero_le _) (Or.inl ⟨rfl, fun j hj => absurd hj (Nat.not_lt_zero j)⟩) (by rw [FU_]; omega)
  · obtain ⟨r, e, rfl⟩ := key
    unfold f_X9_areShownAlike
    rw [e, Option.bind_some]
    cases decide (l.take n = l'.take n) <;> rfl
  · rintro i s hi (⟨rfl, hq⟩ | ⟨h1, h2, hq⟩)
    · left
      have e1 : (24 : Int32) * nI x + nI i = nI (24 * x + i) := by rw [L24, pk_mul, nI_add]
      have e2 : (24 : Int32) * nI y + nI i = nI (24 * y + i) := by rw [L24, pk_mul, nI_add]
      unfold b_X9_areShownAlike_6
      rw [un_, if_neg (nI_ge hi (by omega)), if_neg (by decide), e1, e2, inb_nI (show 24 * x + i < 12288 by omega) (by decide), chk_t, inb_nI (show 24 * y + i < 12288 by omega) (by decide), chk_t, nI_clamp (by omega), nI_clamp (by omega), h i (by omega), h' i (by omega), nm_, nm_, nI_1]
      have g1 := gl l h4 i
      have g2 := gl l' h4' i
      by_cases c : l.getD i 0 = l'.getD i 0
      · rw [if_pos (by rw [c])]
        refine ⟨_, rfl, Or.inl ⟨rfl, fun j hj => ?_⟩⟩
        by_cases e : j = i
        · rw [e]; exact c
        · exact hq j (by omega)
      · rw [if_neg (by rw [eq_nI (by omega) (by omega)]; exact c)]
        exact ⟨_, rfl, Or.inr ⟨rfl, rfl, i, hi, c⟩⟩
    · right
      obtain ⟨a, b⟩ := s
      have h1 : a = 0 := h1
      have h2 : b = nI i := h2
      subst h1 h2
      unfold b_X9_areShownAlike_6
      rw [un_, if_neg (nI_ge hi (by omega)), if_pos rfl]
      refine ⟨_, rfl, ?_⟩
      rw [decide_eq_false]
      · rfl
      · rw [take_iff hn hn']
        obtain ⟨j, j1, j2⟩ := hq
        exact fun q => j2 (q j j1)
  · rintro s (⟨rfl, hq⟩ | ⟨h1, h2, hq⟩)
    · unfold b_X9_areShownAlike_6
      rw [un_, if_pos (nI_le (Nat.le_refl _) (by omega))]
      refine ⟨_, rfl, ?_⟩
      rw [decide_eq_true ((take_iff hn hn').mpr hq)]; rfl
    · obtain ⟨a, b⟩ := s
      have h1 : a = 0 := h1
      have h2 : b = nI n := h2
      subst h1 h2
      unfold b_X9_areShownAlike_6
      rw [un_, if_pos (nI_le (Nat.le_refl _) (by omega))]
      refine ⟨_, rfl, ?_⟩
      rw [decide_eq_false]
      · rfl
      · rw [take_iff hn hn']
        obtain ⟨j, j1, j2⟩ := hq
        exact fun q => j2 (q j j1)
/-- what is SHOWN begins alike -/
def fitq (l l' : List Nat) (n : Nat) : Bool := decide (if l.length < n then l = l' else n ≤ l'.length ∧ l.take n = l'.take n)
theorem cto_lo (P : Pg) (hu m : Nat) : lN (cto P hu m) &&& (1125899906842623 : Int64) = lN (enc (shw P hu m 24)) := by
  have h := encs_lt P hu m
  rw [show (1125899906842623 : Int64) = lN (2 ^ 50 - 1) from rfl, fb_maskL]
  congr 1
  unfold cto; omega
theorem p_beginAlike {σ : St} {pa m m' hu n : Nat} {P : Pg} (hm : m < 256) (hm' : m' < 256) (hn : n ≤ 24) (h : TraceRow σ pa P hu m) (h' : TraceRow σ pa P hu m') : f_X4_beginAlike pa (nI m) (nI m') (nI n) σ = some (bI (fitq (shw P hu m 24) (shw P hu m' 24) n)) := by
  obtain ⟨_, _, _, _, h5, h6, _⟩ := h
  obtain ⟨_, _, _, _, g5, g6, _⟩ := h'
  have hl := shw_len P hu m 24
  have gl := shw_len P hu m' 24
  have he := encs_lt P hu m
  have ge := encs_lt P hu m'
  have h4 := shw_lt4 P hu m 24
  have g4 := shw_lt4 P hu m' 24
  unfold f_X4_beginAlike
  rw [inb_nI hm (by decide), inb_nI hm' (by decide)]
  simp only [chk_t, nm_, nI_clamp (show m < 2 ^ 31 by omega), nI_clamp (show m' < 2 ^ 31 by omega), h5, h6, g5, g6, cto_lo, lg0 (show enc (shw P hu m 24) < 2 ^ 63 by omega) (show enc (shw P hu m' 24) < 2 ^ 63 by omega)]
  have ei : (enc (shw P hu m 24) = enc (shw P hu m' 24)) ↔ shw P hu m 24 = shw P hu m' 24 := ⟨enc_inj h4 g4, fun e => by rw [e]⟩
  generalize shw P hu m 24 = l at *
  generalize shw P hu m' 24 = l' at *
  unfold fitq
  by_cases c : l.length < n
  · rw [if_pos (nI_lt c (by omega))]
    simp only [if_pos c]
    by_cases e : l = l'
    · rw [if_pos (ei.mpr e), decide_eq_true e]; rfl
    · rw [if_neg (fun q => e (ei.mp q)), decide_eq_false e]; rfl
  · rw [if_neg (nI_nlt (by omega) (by omega))]
    simp only [if_neg c]
    by_cases d : n ≤ l'.length
    · rw [if_pos (nI_le d (by omega))]
      have s1 : lN (enc l) >>> (((2 : Int32) * (nI l.length - nI n)).toInt64 &&& 63) = lN (enc (l.take n)) := by
        rw [pk_sub (by omega), pf_shr (sm64 _ (by omega)) (by omega), pow4]
        rw [enc, encL_take l h4 1 n (by omega)]; rfl
      have s2 : lN (enc l') >>> (((2 : Int32) * (nI l'.length - nI n)).toInt64 &&& 63) = lN (enc (l'.take n)) := by
        rw [pk_sub (by omega), pf_shr (sm64 _ (by omega)) (by omega), pow4]
        rw [enc, encL_take l' g4 1 n (by omega)]; rfl
      have t4 : ∀ x ∈ l.take n, x < 4 := fun x hx => h4 x (List.mem_of_mem_take hx)
      have t4' : ∀ x ∈ l'.take n, x < 4 := fun x hx => g4 x (List.mem_of_mem_take hx)
      have b1 := enc_lt t4 (by rw [List.length_take]; omega)
      have b2 := enc_lt t4' (by rw [List.length_take]; omega)
      have ez : (lg_cmp (lN (enc (l.take n))) (lN (enc (l'.take n))) = (0 : Int32)) ↔ l.take n = l'.take n := by
        rw [lg0 (by omega) (by omega)]; exact ⟨enc_inj t4 t4', fun e => by rw [e]⟩
      rw [s1, s2]
      by_cases e : l.take n = l'.take n
      · rw [if_pos (ez.mpr e), decide_eq_true ⟨d, e⟩]; rfl
      · rw [if_neg (fun q => e (ez.mp q)), decide_eq_false (fun q => e q.2)]; rfl
    · rw [if_neg (nI_ge (by omega) (by omega)), decide_eq_false (fun q => d q.1), if_neg]
      · rfl
      · rw [ei]; intro e; rw [e] at c; omega
/-- alike in the VARIABLES of a set -/
def alkn (set a b : Nat) : Nat → Bool
  | 0 => true
  | i + 1 => alkn set a b i && (decide (set / 2 ^ i % 2 = 0) || decide (val a i = val b i))
def alkin (set a b : Nat) : Bool := alkn set a b 4
def dgs (set : Nat) : Nat := (set % 2) * 192 + (set / 2 % 2) * 48 + (set / 4 % 2) * 12 + (set / 8 % 2) * 3
theorem p_digits : ∀ set, set < 16 → f_X8_digitsOf (nI set) = some (nI (dgs set)) := by decide +kernel
theorem dgs0 : ∀ z, z < 256 → ∀ set, set < 16 → (decide (nI z &&& nI (dgs set) = (0 : Int32))) = alkn set z 0 4 := by decide +kernel
theorem val_xor (a b v : Nat) : val (a ^^^ b) v = val 0 v ↔ val a v = val b v := by
  have z : val 0 v = 0 := by unfold val; rw [Nat.zero_div]
  rw [z]
  unfold val
  rw [show (4 : Nat) ^ (3 - v) = 2 ^ (2 * (3 - v)) by rw [Nat.pow_mul], Nat.xor_div_two_pow, show (4 : Nat) = 2 ^ 2 from rfl, Nat.xor_mod_two_pow]
  generalize a / 2 ^ (2 * (3 - v)) % 2 ^ 2 = x
  generalize b / 2 ^ (2 * (3 - v)) % 2 ^ 2 = y
  constructor
  · intro h
    have : x ^^^ y ^^^ y = 0 ^^^ y := by rw [h]
    rw [Nat.xor_assoc, Nat.xor_self, Nat.xor_zero, Nat.zero_xor] at this
    exact this
  · rintro rfl; exact Nat.xor_self _
theorem alkn_xor (set a b : Nat) : ∀ i, alkn set (b ^^^ a) 0 i = alkn set a b i := by
  intro i
  induction i with
  | zero => rfl
  | succ i ih =>
    rw [alkn, alkn, ih]
    congr 2
    have : (val (b ^^^ a) i = val 0 i) = (val a i = val b i) := propext ((val_xor b a i).trans ⟨Eq.symm, Eq.symm⟩)
    exact decide_eq_decide.mpr (by rw [this])
theorem p_alkX {set a b : Nat} (hs : set < 16) (ha : a < 256) (hb : b < 256) : ((nI b ^^^ nI a) &&& nI (dgs set) = (0 : Int32)) ↔ alkin set a b = true := by
  rw [fb_xorI]
  have h := dgs0 (b ^^^ a) (Nat.xor_lt_two_pow (n := 8) hb ha) set hs
  unfold alkin
  rw [← alkn_xor, ← h, decide_eq_true_iff]
theorem p_alkM {set a b : Nat} (hs : set < 16) (ha : a < 256) (hb : b < 256) : f_X9_areAlikeIn (nI a) (nI b) (nI set) = some (bI (alkin set a b)) := by
  have key := wh_cnt (b := b_X9_areAlikeIn_5 (nI a) (nI b) (nI set)) 4 (fun i s => s = (bI (alkn set a b i), nI i)) (fun r => r = bI (alkin set a b)) ?_ ?_ FU 0 ((1 : Int32), (0 : Int32)) (Nat.zero_le _) rfl (by rw [FU_]; omega)
  · obtain ⟨r, e, rfl⟩ := key
    unfold f_X9_areAlikeIn
    rw [e, Option.bind_some]
    cases alkin set a b <;> rfl
  · rintro i s hi rfl
    left
    have va := val_lt a i
    have vb := val_lt b i
    refine ⟨_, ?_, rfl⟩
    unfold b_X9_areAlikeIn_5
    rw [un_, if_neg (show ¬ ((4 : Int32) ≤ nI i) from nI_ge hi (by decide)), p_valueOfM a ha i hi, p_valueOfM b hb i hi]
    simp only [Option.bind_some, nm_, nI_1, bI0, bit0 (show set < 2 ^ 31 by omega) (show i < 32 by omega), eq_nI (show val a i < 2 ^ 31 by omega) (show val b i < 2 ^ 31 by omega), alkn]
    cases alkn set a b i
    · rfl
    · rw [if_neg (by decide)]
      by_cases d : set / 2 ^ i % 2 = 0
      · rw [if_pos d, decide_eq_true d]; rfl
      · rw [if_neg d, decide_eq_false d]
        by_cases e : val a i = val b i
        · rw [if_pos e, decide_eq_true e]; rfl
        · rw [if_neg e, decide_eq_false e]; rfl
  · rintro s rfl
    unfold b_X9_areAlikeIn_5
    rw [un_, if_pos (by decide)]
    exact ⟨_, rfl, rfl⟩
