/-! ===== texts: wipe, say, told, fault, saying ===== -/
def bI (b : Bool) : Int32 := if b = true then 1 else 0
theorem p_due : ∀ c, c < 127 → ∀ s, s < 4 → ∀ b : Bool, f_X5_dueBehind (nI c) (nI s) (bI b) = some (nI (due s c b)) ∧ f_X9_stepOf (nI s) (nI c) (bI b) = some (if due s c b = 4 then -1 else nI (due s c b)) ∧ due s c b ≤ 4 := by decide +kernel
theorem p_alk : ∀ c, c < 127 → f_X5_alikePart (nI c) = some (lN (alk c)) := by decide +kernel
/-- what is answered for a text's FAULT -/
def FA (T : Tx) (r : Int32) : Prop := (∃ i, i < T.1 ∧ (∀ j, j < i → (gs T (j + 1)).1 ≠ 4) ∧ (gs T (i + 1)).1 = 4 ∧ r = nI i) ∨ ((∀ j, j < T.1 → (gs T (j + 1)).1 ≠ 4) ∧ r = if (gs T T.1).2 = true ∧ (gs T T.1).1 = 3 then -6 else nI T.1)
theorem FA.one {T : Tx} {a b : Int32} (ha : FA T a) (hb : FA T b) : a = b := by
  rcases ha with ⟨i, i1, i2, i3, rfl⟩ | ⟨i1, rfl⟩ <;> rcases hb with ⟨j, j1, j2, j3, rfl⟩ | ⟨j1, rfl⟩
  · rcases Nat.lt_trichotomy i j with h | h | h
    · exact absurd i3 (j2 i h)
    · rw [h]
    · exact absurd j3 (i2 j h)
  · exact absurd i3 (j1 i i1)
  · exact absurd j3 (i1 j j1)
  · rfl
theorem FA.ok {T : Tx} (hT : T.1 ≤ 40) {r : Int32} (h : FA T r) : (r = -6 ∧ okT T) ∨ (∃ j, j ≤ 40 ∧ r = nI j) := by
  rcases h with ⟨i, i1, i2, i3, rfl⟩ | ⟨i1, rfl⟩
  · exact Or.inr ⟨i, by omega, rfl⟩
  · by_cases c : (gs T T.1).2 = true ∧ (gs T T.1).1 = 3
    · rw [if_pos c]; exact Or.inl ⟨rfl, i1, c.2, c.1⟩
    · rw [if_neg c]; exact Or.inr ⟨T.1, hT, rfl⟩
theorem gs_lt {T : Tx} (hc : ∀ i, i < T.1 → T.2 i ≤ 126) {i : Nat} (hi : i ≤ T.1) (h : ∀ j, j < i → (gs T (j + 1)).1 ≠ 4) : (gs T i).1 < 4 := by
  induction i with
  | zero => show 0 < 4; decide
  | succ i ih =>
    have h1 := ih (by omega) (fun j hj => h j (by omega))
    have h2 := h i (by omega)
    have h3 := (p_due (T.2 i) (by have := hc i (by omega); omega) (gs T i).1 h1 (gs T i).2).2.2
    have h4 : (gs T (i + 1)).1 ≤ 4 := h3
    omega
theorem eqc {c : Nat} (hc : c ≤ 126) : (nI c = (58 : Int32)) = (c = 58) := eq_nI (by omega) (by decide)
theorem bI0 (b : Bool) : (bI b = (0 : Int32)) = (b = false) := by cases b <;> decide
theorem p_firstFault {σ : St} {sa : Nat} {T : Tx} (hT : T.1 ≤ 40) (hc : ∀ i, i < T.1 → T.2 i ≤ 126) (h : CXt σ sa T) : ∃ r, f_X5_firstFault sa σ = some r ∧ FA T r := by
  obtain ⟨h1, h2⟩ := h
  have key := wh_cnt (b := b_X5_firstFault_6 sa σ) T.1 (fun i s => s = (nI (gs T i).1, bI (gs T i).2, nI i) ∧ ∀ j, j < i → (gs T (j + 1)).1 ≠ 4) (fun r => (r = .inl (nI (gs T T.1).1, bI (gs T T.1).2) ∧ ∀ j, j < T.1 → (gs T (j + 1)).1 ≠ 4) ∨ (∃ i, i < T.1 ∧ (∀ j, j < i → (gs T (j + 1)).1 ≠ 4) ∧ (gs T (i + 1)).1 = 4 ∧ r = .inr (nI i))) ?_ ?_ FU 0 ((0 : Int32), (0 : Int32), (0 : Int32)) (Nat.zero_le _) ⟨rfl, fun j hj => absurd hj (Nat.not_lt_zero j)⟩ (by rw [FU_]; omega)
  · obtain ⟨r, e, hr⟩ := key
    rcases hr with ⟨rfl, hq⟩ | ⟨i, i1, i2, i3, rfl⟩
    · unfold f_X5_firstFault
      rw [e, Option.bind_some]
      simp only [Sum.elim_inl, un_, h1, bI0]
      refine ⟨if (gs T T.1).2 = true ∧ (gs T T.1).1 = 3 then -6 else nI T.1, ?_, Or.inr ⟨hq, rfl⟩⟩
      have h4 := gs_lt hc (Nat.le_refl _) hq
      simp only [L3, eq_nI (show (gs T T.1).1 < 2 ^ 31 by omega) (show 3 < 2 ^ 31 by decide)]
      cases hg : (gs T T.1).2
      · simp
      · by_cases h3 : (gs T T.1).1 = 3
        · simp [h3]
        · simp [h3]
    · unfold f_X5_firstFault
      rw [e, Option.bind_some]
      exact ⟨nI i, rfl, Or.inl ⟨i, i1, i2, i3, rfl⟩⟩
  · rintro i s hi ⟨rfl, hq⟩
    have g4 := gs_lt hc (show i ≤ T.1 by omega) hq
    have hci := hc i hi
    obtain ⟨d1, _, d3⟩ := p_due (T.2 i) (by omega) (gs T i).1 g4 (gs T i).2
    have hn : ¬ (nI T.1 ≤ nI i) := nI_ge hi (by omega)
    unfold b_X5_firstFault_6
    simp only [un_, h1, if_neg hn, inb_nI (show i < 40 by omega) (by decide), chk_t, nI_clamp (show i < 2 ^ 31 by omega), h2 i hi, d1, Option.bind_some, bI0, eqc hci, nm_, nI_1]
    by_cases c4 : due (gs T i).1 (T.2 i) (gs T i).2 = 4
    · right
      rw [if_pos (by rw [c4]; rfl)]
      exact ⟨_, rfl, Or.inr ⟨i, hi, hq, c4, rfl⟩⟩
    · left
      rw [if_neg (by rw [L4, eq_nI (by omega) (by decide)]; exact c4)]
      refine ⟨(nI (gs T (i + 1)).1, bI (gs T (i + 1)).2, nI (i + 1)), ?_, rfl, fun j hj => ?_⟩
      · show _ = some (Sum.inl (nI (due (gs T i).1 (T.2 i) (gs T i).2), bI ((gs T i).2 || decide (T.2 i = 58)), nI (i + 1)))
        cases hg : (gs T i).2
        · by_cases h58 : T.2 i = 58
          · simp [h58, bI]
          · simp [h58, bI]
        · simp [bI]
      · by_cases e : j = i
        · subst e; exact c4
        · exact hq j (by omega)
  · rintro s ⟨rfl, hq⟩
    unfold b_X5_firstFault_6
    simp only [un_, h1, if_pos (show nI T.1 ≤ nI T.1 from nI_le (Nat.le_refl _) (by omega))]
    exact ⟨_, rfl, Or.inl ⟨rfl, hq⟩⟩
theorem six : (6 : Int32).toNatClampNeg = 6 := rfl
theorem in67 : inb (6 : Int32) 7 = true := by decide
theorem p_fault {σ : St} {T : Tx} (hT : T.1 ≤ 40) (hc : ∀ i, i < T.1 → T.2 i ≤ 126) (h : CMt σ 6 T) : ∃ r, f_X9_fault σ = some r ∧ FA T r := by
  obtain ⟨h1, h2⟩ := h
  have key := wh_cnt (b := b_X9_fault_6 σ) T.1 (fun i s => s = (nI (gs T i).1, bI (gs T i).2, nI i) ∧ ∀ j, j < i → (gs T (j + 1)).1 ≠ 4) (fun r => (r = .inl (nI (gs T T.1).1, bI (gs T T.1).2) ∧ ∀ j, j < T.1 → (gs T (j + 1)).1 ≠ 4) ∨ (∃ i, i < T.1 ∧ (∀ j, j < i → (gs T (j + 1)).1 ≠ 4) ∧ (gs T (i + 1)).1 = 4 ∧ r = .inr (nI i))) ?_ ?_ FU 0 ((0 : Int32), (0 : Int32), (0 : Int32)) (Nat.zero_le _) ⟨rfl, fun j hj => absurd hj (Nat.not_lt_zero j)⟩ (by rw [FU_]; omega)
  · obtain ⟨r, e, hr⟩ := key
    rcases hr with ⟨rfl, hq⟩ | ⟨i, i1, i2, i3, rfl⟩
    · unfold f_X9_fault
      rw [e, Option.bind_some]
      simp only [Sum.elim_inl, un_, six, in67, chk_t, h1, bI0]
      refine ⟨if (gs T T.1).2 = true ∧ (gs T T.1).1 = 3 then -6 else nI T.1, ?_, Or.inr ⟨hq, rfl⟩⟩
      have h4 := gs_lt hc (Nat.le_refl _) hq
      simp only [L3, eq_nI (show (gs T T.1).1 < 2 ^ 31 by omega) (show 3 < 2 ^ 31 by decide)]
      cases hg : (gs T T.1).2
      · simp
      · by_cases h3 : (gs T T.1).1 = 3
        · simp [h3]
        · simp [h3]
    · unfold f_X9_fault
      rw [e, Option.bind_some]
      exact ⟨nI i, rfl, Or.inl ⟨i, i1, i2, i3, rfl⟩⟩
  · rintro i s hi ⟨rfl, hq⟩
    have g4 := gs_lt hc (show i ≤ T.1 by omega) hq
    have hci := hc i hi
    obtain ⟨_, d1, d3⟩ := p_due (T.2 i) (by omega) (gs T i).1 g4 (gs T i).2
    have hn : ¬ (nI T.1 ≤ nI i) := nI_ge hi (by omega)
    have e240 : (240 : Int32) + nI i = nI (240 + i) := by rw [L240, nI_add]
    unfold b_X9_fault_6
    simp only [un_, six, in67, chk_t, h1, if_neg hn, e240, inb_nI (show 240 + i < 280 by omega) (by decide), nI_clamp (show 240 + i < 2 ^ 31 by omega), h2 i hi, d1, Option.bind_some, bI0, eqc hci, nm_, nI_1]
    by_cases c4 : due (gs T i).1 (T.2 i) (gs T i).2 = 4
    · right
      rw [if_pos c4, if_neg (show ¬ ((0 : Int32) ≤ -1) by decide)]
      exact ⟨_, rfl, Or.inr ⟨i, hi, hq, c4, rfl⟩⟩
    · left
      rw [if_neg c4, if_pos (show (0 : Int32) ≤ nI _ from nI_le (Nat.zero_le _) (by omega))]
      refine ⟨(nI (gs T (i + 1)).1, bI (gs T (i + 1)).2, nI (i + 1)), ?_, rfl, fun j hj => ?_⟩
      · show _ = some (Sum.inl (nI (due (gs T i).1 (T.2 i) (gs T i).2), bI ((gs T i).2 || decide (T.2 i = 58)), nI (i + 1)))
        cases hg : (gs T i).2
        · by_cases h58 : T.2 i = 58
          · simp [h58, bI]
          · simp [h58, bI]
        · simp [bI]
      · by_cases e : j = i
        · subst e; exact c4
        · exact hq j (by omega)
  · rintro s ⟨rfl, hq⟩
    unfold b_X9_fault_6
    simp only [un_, six, in67, chk_t, h1, if_pos (show nI T.1 ≤ nI T.1 from nI_le (Nat.le_refl _) (by omega))]
    exact ⟨_, rfl, Or.inl ⟨rfl, hq⟩⟩
/-- only texts were told -/
def TxE (A A' : Ab) : Prop := aP A' = aP A ∧ aH A' = aH A ∧ aN A ≤ aN A' ∧ (∀ s, s < aN A → aT A' s = aT A s) ∧ aW A' = aW A ∧ aS A' = aS A
theorem TxE.x {HS : HSt} {WS : WSt} {OS : OSt} {k : Nat} {A A' : Ab} {σ σ' : St} (h : TxE A A') (hx : CXa HS WS OS k A σ) (ha : Ag (fun i => i < 57 ∨ (70 < i ∧ i < 87)) σ σ') (h3 : CX3 A' σ') : CXa HS WS OS (k + 1) A' σ' := by
  obtain ⟨x1, x2, x3, x4, x5, x6, x7, x8⟩ := hx
  obtain ⟨e1, e2, e3, e4, e5, e6⟩ := h
  refine ⟨x1.ag (ha.mono (by omega)), ?_, h3, ?_, ?_, ?_, ?_, ?_⟩
  · have := (x2.ag (ha.mono (by omega))).mono (Nat.le_succ k); unfold CX2; rw [e1, e2]; exact this
  · have := x4.ag (ha.mono (by omega)); unfold CX4; rw [e5]; exact this
  · have := x5.ag (ha.mono (by omega)); unfold CX5; rw [e6]; exact this
  · have := x6.ag (ha.mono (by omega)); unfold CX6; rw [e1, e2]
    exact this.imp id (fun ⟨s, p, q, h1, h2⟩ => ⟨s, p, q, by omega, by rw [e4 s h1]; exact h2⟩)
  · have := x7.ag (ha.mono (by omega)); unfold CX7; rw [e1, e5]
    exact this.imp id (fun ⟨s, p, q, h1, h2⟩ => ⟨s, p, q, by omega, by rw [e4 s h1]; exact h2⟩)
  · have := x8.ag (ha.mono (by omega)); unfold CX8; rw [e1]; exact this
theorem TxE.m {HS : HSt} {WS : WSt} {SS : SSt} {k : Nat} {A A' : Ab} {σ σ' : St} (h : TxE A A') (hx : CMa HS WS SS k A σ) (ha : Ag (fun i => i ≠ 0 ∧ i ≠ 14 ∧ i ≠ 15) σ σ') (h0 : ∀ j, j ≠ 20 → σ'.1 0 j = σ.1 0 j) (h3 : CM3 A' σ') : CMa HS WS SS (k + 1) A' σ' := by
  obtain ⟨m1, m2, m3, m4, m5, mv, m6, m7, m8⟩ := hx
  obtain ⟨e1, e2, e3, e4, e5, e6⟩ := h
  refine ⟨m1.ag (ha.mono (by omega)), ?_, h3, ?_, ?_, ?_, ?_, ?_, ?_⟩
  · have := m2.ag (ha.mono (by omega)); unfold CM2; rw [e1, e2]; exact this
  · have := m4.ag (ha.mono (by omega)); unfold CM4; rw [e5]; exact this
  · have := m5.ag (ha.mono (by omega)); unfold CM5; rw [e6]; exact this
  · have := mv.mono (Nat.le_succ k); unfold CMv; rw [h0 7 (by decide), h0 22 (by decide), h0 42 (by decide), h0 8 (by decide), h0 40 (by decide)]; exact this
  · unfold CM6; rw [h0 22 (by decide), h0 7 (by decide), h0 21 (by decide), h0 23 (by decide), h0 24 (by decide), h0 25 (by decide), h0 26 (by decide), e1, e2]
    intro q; obtain ⟨s, p, q, h1, h2⟩ := m6 q; exact ⟨s, p, q, by omega, by rw [e4 s h1]; exact h2⟩
  · unfold CM7; rw [h0 40 (by decide), h0 8 (by decide), h0 39 (by decide), h0 37 (by decide), (ha 18 (by omega)).1, (ha 19 (by omega)).1, (ha 7 (by omega)).1, e1, e5]
    intro q; obtain ⟨s, p, q, h1, h2⟩ := m7 q; exact ⟨s, p, q, by omega, by rw [e4 s h1]; exact h2⟩
  · unfold CM8; rw [h0 42 (by decide), h0 7 (by decide), h0 41 (by decide), h0 43 (by decide), e1, e2]
    intro q; obtain ⟨s, p, h1, h2⟩ := m8 q; exact ⟨s, p, by omega, by rw [e4 s h1]; exact h2⟩
section PR3
variable (HS : HSt) (WS : WSt) (OS : OSt) (SS : SSt)
theorem ok_fault : Ok_fault (Rel HS WS OS SS) := by
  intro k σX σM hk hR
  have hR0 := hR
  obtain ⟨A, hV, ⟨x1, x2, x3, x4, x5, x6, x7, x8⟩, m1, m2, m3, m4, m5, mv, m6, m7, m8⟩ := hR
  obtain ⟨t1, t2⟩ := hV.2.2.1 6 (Or.inr rfl)
  obtain ⟨r, e1, f1⟩ := p_firstFault t1 (fun i hi => (t2 i hi).2) (x3.2.1 6 (Or.inr rfl))
  obtain ⟨r', e2, f2⟩ := p_fault t1 (fun i hi => (t2 i hi).2) (m3.2 6 (Or.inr rfl))
  have := f1.one f2
  subst this
  exact ⟨r, by unfold f_X8_fault; rw [show (69 : Nat) = 57 + 2 * 6 from rfl, e1]; rfl, e2, hR0.mono (Nat.le_succ k)⟩
def dft (A : Ab) (T : Tx) : Ab := (aP A, aH A, aN A, va_up (aT A) 6 T, aW A, aS A)
theorem dft_e (A : Ab) (hn : aN A ≤ 6) (T : Tx) : TxE A (dft A T) := ⟨rfl, rfl, Nat.le_refl _, fun s hs => by show va_up (aT A) 6 T s = _; unfold va_up; rw [if_neg (by omega)], rfl, rfl⟩
theorem dft_v {A : Ab} (hV : VA A) {T : Tx} (h : T.1 ≤ 40 ∧ ∀ i, i < T.1 → 33 ≤ T.2 i ∧ T.2 i ≤ 126) : VA (dft A T) := by
  obtain ⟨v1, v2, v3, v4, v5⟩ := hV
  refine ⟨v1, v2, fun s hs => ?_, fun s hs => ?_, v5⟩
  · show (va_up (aT A) 6 T s).1 ≤ 40 ∧ _
    by_cases e : s = 6
    · subst e; simp only [dft, aT, va_up, if_true]; exact h
    · simp only [dft, aT, va_up, if_neg e]; exact v3 s hs
  · have hs : s < aN A := hs
    simp only [dft, aT, va_up, if_neg (show s ≠ 6 by omega)]; exact v4 s hs
theorem dft_x {A : Ab} {σ σ' : St} {T : Tx} (hn : aN A ≤ 6) (h : CX3 A σ) (ha : Ag (fun i => (57 ≤ i ∧ i < 69) ∨ i = 87) σ σ') (hT : CXt σ' 69 T) : CX3 (dft A T) σ' := by
  obtain ⟨h1, h2, h3⟩ := h
  refine ⟨by rw [(ha 87 (by omega)).1]; exact h1, fun s hs => ?_, fun s hs => ?_⟩
  · by_cases e : s = 6
    · subst e; simp only [dft, aT, va_up, if_true]; exact hT
    · simp only [dft, aT, va_up, if_neg e]
      have hs' : s < aN A ∨ s = 6 := hs
      obtain ⟨a, b⟩ := h2 s hs'
      exact ⟨by rw [(ha (57 + 2 * s) (by omega)).1]; exact a, fun i hi => by rw [(ha (57 + 2 * s + 1) (by omega)).1]; exact b i hi⟩
  · have hs : s < aN A := hs
    simp only [dft, aT, va_up, if_neg (show s ≠ 6 by omega)]
    rw [(ha (57 + 2 * s) (by omega)).1, (ha (57 + 2 * s) (by omega)).2]; exact h3 s hs
theorem dft_m {A : Ab} {σ σ' : St} {T : Tx} (hn : aN A ≤ 6) (hV : VA A) (h : CM3 A σ) (h0 : σ'.1 0 20 = σ.1 0 20) (h14 : ∀ j, j < 240 → σ'.1 14 j = σ.1 14 j) (h15 : ∀ j, j < 6 → σ'.1 15 j = σ.1 15 j) (hT : CMt σ' 6 T) : CM3 (dft A T) σ' := by
  obtain ⟨h1, h2⟩ := h
  refine ⟨by rw [h0]; exact h1, fun s hs => ?_⟩
  by_cases e : s = 6
  · subst e; simp only [dft, aT, va_up, if_true]; exact hT
  · simp only [dft, aT, va_up, if_neg e]
    have hs' : s < aN A ∨ s = 6 := hs
    obtain ⟨a, b⟩ := h2 s hs'
    have := (hV.2.2.1 s hs').1
    exact ⟨by rw [h15 s (by omega)]; exact a, fun i hi => by have hi' : i < (aT A s).1 := hi; rw [h14 _ (by omega)]; exact b i hi⟩
theorem ok_wipe : Ok_wipe (Rel HS WS OS SS) := by
  intro k σX σM hk hR
  obtain ⟨A, hV, hX, hM⟩ := hR
  have x3 := hX.2.2.1
  have m3 := hM.2.2.1
  have t1 := (x3.2.1 6 (Or.inr rfl)).1
  have t2 := (m3.2 6 (Or.inr rfl)).1
  refine ⟨nI (aT A 6).1, stI σX 69 1 0, stI σM 15 6 0, ?_, ?_, dft A (0, (aT A 6).2), dft_v hV ⟨Nat.zero_le 40, fun i hi => absurd hi (Nat.not_lt_zero i)⟩, ?_, ?_⟩
  · unfold f_X8_wipe; rw [nm_, nm_, show σX.1 69 1 = nI (aT A 6).1 from t1]
  · unfold f_X9_wipe; rw [in67, chk_t, nm_, chk_t, nm_, six, t2]
  · refine (dft_e A hV.2.1 _).x hX ((Ag.refl _ _).i_ (by omega)) (dft_x hV.2.1 x3 ((Ag.refl _ _).i_ (by omega)) ⟨by rw [stI_same]; rfl, fun i hi => absurd hi (Nat.not_lt_zero i)⟩)
  · refine (dft_e A hV.2.1 _).m hM ((Ag.refl _ _).i_ (by omega)) (fun j _ => by rw [stI_nk (by decide)]) (dft_m hV.2.1 hV m3 (by rw [stI_nk (by decide)]) (fun j _ => by rw [stI_nk (by decide)]) (fun j hj => by rw [stI_ne (by omega)]) ⟨by rw [stI_same]; rfl, fun i hi => absurd hi (Nat.not_lt_zero i)⟩)
theorem rngC (x : Int32) : (∃ c, 33 ≤ c ∧ c ≤ 126 ∧ x = nI c ∧ ¬ x < (33 : Int32) ∧ x ≤ (126 : Int32) ∧ f_X9_in x.toInt64 33 126 = some 1) ∨ ((x < (33 : Int32) ∨ (¬ x < (33 : Int32) ∧ ¬ x ≤ (126 : Int32))) ∧ f_X9_in x.toInt64 33 126 = some 0) := by
  have h1 : (33 : Int32).toInt = 33 := rfl
  have h2 : (126 : Int32).toInt = 126 := rfl
  have h3 : (33 : Int64).toInt = 33 := rfl
  have h4 : (126 : Int64).toInt = 126 := rfl
  rw [in_iff, Int32.lt_iff_toInt_lt, Int32.le_iff_toInt_le, Int32.toInt_toInt64, h1, h2, h3, h4]
  by_cases c : 33 ≤ x.toInt ∧ x.toInt ≤ 126
  · left
    rw [if_pos c]
    refine ⟨x.toInt.toNat, by omega, by omega, ?_, by omega, by omega, rfl⟩
    apply Int32.toInt_inj.mp
    rw [nI_toInt (by omega)]; omega
  · right
    rw [if_neg c]
    exact ⟨by omega, rfl⟩
theorem ok_say : Ok_say (Rel HS WS OS SS) := by
  intro k σX σM a1 hk hR
  rcases rngC a1 with ⟨c, c1, c2, rfl, n1, n2, ib⟩ | ⟨hb, ib⟩
  rotate_left
  · refine ansE HS WS OS SS hR (r := -2) ?_ (by unfold f_X9_say; rw [ib]; rfl)
    unfold f_X8_say
    rcases hb with hb | ⟨hb, hc⟩
    · rw [if_pos hb]
    · rw [if_neg hb, if_neg hc]
  have hR0 := hR
  obtain ⟨A, hV, hX, hM⟩ := hR
  have x3 := hX.2.2.1
  have m3 := hM.2.2.1
  obtain ⟨t1, t3⟩ := x3.2.1 6 (Or.inr rfl)
  obtain ⟨t2, t4⟩ := m3.2 6 (Or.inr rfl)
  obtain ⟨v1, v2⟩ := hV.2.2.1 6 (Or.inr rfl)
  have t1' : σX.1 69 1 = nI (aT A 6).1 := t1
  by_cases hf : (aT A 6).1 = 40
  · refine ansE HS WS OS SS hR0 (r := -4) ?_ ?_
    · unfold f_X8_say; rw [if_neg n1, if_pos n2, t1', hf]; rfl
    · unfold f_X9_say; rw [ib, Option.bind_some, if_neg (by decide), in67, chk_t, six, t2, hf]; rfl
  have hn : (aT A 6).1 < 40 := by omega
  have e240 : (240 : Int32) + nI (aT A 6).1 = nI (240 + (aT A 6).1) := by rw [L240, nI_add]
  have y1 : (stI σX (69 + 1) (aT A 6).1 (nI c)).1 69 1 = nI (aT A 6).1 := by rw [stI_nk (by decide)]; exact t1'
  have y2 : (stI σM 14 (240 + (aT A 6).1) (nI c)).1 15 6 = nI (aT A 6).1 := by rw [stI_nk (by decide)]; exact t2
  refine ⟨nI ((aT A 6).1 + 1), stI (stI σX 70 (aT A 6).1 (nI c)) 69 1 (nI ((aT A 6).1 + 1)), stI (stI σM 14 (240 + (aT A 6).1) (nI c)) 15 6 (nI ((aT A 6).1 + 1)), ?_, ?_, dft A ((aT A 6).1 + 1, va_up (aT A 6).2 (aT A 6).1 c), dft_v hV ⟨hn, fun i hi => ?_⟩, ?_, ?_⟩
  · unfold f_X8_say
    rw [if_neg n1, if_pos n2, t1', if_pos (show nI (aT A 6).1 < (40 : Int32) from nI_lt hn (by decide)), inb_nI hn (by decide), chk_t, nm_, nm_, nI_clamp (by omega), y1, nI_1, stI_same]
  · unfold f_X9_say
    rw [ib, Option.bind_some, if_neg (by decide), in67, chk_t, six, t2, if_neg (show ¬ (nI (aT A 6).1 = (40 : Int32)) by rw [L40, eq_nI (by omega) (by decide)]; exact hf), chk_t, e240, inb_nI (show 240 + (aT A 6).1 < 280 by omega) (by decide), chk_t, nm_, chk_t, chk_t, nm_, nI_clamp (by omega), y2, nI_1, chk_t, stI_same]
  · have hi : i < (aT A 6).1 + 1 := hi
    show 33 ≤ va_up (aT A 6).2 (aT A 6).1 c i ∧ va_up (aT A 6).2 (aT A 6).1 c i ≤ 126
    unfold va_up
    by_cases e : i = (aT A 6).1
    · rw [if_pos e]; exact ⟨c1, c2⟩
    · rw [if_neg e]; exact v2 i (by omega)
  · refine (dft_e A hV.2.1 _).x hX (((Ag.refl _ _).i_ (by omega)).i_ (by omega)) (dft_x hV.2.1 x3 (((Ag.refl _ _).i_ (by omega)).i_ (by omega)) ⟨by rw [stI_same], fun i hi => ?_⟩)
    have hi : i < (aT A 6).1 + 1 := hi
    rw [stI_nk (by decide), stI_v]
    show _ = nI (va_up (aT A 6).2 (aT A 6).1 c i)
    unfold va_up
    by_cases e : i = (aT A 6).1
    · rw [if_pos ⟨rfl, e⟩, if_pos e]
    · rw [if_neg (fun q => e q.2), if_neg e]; exact t3 i (by omega)
  · refine (dft_e A hV.2.1 _).m hM (((Ag.refl _ _).i_ (by omega)).i_ (by omega)) (fun j _ => by rw [stI_nk (by decide), stI_nk (by decide)]) (dft_m hV.2.1 hV m3 (by rw [stI_nk (by decide), stI_nk (by decide)]) (fun j hj => by rw [stI_nk (by decide), stI_ne (by omega)]) (fun j hj => by rw [stI_ne (by omega), stI_nk (by decide)]) ⟨by rw [stI_same], fun i hi => ?_⟩)
    have hi : i < (aT A 6).1 + 1 := hi
    rw [stI_nk (by decide), stI_v]
    show _ = nI (va_up (aT A 6).2 (aT A 6).1 c i)
    unfold va_up
    by_cases e : i = (aT A 6).1
    · rw [if_pos ⟨rfl, by omega⟩, if_pos e]
    · rw [if_neg (fun q => e (by omega)), if_neg e]; exact t4 i (by omega)
end PR3
