/-! ===== calls that tell PROGRAMS anew ===== -/
def fgt (σ : St) : St := stI (stI (stI σ 72 1 (-6)) 76 1 (-6)) 84 0 (-6)
theorem p_forget (σ : St) : f_X8_forget σ = some (fgt σ) := rfl
theorem fgt_ag (σ : St) : Ag (fun k => k ≠ 72 ∧ k ≠ 76 ∧ k ≠ 84) σ (fgt σ) := (((Ag.refl _ _).i_ (fun h => h.1 rfl)).i_ (fun h => h.2.1 rfl)).i_ (fun h => h.2.2 rfl)
theorem fgt_ok (HS : HSt) (WS : WSt) (OS : OSt) {k : Nat} {A : Ab} {σ : St} (hn : aN A ≤ 6) (h1 : CX1 σ) (h2 : CX2 k A σ) (h3 : CX3 A σ) (h4 : CX4 A σ) (h5 : CX5 A σ) : CXa HS WS OS k A (fgt σ) :=
  ⟨h1.ag ((fgt_ag σ).mono (by omega)), h2.ag ((fgt_ag σ).mono (by omega)), h3.ag hn ((fgt_ag σ).mono (by omega)), h4.ag ((fgt_ag σ).mono (by omega)), h5.ag ((fgt_ag σ).mono (by omega)), Or.inl (by unfold fgt; rw [stI_nk (by decide), stI_nk (by decide), stI_same]), Or.inl (by unfold fgt; rw [stI_nk (by decide), stI_same]), Or.inl (by unfold fgt; rw [stI_same])⟩
theorem CXp.bump {k : Nat} {σ σ' : St} {pa hu hu' : Nat} {P P' : Pg} (hk : k < 512) (h : CXp k σ pa P hu) (h1 : PX σ' pa P') (h2 : σ'.1 pa 6 = nI hu') (h3 : σ'.1 pa 7 = σ.1 pa 7 + 1) (h4 : σ'.1 (pa + 5) = σ.1 (pa + 5)) : CXp (k + 1) σ' pa P' hu' := by
  obtain ⟨_, _, g, g1, g2, g3, g4⟩ := h
  refine ⟨h1, h2, g + 1, by omega, by omega, by rw [h3, g3, nI_1], fun m hm => ?_⟩
  obtain ⟨a, a1, a2, _⟩ := g4 m hm
  exact ⟨a, by omega, by rw [h4]; exact a2, fun e => by omega⟩
/-- all other PROGRAMS stay, one is told anew -/
theorem CX2.one {k : Nat} {A : Ab} {σ σ' : St} {p hu' : Nat} {P' : Pg} (hp : p < 4) (h : CX2 k A σ) (ha : Ag (fun i => i < 4 + 13 * p ∨ 4 + 13 * p + 12 < i) σ σ') (h1 : CXp (k + 1) σ' (4 + 13 * p) P' hu') (A' : Ab) (e1 : aP A' = va_up (aP A) p P') (e2 : aH A' = va_up (aH A) p hu') : CX2 (k + 1) A' σ' := by
  intro i hi
  rw [e1, e2]
  by_cases e : i = p
  · subst e; rw [show va_up (aP A) i P' i = P' by simp [va_up], show va_up (aH A) i hu' i = hu' by simp [va_up]]; exact h1
  · rw [show va_up (aP A) p P' i = aP A i by simp [va_up, e], show va_up (aH A) p hu' i = aH A i by simp [va_up, e]]
    exact ((h i hi).ag (ha.mono (fun j hj => by omega))).mono (Nat.le_succ k)
theorem stale {x : Int32} {a : Nat} (ha : a < 2 ^ 30) (h : x = -6 ∨ ∃ b, b ≤ a ∧ x = nI b) : ¬ x = nI (a + 1) := by
  rcases h with rfl | ⟨b, hb, rfl⟩
  · intro e
    have := congrArg Int32.toInt e
    rw [nI_toInt (by omega)] at this
    have h6 : (-6 : Int32).toInt = -6 := rfl
    omega
  · rw [eq_nI (by omega) (by omega)]; omega
def putS (σ : St) (pa i : Nat) (L : Ln) : St := stI (stI (stI (stI (stI σ (pa + 1) i (nI L.1)) (pa + 2) i (nI L.2.1)) (pa + 3) i (nI L.2.2.1)) (pa + 4) i (nI L.2.2.2)) pa 7 (σ.1 pa 7 + 1)
theorem p_put {σ : St} {pa i : Nat} (hi : i < 12) (L : Ln) : f_X4_put pa (nI i) (nI L.1) (nI L.2.1) (nI L.2.2.1) (nI L.2.2.2) σ = some (putS σ pa i L) := by
  unfold f_X4_put putS
  rw [if_neg (nI_pos (by omega)), if_pos (show nI i < (12 : Int32) from nI_lt hi (by decide))]
  simp only [inb_nI hi (by decide : 12 < 2 ^ 31), chk_t, nm_, nI_clamp (show i < 2 ^ 31 by omega), stI_nk (show pa ≠ pa + 1 by omega), stI_nk (show pa ≠ pa + 2 by omega), stI_nk (show pa ≠ pa + 3 by omega), stI_nk (show pa ≠ pa + 4 by omega)]
theorem putS_ag (σ : St) (pa i : Nat) (L : Ln) : Ag (fun k => k < pa ∨ pa + 12 < k) σ (putS σ pa i L) := by
  unfold putS
  exact (((((Ag.refl _ _).i_ (by omega)).i_ (by omega)).i_ (by omega)).i_ (by omega)).i_ (by omega)
theorem putS_5 (σ : St) (pa i : Nat) (L : Ln) : (putS σ pa i L).1 (pa + 5) = σ.1 (pa + 5) := by
  unfold putS
  rw [stI_nk (by omega), stI_nk (by omega), stI_nk (by omega), stI_nk (by omega), stI_nk (by omega)]
theorem putS_pa (σ : St) (pa i : Nat) (L : Ln) (j : Nat) (hj : j ≠ 7) : (putS σ pa i L).1 pa j = σ.1 pa j := by
  unfold putS
  rw [stI_ne (fun h => hj h.2), stI_nk (by omega), stI_nk (by omega), stI_nk (by omega), stI_nk (by omega)]
theorem putS_7 (σ : St) (pa i : Nat) (L : Ln) : (putS σ pa i L).1 pa 7 = σ.1 pa 7 + 1 := by
  unfold putS; rw [stI_same]
theorem putS_PX {σ : St} {pa i n : Nat} {P : Pg} {L : Ln} (h5 : σ.1 pa 5 = nI n) (h : ∀ j, j < n → j ≠ i → σ.1 (pa + 1) j = nI (P.2 j).1 ∧ σ.1 (pa + 2) j = nI (P.2 j).2.1 ∧ σ.1 (pa + 3) j = nI (P.2 j).2.2.1 ∧ σ.1 (pa + 4) j = nI (P.2 j).2.2.2) : PX (putS σ pa i L) pa (n, va_up P.2 i L) := by
  refine ⟨by rw [putS_pa _ _ _ _ _ (by decide)]; exact h5, fun j hj => ?_⟩
  have hj : j < n := hj
  unfold putS
  by_cases e : j = i
  · subst e
    simp only [va_up, if_true]
    refine ⟨?_, ?_, ?_, ?_⟩
    · rw [stI_nk (by omega), stI_nk (by omega), stI_nk (by omega), stI_nk (by omega), stI_same]
    · rw [stI_nk (by omega), stI_nk (by omega), stI_nk (by omega), stI_same]
    · rw [stI_nk (by omega), stI_nk (by omega), stI_same]
    · rw [stI_nk (by omega), stI_same]
  · obtain ⟨a, b, c, d⟩ := h j hj e
    simp only [va_up, if_neg e]
    refine ⟨?_, ?_, ?_, ?_⟩
    · rw [stI_nk (by omega), stI_nk (by omega), stI_nk (by omega), stI_nk (by omega), stI_ne (fun q => e q.2)]; exact a
    · rw [stI_nk (by omega), stI_nk (by omega), stI_nk (by omega), stI_ne (fun q => e q.2)]; rw [stI_nk (by omega)]; exact b
    · rw [stI_nk (by omega), stI_nk (by omega), stI_ne (fun q => e q.2), stI_nk (by omega), stI_nk (by omega)]; exact c
    · rw [stI_nk (by omega), stI_ne (fun q => e q.2), stI_nk (by omega), stI_nk (by omega), stI_nk (by omega)]; exact d
-- the reference
def layS (σ : St) (x : Nat) (L : Ln) : St := stI (stI (stI (stI σ 1 x (nI L.1)) 2 x (nI L.2.1)) 3 x (nI L.2.2.1)) 4 x (nI L.2.2.2)
theorem p_layM {σ : St} {x : Nat} (hx : x < 48) (L : Ln) : f_X9_lay (nI x) (nI L.1) (nI L.2.1) (nI L.2.2.1) (nI L.2.2.2) σ = some (layS σ x L) := by
  unfold f_X9_lay layS
  simp only [inb_nI hx (by decide : 48 < 2 ^ 31), chk_t, nm_, nI_clamp (show x < 2 ^ 31 by omega)]
def othS (σ : St) (p : Nat) : St := stI (stI (stI σ 7 p 0) 0 7 (σ.1 0 7 + 1)) 0 8 (σ.1 0 8 + 1)
theorem p_isOther {σ : St} {p : Nat} (hp : p < 4) : f_X9_isOther (nI p) σ = some (othS σ p) := by
  unfold f_X9_isOther othS
  have e1 : (stI σ 7 p 0).1 0 7 = σ.1 0 7 := by rw [stI_nk (by decide)]
  have e2 : (stI (stI σ 7 p 0) 0 7 (σ.1 0 7 + 1)).1 0 8 = σ.1 0 8 := by rw [stI_ne (by decide), stI_nk (by decide)]
  simp only [inb_nI hp (by decide : 4 < 2 ^ 31), chk_t, nm_, nI_clamp (show p < 2 ^ 31 by omega), e1, e2]
/-- behind isOther: versions are new, what was kept is stale -/
theorem oth_ok (HS : HSt) (WS : WSt) (SS : SSt) {k : Nat} {A A' : Ab} {σ σ' : St} {p : Nat} {P' : Pg} {hu' : Nat} (hk : k < 512) (hp : p < 4) (hm : CMa HS WS SS k A σ) (ha : Ag (fun i => 7 ≤ i) σ σ') (h0 : σ'.1 0 = σ.1 0) (hP : PM σ' p P') (hPo : ∀ i, i < 4 → i ≠ p → PM σ' i (aP A i) ∧ σ'.1 6 i = σ.1 6 i) (h6 : σ'.1 6 p = nI hu') (e1 : aP A' = va_up (aP A) p P') (e2 : aH A' = va_up (aH A) p hu') (e3 : aN A' = aN A ∧ aT A' = aT A ∧ aW A' = aW A ∧ aS A' = aS A) : CMa HS WS SS (k + 1) A' (othS σ' p) := by
  obtain ⟨m1, m2, m3, m4, m5, mv, m6, m7, m8⟩ := hm
  have ag : Ag (fun i => 7 < i) σ (othS σ' p) := by
    unfold othS
    exact ((((ha.mono (fun i hi => by omega)).i_ (by omega)).i_ (by omega)).i_ (by omega))
  have ag2 : Ag (fun i => 0 < i ∧ i < 7) σ' (othS σ' p) := by
    unfold othS
    exact ((((Ag.refl _ _).i_ (by omega)).i_ (by omega)).i_ (by omega))
  have z : ∀ j, j ≠ 7 → j ≠ 8 → (othS σ' p).1 0 j = σ.1 0 j := fun j h7 h8 => by
    unfold othS; rw [stI_ne (fun q => h8 q.2), stI_ne (fun q => h7 q.2), stI_nk (by decide), h0]
  have z7 : (othS σ' p).1 0 7 = σ.1 0 7 + 1 := by unfold othS; rw [stI_ne (by decide), stI_same, h0]
  have z8 : (othS σ' p).1 0 8 = σ.1 0 8 + 1 := by unfold othS; rw [stI_same, h0]
  obtain ⟨⟨a, a1, a2, a3, a4⟩, b, b1, b2, b3⟩ := mv
  have n22 := stale (show a < 2 ^ 30 by omega) a3
  have n42 := stale (show a < 2 ^ 30 by omega) a4
  have n40 := stale (show b < 2 ^ 30 by omega) b3
  refine ⟨m1.ag (ag.mono (by omega)), ?_, ?_, ?_, ?_, ⟨⟨a + 1, by omega, by rw [z7, a2, nI_1], ?_, ?_⟩, b + 1, by omega, by rw [z8, b2, nI_1], ?_⟩, ?_, ?_, ?_⟩
  · intro i hi
    rw [e1, e2]
    by_cases e : i = p
    · subst e
      rw [show va_up (aP A) i P' i = P' by simp [va_up], show va_up (aH A) i hu' i = hu' by simp [va_up]]
      refine ⟨hP.ag (ag2.mono (fun j hj => by omega)), by rw [(ag2 6 (by omega)).1]; exact h6, Or.inl ?_, fun q => ?_⟩
      · unfold othS; rw [stI_nk (by decide), stI_nk (by decide), stI_same]
      · unfold othS at q; rw [stI_nk (by decide), stI_nk (by decide), stI_same] at q; exact absurd q (by decide)
    · rw [show va_up (aP A) p P' i = aP A i by simp [va_up, e], show va_up (aH A) p hu' i = aH A i by simp [va_up, e]]
      obtain ⟨c1, c2, c3, c4⟩ := m2 i hi
      have h7 : (othS σ' p).1 7 i = σ.1 7 i := by unfold othS; rw [stI_nk (by decide), stI_nk (by decide), stI_ne (fun q => e q.2), (ha 7 (by omega)).1]
      refine ⟨(hPo i hi e).1.ag (ag2.mono (fun j hj => by omega)), by rw [(ag2 6 (by omega)).1, (hPo i hi e).2]; exact c2, by rw [h7]; exact c3, fun q => ?_⟩
      unfold Laid
      rw [(ag 8 (by omega)).1]
      exact c4 (by rw [← h7]; exact q)
  · unfold CM3 CMt; rw [e3.1, e3.2.1, z 20 (by decide) (by decide), (ag 14 (by omega)).1, (ag 15 (by omega)).1]; exact m3
  · unfold CM4; rw [e3.2.2.1, (ag 16 (by omega)).1]; exact m4
  · unfold CM5; rw [e3.2.2.2, (ag 17 (by omega)).1]; exact m5
  · rw [z 22 (by decide) (by decide)]
    exact a3.imp id (fun ⟨b, h1, h2⟩ => ⟨b, by omega, h2⟩)
  · rw [z 42 (by decide) (by decide)]
    exact a4.imp id (fun ⟨b, h1, h2⟩ => ⟨b, by omega, h2⟩)
  · rw [z 40 (by decide) (by decide)]
    exact b3.imp id (fun ⟨b, h1, h2⟩ => ⟨b, by omega, h2⟩)
  · intro q; rw [z 22 (by decide) (by decide), z7, a2, nI_1] at q; exact absurd q n22
  · intro q; rw [z 40 (by decide) (by decide), z8, b2, nI_1] at q; exact absurd q n40
  · intro q; rw [z 42 (by decide) (by decide), z7, a2, nI_1] at q; exact absurd q n42
