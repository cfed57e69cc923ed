/-! ===== runs leave the relation as it is ===== -/
/-- what the reference writes while it runs -/
def SQ (k j : Nat) : Prop := (k = 0 ∧ ((9 ≤ j ∧ j ≤ 11) ∨ (27 ≤ j ∧ j ≤ 32))) ∨ (7 ≤ k ∧ k ≤ 13)
theorem SQ_SR {p a : Nat} : ∀ k j, SR p a k j → SQ k j := by intro k j h; unfold SR SL S3 at h; unfold SQ; omega
theorem SQ_SL {p : Nat} : ∀ k j, SL p k j → SQ k j := by intro k j h; unfold SL S3 at h; unfold SQ; omega
theorem SQ_S3 : ∀ k j, S3 k j → SQ k j := by intro k j h; unfold S3 at h; unfold SQ; omega
theorem CMa.fr {HS : HSt} {WS : WSt} {SS : SSt} {k : Nat} {A : Ab} {σ σ' : St} (h : CMa HS WS SS k A σ) (h2 : CM2 A σ') (hf : Fr SQ σ σ') : CMa HS WS SS k A σ' := by
  obtain ⟨m1, m2, m3, m4, m5, mv, m6, m7, m8⟩ := h
  have row : ∀ c, 14 ≤ c → σ'.1 c = σ.1 c := fun c hc => funext fun j => hf.1 c j (by unfold SQ; omega)
  have z : ∀ j, ¬ (9 ≤ j ∧ j ≤ 11) → ¬ (27 ≤ j ∧ j ≤ 32) → σ'.1 0 j = σ.1 0 j := fun j h1 h2 => hf.1 0 j (by unfold SQ; omega)
  refine ⟨?_, h2, ?_, ?_, ?_, ?_, ?_, ?_, ?_⟩
  · unfold CM1; rw [row 20 (by decide)]; exact m1
  · unfold CM3 CMt; rw [row 14 (by decide), row 15 (by decide), z 20 (by decide) (by decide)]; exact m3
  · unfold CM4; rw [row 16 (by decide)]; exact m4
  · unfold CM5; rw [row 17 (by decide)]; exact m5
  · unfold CMv; rw [z 7 (by decide) (by decide), z 22 (by decide) (by decide), z 42 (by decide) (by decide), z 8 (by decide) (by decide), z 40 (by decide) (by decide)]; exact mv
  · unfold CM6; rw [z 7 (by decide) (by decide), z 22 (by decide) (by decide), z 21 (by decide) (by decide), z 23 (by decide) (by decide), z 24 (by decide) (by decide), z 25 (by decide) (by decide), z 26 (by decide) (by decide)]; exact m6
  · intro q
    rw [z 40 (by decide) (by decide), z 8 (by decide) (by decide)] at q
    obtain ⟨s, p, q', a1, a2, a3, a4, ⟨a5, a6⟩, a7, a8⟩ := m7 q
    refine ⟨s, p, q', a1, a2, a3, by rw [z 39 (by decide) (by decide)]; exact a4, ⟨hf.2.2 _ a5, hf.2.2 _ a6⟩, ?_, by rw [z 37 (by decide) (by decide)]; exact a8⟩
    rw [row 18 (by decide), row 19 (by decide)]; exact a7
  · unfold CM8; rw [z 42 (by decide) (by decide), z 7 (by decide) (by decide), z 41 (by decide) (by decide), z 43 (by decide) (by decide)]; exact m8
theorem CM2.frp {A : Ab} {σ σ' : St} {p : Nat} {S : Nat → Nat → Prop} (hV : VA A) (h : CM2 A σ) (hf : Fr S σ σ') (hs : ∀ k j, S k j → k = 0 ∨ 6 < k) (h7 : ∀ j, j ≠ p → ¬ S 7 j) (h8 : ∀ j, j < 3072 * p ∨ 3072 * p + 3072 ≤ j → ¬ S 8 j) (h1 : σ'.1 7 p = 0 ∨ σ'.1 7 p = 1) (hL : σ'.1 7 p = 1 → Laid σ' p (aP A p)) : CM2 A σ' := by
  intro i hi
  obtain ⟨c1, c2, c3, c4⟩ := h i hi
  refine ⟨c1.fr hf hs, by rw [hf.1 6 i (fun q => by have := hs _ _ q; omega)]; exact c2, ?_, ?_⟩
  · by_cases e : i = p
    · subst e; exact h1
    · rw [hf.1 7 i (h7 i e)]; exact c3
  · by_cases e : i = p
    · subst e; exact hL
    · rw [hf.1 7 i (h7 i e)]
      intro q l m hl hm
      have := (hV.1 i hi).1.1
      rw [hf.1 8 _ (h8 _ (by omega))]
      exact c4 q l m hl hm
theorem CM2.run {A : Ab} {σ : St} {p a m : Nat} (hV : VA A) (h : CM2 A σ) (hp : p < 4) (ha : a < 512) (hm : m < 256) : ∃ σ', f_X9_runOne (nI p) (nI m) (nI a) σ = some σ' ∧ CM2 A σ' ∧ RunM σ' a (aP A p) (aH A p) m ∧ Fr (SR p a) σ σ' := by
  obtain ⟨c1, c2, c3, c4⟩ := h p hp
  obtain ⟨σ', e, hr, hL, h7, hf⟩ := p_runOne (hV.1 p hp).1 c1 hp ha hm (hV.1 p hp).2 c2 c3 c4
  refine ⟨σ', e, h.frp (p := p) hV hf SR_hs (fun j hj => by unfold SR SL S3; omega) (fun j hj => by unfold SR SL S3; omega) (Or.inr h7) (fun _ => hL), hr, hf⟩
theorem CM2.lay {A : Ab} {σ : St} {p : Nat} (hV : VA A) (h : CM2 A σ) (hp : p < 4) : ∃ σ', f_X9_layTable (nI p) σ = some σ' ∧ CM2 A σ' ∧ σ'.1 7 p = 1 ∧ Fr (SL p) σ σ' := by
  obtain ⟨c1, c2, c3, c4⟩ := h p hp
  obtain ⟨σ', e, hL, h7, hf⟩ := p_lay (hV.1 p hp).1 c1 hp c3 c4
  exact ⟨σ', e, h.frp (p := p) hV hf SL_hs (fun j hj => by unfold SL S3; omega) (fun j hj => by unfold SL S3; omega) (Or.inr h7) (fun _ => hL), h7, hf⟩
theorem RunM.fr {σ σ' : St} {a b p hu m : Nat} {P : Pg} (h : RunM σ a P hu m) (hf : Fr (SR p b) σ σ') (hab : a ≠ b) : RunM σ' a P hu m := by
  obtain ⟨h1, h2, h3, h4, h5⟩ := h
  have hl := shw_len P hu m 24
  exact ⟨by rw [hf.1 _ _ (by unfold SR SL S3; omega)]; exact h1, by rw [hf.1 _ _ (by unfold SR SL S3; omega)]; exact h2, by rw [hf.1 _ _ (by unfold SR SL S3; omega)]; exact h3, by rw [hf.1 _ _ (by unfold SR SL S3; omega)]; exact h4, fun i hi => by rw [hf.1 _ _ (by unfold SR SL S3; omega)]; exact h5 i hi⟩
theorem CM2.all {A : Ab} {σ : St} {p q : Nat} (hV : VA A) (h : CM2 A σ) (hp : p < 4) (hq : q < 4) : ∃ σ', f_X9_runAll (nI p) (nI q) σ = some σ' ∧ CM2 A σ' ∧ (∀ m, m < 256 → RunM σ' m (aP A p) (aH A p) m ∧ RunM σ' (256 + m) (aP A q) (aH A q) m) ∧ Fr SQ σ σ' := by
  have key := wh_cnt (b := b_X9_runAll_2 (nI p) (nI q)) 256 (fun i y => y.1 = nI i ∧ CM2 A y.2 ∧ (∀ m, m < i → RunM y.2 m (aP A p) (aH A p) m ∧ RunM y.2 (256 + m) (aP A q) (aH A q) m) ∧ Fr SQ σ y.2) (fun s => CM2 A s ∧ (∀ m, m < 256 → RunM s m (aP A p) (aH A p) m ∧ RunM s (256 + m) (aP A q) (aH A q) m) ∧ Fr SQ σ s) ?_ ?_ FU 0 ((0 : Int32), σ) (Nat.zero_le _) ⟨rfl, h, fun m hm => absurd hm (Nat.not_lt_zero m), Fr.refl _ _⟩ (by rw [FU_]; omega)
  · obtain ⟨s, e, q1, q2, q3⟩ := key
    exact ⟨s, by unfold f_X9_runAll; rw [e]; rfl, q1, q2, q3⟩
  · rintro i ⟨y, s⟩ hi ⟨h0, q1, q2, q3⟩
    have h0 : y = nI i := h0
    subst h0
    left
    obtain ⟨s2, e2, c2, r2, f2⟩ := q1.run (p := p) (a := i) (m := i) hV hp (by omega) hi
    obtain ⟨s3, e3, c3, r3, f3⟩ := c2.run (p := q) (a := 256 + i) (m := i) hV hq (by omega) hi
    have e256 : (256 : Int32) + nI i = nI (256 + i) := by rw [L256, nI_add]
    refine ⟨(nI (i + 1), s3), ?_, rfl, c3, fun m hm => ?_, ?_⟩
    · unfold b_X9_runAll_2
      rw [un_, if_neg (show ¬ ((256 : Int32) ≤ nI i) from nI_ge hi (by decide)), e2, Option.bind_some, e256, e3, Option.bind_some, nm_, nI_1]
    · by_cases e : m = i
      · subst e; exact ⟨r2.fr f3 (by omega), r3⟩
      · obtain ⟨a, b⟩ := q2 m (by omega)
        exact ⟨(a.fr f2 e).fr f3 (by omega), (b.fr f2 (by omega)).fr f3 (by omega)⟩
    · exact (q3.trans (f2.mono SQ_SR)).trans (f3.mono SQ_SR)
  · rintro ⟨y, s⟩ ⟨h0, q⟩
    have h0 : y = nI 256 := h0
    subst h0
    exact ⟨s, by unfold b_X9_runAll_2; rw [un_, if_pos (by decide)], q⟩
-- the class
theorem TraceRow.fx {σ σ' : St} {pa m m' hu : Nat} {P : Pg} (h : TraceRow σ pa P hu m') (hf : FX (ST pa m) (ST2 pa m) σ σ') (hne : m' ≠ m) : TraceRow σ' pa P hu m' := by
  obtain ⟨h1, h2, h3, h4, h5, h6, h7⟩ := h
  have hl := stp_le P m' 24
  refine ⟨by rw [hf.1 _ _ (by unfold ST; omega)]; exact h1, by rw [hf.1 _ _ (by unfold ST; omega)]; exact h2, by rw [hf.1 _ _ (by unfold ST; omega)]; exact h3, by rw [hf.1 _ _ (by unfold ST; omega)]; exact h4, by rw [hf.1 _ _ (by unfold ST; omega)]; exact h5, by rw [hf.2 _ _ (by unfold ST2; omega)]; exact h6, fun t ht => by rw [hf.1 _ _ (by unfold ST; omega)]; exact h7 t ht⟩
/-- runs that are kept stay kept -/
def Kp (A : Ab) (σ σ' : St) : Prop := Ag (fun i => i < 4 ∨ 56 ≤ i) σ σ' ∧ ∀ p m, p < 4 → m < 256 → TraceRow σ (4 + 13 * p) (aP A p) (aH A p) m → TraceRow σ' (4 + 13 * p) (aP A p) (aH A p) m
theorem Kp.refl (A : Ab) (σ : St) : Kp A σ σ := ⟨Ag.refl _ _, fun _ _ _ _ h => h⟩
theorem Kp.trans {A : Ab} {a b c : St} (h1 : Kp A a b) (h2 : Kp A b c) : Kp A a c := ⟨h1.1.trans h2.1, fun p m hp hm h => h2.2 p m hp hm (h1.2 p m hp hm h)⟩
theorem CX2.tr {k : Nat} {A : Ab} {σ : St} {p m : Nat} (hV : VA A) (hk : k ≤ 512) (hc : CX1 σ) (h : CX2 k A σ) (hp : p < 4) (hm : m < 256) : ∃ σ', f_X4_trace (4 + 13 * p) (nI m) σ = some σ' ∧ CX2 k A σ' ∧ TraceRow σ' (4 + 13 * p) (aP A p) (aH A p) m ∧ Kp A σ σ' := by
  obtain ⟨h1, h2, g, g1, g2, g3, g4⟩ := h p hp
  obtain ⟨a, a1, a2, a3⟩ := g4 m hm
  obtain ⟨σ', e, tr, h5, hf⟩ := p_trace (pa := 4 + 13 * p) (by omega) (hV.1 p hp).1 h1 hm (hV.1 p hp).2 h2 (fun x hx => (hc x hx).1) (fun q => a3 (by rw [a2, g3, eq_nI (by omega) (by omega)] at q; exact q))
  have ago : ∀ i, i < 4 → i ≠ p → Ag (fun k => 4 + 13 * i ≤ k ∧ k ≤ 4 + 13 * i + 12) σ σ' := fun i hi hne c hc => ⟨funext fun j => hf.1 c j (by unfold ST; omega), funext fun j => hf.2 c j (by unfold ST2; omega)⟩
  refine ⟨σ', e, fun i hi => ?_, tr, ⟨fun c hc => ⟨funext fun j => hf.1 c j (by unfold ST; omega), funext fun j => hf.2 c j (by unfold ST2; omega)⟩, fun i m' hi hm' ht => ?_⟩⟩
  · by_cases ei : i = p
    · subst ei
      refine ⟨h1.fx hf ST_hs, by rw [hf.1 _ _ (by unfold ST; omega)]; exact h2, g, g1, g2, by rw [hf.1 _ _ (by unfold ST; omega)]; exact g3, fun m' hm' => ?_⟩
      by_cases em : m' = m
      · subst em; exact ⟨g, Nat.le_refl _, by rw [h5, g3], fun _ => tr⟩
      · obtain ⟨b, b1, b2, b3⟩ := g4 m' hm'
        exact ⟨b, b1, by rw [hf.1 _ _ (by unfold ST; omega)]; exact b2, fun q => (b3 q).fx hf em⟩
    · exact (h i hi).ag (ago i hi ei)
  · by_cases ei : i = p
    · subst ei
      by_cases em : m' = m
      · subst em; exact tr
      · exact ht.fx hf em
    · exact ht.ag (ago i hi ei)
theorem CX1.kp {A : Ab} {σ σ' : St} (h : CX1 σ) (hk : Kp A σ σ') : CX1 σ' := h.ag (hk.1.mono (by omega))
theorem CX2.all {k : Nat} {A : Ab} {σ : St} {p : Nat} (hV : VA A) (hk : k ≤ 512) (hc : CX1 σ) (h : CX2 k A σ) (hp : p < 4) : ∃ σ', f_X4_traceAll (4 + 13 * p) σ = some σ' ∧ CX2 k A σ' ∧ (∀ m, m < 256 → TraceRow σ' (4 + 13 * p) (aP A p) (aH A p) m) ∧ Kp A σ σ' := by
  have key := wh_cnt (b := b_X4_traceAll_2 (4 + 13 * p)) 256 (fun i y => y.1 = nI i ∧ CX2 k A y.2 ∧ (∀ m, m < i → TraceRow y.2 (4 + 13 * p) (aP A p) (aH A p) m) ∧ Kp A σ y.2) (fun s => CX2 k A s ∧ (∀ m, m < 256 → TraceRow s (4 + 13 * p) (aP A p) (aH A p) m) ∧ Kp A σ s) ?_ ?_ FU 0 ((0 : Int32), σ) (Nat.zero_le _) ⟨rfl, h, fun m hm => absurd hm (Nat.not_lt_zero m), Kp.refl _ _⟩ (by rw [FU_]; omega)
  · obtain ⟨s, e, q⟩ := key
    exact ⟨s, by unfold f_X4_traceAll; rw [e]; rfl, q⟩
  · rintro i ⟨y, s⟩ hi ⟨h0, q1, q2, q3⟩
    have h0 : y = nI i := h0
    subst h0
    left
    obtain ⟨s2, e2, c2, r2, f2⟩ := CX2.tr (m := i) hV hk (hc.kp q3) q1 hp hi
    refine ⟨(nI (i + 1), s2), ?_, rfl, c2, fun m hm => ?_, q3.trans f2⟩
    · unfold b_X4_traceAll_2
      rw [un_, if_neg (show ¬ ((256 : Int32) ≤ nI i) from nI_ge hi (by decide)), e2, Option.bind_some, nm_, nI_1]
    · by_cases e : m = i
      · subst e; exact r2
      · exact f2.2 p m hp (by omega) (q2 m (by omega))
  · rintro ⟨y, s⟩ ⟨h0, q⟩
    have h0 : y = nI 256 := h0
    subst h0
    exact ⟨s, by unfold b_X4_traceAll_2; rw [un_, if_pos (by decide)], q⟩
theorem CXa.kp {HS : HSt} {WS : WSt} {OS : OSt} {k : Nat} {A : Ab} {σ σ' : St} (hV : VA A) (h : CXa HS WS OS k A σ) (h2 : CX2 k A σ') (hk : Kp A σ σ') : CXa HS WS OS k A σ' := by
  obtain ⟨x1, x2, x3, x4, x5, x6, x7, x8⟩ := h
  have ag := hk.1
  exact ⟨x1.ag (ag.mono (by omega)), h2, x3.ag hV.2.1 (ag.mono (by omega)), x4.ag (ag.mono (by omega)), x5.ag (ag.mono (by omega)), x6.ag (ag.mono (by omega)), x7.ag (ag.mono (by omega)), x8.ag (ag.mono (by omega))⟩
/-- both sides answer alike, and only ran -/
theorem ansQ {HS : HSt} {WS : WSt} {OS : OSt} {SS : SSt} {fX fM : St → Option (Int32 × St)} {k : Nat} {A : Ab} {σX σM σX' σM' : St} {r : Int32} (hV : VA A) (hX : CXa HS WS OS k A σX) (hM : CMa HS WS SS k A σM) (e1 : fX σX = some (r, σX')) (e2 : fM σM = some (r, σM')) (h2 : CX2 k A σX') (hk : Kp A σX σX') (h3 : CM2 A σM') (hf : Fr SQ σM σM') : AnsE fX fM (Rel HS WS OS SS) k σX σM :=
  ⟨r, σX', σM', e1, e2, A, hV, (hX.kp hV h2 hk).mono (Nat.le_succ k), (hM.fr h3 hf).mono (Nat.le_succ k)⟩
