/-! ===== so: the reference ===== -/
theorem p_nb18 {σ : St} {s hu x : Nat} {T : Tx} {P : Pg} (hs : s < 6) (h : okT T) (hT : T.1 ≤ 40) (hc : ∀ i, i < T.1 → 33 ≤ T.2 i ∧ T.2 i ≤ 126) (hM : CMt σ s T) (hP : VP P) (hx : x < 256) (r1 : ∀ m, m < 256 → RunM σ m P hu m ∧ RunM σ (256 + m) P hu m) : ∃ k, wh FU (b_X9_noneBroken_18 (nI s) σ (nI x)) ((1 : Int32), (0 : Int32)) = some (bI k) ∧ (k = true ↔ ∀ y, y < 256 → mtq T x y = true → asq T P hu x P hu y = true) := by
  have key := wh_cnt (b := b_X9_noneBroken_18 (nI s) σ (nI x)) 256 (fun i z => ∃ k, z = (bI k, nI i) ∧ (k = true ↔ ∀ y, y < i → mtq T x y = true → asq T P hu x P hu y = true)) (fun r => ∃ k, r = bI k ∧ (k = true ↔ ∀ y, y < 256 → mtq T x y = true → asq T P hu x P hu y = true)) ?_ ?_ FU 0 ((1 : Int32), (0 : Int32)) (Nat.zero_le _) ⟨true, rfl, ⟨fun _ m hm => absurd hm (Nat.not_lt_zero m), fun _ => rfl⟩⟩ (by rw [FU_]; omega)
  · obtain ⟨r, e, k, rfl, q⟩ := key
    exact ⟨k, e, q⟩
  · rintro i z hi ⟨k, rfl, q1⟩
    unfold b_X9_noneBroken_18
    rw [un_, if_neg (show ¬ ((256 : Int32) ≤ nI i) from nI_ge hi (by decide))]
    cases k
    · rw [if_pos (by decide)]
      right
      refine ⟨_, rfl, false, rfl, ⟨fun h => (by cases h), fun h => ?_⟩⟩
      have := q1.mpr (fun y hy => h y (by omega))
      cases this
    · rw [if_neg (by decide)]
      left
      have qa := q1.mp rfl
      have fin : ∀ k : Bool, (k = true ↔ (mtq T x i = true → asq T P hu x P hu i = true)) → (k = true ↔ ∀ y, y < i + 1 → mtq T x y = true → asq T P hu x P hu y = true) := by
        intro k hk
        rw [hk]
        constructor
        · intro q y hy
          by_cases e : y = i
          · subst e; exact q
          · exact qa y (by omega)
        · intro q
          exact q i (by omega)
      have e256 : (256 : Int32) + nI i = nI (256 + i) := by rw [L256, nI_add]
      rw [p_meantM (by omega) h hT hc hM hx hi, Option.bind_some, e256, p_asSaid hs h hT hc hM hP hP hx hi (by omega) (by omega) (r1 x hx).1 (r1 i hi).2, Option.bind_some, nI_1]
      simp only [nm_]
      cases c : mtq T x i
      · rw [if_pos (by decide)]
        exact ⟨_, rfl, true, rfl, fin true ⟨fun _ q => absurd q (by rw [c]; decide), fun _ => rfl⟩⟩
      · rw [if_neg (by decide)]
        cases d : asq T P hu x P hu i
        · rw [if_pos (by decide)]
          exact ⟨_, rfl, false, rfl, fin false ⟨fun q => (by cases q), fun q => absurd (q c) (by rw [d]; decide)⟩⟩
        · rw [if_neg (by decide)]
          exact ⟨_, rfl, true, rfl, fin true ⟨fun _ _ => d, fun _ => rfl⟩⟩
  · rintro z ⟨k, rfl, q⟩
    exact ⟨_, by unfold b_X9_noneBroken_18; rw [un_, if_pos (by decide)], k, rfl, q⟩
theorem p_noneBroken {σ : St} {s hu : Nat} {T : Tx} {P : Pg} (hs : s < 6) (h : okT T) (hT : T.1 ≤ 40) (hc : ∀ i, i < T.1 → 33 ≤ T.2 i ∧ T.2 i ≤ 126) (hM : CMt σ s T) (hP : VP P) (r1 : ∀ m, m < 256 → RunM σ m P hu m ∧ RunM σ (256 + m) P hu m) : f_X9_noneBroken (nI s) σ = some (bI (cb (∀ x, x < 256 → ∀ y, y < 256 → mtq T x y = true → asq T P hu x P hu y = true))) := by
  have key := wh_cnt (b := b_X9_noneBroken_4 (nI s) σ) 256 (fun i z => ∃ k, z = (bI k, nI i) ∧ (k = true ↔ ∀ x, x < i → ∀ y, y < 256 → mtq T x y = true → asq T P hu x P hu y = true)) (fun r => ∃ k, r = bI k ∧ (k = true ↔ ∀ x, x < 256 → ∀ y, y < 256 → mtq T x y = true → asq T P hu x P hu y = true)) ?_ ?_ FU 0 ((1 : Int32), (0 : Int32)) (Nat.zero_le _) ⟨true, rfl, ⟨fun _ m hm => absurd hm (Nat.not_lt_zero m), fun _ => rfl⟩⟩ (by rw [FU_]; omega)
  · obtain ⟨r, e, k, rfl, q⟩ := key
    unfold f_X9_noneBroken
    rw [e, Option.bind_some, bI01, chk_t, cb_c q]
  · rintro i z hi ⟨k, rfl, q1⟩
    unfold b_X9_noneBroken_4
    rw [un_, if_neg (show ¬ ((256 : Int32) ≤ nI i) from nI_ge hi (by decide))]
    cases k
    · rw [if_pos (by decide)]
      right
      refine ⟨_, rfl, false, rfl, ⟨fun h => (by cases h), fun h => ?_⟩⟩
      have := q1.mpr (fun y hy => h y (by omega))
      cases this
    · rw [if_neg (by decide)]
      left
      have qa := q1.mp rfl
      obtain ⟨k2, e2, g2⟩ := p_nb18 hs h hT hc hM hP hi r1
      have e2 : wh FU (b_X9_noneBroken_18 (nI s) σ (nI i)) (bI true, (0 : Int32)) = some (bI k2) := e2
      rw [e2, Option.bind_some, nm_, nI_1]
      refine ⟨_, rfl, k2, rfl, ?_⟩
      rw [g2]
      constructor
      · intro q x hx
        by_cases e : x = i
        · subst e; exact q
        · exact qa x (by omega)
      · intro q
        exact q i (by omega)
  · rintro z ⟨k, rfl, q⟩
    exact ⟨_, by unfold b_X9_noneBroken_4; rw [un_, if_pos (by decide)], k, rfl, q⟩
/-- other LINES are SILENT -/
def wH (A : Ab) (p v : Nat) : Ab := (aP A, va_up (aH A) p v, aN A, aT A, aW A, aS A)
theorem wH_id (A : Ab) (p : Nat) : wH A p (aH A p) = A := by
  have : va_up (aH A) p (aH A p) = aH A := by
    funext j
    unfold va_up
    by_cases e : j = p
    · rw [if_pos e, e]
    · rw [if_neg e]
  unfold wH
  rw [this]
theorem wH_p (A : Ab) (p v : Nat) : aH (wH A p v) p = v := by
  show va_up (aH A) p v p = v
  unfold va_up
  rw [if_pos rfl]
theorem wH_v {A : Ab} (hV : VA A) (p : Nat) {v : Nat} (hv : v < 4096) : VA (wH A p v) := by
  refine ⟨fun i hi => ⟨(hV.1 i hi).1, ?_⟩, hV.2⟩
  show va_up (aH A) p v i < 4096
  unfold va_up
  split
  · exact hv
  · exact (hV.1 i hi).2
theorem CM2.sil {A : Ab} {σ : St} {p u : Nat} (h : CM2 (wH A p u) σ) (v : Nat) : CM2 (wH A p v) (stI σ 6 p (nI v)) := by
  intro i hi
  obtain ⟨c1, c2, c3, c4⟩ := h i hi
  refine ⟨c1.ag ((Ag.refl _ _).i_ (by decide)), ?_, ?_, ?_⟩
  · have c2 : σ.1 6 i = nI (va_up (aH A) p u i) := c2
    show (stI σ 6 p (nI v)).1 6 i = nI (va_up (aH A) p v i)
    unfold va_up at c2 ⊢
    rw [stI_v]
    by_cases e : i = p
    · rw [if_pos ⟨rfl, e⟩, if_pos e]
    · rw [if_neg (fun q => e q.2), if_neg e]
      rw [if_neg e] at c2
      exact c2
  · rw [stI_nk (by decide)]; exact c3
  · unfold Laid
    rw [stI_nk (show 7 ≠ 6 by decide), stI_nk (show 8 ≠ 6 by decide)]
    exact c4
/-- what is written while SILENT LINES are tried -/
def SB (p k j : Nat) : Prop := SQ k j ∨ (k = 6 ∧ j = p)
theorem p_best {A : Ab} {σ : St} {s p : Nat} (hV : VA A) (h2 : CM2 A σ) (h3 : CM3 A σ) (hs : s < aN A) (hp : p < 4) (h6 : pop (lod (aP A p) (aH A p)) ≤ 6) : ∃ σ', f_X9_bestSilence (nI s) (nI p) (nI (lod (aP A p) (aH A p))) σ = some (SSp (aT A s) (aP A p) (aH A p), σ') ∧ CM2 A σ' ∧ Fr SQ σ σ' := by
  have hP := (hV.1 p hp).1
  have hh := (hV.1 p hp).2
  have hn6 := hV.2.1
  have hok := hV.2.2.2.1 s hs
  obtain ⟨hT, hc⟩ := hV.2.2.1 s (Or.inl hs)
  have hl := lod_lt hP (aH A p)
  have hpw : 2 ^ pop (lod (aP A p) (aH A p)) ≤ 2 ^ 6 := Nat.pow_le_pow_right (n := 2) (by decide) h6
  have hpz : 0 < 2 ^ pop (lod (aP A p) (aH A p)) := Nat.two_pow_pos _
  obtain ⟨sn, sz⟩ := sbs_ok hl h6
  have hSS : SSp (aT A s) (aP A p) (aH A p) = oI (bsn (gdq (aT A s) (aP A p) (aH A p)) (lod (aP A p) (aH A p)) (2 ^ pop (lod (aP A p) (aH A p)))) := rfl
  rw [hSS]
  have v6 : σ.1 6 p = nI (aH A p) := (h2 p hp).2.1
  generalize 2 ^ pop (lod (aP A p) (aH A p)) = N at *
  generalize hm : lod (aP A p) (aH A p) = m at *
  generalize hg : gdq (aT A s) (aP A p) (aH A p) = g at *
  have step : ∀ i st u, CM2 (wH A p u) st → Fr (SB p) σ st → ∃ s3, (∃ s2, s2 = stI st 6 p (nI (aH A p) ||| nI (sbs m i)) ∧ f_X9_runAll (nI p) (nI p) s2 = some s3) ∧ f_X9_noneBroken (nI s) s3 = some (bI (g (sbs m i))) ∧ CM2 (wH A p (aH A p ||| sbs m i)) s3 ∧ Fr (SB p) σ s3 := by
    intro i st u c f
    have hb := sbs_lt hl i
    have hv := or_4096 hh hb
    obtain ⟨s3, e3, c3, r3, f3⟩ := (c.sil (aH A p ||| sbs m i)).all (wH_v hV p hv) hp hp
    have f4 : Fr (SB p) σ s3 := (f.st _ (Or.inr ⟨rfl, rfl⟩)).trans (f3.mono (fun k j q => Or.inl q))
    refine ⟨s3, ⟨_, rfl, by rw [fa_or]; exact e3⟩, ?_, c3, f4⟩
    have hMt : CMt s3 s (aT A s) := (h3.2 s (Or.inl hs)).fr f4 (fun k j q => by unfold SB SQ at q; omega)
    have r3 : ∀ m_1, m_1 < 256 → RunM s3 m_1 (aP A p) (aH A p ||| sbs m i) m_1 ∧ RunM s3 (256 + m_1) (aP A p) (aH A p ||| sbs m i) m_1 := by
      intro x hx
      have := r3 x hx
      rw [wH_p] at this
      exact this
    rw [p_noneBroken (by omega) hok hT hc hMt hP r3, ← hg]
    rfl
  have key := wh_cnt (b := b_X9_bestSilence_18 (nI s) (nI p) (nI m) (nI (aH A p))) N (fun i z => ∃ u st, z = (oI (bsn g m i), nI (sbs m i), (if i = 0 ∨ sbs m i ≠ 0 then (1 : Int32) else 0), st) ∧ CM2 (wH A p u) st ∧ Fr (SB p) σ st) (fun r => ∃ u st, r = (oI (bsn g m N), st) ∧ CM2 (wH A p u) st ∧ Fr (SB p) σ st) ?_ ?_ FU 0 ((-6 : Int32), (0 : Int32), (1 : Int32), σ) (Nat.zero_le _) ⟨aH A p, σ, rfl, by rw [wH_id]; exact h2, Fr.refl _ _⟩ (by rw [FU_]; omega)
  · obtain ⟨r, e, u, st, rfl, c, f⟩ := key
    refine ⟨stI st 6 p (nI (aH A p)), ?_, ?_, ?_⟩
    · unfold f_X9_bestSilence
      rw [inb_nI hp (by decide), chk_t, nm_, nI_clamp (by omega), v6, e, Option.bind_some, un_, chk_t, nm_]
    · have := c.sil (aH A p)
      rw [wH_id] at this
      exact this
    · refine ⟨fun k j hn => ?_, f.2.1, fun j hj => ?_⟩
      · rw [stI_v]
        by_cases e : k = 6 ∧ j = p
        · rw [if_pos e, e.1, e.2, v6]
        · rw [if_neg e]
          exact f.1 k j (fun q => q.elim hn e)
      · rw [stI_nk (by decide)]; exact f.2.2 j hj
  · rintro i z hi ⟨u, st, rfl, c, f⟩
    left
    have hb := sbs_lt hl i
    obtain ⟨s3, ⟨s2, rfl, e3⟩, e4, c3, f3⟩ := step i st u c f
    have en := p_nxs hl hb
    have bs : bsn g m (i + 1) = bup g (sbs m i) (bsn g m i) := rfl
    have ss : sbs m (i + 1) = nxs m (sbs m i) := rfl
    have hbs := bsn_lt (g := g) hl i
    have hb1 := sbs_lt hl (i + 1)
    have more : (if i = 0 ∨ sbs m i ≠ 0 then (1 : Int32) else 0) = 1 := by
      rw [if_pos]
      rcases Nat.eq_zero_or_pos i with h | h
      · exact Or.inl h
      · exact Or.inr (sn i h hi)
    have tail : ∀ (b : Int32) (st' : St), (if nI (sbs m (i + 1)) = (0 : Int32) then some (Sum.inl (b, nI (sbs m (i + 1)), (0 : Int32), st')) else some (Sum.inl (b, nI (sbs m (i + 1)), (1 : Int32), st')) : Option ((Int32 × Int32 × Int32 × St) ⊕ (Int32 × St))) = some (.inl (b, nI (sbs m (i + 1)), (if i + 1 = 0 ∨ sbs m (i + 1) ≠ 0 then (1 : Int32) else 0), st')) := by
      intro b st'
      by_cases d : sbs m (i + 1) = 0
      · rw [if_pos (by rw [d]; rfl), if_neg (fun q => q.elim (by omega) (fun r => r d))]
      · rw [if_neg (by rw [L0, eq_nI (by omega) (by decide)]; exact d), if_pos (Or.inr d)]
    unfold b_X9_bestSilence_18
    rw [un_, un_, un_, more, if_neg (by decide), inb_nI hp (by decide), chk_t, nm_, nI_clamp (by omega), e3, Option.bind_some, e4, Option.bind_some, en, ← ss]
    simp only [nm_, tail]
    cases d : bsn g m i with
    | none =>
      rw [d, bup_none] at bs
      rw [if_pos (show oI none < (0 : Int32) by decide)]
      cases w : g (sbs m i)
      · rw [w, if_neg (by decide)] at bs
        rw [if_pos (by decide)]
        exact ⟨_, rfl, _, s3, by rw [bs], c3, f3⟩
      · rw [w, if_pos rfl] at bs
        rw [if_neg (by decide)]
        exact ⟨_, rfl, _, s3, by rw [bs]; rfl, c3, f3⟩
    | some v =>
      rw [d, bup_some] at bs
      have hv := hbs v d
      have p1 := pop_le (sbs m i)
      have p2 := pop_le v
      rw [show oI (some v) = nI v from rfl, if_neg (nI_pos (by omega)), p_ones hb, Option.bind_some, p_ones hv, Option.bind_some]
      by_cases l : pop (sbs m i) < pop v
      · rw [if_pos l] at bs
        rw [if_neg (by rw [le_nI (by omega) (by omega)]; omega)]
        cases w : g (sbs m i)
        · rw [w, if_neg (by decide)] at bs
          rw [if_pos (by decide)]
          exact ⟨_, rfl, _, s3, by rw [bs]; rfl, c3, f3⟩
        · rw [w, if_pos rfl] at bs
          rw [if_neg (by decide)]
          exact ⟨_, rfl, _, s3, by rw [bs]; rfl, c3, f3⟩
      · rw [if_neg l] at bs
        rw [if_pos (by rw [le_nI (by omega) (by omega)]; omega)]
        exact ⟨_, rfl, _, st, by rw [bs]; rfl, c, f⟩
  · rintro z ⟨u, st, rfl, c, f⟩
    refine ⟨_, ?_, u, st, rfl, c, f⟩
    unfold b_X9_bestSilence_18
    rw [un_, un_, un_, if_pos (if_neg (fun q => q.elim (by omega) (fun r => r sz)))]
