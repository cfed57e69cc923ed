/-! ===== so: the class's choice ===== -/
theorem or_4096 {a b : Nat} (ha : a < 4096) (hb : b < 4096) : a ||| b < 4096 := Nat.or_lt_two_pow (n := 12) ha hb
theorem bup_none {g : Nat → Bool} {s : Nat} : bup g s none = if g s = true then some s else none := rfl
theorem bup_some {g : Nat → Bool} {s c : Nat} : bup g s (some c) = if pop s < pop c then (if g s = true then some s else some c) else some c := rfl
theorem p_fw54 {σ : St} {T : Tx} {P : Pg} {pa hu : Nat} {G : Nat → Nat} (hP : VP P) (hpa : pa + 12 < 57) (hX : PX σ pa P) (hh : hu < 4096) (h6 : σ.1 pa 6 = nI hu) (hG : Grp σ G) (hJ : JI T P G 65536) (ho : hasO T) (tr : ∀ y, y < 256 → TraceRow σ pa P hu y) : ∃ σ', wh FU (b_X6_fewest_54 pa (nI (lod P hu)) (nI (2 ^ pop (lod P hu)))) ((-6 : Int32), (0 : Int32), (0 : Int32), σ) = some (SSp T P hu, σ') ∧ Ag (fun k => k ≠ 75) σ σ' := by
  have hl := lod_lt hP hu
  have hpw : 2 ^ pop (lod P hu) ≤ 4096 := Nat.pow_le_pow_right (n := 2) (by decide) (pop_le _)
  generalize hN : 2 ^ pop (lod P hu) = N at *
  have key := wh_cnt (b := b_X6_fewest_54 pa (nI (lod P hu)) (nI N)) N (fun i z => ∃ st, z = (oI (bsn (gdq T P hu) (lod P hu) i), nI (sbs (lod P hu) i), nI i, st) ∧ Ag (fun k => k ≠ 75) σ st) (fun r => ∃ st, r = (SSp T P hu, st) ∧ Ag (fun k => k ≠ 75) σ st) ?_ ?_ FU 0 ((-6 : Int32), (0 : Int32), (0 : Int32), σ) (Nat.zero_le _) ⟨σ, rfl, Ag.refl _ _⟩ (by rw [FU_]; omega)
  · obtain ⟨r, e, st, rfl, ag⟩ := key
    exact ⟨st, e, ag⟩
  · rintro i z hi ⟨st, rfl, ag⟩
    left
    have hs := sbs_lt hl i
    have ev : st.1 pa 6 ||| nI (sbs (lod P hu) i) = nI (hu ||| sbs (lod P hu) i) := by rw [(ag pa (by omega)).1, h6, fa_or]
    obtain ⟨s4, e4, ag4⟩ := p_isAlike (σ := st) (u := hu ||| sbs (lod P hu) i) hP hpa (hX.ag (ag.mono (fun k hk => by omega))) (or_4096 hh hs) (hG.ag (ag 74 (by decide)).1) (fun y hy => (tr y hy).ag (ag.mono (fun k hk => by omega)))
    have eg : cb (∀ i_1, i_1 < 256 → shw P (hu ||| sbs (lod P hu) i) i_1 24 = shw P (hu ||| sbs (lod P hu) i) (G i_1) 24) = gdq T P hu (sbs (lod P hu) i) := by
      have := hJ.good hu (sbs (lod P hu) i)
      refine (cb_c ?_).symm
      rw [this]
      exact ⟨fun q => q ho, fun q _ => q⟩
    rw [eg] at e4
    have agn := ag.trans ag4
    have en := p_nxs hl hs
    have bs : bsn (gdq T P hu) (lod P hu) (i + 1) = bup (gdq T P hu) (sbs (lod P hu) i) (bsn (gdq T P hu) (lod P hu) i) := rfl
    have hb := bsn_lt (g := gdq T P hu) hl i
    have ss : sbs (lod P hu) (i + 1) = nxs (lod P hu) (sbs (lod P hu) i) := rfl
    unfold b_X6_fewest_54
    rw [un_, un_, un_, if_neg (nI_ge hi (by omega)), ev, e4, Option.bind_some, un_, nI_1, en, ← ss]
    simp only [nm_]
    cases c : bsn (gdq T P hu) (lod P hu) i with
    | none =>
      rw [c, bup_none] at bs
      rw [if_pos (show oI none = (-6 : Int32) from rfl)]
      cases d : gdq T P hu (sbs (lod P hu) i)
      · rw [d, if_neg (by decide)] at bs
        rw [if_pos (by decide)]
        exact ⟨_, rfl, s4, by rw [bs], agn⟩
      · rw [d, if_pos rfl] at bs
        rw [if_neg (by decide)]
        exact ⟨_, rfl, s4, by rw [bs]; rfl, agn⟩
    | some v =>
      rw [c, bup_some] at bs
      have hv := hb v c
      have p1 := pop_le (sbs (lod P hu) i)
      have p2 := pop_le v
      rw [show oI (some v) = nI v from rfl, if_neg (nI_n6 (by omega)), p_bitCount _ hs, Option.bind_some, p_bitCount _ hv, Option.bind_some]
      by_cases l : pop (sbs (lod P hu) i) < pop v
      · rw [if_pos l] at bs
        rw [if_neg (by rw [le_nI (by omega) (by omega)]; omega)]
        cases d : gdq T P hu (sbs (lod P hu) i)
        · rw [d, if_neg (by decide)] at bs
          rw [if_pos (by decide)]
          exact ⟨_, rfl, s4, by rw [bs]; rfl, agn⟩
        · rw [d, if_pos rfl] at bs
          rw [if_neg (by decide)]
          exact ⟨_, rfl, s4, by rw [bs]; rfl, agn⟩
      · rw [if_neg l] at bs
        rw [if_pos (by rw [le_nI (by omega) (by omega)]; omega)]
        exact ⟨_, rfl, st, by rw [bs]; rfl, ag⟩
  · rintro z ⟨st, rfl, ag⟩
    refine ⟨_, by unfold b_X6_fewest_54; rw [un_, un_, un_, if_pos (Int32.le_refl _)], st, ?_, ag⟩
    unfold SSp
    rw [hN]
theorem p_fewest {k : Nat} {A : Ab} {σ : St} {s p : Nat} (hV : VA A) (hk : k ≤ 512) (h1 : CX1 σ) (h2 : CX2 k A σ) (h3 : CX3 A σ) (hs : s < aN A) (hp : p < 4) : ∃ σ1 σ', f_X6_fewest (57 + 2 * s) (4 + 13 * p) σ = some (SSp (aT A s) (aP A p) (aH A p), σ') ∧ CX2 k A σ1 ∧ Kp A σ σ1 ∧ Ag (fun k => k ≠ 71 ∧ k ≠ 74 ∧ k ≠ 75) σ1 σ' := by
  have hP := (hV.1 p hp).1
  have hh := (hV.1 p hp).2
  have h6 := hV.2.1
  have hok := hV.2.2.2.1 s hs
  obtain ⟨hT, hc⟩ := hV.2.2.1 s (Or.inl hs)
  obtain ⟨x1, eX1, cX1, tX1, kX1⟩ := h2.all hV hk h1 hp
  have hS : CXs x1 (57 + 2 * s) (aT A s) := (h3.s hs).ag (kX1.1.mono (by omega))
  obtain ⟨r, x2, e2, ag2, q2⟩ := p_joinAll (P := aP A p) (hu := aH A p) hP (show 57 ≤ 57 + 2 * s ∧ 57 + 2 * s ≤ 67 by omega) (show 4 + 13 * p + 12 < 57 by omega) hok hT hc (h1.kp kX1) hS tX1
  have pc := pop_le (lod (aP A p) (aH A p))
  have ag3 : Ag (fun k => k ≠ 71 ∧ k ≠ 74 ∧ k ≠ 75) x1 x2 := ag2.mono (fun k q => ⟨q.1, q.2.1⟩)
  unfold f_X6_fewest
  rw [p_loudX hP (h2 p hp).1 hh (h2 p hp).2.1, Option.bind_some, p_bitCount _ (lod_lt hP _), Option.bind_some, nm_, sh1 _ (by omega), eX1, Option.bind_some, e2, Option.bind_some, un_]
  rcases q2 with ⟨rfl, G, g1, j1⟩ | ⟨rfl, x, hx, y, hy, m1, n1⟩
  · rw [if_neg (by decide), (ag2 (57 + 2 * s) (by omega)).2, hS.2.2, show (1125899906842623 : Int64) = lN (2 ^ 50 - 1) from rfl, fb_andL, Nat.and_comm]
    have l0 := lg00 (n := (2 ^ 50 - 1) &&& alkT (aT A s) (aT A s).1) (Nat.lt_of_le_of_lt Nat.and_le_left (by decide))
    by_cases c : hasO (aT A s)
    · rw [if_neg (by rw [l0, noO]; exact fun q => q c)]
      obtain ⟨x3, e3, ag4⟩ := p_fw54 (σ := x2) (T := aT A s) (G := G) hP (show 4 + 13 * p + 12 < 57 by omega) ((cX1 p hp).1.ag (ag2.mono (by omega))) hh (by rw [(ag2 (4 + 13 * p) (by omega)).1]; exact (cX1 p hp).2.1) g1 j1 c (fun y hy => (tX1 y hy).ag (ag2.mono (by omega)))
      rw [e3, Option.bind_some, un_]
      exact ⟨x1, x3, rfl, cX1, kX1, ag3.trans (ag4.mono (fun k q => q.2.2))⟩
    · rw [if_pos (by rw [l0, noO]; exact c)]
      refine ⟨x1, x2, ?_, cX1, kX1, ag3⟩
      have g0 : gdq (aT A s) (aP A p) (aH A p) 0 = true := (j1.good _ _).mpr (fun q => absurd q c)
      have hpw : 0 < 2 ^ pop (lod (aP A p) (aH A p)) := Nat.two_pow_pos _
      unfold SSp
      rw [show 2 ^ pop (lod (aP A p) (aH A p)) = (2 ^ pop (lod (aP A p) (aH A p)) - 1) + 1 by omega, bsn_zero g0]
      rfl
  · rw [if_pos rfl]
    refine ⟨x1, x2, ?_, cX1, kX1, ag3⟩
    unfold SSp
    rw [bsn_none (fun u => ?_)]
    · rfl
    · unfold gdq
      refine cb_f.mpr (fun q => n1 ?_)
      exact (AsP_ns.mp (cb_t.mp (q x hx y hy m1))).1
