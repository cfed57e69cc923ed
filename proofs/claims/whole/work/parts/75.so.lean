/-! ===== so ===== -/
def soK (σ : St) (r x : Int32) : St := stI (stI (stI (stI σ 0 43 r) 0 41 x) 0 42 ((stI (stI σ 0 43 r) 0 41 x).1 0 7)) 0 22 (-6)
theorem soK_z (σ : St) (r x : Int32) (j : Nat) (h1 : j ≠ 43) (h2 : j ≠ 41) (h3 : j ≠ 42) (h4 : j ≠ 22) : (soK σ r x).1 0 j = σ.1 0 j := by
  unfold soK
  rw [stI_ne (fun q => h4 q.2), stI_ne (fun q => h3 q.2), stI_ne (fun q => h2 q.2), stI_ne (fun q => h1 q.2)]
theorem soK_43 (σ : St) (r x : Int32) : (soK σ r x).1 0 43 = r := by
  unfold soK
  rw [stI_ne (by decide), stI_ne (by decide), stI_ne (by decide), stI_same]
theorem soK_41 (σ : St) (r x : Int32) : (soK σ r x).1 0 41 = x := by
  unfold soK
  rw [stI_ne (by decide), stI_ne (by decide), stI_same]
theorem soK_42 (σ : St) (r x : Int32) : (soK σ r x).1 0 42 = σ.1 0 7 := by
  unfold soK
  rw [stI_ne (by decide), stI_same, stI_ne (by decide), stI_ne (by decide)]
theorem soK_22 (σ : St) (r x : Int32) : (soK σ r x).1 0 22 = -6 := by
  unfold soK
  rw [stI_same]
theorem soK_ag (σ : St) (r x : Int32) : Ag (fun i => i ≠ 0) σ (soK σ r x) := ((((Ag.refl _ _).i_ (fun h => h rfl)).i_ (fun h => h rfl)).i_ (fun h => h rfl)).i_ (fun h => h rfl)
theorem CMa.so {HS : HSt} {WS : WSt} {SS : SSt} {k : Nat} {A : Ab} {σ : St} {s p : Nat} (hk : k ≤ 512) (h : CMa HS WS SS k A σ) (hs : s < aN A) (hp : p < 4) : CMa HS WS SS k A (soK σ (SS (aT A s) (aP A p) (aH A p)) (nI (4 * s + p))) := by
  obtain ⟨m1, m2, m3, m4, m5, mv, m6, m7, m8⟩ := h
  generalize hr : SS (aT A s) (aP A p) (aH A p) = r
  have ag := soK_ag σ r (nI (4 * s + p))
  have z := soK_z σ r (nI (4 * s + p))
  obtain ⟨⟨a, a1, a2, a3, a4⟩, b⟩ := mv
  have z7 := z 7 (by decide) (by decide) (by decide) (by decide)
  refine ⟨m1.ag (ag.mono (by omega)), m2.ag (ag.mono (by omega)), m3.ag (ag.mono (by omega)) (z 20 (by decide) (by decide) (by decide) (by decide)), m4.ag (ag.mono (by omega)), m5.ag (ag.mono (by omega)), ⟨⟨a, a1, by rw [z7]; exact a2, Or.inl (soK_22 _ _ _), Or.inr ⟨a, Nat.le_refl _, by rw [soK_42]; exact a2⟩⟩, by rw [z 8 (by decide) (by decide) (by decide) (by decide), z 40 (by decide) (by decide) (by decide) (by decide)]; exact b⟩, ?_, ?_, ?_⟩
  · intro q
    rw [soK_22, z7, a2] at q
    exact absurd q.symm (nI_n6 (by omega))
  · unfold CM7
    rw [z 40 (by decide) (by decide) (by decide) (by decide), z 8 (by decide) (by decide) (by decide) (by decide), z 39 (by decide) (by decide) (by decide) (by decide), z 37 (by decide) (by decide) (by decide) (by decide), (ag 18 (by decide)).1, (ag 19 (by decide)).1, (ag 7 (by decide)).1]
    exact m7
  · intro _
    exact ⟨s, p, hs, hp, soK_41 _ _ _, by rw [soK_43]; exact hr.symm⟩
theorem CXa.cso {HS : HSt} {WS : WSt} {OS : OSt} {k : Nat} {A : Ab} {σ σ' : St} (hV : VA A) (h : CXa HS WS OS k A σ) (ag : Ag (fun i => i ≠ 71 ∧ i ≠ 74 ∧ i ≠ 75) σ σ') : CXa HS WS OS k A σ' := by
  obtain ⟨x1, x2, x3, x4, x5, x6, x7, x8⟩ := h
  exact ⟨x1.ag (ag.mono (by omega)), x2.ag (ag.mono (by omega)), x3.ag hV.2.1 (ag.mono (by omega)), x4.ag (ag.mono (by omega)), x5.ag (ag.mono (by omega)), x6.ag (ag.mono (by omega)), x7.ag (ag.mono (by omega)), x8.ag (ag.mono (by omega))⟩
/-- the answer -/
def soA (b : Option Nat) (w : Int32) : Int32 := match b with
  | none => -5
  | some c => if w = 0 then nI c else nI (pop c)
theorem p_soA {b : Option Nat} (hb : ∀ c, b = some c → c < 4096) (w : Int32) (st : St) : (if (0 : Int32) ≤ oI b then (if w = (0 : Int32) then some (oI b, st) else (f_X9_ones (oI b)).bind fun r => some (r, st)) else some ((-5 : Int32), st)) = some (soA b w, st) := by
  cases b with
  | none => rw [if_neg (show ¬ ((0 : Int32) ≤ oI none) by decide)]; rfl
  | some c =>
    have h := hb c rfl
    rw [if_pos ((oI_m hb).2.1.mpr (fun q => by cases q)), show oI (some c) = nI c from rfl, p_ones h, Option.bind_some]
    show _ = some ((if w = 0 then nI c else nI (pop c)), st)
    by_cases d : w = 0
    · rw [if_pos d, if_pos d]
    · rw [if_neg d, if_neg d]
theorem p_soX {b : Option Nat} (hb : ∀ c, b = some c → c < 4096) (w : Int32) (st : St) : (if oI b = (-6 : Int32) then some ((-5 : Int32), st) else (if w = (0 : Int32) then some (oI b, st) else (f_J6_bitCount_0f7a4 (oI b)).bind fun r7 => some (r7, st))) = some (soA b w, st) := by
  cases b with
  | none => rw [if_pos (show oI none = (-6 : Int32) from rfl)]; rfl
  | some c =>
    have h := hb c rfl
    rw [show oI (some c) = nI c from rfl, if_neg (nI_n6 (by omega)), p_bitCount _ h, Option.bind_some]
    show _ = some ((if w = 0 then nI c else nI (pop c)), st)
    by_cases d : w = 0
    · rw [if_pos d, if_pos d]
    · rw [if_neg d, if_neg d]
section PRF
variable (HS : HSt) (WS : WSt) (OS : OSt)
theorem ok_so : Ok_so (Rel HS WS OS SSp) := by
  intro k σX σM a1 a2 a3 hk hR
  have hR0 := hR
  obtain ⟨A, hV, hX, hM⟩ := hR
  rcases rngY hV hX hM a1 with ⟨s, hs, rfl, sa, sb⟩ | ⟨sa, sb⟩
  rotate_left
  · exact ansE HS WS OS SSp hR0 (r := -1) (by unfold f_X8_so; rw [sa]; rfl) (by unfold f_X9_so; rw [sb]; rfl)
  rcases rngP a2 with ⟨p, hp, rfl, pa, pb⟩ | ⟨pa, pb⟩
  rotate_left
  · exact ansE HS WS OS SSp hR0 (r := -1) (by unfold f_X8_so; rw [sa, Option.bind_some, if_neg (by decide), pa]; rfl) (by unfold f_X9_so; rw [sb, Option.bind_some, if_neg (by decide), pb]; rfl)
  rcases rng a3 1 (by decide) with ⟨w, hw, rfl, wa, wb⟩ | ⟨_, wa, wb⟩
  rotate_left
  · exact ansE HS WS OS SSp hR0 (r := -2) (by unfold f_X8_so; rw [sa, Option.bind_some, if_neg (by decide), pa, Option.bind_some, if_neg (by decide), show (1 : Int32) = nI 1 from rfl, wa]; rfl) (by unfold f_X9_so; rw [sb, Option.bind_some, if_neg (by decide), pb, Option.bind_some, if_neg (by decide), show (1 : Int64) = lN 1 from rfl, wb]; rfl)
  have wa : f_X8_isWithin (nI w) (1 : Int32) = some 1 := wa
  have wb : f_X9_in (nI w).toInt64 0 (1 : Int64) = some 1 := wb
  have hP := (hV.1 p hp).1
  have hh := (hV.1 p hp).2
  have h6 := hV.2.1
  have hl := lod_lt hP (aH A p)
  have pc := pop_le (lod (aP A p) (aH A p))
  have ip : inb (nI p) 4 = true := inb_nI hp (by decide)
  have cp : (nI p).toNatClampNeg = p := nI_clamp (by omega)
  have eX : f_X8_so (nI s) (nI p) (nI w) σX = (if nI (pop (lod (aP A p) (aH A p))) ≤ (6 : Int32) then (f_X6_fewest (57 + 2 * s) (4 + 13 * p) σX).bind (un fun r6 s1 => (if r6 = (-6 : Int32) then some ((-5 : Int32), s1) else (if nI w = (0 : Int32) then some (r6, s1) else (f_J6_bitCount_0f7a4 r6).bind fun r7 => some (r7, s1)))) else some ((-3 : Int32), σX)) := by
    unfold f_X8_so
    rw [sa, Option.bind_some, if_neg (by decide), pa, Option.bind_some, if_neg (by decide), wa, Option.bind_some, if_neg (by decide), ip, chk_t, nm_, cp, p_loudX hP (hX.2.1 p hp).1 hh (hX.2.1 p hp).2.1, Option.bind_some, p_bitCount _ hl, Option.bind_some, in6 hV hs, chk_t, nm_, c6 hV hs]
  have key : (4 : Int32) * nI s + nI p = nI (4 * s + p) := by rw [L4, pk_mul, nI_add]
  have eM := p_loudM hp hP (hM.2.1 p hp).1 hh (hM.2.1 p hp).2.1
  by_cases c6' : pop (lod (aP A p) (aH A p)) ≤ 6
  rotate_left
  · have n6 : ¬ (nI (pop (lod (aP A p) (aH A p))) ≤ (6 : Int32)) := by rw [L6, le_nI (by omega) (by decide)]; exact c6'
    refine ansE HS WS OS SSp hR0 (r := -3) (by rw [eX, if_neg n6]) ?_
    unfold f_X9_so
    rw [sb, Option.bind_some, if_neg (by decide), pb, Option.bind_some, if_neg (by decide), wb, Option.bind_some, if_neg (by decide), eM, Option.bind_some, p_ones hl, Option.bind_some, if_neg n6]
  have n6 : nI (pop (lod (aP A p) (aH A p))) ≤ (6 : Int32) := by rw [L6, le_nI (by omega) (by decide)]; exact c6'
  obtain ⟨x1, x2, eX2, cX1, kX1, agX⟩ := p_fewest hV (by omega) hX.1 hX.2.1 hX.2.2.1 hs hp
  have hX2 : CXa HS WS OS k A x2 := (hX.kp hV cX1 kX1).cso hV agX
  have hb := bsn_lt (g := gdq (aT A s) (aP A p) (aH A p)) hl (2 ^ pop (lod (aP A p) (aH A p)))
  have hSS : SSp (aT A s) (aP A p) (aH A p) = oI (bsn (gdq (aT A s) (aP A p) (aH A p)) (lod (aP A p) (aH A p)) (2 ^ pop (lod (aP A p) (aH A p)))) := rfl
  have eX3 : f_X8_so (nI s) (nI p) (nI w) σX = some (soA (bsn (gdq (aT A s) (aP A p) (aH A p)) (lod (aP A p) (aH A p)) (2 ^ pop (lod (aP A p) (aH A p)))) (nI w), x2) := by
    rw [eX, if_pos n6, eX2, Option.bind_some, un_, hSS, p_soX hb]
  obtain ⟨m1, eB, cB, fB⟩ := p_best hV hM.2.1 hM.2.2.1 hs hp c6'
  have hM1 : CMa HS WS SSp k A (soK m1 (SSp (aT A s) (aP A p) (aH A p)) (nI (4 * s + p))) := (hM.fr cB fB).so (by omega) hs hp
  have new : ∀ r6 s6, r6 = SSp (aT A s) (aP A p) (aH A p) → s6 = m1 → (nm (stI s6 0 43 r6) fun s7 => nm (stI s7 0 41 (nI (4 * s + p))) fun s8 => nm (stI s8 0 42 (s8.1 0 7)) fun s9 => nm (stI s9 0 22 (-6 : Int32)) fun s10 => (if (0 : Int32) ≤ (s10.1 0 43) then (if nI w = (0 : Int32) then some ((s10.1 0 43), s10) else (f_X9_ones (s10.1 0 43)).bind fun r9 => some (r9, s10)) else some ((-5 : Int32), s10))) = some (soA (bsn (gdq (aT A s) (aP A p) (aH A p)) (lod (aP A p) (aH A p)) (2 ^ pop (lod (aP A p) (aH A p)))) (nI w), soK m1 (SSp (aT A s) (aP A p) (aH A p)) (nI (4 * s + p))) := by
    rintro r6 s6 rfl rfl
    show (if (0 : Int32) ≤ ((soK s6 (SSp (aT A s) (aP A p) (aH A p)) (nI (4 * s + p))).1 0 43) then (if nI w = (0 : Int32) then some (((soK s6 (SSp (aT A s) (aP A p) (aH A p)) (nI (4 * s + p))).1 0 43), (soK s6 (SSp (aT A s) (aP A p) (aH A p)) (nI (4 * s + p)))) else (f_X9_ones ((soK s6 (SSp (aT A s) (aP A p) (aH A p)) (nI (4 * s + p))).1 0 43)).bind fun r9 => some (r9, (soK s6 (SSp (aT A s) (aP A p) (aH A p)) (nI (4 * s + p))))) else some ((-5 : Int32), (soK s6 (SSp (aT A s) (aP A p) (aH A p)) (nI (4 * s + p))))) = _
    rw [soK_43]
    exact p_soA hb (nI w) _
  have pre : f_X9_so (nI s) (nI p) (nI w) σM = (if (σM.1 0 41) = nI (4 * s + p) then (if (σM.1 0 42) = (σM.1 0 7) then (if (0 : Int32) ≤ (σM.1 0 43) then (if nI w = (0 : Int32) then some ((σM.1 0 43), σM) else (f_X9_ones (σM.1 0 43)).bind fun r7 => some (r7, σM)) else some ((-5 : Int32), σM)) else some (soA (bsn (gdq (aT A s) (aP A p) (aH A p)) (lod (aP A p) (aH A p)) (2 ^ pop (lod (aP A p) (aH A p)))) (nI w), soK m1 (SSp (aT A s) (aP A p) (aH A p)) (nI (4 * s + p)))) else some (soA (bsn (gdq (aT A s) (aP A p) (aH A p)) (lod (aP A p) (aH A p)) (2 ^ pop (lod (aP A p) (aH A p)))) (nI w), soK m1 (SSp (aT A s) (aP A p) (aH A p)) (nI (4 * s + p)))) := by
    unfold f_X9_so
    rw [sb, Option.bind_some, if_neg (by decide), pb, Option.bind_some, if_neg (by decide), wb, Option.bind_some, if_neg (by decide), eM, Option.bind_some, p_ones hl, Option.bind_some, if_pos n6, nm_, key, eB, Option.bind_some, un_, new _ _ rfl rfl]
  by_cases c : σM.1 0 41 = nI (4 * s + p)
  · by_cases d : σM.1 0 42 = σM.1 0 7
    · obtain ⟨s', p', a1, a2, a3, a4⟩ := hM.2.2.2.2.2.2.2.2 d
      have e43 : σM.1 0 43 = SSp (aT A s) (aP A p) (aH A p) := by
        rw [a3, eq_nI (by omega) (by omega)] at c
        have h1 : s' = s := by omega
        have h2 : p' = p := by omega
        rw [a4, h1, h2]
      refine ⟨_, x2, σM, eX3, ?_, A, hV, hX2.mono (Nat.le_succ k), hM.mono (Nat.le_succ k)⟩
      rw [pre, if_pos c, if_pos d, e43, hSS]
      exact p_soA hb (nI w) _
    · exact ⟨_, x2, _, eX3, by rw [pre, if_pos c, if_neg d], A, hV, hX2.mono (Nat.le_succ k), hM1.mono (Nat.le_succ k)⟩
  · exact ⟨_, x2, _, eX3, by rw [pre, if_neg c], A, hV, hX2.mono (Nat.le_succ k), hM1.mono (Nat.le_succ k)⟩
end PRF
