/-! ===== pair ===== -/
theorem rngY {HS : HSt} {WS : WSt} {OS : OSt} {SS : SSt} {k : Nat} {A : Ab} {σX σM : St} (hV : VA A) (hX : CXa HS WS OS k A σX) (hM : CMa HS WS SS k A σM) (x : Int32) : (∃ j, j < aN A ∧ x = nI j ∧ f_X8_isSaying x σX = some 1 ∧ f_X9_isSaying x σM = some 1) ∨ (f_X8_isSaying x σX = some 0 ∧ f_X9_isSaying x σM = some 0) := by
  have h6 := hV.2.1
  have e1 : σX.1 87 2 = nI (aN A) := hX.2.2.1.1
  have e2 : σM.1 0 20 = nI (aN A) := hM.2.2.1.1
  unfold f_X8_isSaying f_X9_isSaying
  rw [e1, e2]
  rcases rngG x (aN A) (by omega) with ⟨j, hj, e, _, _, a, b⟩ | ⟨_, a, b⟩
  · left
    exact ⟨j, hj, e, by rw [b]; rfl, by rw [a]; rfl⟩
  · right
    exact ⟨by rw [b]; rfl, by rw [a]; rfl⟩
theorem in6 {A : Ab} (hV : VA A) {s : Nat} (hs : s < aN A) : inb (nI s) 6 = true := inb_nI (by have := hV.2.1; omega) (by decide)
theorem c6 {A : Ab} (hV : VA A) {s : Nat} (hs : s < aN A) : (nI s).toNatClampNeg = s := nI_clamp (by have := hV.2.1; omega)
theorem CX3.s {A : Ab} {σ : St} (h : CX3 A σ) {s : Nat} (hs : s < aN A) : CXs σ (57 + 2 * s) (aT A s) := ⟨h.2.1 s (Or.inl hs), (h.2.2 s hs).1, (h.2.2 s hs).2⟩
/-- cells 71 and 72 apart -/
theorem CXa.c71 {HS : HSt} {WS : WSt} {OS : OSt} {k : Nat} {A : Ab} {σ σ' : St} (hV : VA A) (h : CXa HS WS OS k A σ) (ag : Ag (fun i => i ≠ 71) σ σ') : CXa HS WS OS k A σ' := by
  obtain ⟨x1, x2, x3, x4, x5, x6, x7, x8⟩ := h
  exact ⟨x1.ag (ag.mono (by omega)), x2.ag (ag.mono (by omega)), x3.ag hV.2.1 (ag.mono (by omega)), x4.ag (ag.mono (by omega)), x5.ag (ag.mono (by omega)), x6.ag (ag.mono (by omega)), x7.ag (ag.mono (by omega)), x8.ag (ag.mono (by omega))⟩
section PRA
variable (HS : HSt) (WS : WSt) (OS : OSt) (SS : SSt)
theorem ok_pair : Ok_pair (Rel HS WS OS SS) := by
  intro k σX σM a1 a2 a3 a4 a5 a6 hk hR
  have hR0 := hR
  obtain ⟨A, hV, hX, hM⟩ := hR
  rcases rngY hV hX hM a1 with ⟨s, hs, rfl, sa, sb⟩ | ⟨sa, sb⟩
  rotate_left
  · exact ansE HS WS OS SS hR0 (r := -1) (by unfold f_X8_pair; rw [sa]; rfl) (by unfold f_X9_pair; rw [sb]; rfl)
  rcases rngP a2 with ⟨p, hp, rfl, pa, pb⟩ | ⟨pa, pb⟩
  rotate_left
  · exact ansE HS WS OS SS hR0 (r := -1) (by unfold f_X8_pair; rw [sa, Option.bind_some, if_neg (by decide), pa]; rfl) (by unfold f_X9_pair; rw [sb, Option.bind_some, if_neg (by decide), pb]; rfl)
  rcases rngP a4 with ⟨q, hq, rfl, qa, qb⟩ | ⟨qa, qb⟩
  rotate_left
  · exact ansE HS WS OS SS hR0 (r := -1) (by unfold f_X8_pair; rw [sa, Option.bind_some, if_neg (by decide), pa, Option.bind_some, if_neg (by decide), qa]; rfl) (by unfold f_X9_pair; rw [sb, Option.bind_some, if_neg (by decide), pb, Option.bind_some, if_neg (by decide), qb]; rfl)
  rcases rngS a3 with ⟨x, hx, rfl, xa, xb⟩ | ⟨xa, xb⟩
  rotate_left
  · exact ansE HS WS OS SS hR0 (r := -2) (by unfold f_X8_pair; rw [sa, Option.bind_some, if_neg (by decide), pa, Option.bind_some, if_neg (by decide), qa, Option.bind_some, if_neg (by decide), xa]; rfl) (by unfold f_X9_pair; rw [sb, Option.bind_some, if_neg (by decide), pb, Option.bind_some, if_neg (by decide), qb, Option.bind_some, if_neg (by decide), xb]; rfl)
  rcases rngS a5 with ⟨y, hy, rfl, ya, yb⟩ | ⟨ya, yb⟩
  rotate_left
  · exact ansE HS WS OS SS hR0 (r := -2) (by unfold f_X8_pair; rw [sa, Option.bind_some, if_neg (by decide), pa, Option.bind_some, if_neg (by decide), qa, Option.bind_some, if_neg (by decide), xa, Option.bind_some, if_neg (by decide), ya]; rfl) (by unfold f_X9_pair; rw [sb, Option.bind_some, if_neg (by decide), pb, Option.bind_some, if_neg (by decide), qb, Option.bind_some, if_neg (by decide), xb, Option.bind_some, if_neg (by decide), yb]; rfl)
  rcases rng a6 1 (by decide) with ⟨w, hw, rfl, wa, wb⟩ | ⟨_, wa, wb⟩
  rotate_left
  · exact ansE HS WS OS SS hR0 (r := -2) (by unfold f_X8_pair; rw [sa, Option.bind_some, if_neg (by decide), pa, Option.bind_some, if_neg (by decide), qa, Option.bind_some, if_neg (by decide), xa, Option.bind_some, if_neg (by decide), ya, Option.bind_some, if_neg (by decide), show (1 : Int32) = nI 1 from rfl, wa]; rfl) (by unfold f_X9_pair; rw [sb, Option.bind_some, if_neg (by decide), pb, Option.bind_some, if_neg (by decide), qb, Option.bind_some, if_neg (by decide), xb, Option.bind_some, if_neg (by decide), yb, Option.bind_some, if_neg (by decide), show (1 : Int64) = lN 1 from rfl, wb]; rfl)
  have wa : f_X8_isWithin (nI w) (1 : Int32) = some 1 := wa
  have wb : f_X9_in (nI w).toInt64 0 (1 : Int64) = some 1 := wb
  have hP := (hV.1 p hp).1
  have hQ := (hV.1 q hq).1
  have h6 := hV.2.1
  have hok := hV.2.2.2.1 s hs
  obtain ⟨hT, hc⟩ := hV.2.2.1 s (Or.inl hs)
  obtain ⟨x1, eX1, cX1, tX1, kX1⟩ := hX.2.1.tr (m := x) hV (by omega) hX.1 hp hx
  obtain ⟨x2, eX2, cX2, tX2, kX2⟩ := cX1.tr (m := y) hV (by omega) (hX.1.kp kX1) hq hy
  have hX2 := hX.kp hV cX2 (kX1.trans kX2)
  obtain ⟨x3, eX3, ak, ag3⟩ := p_ask (sa := 57 + 2 * s) (pa := 4 + 13 * p) (by omega) (by omega) hok hT hc (hX2.2.2.1.s hs) hx (kX2.2 p x hp hx tX1)
  have hX3 := hX2.c71 hV ag3
  have eX4 := p_meantX hy hX3.1 ak
  have eX5 := p_brokenX' (qa := 4 + 13 * q) hP hQ hx hy (tX2.ag (ag3.mono (by omega))) ak
  have hMt := hM.2.2.1.2 s (Or.inl hs)
  have em := p_meantM (by omega) hok hT hc hMt hx hy
  obtain ⟨s1, e1, c1, t1, f1⟩ := hM.2.1.run (m := x) (a := 0) hV hp (by decide) hx
  obtain ⟨s2, e2, c2, t2, f2⟩ := c1.run (m := y) (a := 1) hV hq (by decide) hy
  have e1 : f_X9_runOne (nI p) (nI x) (0 : Int32) σM = some s1 := e1
  have e2 : f_X9_runOne (nI q) (nI y) (1 : Int32) s1 = some s2 := e2
  have hM2 := hM.fr c2 ((f1.mono SQ_SR).trans (f2.mono SQ_SR))
  have e3 := p_asSaid (a := 0) (b := 1) (by omega) hok hT hc (hM2.2.2.1.2 s (Or.inl hs)) hP hQ hx hy (by decide) (by decide) (t1.fr f2 (by decide)) t2
  have e3 : f_X9_isAsSaid (nI s) (0 : Int32) (1 : Int32) s2 = some (bI (asq (aT A s) (aP A p) (aH A p) x (aP A q) (aH A q) y)) := e3
  have HX : f_X8_pair (nI s) (nI p) (nI x) (nI q) (nI y) (nI w) σX = some ((if bI (mtq (aT A s) x y) = 0 then 0 else if nI w = 0 then 1 else bI (!asq (aT A s) (aP A p) (aH A p) x (aP A q) (aH A q) y)), x3) := by
    unfold f_X8_pair
    rw [sa, Option.bind_some, if_neg (by decide), pa, Option.bind_some, if_neg (by decide), qa, Option.bind_some, if_neg (by decide), xa, Option.bind_some, if_neg (by decide), ya, Option.bind_some, if_neg (by decide), wa, Option.bind_some, if_neg (by decide), ip4 hp, chk_t, nm_, cp4 hp, eX1, Option.bind_some, ip4 hq, chk_t, nm_, cp4 hq, eX2, Option.bind_some, in6 hV hs, chk_t, nm_, c6 hV hs, chk_t, nm_, eX3, Option.bind_some, eX4, Option.bind_some, chk_t, nm_, eX5, Option.bind_some]
    by_cases c : bI (mtq (aT A s) x y) = 0
    · rw [if_pos c, if_pos c]
    · rw [if_neg c, if_neg c]
      by_cases d : nI w = 0
      · rw [if_pos d, if_pos d]
      · rw [if_neg d, if_neg d]
        cases asq (aT A s) (aP A p) (aH A p) x (aP A q) (aH A q) y
        · rfl
        · rfl
  by_cases c : bI (mtq (aT A s) x y) = 0
  · refine ⟨0, x3, σM, by rw [HX, if_pos c], ?_, A, hV, hX3.mono (Nat.le_succ k), hM.mono (Nat.le_succ k)⟩
    unfold f_X9_pair
    rw [sb, Option.bind_some, if_neg (by decide), pb, Option.bind_some, if_neg (by decide), qb, Option.bind_some, if_neg (by decide), xb, Option.bind_some, if_neg (by decide), yb, Option.bind_some, if_neg (by decide), wb, Option.bind_some, if_neg (by decide), em, Option.bind_some, if_pos c, if_pos c]
    split <;> rfl
  · by_cases d : nI w = 0
    · refine ⟨1, x3, σM, by rw [HX, if_neg c, if_pos d], ?_, A, hV, hX3.mono (Nat.le_succ k), hM.mono (Nat.le_succ k)⟩
      unfold f_X9_pair
      rw [sb, Option.bind_some, if_neg (by decide), pb, Option.bind_some, if_neg (by decide), qb, Option.bind_some, if_neg (by decide), xb, Option.bind_some, if_neg (by decide), yb, Option.bind_some, if_neg (by decide), wb, Option.bind_some, if_neg (by decide), em, Option.bind_some, if_pos d, if_neg c]
    · refine ⟨_, x3, s2, by rw [HX, if_neg c, if_neg d], ?_, A, hV, hX3.mono (Nat.le_succ k), hM2.mono (Nat.le_succ k)⟩
      unfold f_X9_pair
      rw [sb, Option.bind_some, if_neg (by decide), pb, Option.bind_some, if_neg (by decide), qb, Option.bind_some, if_neg (by decide), xb, Option.bind_some, if_neg (by decide), yb, Option.bind_some, if_neg (by decide), wb, Option.bind_some, if_neg (by decide), em, Option.bind_some, if_neg d, if_neg c, e1, Option.bind_some, e2, Option.bind_some, e3, Option.bind_some]
      cases asq (aT A s) (aP A p) (aH A p) x (aP A q) (aH A q) y
      · rfl
      · rfl
end PRA
