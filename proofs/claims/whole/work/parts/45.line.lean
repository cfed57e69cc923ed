/-! ===== line, change, clear, silent ===== -/
theorem ip4 {p : Nat} (hp : p < 4) : inb (nI p) 4 = true := inb_nI hp (by decide)
theorem cp4 {p : Nat} (hp : p < 4) : (nI p).toNatClampNeg = p := nI_clamp (by omega)
theorem VA.prog {A : Ab} (hV : VA A) {p hu' : Nat} {P' : Pg} (hP : VP P') (hh : hu' < 4096) : VA (va_up (aP A) p P', va_up (aH A) p hu', aN A, aT A, aW A, aS A) := by
  obtain ⟨v1, v2⟩ := hV
  refine ⟨fun i hi => ?_, v2⟩
  show VP (va_up (aP A) p P' i) ∧ va_up (aH A) p hu' i < 4096
  by_cases e : i = p
  · subst e; simp only [va_up, if_true]; exact ⟨hP, hh⟩
  · simp only [va_up, if_neg e]; exact v1 i hi
theorem st_ext {a b : St} (h1 : ∀ k j, a.1 k j = b.1 k j) (h2 : a.2 = b.2) : a = b := Prod.ext (funext fun k => funext fun j => h1 k j) h2
theorem stI_comm {σ : St} {k j : Nat} {x : Int32} {k' j' : Nat} {y : Int32} (h : k ≠ k') : stI (stI σ k' j' y) k j x = stI (stI σ k j x) k' j' y := by
  refine st_ext (fun a b => ?_) rfl
  rw [stI_v, stI_v, stI_v, stI_v]
  by_cases h1 : a = k ∧ b = j
  · rw [if_pos h1, if_pos h1, if_neg (fun q => h (h1.1.symm.trans q.1))]
  · rw [if_neg h1, if_neg h1]
theorem layS_n (σ : St) (x : Nat) (L : Ln) {k j : Nat} (h : j ≠ x) : (layS σ x L).1 k j = σ.1 k j := by
  unfold layS
  rw [stI_ne (fun q => h q.2), stI_ne (fun q => h q.2), stI_ne (fun q => h q.2), stI_ne (fun q => h q.2)]
theorem layS_o (σ : St) (x : Nat) (L : Ln) {k j : Nat} (h : 4 < k ∨ k = 0) : (layS σ x L).1 k j = σ.1 k j := by
  unfold layS
  rw [stI_ne (fun q => by omega), stI_ne (fun q => by omega), stI_ne (fun q => by omega), stI_ne (fun q => by omega)]
theorem layS_in {σ : St} {p n i : Nat} {P : Pg} {L : Ln} (h : i ≠ n → σ.1 1 (12 * p + i) = nI (P.2 i).1 ∧ σ.1 2 (12 * p + i) = nI (P.2 i).2.1 ∧ σ.1 3 (12 * p + i) = nI (P.2 i).2.2.1 ∧ σ.1 4 (12 * p + i) = nI (P.2 i).2.2.2) : (layS σ (12 * p + n) L).1 1 (12 * p + i) = nI (va_up P.2 n L i).1 ∧ (layS σ (12 * p + n) L).1 2 (12 * p + i) = nI (va_up P.2 n L i).2.1 ∧ (layS σ (12 * p + n) L).1 3 (12 * p + i) = nI (va_up P.2 n L i).2.2.1 ∧ (layS σ (12 * p + n) L).1 4 (12 * p + i) = nI (va_up P.2 n L i).2.2.2 := by
  by_cases e : i = n
  · subst e
    simp only [va_up, if_true]
    unfold layS
    refine ⟨?_, ?_, ?_, ?_⟩
    · rw [stI_nk (by decide), stI_nk (by decide), stI_nk (by decide), stI_same]
    · rw [stI_nk (by decide), stI_nk (by decide), stI_same]
    · rw [stI_nk (by decide), stI_same]
    · rw [stI_same]
  · simp only [va_up, if_neg e]
    rw [layS_n _ _ _ (by omega), layS_n _ _ _ (by omega), layS_n _ _ _ (by omega), layS_n _ _ _ (by omega)]
    exact h e
section PR
variable (HS : HSt) (WS : WSt) (OS : OSt) (SS : SSt)
theorem ok_line : Ok_line (Rel HS WS OS SS) := by
  intro k σX σM a1 a2 a3 a4 a5 hk hR
  rcases rngP a1 with ⟨p, hp, rfl, pa, pb⟩ | ⟨pa, pb⟩
  rotate_left
  · exact ansE HS WS OS SS hR (r := -1) (by unfold f_X8_line; rw [pa]; rfl) (by unfold f_X9_line; rw [pb]; rfl)
  rcases act_dich a2 a3 a4 a5 with ⟨L, hL, rfl, rfl, rfl, rfl, aa, ab⟩ | ⟨aa, ab⟩
  rotate_left
  · exact ansE HS WS OS SS hR (r := -2) (by unfold f_X8_line; rw [pa, Option.bind_some, if_neg (by decide), aa]; rfl) (by unfold f_X9_line; rw [pb, Option.bind_some, if_neg (by decide), ab]; rfl)
  have hR0 := hR
  obtain ⟨A, hV, ⟨x1, x2, x3, x4, x5, x6, x7, x8⟩, hM⟩ := hR
  have hM0 := hM
  obtain ⟨m1, m2, m3, m4, m5, mv, m6, m7, m8⟩ := hM
  obtain ⟨q1, q2, q3⟩ := x2 p hp
  obtain ⟨r1, r2, r3, r4⟩ := m2 p hp
  have hVP := (hV.1 p hp).1
  have h12 := hVP.1
  by_cases hf : (aP A p).1 = 12
  · refine ansE HS WS OS SS hR0 (r := -4) ?_ ?_
    · unfold f_X8_line
      rw [pa, Option.bind_some, if_neg (by decide), aa, Option.bind_some, if_neg (by decide), ip4 hp, chk_t, nm_, cp4 hp, q1.1, hf]
      rfl
    · unfold f_X9_line
      rw [pb, Option.bind_some, if_neg (by decide), ab, Option.bind_some, if_neg (by decide), ip4 hp, chk_t, cp4 hp, r1.1, hf]
      rfl
  · have hn : (aP A p).1 < 12 := by omega
    have c1 : nI (aP A p).1 < (12 : Int32) := nI_lt hn (by decide)
    have c2 : ¬ (nI (aP A p).1 = (12 : Int32)) := by rw [L12, eq_nI (by omega) (by decide)]; omega
    have hVP' : VP ((aP A p).1 + 1, va_up (aP A p).2 (aP A p).1 L) := by
      refine ⟨by show (aP A p).1 + 1 ≤ 12; omega, fun i hi => ?_⟩
      have hi : i < (aP A p).1 + 1 := hi
      show VL (va_up (aP A p).2 (aP A p).1 L i)
      by_cases e : i = (aP A p).1
      · subst e; simp only [va_up, if_true]; exact hL
      · simp only [va_up, if_neg e]; exact hVP.2 i (by omega)
    refine ⟨nI (aP A p).1, fgt (putS (stI σX (4 + 13 * p) 5 (nI ((aP A p).1 + 1))) (4 + 13 * p) (aP A p).1 L), stI (othS (layS σM (12 * p + (aP A p).1) L) p) 5 p (nI ((aP A p).1 + 1)), ?_, ?_, (va_up (aP A) p ((aP A p).1 + 1, va_up (aP A p).2 (aP A p).1 L), va_up (aH A) p (aH A p), aN A, aT A, aW A, aS A), hV.prog hVP' (hV.1 p hp).2, ?_, ?_⟩
    · unfold f_X8_line
      rw [pa, Option.bind_some, if_neg (by decide), aa, Option.bind_some, if_neg (by decide), ip4 hp, chk_t, nm_, cp4 hp, q1.1, if_pos c1]
      simp only [nm_, nI_1, p_put hn L, Option.bind_some, p_forget]
    · unfold f_X9_line
      rw [pb, Option.bind_some, if_neg (by decide), ab, Option.bind_some, if_neg (by decide), ip4 hp, chk_t, cp4 hp, r1.1, if_neg c2, chk_t]
      have e1 : (12 : Int32) * nI p + nI (aP A p).1 = nI (12 * p + (aP A p).1) := by rw [L12, pk_mul, nI_add]
      have e2 : (othS (layS σM (12 * p + (aP A p).1) L) p).1 5 p = nI (aP A p).1 := by
        unfold othS layS
        rw [stI_nk (by decide), stI_nk (by decide), stI_nk (by decide), stI_nk (by decide), stI_nk (by decide), stI_nk (by decide), stI_nk (by decide)]; exact r1.1
      simp only [e1, p_layM (show 12 * p + (aP A p).1 < 48 by omega) L, Option.bind_some, p_isOther hp, chk_t, nm_, e2, nI_1, stI_same]
      rw [show (1 : Int32) = nI 1 from rfl, pk_sub (by omega), Nat.add_sub_cancel]
    · generalize hs : stI σX (4 + 13 * p) 5 (nI ((aP A p).1 + 1)) = s
      have ags : Ag (fun i => i < 4 + 13 * p ∨ 4 + 13 * p + 12 < i) σX (putS s (4 + 13 * p) (aP A p).1 L) := by
        rw [← hs]; exact Ag.trans ((Ag.refl _ _).i_ (by omega)) (putS_ag _ _ _ _)
      have sp : ∀ j, j ≠ 5 → s.1 (4 + 13 * p) j = σX.1 (4 + 13 * p) j := fun j hj => by rw [← hs, stI_ne (fun q => hj q.2)]
      have so : ∀ i, i ≠ 4 + 13 * p → s.1 i = σX.1 i := fun i hi => by rw [← hs, stI_nk hi]
      refine fgt_ok HS WS OS hV.2.1 (x1.ag (ags.mono (by omega))) (x2.one hp ags (CXp.bump hk ⟨q1, q2, q3⟩ (putS_PX (P := aP A p) (by rw [← hs, stI_same]) (fun j hj hne => by rw [so _ (by omega), so _ (by omega), so _ (by omega), so _ (by omega)]; exact q1.2 j (by omega))) (by rw [putS_pa _ _ _ _ _ (by decide), sp _ (by decide)]; exact q2) (by rw [putS_7, sp _ (by decide)]) (by rw [putS_5, so _ (by omega)])) _ rfl rfl) (x3.ag hV.2.1 (ags.mono (by omega))) (x4.ag (ags.mono (by omega))) (x5.ag (ags.mono (by omega)))
    · have ee : stI (othS (layS σM (12 * p + (aP A p).1) L) p) 5 p (nI ((aP A p).1 + 1)) = othS (stI (layS σM (12 * p + (aP A p).1) L) 5 p (nI ((aP A p).1 + 1))) p := by
        unfold othS
        have z7 : (stI (layS σM (12 * p + (aP A p).1) L) 5 p (nI ((aP A p).1 + 1))).1 0 7 = (layS σM (12 * p + (aP A p).1) L).1 0 7 := by rw [stI_nk (by decide)]
        have z8 : (stI (layS σM (12 * p + (aP A p).1) L) 5 p (nI ((aP A p).1 + 1))).1 0 8 = (layS σM (12 * p + (aP A p).1) L).1 0 8 := by rw [stI_nk (by decide)]
        rw [z7, z8, stI_comm (k := 5) (k' := 0) (by decide), stI_comm (k := 5) (k' := 0) (by decide), stI_comm (k := 5) (k' := 7) (by decide)]
      rw [ee]
      generalize hs : stI (layS σM (12 * p + (aP A p).1) L) 5 p (nI ((aP A p).1 + 1)) = s
      have lv : ∀ k' j', s.1 k' j' = if k' = 5 ∧ j' = p then nI ((aP A p).1 + 1) else (layS σM (12 * p + (aP A p).1) L).1 k' j' := fun k' j' => by rw [← hs, stI_v]
      have ags : Ag (fun i => 5 < i ∨ i = 0) σM s := by
        rw [← hs]; unfold layS; exact (((((Ag.refl _ _).i_ (by decide)).i_ (by decide)).i_ (by decide)).i_ (by decide)).i_ (by decide)
      refine oth_ok HS WS SS hk hp hM0 (ags.mono (by omega)) (ags 0 (Or.inr rfl)).1 (P' := ((aP A p).1 + 1, va_up (aP A p).2 (aP A p).1 L)) (hu' := aH A p) ?_ ?_ (by rw [(ags 6 (by omega)).1]; exact r2) rfl rfl ⟨rfl, rfl, rfl, rfl⟩
      · refine ⟨by rw [lv, if_pos ⟨rfl, rfl⟩], fun i hi => ?_⟩
        have hi : i < (aP A p).1 + 1 := hi
        rw [lv, lv, lv, lv, if_neg (by omega), if_neg (by omega), if_neg (by omega), if_neg (by omega)]
        exact layS_in (P := aP A p) (fun h => r1.2 i (by omega))
      · intro i hi hne
        refine ⟨⟨by rw [lv, if_neg (fun h => hne h.2), layS_o _ _ _ (by omega)]; exact (m2 i hi).1.1, fun j hj => ?_⟩, by rw [(ags 6 (by omega)).1]⟩
        have hj12 := (hV.1 i hi).1.1
        rw [lv, lv, lv, lv, if_neg (by omega), if_neg (by omega), if_neg (by omega), if_neg (by omega), layS_n _ _ _ (by omega), layS_n _ _ _ (by omega), layS_n _ _ _ (by omega), layS_n _ _ _ (by omega)]
        exact (m2 i hi).1.2 j hj
end PR
