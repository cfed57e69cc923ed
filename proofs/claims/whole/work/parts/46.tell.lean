/-! ===== change, clear, silent, wait ===== -/
theorem in_iff (v lo hi : Int64) : f_X9_in v lo hi = some (if lo.toInt ≤ v.toInt ∧ v.toInt ≤ hi.toInt then 1 else 0) := by
  unfold f_X9_in
  by_cases c1 : lg_cmp v lo < (0 : Int32)
  · rw [if_pos c1]
    rw [lg_cmp_lt, Int64.lt_iff_toInt_lt] at c1
    rw [if_neg (by omega)]
  · rw [if_neg c1]
    rw [lg_cmp_lt, Int64.lt_iff_toInt_lt] at c1
    by_cases c2 : (0 : Int32) < lg_cmp v hi
    · rw [if_pos c2]
      rw [lg_cmp_gt, Int64.lt_iff_toInt_lt] at c2
      rw [if_neg (by omega)]
    · rw [if_neg c2]
      rw [lg_cmp_gt, Int64.lt_iff_toInt_lt] at c2
      rw [if_pos (by omega)]
theorem within_iff (x t : Int32) : f_X8_isWithin x t = some (if 0 ≤ x.toInt ∧ x.toInt ≤ t.toInt then 1 else 0) := by
  unfold f_X8_isWithin
  have h0 : (0 : Int32).toInt = 0 := rfl
  by_cases c1 : x < (0 : Int32)
  · rw [if_pos c1]
    rw [Int32.lt_iff_toInt_lt, h0] at c1
    rw [if_neg (by omega)]
  · rw [if_neg c1]
    rw [Int32.lt_iff_toInt_lt, h0] at c1
    by_cases c2 : t < x
    · rw [if_pos c2]
      rw [Int32.lt_iff_toInt_lt] at c2
      rw [if_neg (by omega)]
    · rw [if_neg c2]
      rw [Int32.lt_iff_toInt_lt] at c2
      rw [if_pos (by omega)]
theorem pred_toInt {n : Nat} (hn : n < 2 ^ 30) : (nI n - 1).toInt = (n : Int) - 1 := by
  rcases n with _ | n
  · rfl
  · rw [show (1 : Int32) = nI 1 from rfl, pk_sub (by omega), Nat.add_sub_cancel, nI_toInt (by omega)]; omega
theorem rngG (x : Int32) (n : Nat) (hn : n < 2 ^ 30) : (∃ j, j < n ∧ x = nI j ∧ ¬ x < (0 : Int32) ∧ x < nI n ∧ f_X9_in x.toInt64 0 (nI n - 1).toInt64 = some 1 ∧ f_X8_isWithin x (nI n - 1) = some 1) ∨ ((x < (0 : Int32) ∨ (¬ x < (0 : Int32) ∧ ¬ x < nI n)) ∧ f_X9_in x.toInt64 0 (nI n - 1).toInt64 = some 0 ∧ f_X8_isWithin x (nI n - 1) = some 0) := by
  have h0 : (0 : Int32).toInt = 0 := rfl
  have h0' : (0 : Int64).toInt = 0 := rfl
  have hp := pred_toInt hn
  have hp' : (nI n - 1).toInt64.toInt = (n : Int) - 1 := by rw [Int32.toInt_toInt64, hp]
  have hx : x.toInt64.toInt = x.toInt := Int32.toInt_toInt64 x
  have hni : (nI n).toInt = (n : Int) := nI_toInt (by omega)
  rw [in_iff, within_iff, Int32.lt_iff_toInt_lt, Int32.lt_iff_toInt_lt, h0, h0', hx, hp', hp, hni]
  by_cases c : 0 ≤ x.toInt ∧ x.toInt ≤ (n : Int) - 1
  · left
    rw [if_pos c]
    refine ⟨x.toInt.toNat, by omega, ?_, by omega, by omega, rfl, rfl⟩
    apply Int32.toInt_inj.mp
    rw [nI_toInt (by omega)]; omega
  · right
    rw [if_neg c]
    exact ⟨by omega, rfl, rfl⟩
section PR2
variable (HS : HSt) (WS : WSt) (OS : OSt) (SS : SSt)
theorem ok_change : Ok_change (Rel HS WS OS SS) := by
  intro k σX σM a1 a0 a2 a3 a4 a5 hk hR
  rcases rngP a1 with ⟨p, hp, rfl, pa, pb⟩ | ⟨pa, pb⟩
  rotate_left
  · exact ansE HS WS OS SS hR (r := -1) (by unfold f_X8_change; rw [pa]; rfl) (by unfold f_X9_change; rw [pb]; rfl)
  have hR0 := hR
  obtain ⟨A, hV, ⟨x1, x2, x3, x4, x5, x6, x7, x8⟩, hM⟩ := hR
  have hM0 := hM
  obtain ⟨m1, m2, m3, m4, m5, mv, m6, m7, m8⟩ := hM
  obtain ⟨q1, q2, q3⟩ := x2 p hp
  obtain ⟨r1, r2, r3, r4⟩ := m2 p hp
  have hVP := (hV.1 p hp).1
  have h12 := hVP.1
  rcases rngG a0 (aP A p).1 (by omega) with ⟨i, hi, rfl, n0, n1, ib, _⟩ | ⟨hb, ib, _⟩
  rotate_left
  · refine ansE HS WS OS SS hR0 (r := -1) ?_ ?_
    · unfold f_X8_change
      rw [pa, Option.bind_some, if_neg (by decide)]
      rcases hb with hb | ⟨hb, hc⟩
      · rw [if_pos hb]
      · rw [if_neg hb, ip4 hp, chk_t, nm_, cp4 hp, q1.1, if_neg hc]
    · unfold f_X9_change
      rw [pb, Option.bind_some, if_neg (by decide), ip4 hp, chk_t, cp4 hp, r1.1, ib]; rfl
  rcases act_dich a2 a3 a4 a5 with ⟨L, hL, rfl, rfl, rfl, rfl, aa, ab⟩ | ⟨aa, ab⟩
  rotate_left
  · exact ansE HS WS OS SS hR0 (r := -2) (by unfold f_X8_change; rw [pa, Option.bind_some, if_neg (by decide), if_neg n0, ip4 hp, chk_t, nm_, cp4 hp, q1.1, if_pos n1, aa]; rfl) (by unfold f_X9_change; rw [pb, Option.bind_some, if_neg (by decide), ip4 hp, chk_t, cp4 hp, r1.1, ib, Option.bind_some, if_neg (by decide), ab]; rfl)
  have hVP' : VP ((aP A p).1, va_up (aP A p).2 i L) := by
    refine ⟨h12, fun j hj => ?_⟩
    show VL (va_up (aP A p).2 i L j)
    by_cases e : j = i
    · subst e; simp only [va_up, if_true]; exact hL
    · simp only [va_up, if_neg e]; exact hVP.2 j hj
  refine ⟨nI ((aP A p).2 i).1, fgt (putS σX (4 + 13 * p) i L), othS (layS σM (12 * p + i) L) p, ?_, ?_, (va_up (aP A) p ((aP A p).1, va_up (aP A p).2 i L), va_up (aH A) p (aH A p), aN A, aT A, aW A, aS A), hV.prog hVP' (hV.1 p hp).2, ?_, ?_⟩
  · unfold f_X8_change
    rw [pa, Option.bind_some, if_neg (by decide), if_neg n0, ip4 hp, chk_t, nm_, cp4 hp, q1.1, if_pos n1, aa, Option.bind_some, if_neg (by decide), chk_t, nm_, inb_nI (show i < 12 by omega) (by decide), chk_t, nm_, nI_clamp (show i < 2 ^ 31 by omega), (q1.2 i hi).1, p_put (by omega) L, Option.bind_some, p_forget, Option.bind_some]
  · unfold f_X9_change
    have e1 : (12 : Int32) * nI p + nI i = nI (12 * p + i) := by rw [L12, pk_mul, nI_add]
    rw [pb, Option.bind_some, if_neg (by decide), ip4 hp, chk_t, cp4 hp, r1.1, ib, Option.bind_some, if_neg (by decide), ab, Option.bind_some, if_neg (by decide), e1, inb_nI (show 12 * p + i < 48 by omega) (by decide), chk_t, nm_, nI_clamp (show 12 * p + i < 2 ^ 31 by omega), (r1.2 i hi).1, p_layM (show 12 * p + i < 48 by omega) L, Option.bind_some, p_isOther hp, Option.bind_some]
  · have ags := putS_ag σX (4 + 13 * p) i L
    exact fgt_ok HS WS OS hV.2.1 (x1.ag (ags.mono (by omega))) (x2.one hp ags (CXp.bump hk ⟨q1, q2, q3⟩ (putS_PX (P := aP A p) q1.1 (fun j hj hne => q1.2 j hj)) (by rw [putS_pa _ _ _ _ _ (by decide)]; exact q2) (putS_7 _ _ _ _) (putS_5 _ _ _ _)) _ rfl rfl) (x3.ag hV.2.1 (ags.mono (by omega))) (x4.ag (ags.mono (by omega))) (x5.ag (ags.mono (by omega)))
  · have ags : Ag (fun i => 5 ≤ i ∨ i = 0) σM (layS σM (12 * p + i) L) := by
      unfold layS; exact ((((Ag.refl _ _).i_ (by decide)).i_ (by decide)).i_ (by decide)).i_ (by decide)
    refine oth_ok HS WS SS hk hp hM0 (ags.mono (by omega)) (ags 0 (Or.inr rfl)).1 (P' := ((aP A p).1, va_up (aP A p).2 i L)) (hu' := aH A p) ?_ ?_ (by rw [(ags 6 (by omega)).1]; exact r2) rfl rfl ⟨rfl, rfl, rfl, rfl⟩
    · exact ⟨by rw [(ags 5 (by omega)).1]; exact r1.1, fun j hj => layS_in (P := aP A p) (fun _ => r1.2 j hj)⟩
    · intro j hj hne
      refine ⟨⟨by rw [(ags 5 (by omega)).1]; exact (m2 j hj).1.1, fun l hl => ?_⟩, by rw [(ags 6 (by omega)).1]⟩
      have hj12 := (hV.1 j hj).1.1
      rw [layS_n _ _ _ (by omega), layS_n _ _ _ (by omega), layS_n _ _ _ (by omega), layS_n _ _ _ (by omega)]
      exact (m2 j hj).1.2 l hl
def hushS (σ : St) (pa : Nat) (x : Int32) : St := stI (stI σ pa 6 x) pa 7 (σ.1 pa 7 + 1)
theorem p_hush (σ : St) (pa : Nat) (x : Int32) : f_X4_hush pa x σ = some (hushS σ pa x) := by
  unfold f_X4_hush hushS; simp only [nm_, stI_ne (σ := σ) (show ¬ (pa = pa ∧ 7 = 6) by simp)]
theorem hushS_nk (σ : St) (pa : Nat) (x : Int32) {i : Nat} (h : i ≠ pa) : (hushS σ pa x).1 i = σ.1 i := by unfold hushS; rw [stI_nk h, stI_nk h]
theorem hushS_v (σ : St) (pa : Nat) (x : Int32) : (hushS σ pa x).1 pa 5 = σ.1 pa 5 ∧ (hushS σ pa x).1 pa 6 = x ∧ (hushS σ pa x).1 pa 7 = σ.1 pa 7 + 1 := by
  unfold hushS
  refine ⟨by rw [stI_ne (by simp), stI_ne (by simp)], by rw [stI_ne (by simp), stI_same], by rw [stI_same]⟩
theorem hushS_ag (σ : St) (pa : Nat) (x : Int32) : Ag (fun i => i ≠ pa) σ (hushS σ pa x) := ((Ag.refl _ _).i_ (fun h => h rfl)).i_ (fun h => h rfl)
theorem hushS_PX {σ : St} {pa : Nat} {x : Int32} {P : Pg} (h : PX σ pa P) : PX (hushS σ pa x) pa P := by
  unfold PX
  rw [(hushS_v σ pa x).1, hushS_nk _ _ _ (by omega), hushS_nk _ _ _ (by omega), hushS_nk _ _ _ (by omega), hushS_nk _ _ _ (by omega)]; exact h
theorem ok_clear : Ok_clear (Rel HS WS OS SS) := by
  intro k σX σM a1 hk hR
  rcases rngP a1 with ⟨p, hp, rfl, pa, pb⟩ | ⟨pa, pb⟩
  rotate_left
  · exact ansE HS WS OS SS hR (r := -1) (by unfold f_X8_clear; rw [pa]; rfl) (by unfold f_X9_clear; rw [pb]; rfl)
  obtain ⟨A, hV, ⟨x1, x2, x3, x4, x5, x6, x7, x8⟩, hM⟩ := hR
  have hM0 := hM
  obtain ⟨m1, m2, m3, m4, m5, mv, m6, m7, m8⟩ := hM
  obtain ⟨q1, q2, q3⟩ := x2 p hp
  obtain ⟨r1, r2, r3, r4⟩ := m2 p hp
  refine ⟨nI (aP A p).1, fgt (hushS (stI σX (4 + 13 * p) 5 0) (4 + 13 * p) 0), othS (stI (stI σM 5 p 0) 6 p 0) p, ?_, ?_, (va_up (aP A) p (0, (aP A p).2), va_up (aH A) p 0, aN A, aT A, aW A, aS A), hV.prog ⟨Nat.zero_le 12, fun i hi => absurd hi (Nat.not_lt_zero i)⟩ (by decide), ?_, ?_⟩
  · unfold f_X8_clear
    rw [pa, Option.bind_some, if_neg (by decide), ip4 hp, chk_t, nm_, cp4 hp, q1.1, nm_, nm_, p_hush, Option.bind_some, p_forget, Option.bind_some]
  · unfold f_X9_clear
    rw [pb, Option.bind_some, if_neg (by decide), ip4 hp, chk_t, cp4 hp, r1.1, nm_, chk_t, nm_, chk_t, nm_, p_isOther hp, Option.bind_some]
  · have ags : Ag (fun i => i < 4 + 13 * p ∨ 4 + 13 * p + 12 < i) σX (hushS (stI σX (4 + 13 * p) 5 0) (4 + 13 * p) 0) :=
      Ag.trans ((Ag.refl _ _).i_ (by omega)) ((hushS_ag _ _ _).mono (by omega))
    refine fgt_ok HS WS OS hV.2.1 (x1.ag (ags.mono (by omega))) (x2.one hp ags (CXp.bump hk ⟨q1, q2, q3⟩ ⟨?_, fun i hi => absurd hi (Nat.not_lt_zero i)⟩ (hushS_v _ _ _).2.1 ?_ ?_) _ rfl rfl) (x3.ag hV.2.1 (ags.mono (by omega))) (x4.ag (ags.mono (by omega))) (x5.ag (ags.mono (by omega)))
    · rw [(hushS_v _ _ _).1, stI_same]; rfl
    · rw [(hushS_v _ _ _).2.2, stI_ne (by simp)]
    · rw [hushS_nk _ _ _ (by omega), stI_nk (by omega)]
  · have ags : Ag (fun i => i ≠ 5 ∧ i ≠ 6) σM (stI (stI σM 5 p 0) 6 p 0) := ((Ag.refl _ _).i_ (by omega)).i_ (by omega)
    refine oth_ok HS WS SS hk hp hM0 (ags.mono (by omega)) (ags 0 (by omega)).1 (P' := (0, (aP A p).2)) (hu' := 0) ⟨by rw [stI_nk (by decide), stI_same]; rfl, fun i hi => absurd hi (Nat.not_lt_zero i)⟩ ?_ (by rw [stI_same]; rfl) rfl rfl ⟨rfl, rfl, rfl, rfl⟩
    intro i hi hne
    refine ⟨?_, by rw [stI_ne (fun h => hne h.2), stI_nk (by decide)]⟩
    unfold PM
    rw [stI_nk (by decide), stI_ne (fun h => hne h.2), (ags 1 (by omega)).1, (ags 2 (by omega)).1, (ags 3 (by omega)).1, (ags 4 (by omega)).1]
    exact (m2 i hi).1
theorem ok_silent : Ok_silent (Rel HS WS OS SS) := by
  intro k σX σM a1 a2 hk hR
  rcases rngP a1 with ⟨p, hp, rfl, pa, pb⟩ | ⟨pa, pb⟩
  rotate_left
  · exact ansE HS WS OS SS hR (r := -1) (by unfold f_X8_silent; rw [pa]; rfl) (by unfold f_X9_silent; rw [pb]; rfl)
  rcases rng a2 4095 (by decide) with ⟨h, hh, rfl, ha, hb⟩ | ⟨_, ha, hb⟩
  rotate_left
  · exact ansE HS WS OS SS hR (r := -2) (by unfold f_X8_silent; rw [pa, Option.bind_some, if_neg (by decide), L4095, ha]; rfl) (by unfold f_X9_silent; rw [pb, Option.bind_some, if_neg (by decide), show (4095 : Int64) = lN 4095 from rfl, hb]; rfl)
  obtain ⟨A, hV, ⟨x1, x2, x3, x4, x5, x6, x7, x8⟩, m1, m2, m3, m4, m5, mv, m6, m7, m8⟩ := hR
  obtain ⟨q1, q2, q3⟩ := x2 p hp
  obtain ⟨r1, r2, r3, r4⟩ := m2 p hp
  have e07 : (stI σM 6 p (nI h)).1 0 7 = σM.1 0 7 := by rw [stI_nk (by decide)]
  refine ⟨nI (aH A p), fgt (hushS σX (4 + 13 * p) (nI h)), stI (stI σM 6 p (nI h)) 0 7 (σM.1 0 7 + 1), ?_, ?_, (va_up (aP A) p (aP A p), va_up (aH A) p h, aN A, aT A, aW A, aS A), hV.prog (hV.1 p hp).1 (by omega), ?_, ?_⟩
  · unfold f_X8_silent
    rw [pa, Option.bind_some, if_neg (by decide), L4095, ha, Option.bind_some, if_neg (by decide), ip4 hp, chk_t, nm_, cp4 hp, q2, nm_, p_hush, Option.bind_some, p_forget, Option.bind_some]
  · unfold f_X9_silent
    rw [pb, Option.bind_some, if_neg (by decide), show (4095 : Int64) = lN 4095 from rfl, hb, Option.bind_some, if_neg (by decide), ip4 hp, chk_t, cp4 hp, r2, nm_, chk_t, nm_, nm_, e07]
  · have ags : Ag (fun i => i < 4 + 13 * p ∨ 4 + 13 * p + 12 < i) σX (hushS σX (4 + 13 * p) (nI h)) := (hushS_ag _ _ _).mono (by omega)
    exact fgt_ok HS WS OS hV.2.1 (x1.ag (ags.mono (by omega))) (x2.one hp ags (CXp.bump hk ⟨q1, q2, q3⟩ (hushS_PX q1) (hushS_v _ _ _).2.1 (hushS_v _ _ _).2.2 (hushS_nk _ _ _ (by omega))) _ rfl rfl) (x3.ag hV.2.1 (ags.mono (by omega))) (x4.ag (ags.mono (by omega))) (x5.ag (ags.mono (by omega)))
  · have ep : va_up (aP A) p (aP A p) = aP A := by
      funext i; by_cases e : i = p
      · subst e; simp [va_up]
      · simp [va_up, e]
    rw [ep]
    generalize hs : stI (stI σM 6 p (nI h)) 0 7 (σM.1 0 7 + 1) = s
    have ags : Ag (fun i => i ≠ 6 ∧ i ≠ 0) σM s := by rw [← hs]; exact ((Ag.refl _ _).i_ (by omega)).i_ (by omega)
    have s6 : ∀ i, s.1 6 i = if i = p then nI h else σM.1 6 i := fun i => by
      rw [← hs, stI_nk (by decide), stI_v]; by_cases e : i = p
      · rw [if_pos ⟨rfl, e⟩, if_pos e]
      · rw [if_neg (fun q => e q.2), if_neg e]
    have z : ∀ j, j ≠ 7 → s.1 0 j = σM.1 0 j := fun j h7 => by rw [← hs, stI_ne (fun q => h7 q.2), stI_nk (by decide)]
    have z7 : s.1 0 7 = σM.1 0 7 + 1 := by rw [← hs, stI_same]
    obtain ⟨⟨a, a1, a2, a3, a4⟩, b, b1, b2, b3⟩ := mv
    have n22 := stale (show a < 2 ^ 30 by omega) a3
    have n42 := stale (show a < 2 ^ 30 by omega) a4
    refine ⟨m1.ag (ags.mono (by omega)), ?_, ?_, m4.ag (ags.mono (by omega)), m5.ag (ags.mono (by omega)), ⟨⟨a + 1, by omega, by rw [z7, a2, nI_1], ?_, ?_⟩, b, by omega, by rw [z 8 (by decide)]; exact b2, by rw [z 40 (by decide)]; exact b3⟩, ?_, ?_, ?_⟩
    · intro i hi
      obtain ⟨c1, c2, c3, c4⟩ := m2 i hi
      refine ⟨c1.ag (ags.mono (by omega)), ?_, by rw [(ags 7 (by omega)).1]; exact c3, fun q => ?_⟩
      · rw [s6]
        show (if i = p then nI h else σM.1 6 i) = nI (va_up (aH A) p h i)
        by_cases e : i = p
        · rw [if_pos e]; simp [va_up, e]
        · rw [if_neg e, c2]; simp [va_up, e]
      · unfold Laid; rw [(ags 8 (by omega)).1]; exact c4 (by rw [← (ags 7 (by omega)).1]; exact q)
    · exact m3.ag (ags.mono (by omega)) (z 20 (by decide))
    · rw [z 22 (by decide)]; exact a3.imp id (fun ⟨b, h1, h2⟩ => ⟨b, by omega, h2⟩)
    · rw [z 42 (by decide)]; exact a4.imp id (fun ⟨b, h1, h2⟩ => ⟨b, by omega, h2⟩)
    · intro q; rw [z 22 (by decide), z7, a2, nI_1] at q; exact absurd q n22
    · unfold CM7; rw [z 40 (by decide), z 8 (by decide), z 39 (by decide), z 37 (by decide), (ags 18 (by omega)).1, (ags 19 (by omega)).1, (ags 7 (by omega)).1]; exact m7
    · intro q; rw [z 42 (by decide), z7, a2, nI_1] at q; exact absurd q n42
theorem ok_wait : Ok_wait (Rel HS WS OS SS) := by
  intro k σX σM a1 a2 a3 hk hR
  rcases rng a1 11 (by decide) with ⟨x, hx, rfl, xa, xb⟩ | ⟨_, xa, xb⟩
  rotate_left
  · exact ansE HS WS OS SS hR (r := -2) (by unfold f_X8_wait; rw [L11, xa]; rfl) (by unfold f_X9_wait; rw [show (11 : Int64) = lN 11 from rfl, xb]; rfl)
  rcases rng a2 11 (by decide) with ⟨y, hy, rfl, ya, yb⟩ | ⟨_, ya, yb⟩
  rotate_left
  · exact ansE HS WS OS SS hR (r := -2) (by unfold f_X8_wait; rw [L11, xa, Option.bind_some, if_neg (by decide), ya]; rfl) (by unfold f_X9_wait; rw [show (11 : Int64) = lN 11 from rfl, xb, Option.bind_some, if_neg (by decide), yb]; rfl)
  rcases rng a3 2 (by decide) with ⟨b, hb, rfl, ba, bb⟩ | ⟨_, ba, bb⟩
  rotate_left
  · exact ansE HS WS OS SS hR (r := -2) (by unfold f_X8_wait; rw [L11, L2, xa, Option.bind_some, if_neg (by decide), ya, Option.bind_some, if_neg (by decide), ba]; rfl) (by unfold f_X9_wait; rw [show (11 : Int64) = lN 11 from rfl, show (2 : Int64) = lN 2 from rfl, xb, Option.bind_some, if_neg (by decide), yb, Option.bind_some, if_neg (by decide), bb]; rfl)
  obtain ⟨A, hV, ⟨x1, x2, x3, x4, x5, x6, x7, x8⟩, m1, m2, m3, m4, m5, mv, m6, m7, m8⟩ := hR
  have ea : nI x * (13 : Int32) + nI y = nI (13 * x + y) := by rw [L13, pk_mul, nI_add, Nat.mul_comm]
  have eb : (12 : Int32) * nI x + nI y = nI (12 * x + y) := by rw [L12, pk_mul, nI_add]
  have ii : inb (nI (13 * x + y)) 169 = true := inb_nI (by omega) (by decide)
  have ij : inb (nI (12 * x + y)) 144 = true := inb_nI (by omega) (by decide)
  have ci : (nI (13 * x + y)).toNatClampNeg = 13 * x + y := nI_clamp (by omega)
  have cj : (nI (12 * x + y)).toNatClampNeg = 12 * x + y := nI_clamp (by omega)
  have e08 : (stI σM 16 (12 * x + y) (nI b)).1 0 8 = σM.1 0 8 := by rw [stI_nk (by decide)]
  refine ⟨nI (aW A x y), fgt (stI σX 77 (13 * x + y) (nI b)), stI (stI σM 16 (12 * x + y) (nI b)) 0 8 (σM.1 0 8 + 1), ?_, ?_, (aP A, aH A, aN A, aT A, (fun i j => if i = x ∧ j = y then b else aW A i j), aS A), ?_, ?_, ?_⟩
  · unfold f_X8_wait
    rw [L11, L2, xa, Option.bind_some, if_neg (by decide), ya, Option.bind_some, if_neg (by decide), ba, Option.bind_some, if_neg (by decide)]
    simp only [ea, nm_, ii, chk_t, ci, x4.1 x y (by omega) (by omega), p_forget, Option.bind_some]
  · unfold f_X9_wait
    rw [show (11 : Int64) = lN 11 from rfl, show (2 : Int64) = lN 2 from rfl, xb, Option.bind_some, if_neg (by decide), yb, Option.bind_some, if_neg (by decide), bb, Option.bind_some, if_neg (by decide)]
    simp only [eb, nm_, ij, chk_t, cj, m4 x y (by omega) (by omega), e08]
  · obtain ⟨v1, v2, v3, v4, v5, v6⟩ := hV
    refine ⟨v1, v2, v3, v4, fun i j hi hj => ?_, v6⟩
    show (if i = x ∧ j = y then b else aW A i j) ≤ 2
    split
    · exact hb
    · exact v5 i j hi hj
  · have ags : Ag (fun i => i ≠ 77) σX (stI σX 77 (13 * x + y) (nI b)) := (Ag.refl _ _).i_ (fun h => h rfl)
    refine fgt_ok HS WS OS hV.2.1 (x1.ag (ags.mono (by omega))) ((x2.ag (ags.mono (by omega))).mono (Nat.le_succ k)) (x3.ag hV.2.1 (ags.mono (by omega))) ⟨fun i j hi hj => ?_, fun i hi => ?_, fun j hj => ?_⟩ (x5.ag (ags.mono (by omega)))
    · show (stI σX 77 (13 * x + y) (nI b)).1 77 (13 * i + j) = nI (if i = x ∧ j = y then b else aW A i j)
      rw [stI_v]
      by_cases e : i = x ∧ j = y
      · rw [if_pos (by obtain ⟨rfl, rfl⟩ := e; exact ⟨rfl, rfl⟩), if_pos e]
      · rw [if_neg (fun q => e (by omega)), if_neg e]; exact x4.1 i j hi hj
    · rw [stI_ne (by omega)]; exact x4.2.1 i hi
    · rw [stI_ne (by omega)]; exact x4.2.2 j hj
  · generalize hs : stI (stI σM 16 (12 * x + y) (nI b)) 0 8 (σM.1 0 8 + 1) = s
    have ags : Ag (fun i => i ≠ 16 ∧ i ≠ 0) σM s := by rw [← hs]; exact ((Ag.refl _ _).i_ (by omega)).i_ (by omega)
    have z : ∀ j, j ≠ 8 → s.1 0 j = σM.1 0 j := fun j h7 => by rw [← hs, stI_ne (fun q => h7 q.2), stI_nk (by decide)]
    have z8 : s.1 0 8 = σM.1 0 8 + 1 := by rw [← hs, stI_same]
    obtain ⟨⟨a, a1, a2, a3, a4⟩, c, b1, b2, b3⟩ := mv
    have n40 := stale (show c < 2 ^ 30 by omega) b3
    refine ⟨m1.ag (ags.mono (by omega)), m2.ag (ags.mono (by omega)), m3.ag (ags.mono (by omega)) (z 20 (by decide)), ?_, m5.ag (ags.mono (by omega)), ⟨⟨a, by omega, by rw [z 7 (by decide)]; exact a2, by rw [z 22 (by decide)]; exact a3, by rw [z 42 (by decide)]; exact a4⟩, c + 1, by omega, by rw [z8, b2, nI_1], ?_⟩, ?_, ?_, ?_⟩
    · intro i j hi hj
      show s.1 16 (12 * i + j) = nI (if i = x ∧ j = y then b else aW A i j)
      rw [← hs, stI_nk (by decide), stI_v]
      by_cases e : i = x ∧ j = y
      · rw [if_pos (by obtain ⟨rfl, rfl⟩ := e; exact ⟨rfl, rfl⟩), if_pos e]
      · rw [if_neg (fun q => e (by omega)), if_neg e]; exact m4 i j hi hj
    · rw [z 40 (by decide)]; exact b3.imp id (fun ⟨b, h1, h2⟩ => ⟨b, by omega, h2⟩)
    · unfold CM6; rw [z 22 (by decide), z 7 (by decide), z 21 (by decide), z 23 (by decide), z 24 (by decide), z 25 (by decide), z 26 (by decide)]; exact m6
    · intro q; rw [z 40 (by decide), z8, b2, nI_1] at q; exact absurd q n40
    · unfold CM8; rw [z 42 (by decide), z 7 (by decide), z 41 (by decide), z 43 (by decide)]; exact m8
end PR2
