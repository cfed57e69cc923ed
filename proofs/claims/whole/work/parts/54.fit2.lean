/-! ===== fit: both loops ===== -/
theorem cnt_t {Q : Nat → Bool} {i : Nat} (q : Q i = true) : cnt Q (i + 1) = cnt Q i + 1 := by rw [cnt, if_pos q]
theorem cnt_f {Q : Nat → Bool} {i : Nat} (q : Q i = false) : cnt Q (i + 1) = cnt Q i := by rw [cnt, if_neg (by rw [q]; decide)]
theorem fst_f {Q : Nat → Bool} {i : Nat} (q : Q i = false) : fst_ Q (i + 1) = fst_ Q i := by rw [fst_, if_neg (fun h => by rw [q] at h; exact absurd h.1 (by decide))]
theorem fst_t0 {Q : Nat → Bool} {i : Nat} (q : Q i = true) (c : cnt Q i = 0) : fst_ Q (i + 1) = nI i := by rw [fst_, if_pos ⟨q, c⟩]
theorem fst_t1 {Q : Nat → Bool} {i : Nat} (c : ¬ cnt Q i = 0) : fst_ Q (i + 1) = fst_ Q i := by rw [fst_, if_neg (fun h => c h.2)]
theorem cnt0 (Q : Nat → Bool) {i : Nat} (hi : i ≤ 65536) : (nI (cnt Q i) = (0 : Int32)) = (cnt Q i = 0) := by have := cnt_le Q i; exact eq_nI (by omega) (by decide)
def fQ (A : Ab) (p m set n : Nat) (i : Nat) : Bool := alkin set m i && fitq (shw (aP A p) (aH A p) m 24) (shw (aP A p) (aH A p) i 24) n
theorem p_fitX {k : Nat} {A : Ab} {σ : St} {p m set n : Nat} (hV : VA A) (hk : k ≤ 512) (h1 : CX1 σ) (h2 : CX2 k A σ) (hp : p < 4) (hm : m < 256) (hs : set < 16) (hn : n ≤ 24) (ht : TraceRow σ (4 + 13 * p) (aP A p) (aH A p) m) : ∃ s, wh FU (b_X8_fit_77 (nI m) (nI n) (4 + 13 * p) (nI (dgs set))) ((0 : Int32), (-6 : Int32), (0 : Int32), σ) = some (nI (cnt (fQ A p m set n) 256), fst_ (fQ A p m set n) 256, s) ∧ CX2 k A s ∧ Kp A σ s := by
  generalize hQ : fQ A p m set n = Q
  have key := wh_cnt (b := b_X8_fit_77 (nI m) (nI n) (4 + 13 * p) (nI (dgs set))) 256 (fun i y => ∃ s, y = (nI (cnt Q i), fst_ Q i, nI i, s) ∧ CX2 k A s ∧ Kp A σ s) (fun r => ∃ s, r = (nI (cnt Q 256), fst_ Q 256, s) ∧ CX2 k A s ∧ Kp A σ s) ?_ ?_ FU 0 ((0 : Int32), (-6 : Int32), (0 : Int32), σ) (Nat.zero_le _) ⟨σ, rfl, h2, Kp.refl _ _⟩ (by rw [FU_]; omega)
  · obtain ⟨r, e, s, rfl, q1, q2⟩ := key
    exact ⟨s, e, q1, q2⟩
  · rintro i y hi ⟨s, rfl, q1, q2⟩
    left
    unfold b_X8_fit_77
    rw [un_, un_, un_, if_neg (show ¬ ((256 : Int32) ≤ nI i) from nI_ge hi (by decide))]
    have hq : Q i = (alkin set m i && fitq (shw (aP A p) (aH A p) m 24) (shw (aP A p) (aH A p) i 24) n) := by rw [← hQ]; rfl
    by_cases ca : alkin set m i = true
    · rw [if_pos ((p_alkX hs hm hi).mpr ca)]
      obtain ⟨s3, e3, c3, t3, k3⟩ := q1.tr (m := i) hV hk (h1.kp q2) hp hi
      have tm := k3.2 p m hp hm (q2.2 p m hp hm ht)
      rw [e3, Option.bind_some, p_beginAlike hm hi hn tm t3, Option.bind_some]
      rw [ca, Bool.true_and] at hq
      rw [← hq]
      cases hqi : Q i
      · rw [if_pos (by decide), nm_, nI_1]
        exact ⟨_, rfl, s3, by rw [cnt_f hqi, fst_f hqi], c3, q2.trans k3⟩
      · rw [if_neg (by decide), nm_, nm_, nm_, nI_1, nI_1]
        by_cases c : cnt Q i = 0
        · rw [if_pos ((fst6 Q i (by omega)).mpr c)]
          exact ⟨_, rfl, s3, by rw [cnt_t hqi, fst_t0 hqi c], c3, q2.trans k3⟩
        · rw [if_neg (fun q => c ((fst6 Q i (by omega)).mp q))]
          exact ⟨_, rfl, s3, by rw [cnt_t hqi, fst_t1 c], c3, q2.trans k3⟩
    · rw [if_neg (fun q => ca ((p_alkX hs hm hi).mp q)), nm_, nI_1]
      have hqi : Q i = false := by rw [hq]; rw [Bool.eq_false_iff.mpr ca]; rfl
      exact ⟨_, rfl, s, by rw [cnt_f hqi, fst_f hqi], q1, q2⟩
  · rintro y ⟨s, rfl, q1, q2⟩
    unfold b_X8_fit_77
    rw [un_, un_, un_, if_pos (by decide)]
    exact ⟨_, rfl, s, rfl, q1, q2⟩
theorem p_fitM {A : Ab} {σ : St} {p m set n : Nat} (hV : VA A) (h2 : CM2 A σ) (hp : p < 4) (hm : m < 256) (hs : set < 16) (hn : n ≤ 24) (ht : RunM σ 0 (aP A p) (aH A p) m) : ∃ s, wh FU (b_X9_fit_72 (nI p) (nI m) (nI set) (nI n)) ((0 : Int32), (-6 : Int32), (0 : Int32), σ) = some (nI (cnt (fQ A p m set n) 256), fst_ (fQ A p m set n) 256, s) ∧ CM2 A s ∧ Fr SQ σ s := by
  generalize hQ : fQ A p m set n = Q
  have key := wh_cnt (b := b_X9_fit_72 (nI p) (nI m) (nI set) (nI n)) 256 (fun i y => ∃ s, y = (nI (cnt Q i), fst_ Q i, nI i, s) ∧ CM2 A s ∧ Fr SQ σ s ∧ RunM s 0 (aP A p) (aH A p) m) (fun r => ∃ s, r = (nI (cnt Q 256), fst_ Q 256, s) ∧ CM2 A s ∧ Fr SQ σ s) ?_ ?_ FU 0 ((0 : Int32), (-6 : Int32), (0 : Int32), σ) (Nat.zero_le _) ⟨σ, rfl, h2, Fr.refl _ _, ht⟩ (by rw [FU_]; omega)
  · obtain ⟨r, e, s, rfl, q1, q2⟩ := key
    exact ⟨s, e, q1, q2⟩
  · rintro i y hi ⟨s, rfl, q1, q2, q3⟩
    left
    unfold b_X9_fit_72
    rw [un_, un_, un_, if_neg (show ¬ ((256 : Int32) ≤ nI i) from nI_ge hi (by decide)), p_alkM hs hm hi, Option.bind_some]
    have hq : Q i = (alkin set m i && fitq (shw (aP A p) (aH A p) m 24) (shw (aP A p) (aH A p) i 24) n) := by rw [← hQ]; rfl
    by_cases ca : alkin set m i = true
    · rw [ca, if_neg (by decide)]
      rw [ca, Bool.true_and] at hq
      obtain ⟨s3, e3, c3, t3, k3⟩ := q1.run (m := i) (a := 1) hV hp (by decide) hi
      have e3 : f_X9_runOne (nI p) (nI i) (1 : Int32) s = some s3 := e3
      have t0 := q3.fr k3 (by decide)
      have g12 := t0.2.2.2.1
      have h12 := t3.2.2.2.1
      have gl := shw_len (aP A p) (aH A p) m 24
      have hl := shw_len (aP A p) (aH A p) i 24
      have fin : ∀ b : Bool, b = Q i → (if bI b = (0 : Int32) then some (Sum.inl (nI (cnt Q i), fst_ Q i, nI (i + 1), s3)) else (if nI (cnt Q i) = (0 : Int32) then some (Sum.inl (nI (cnt Q i + 1), nI i, nI (i + 1), s3)) else some (Sum.inl (nI (cnt Q i + 1), fst_ Q i, nI (i + 1), s3)))) = (some (Sum.inl (nI (cnt Q (i + 1)), fst_ Q (i + 1), nI (i + 1), s3)) : Option ((Int32 × Int32 × Int32 × St) ⊕ (Int32 × Int32 × St))) := by
        intro b hb
        subst hb
        cases hqi : Q i
        · rw [if_pos (by decide), cnt_f hqi, fst_f hqi]
        · rw [if_neg (by decide)]
          simp only [cnt0 Q (show i ≤ 65536 by omega)]
          by_cases c : cnt Q i = 0
          · rw [if_pos c, cnt_t hqi, fst_t0 hqi c]
          · rw [if_neg c, cnt_t hqi, fst_t1 c]
      refine ⟨(nI (cnt Q (i + 1)), fst_ Q (i + 1), nI (i + 1), s3), ?_, s3, rfl, c3, q2.trans (k3.mono SQ_SR), t0⟩
      rw [e3, Option.bind_some]
      simp only [i0_512, i1_512, chk_t, c0_, c1_, g12, h12, nm_, nI_1]
      by_cases c : (shw (aP A p) (aH A p) m 24).length < n
      · rw [if_pos (nI_lt c (by omega))]
        by_cases d : (shw (aP A p) (aH A p) i 24).length = (shw (aP A p) (aH A p) m 24).length
        · rw [if_pos (by rw [d]), if_neg (nI_ge c (by omega))]
          have ea := p_shownAlike (σ := s3) (x := 0) (y := 1) (n := (shw (aP A p) (aH A p) m 24).length) (l := shw (aP A p) (aH A p) m 24) (l' := shw (aP A p) (aH A p) i 24) (by decide) (by decide) (Nat.le_refl _) (by omega) (by omega) (shw_lt4 _ _ _ _) (shw_lt4 _ _ _ _) t0.2.2.2.2 t3.2.2.2.2
          rw [show (0 : Int32) = nI 0 from rfl, show (1 : Int32) = nI 1 from rfl, ea, Option.bind_some]
          refine fin _ ?_
          rw [hq]
          unfold fitq
          rw [List.take_length, List.take_of_length_le (show (shw (aP A p) (aH A p) i 24).length ≤ (shw (aP A p) (aH A p) m 24).length by omega)]
          simp only [if_pos (show (shw (aP A p) (aH A p) m 24).length < n from c)]
        · rw [if_neg (by rw [eq_nI (by omega) (by omega)]; exact d)]
          have hqi : Q i = false := by
            rw [hq]; unfold fitq
            rw [decide_eq_false]
            rw [if_pos c]; intro e; exact d (by rw [e])
          rw [cnt_f hqi, fst_f hqi]
      · rw [if_neg (nI_nlt (by omega) (by omega))]
        by_cases d : (shw (aP A p) (aH A p) i 24).length < n
        · rw [if_pos (nI_lt d (by omega))]
          have hqi : Q i = false := by
            rw [hq]; unfold fitq
            rw [decide_eq_false]
            rw [if_neg c]; intro e; omega
          rw [cnt_f hqi, fst_f hqi]
        · rw [if_neg (nI_nlt (by omega) (by omega)), if_pos (nI_le (by omega) (by omega))]
          have ea := p_shownAlike (σ := s3) (x := 0) (y := 1) (n := n) (l := shw (aP A p) (aH A p) m 24) (l' := shw (aP A p) (aH A p) i 24) (by decide) (by decide) (by omega) (by omega) hn (shw_lt4 _ _ _ _) (shw_lt4 _ _ _ _) t0.2.2.2.2 t3.2.2.2.2
          rw [show (0 : Int32) = nI 0 from rfl, show (1 : Int32) = nI 1 from rfl, ea, Option.bind_some]
          refine fin _ ?_
          rw [hq]
          unfold fitq
          simp only [if_neg c, show n ≤ (shw (aP A p) (aH A p) i 24).length from by omega, true_and]
    · have ca : alkin set m i = false := Bool.eq_false_iff.mpr ca
      rw [ca, if_pos (by decide), nm_, nI_1]
      have hqi : Q i = false := by rw [hq, ca]; rfl
      exact ⟨_, rfl, s, by rw [cnt_f hqi, fst_f hqi], q1, q2, q3⟩
  · rintro y ⟨s, rfl, q1, q2, q3⟩
    unfold b_X9_fit_72
    rw [un_, un_, un_, if_pos (by decide)]
    exact ⟨_, rfl, s, rfl, q1, q2⟩
section PR7
variable (HS : HSt) (WS : WSt) (OS : OSt) (SS : SSt)
theorem ok_fit : Ok_fit (Rel HS WS OS SS) := by
  intro k σX σM a1 a2 a3 a4 a5 hk hR
  rcases rngP a1 with ⟨p, hp, rfl, pa, pb⟩ | ⟨pa, pb⟩
  rotate_left
  · exact ansE HS WS OS SS hR (r := -1) (by unfold f_X8_fit; rw [pa]; rfl) (by unfold f_X9_fit; rw [pb]; rfl)
  rcases rngS a2 with ⟨m, hm, rfl, ma, mb⟩ | ⟨ma, mb⟩
  rotate_left
  · exact ansE HS WS OS SS hR (r := -2) (by unfold f_X8_fit; rw [pa, Option.bind_some, if_neg (by decide), ma]; rfl) (by unfold f_X9_fit; rw [pb, Option.bind_some, if_neg (by decide), mb]; rfl)
  rcases rng a3 15 (by decide) with ⟨set, hs, rfl, sa, sb⟩ | ⟨_, sa, sb⟩
  rotate_left
  · exact ansE HS WS OS SS hR (r := -2) (by unfold f_X8_fit; rw [pa, Option.bind_some, if_neg (by decide), ma, Option.bind_some, if_neg (by decide), L15, sa]; rfl) (by unfold f_X9_fit; rw [pb, Option.bind_some, if_neg (by decide), mb, Option.bind_some, if_neg (by decide), show (15 : Int64) = lN 15 from rfl, sb]; rfl)
  rcases rng a4 24 (by decide) with ⟨n, hn, rfl, na, nb⟩ | ⟨_, na, nb⟩
  rotate_left
  · exact ansE HS WS OS SS hR (r := -2) (by unfold f_X8_fit; rw [pa, Option.bind_some, if_neg (by decide), ma, Option.bind_some, if_neg (by decide), L15, sa, Option.bind_some, if_neg (by decide), L24, na]; rfl) (by unfold f_X9_fit; rw [pb, Option.bind_some, if_neg (by decide), mb, Option.bind_some, if_neg (by decide), show (15 : Int64) = lN 15 from rfl, sb, Option.bind_some, if_neg (by decide), show (24 : Int64) = lN 24 from rfl, nb]; rfl)
  rcases rng a5 1 (by decide) with ⟨w, hw, rfl, wa, wb⟩ | ⟨_, wa, wb⟩
  rotate_left
  · exact ansE HS WS OS SS hR (r := -2) (by unfold f_X8_fit; rw [pa, Option.bind_some, if_neg (by decide), ma, Option.bind_some, if_neg (by decide), L15, sa, Option.bind_some, if_neg (by decide), L24, na, Option.bind_some, if_neg (by decide), show (1 : Int32) = nI 1 from rfl, wa]; rfl) (by unfold f_X9_fit; rw [pb, Option.bind_some, if_neg (by decide), mb, Option.bind_some, if_neg (by decide), show (15 : Int64) = lN 15 from rfl, sb, Option.bind_some, if_neg (by decide), show (24 : Int64) = lN 24 from rfl, nb, Option.bind_some, if_neg (by decide), show (1 : Int64) = lN 1 from rfl, wb]; rfl)
  have wa : f_X8_isWithin (nI w) (1 : Int32) = some 1 := wa
  have wb : f_X9_in (nI w).toInt64 0 (1 : Int64) = some 1 := wb
  have sa : f_X8_isWithin (nI set) (15 : Int32) = some 1 := sa
  have sb : f_X9_in (nI set).toInt64 0 (15 : Int64) = some 1 := sb
  have na : f_X8_isWithin (nI n) (24 : Int32) = some 1 := na
  have nb : f_X9_in (nI n).toInt64 0 (24 : Int64) = some 1 := nb
  obtain ⟨A, hV, hX, hM⟩ := hR
  obtain ⟨x1, eX1, cX1, tX1, kX1⟩ := hX.2.1.tr (m := m) hV (by omega) hX.1 hp hm
  obtain ⟨x2, eX2, cX2, kX2⟩ := p_fitX hV (by omega) (hX.1.kp kX1) cX1 hp hm (show set < 16 by omega) hn tX1
  obtain ⟨s1, e1, c1, t1, f1⟩ := hM.2.1.run (m := m) (a := 0) hV hp (by decide) hm
  obtain ⟨s2, e2, c2, f2⟩ := p_fitM hV c1 hp hm (show set < 16 by omega) hn t1
  have e1 : f_X9_runOne (nI p) (nI m) (0 : Int32) σM = some s1 := e1
  refine ansQ (r := if nI w = (0 : Int32) then nI (cnt (fQ A p m set n) 256) else fst_ (fQ A p m set n) 256) hV hX hM ?_ ?_ cX2 (kX1.trans kX2) c2 ((f1.mono SQ_SR).trans f2)
  · unfold f_X8_fit
    rw [pa, Option.bind_some, if_neg (by decide), ma, Option.bind_some, if_neg (by decide), sa, Option.bind_some, if_neg (by decide), na, Option.bind_some, if_neg (by decide), wa, Option.bind_some, if_neg (by decide), ip4 hp, chk_t, nm_, cp4 hp, p_digits set (by omega), Option.bind_some, eX1, Option.bind_some, eX2, Option.bind_some, un_, un_]
    split <;> rfl
  · unfold f_X9_fit
    rw [pb, Option.bind_some, if_neg (by decide), mb, Option.bind_some, if_neg (by decide), sb, Option.bind_some, if_neg (by decide), nb, Option.bind_some, if_neg (by decide), wb, Option.bind_some, if_neg (by decide), e1, Option.bind_some, e2, Option.bind_some, un_, un_]
    split <;> rfl
end PR7
