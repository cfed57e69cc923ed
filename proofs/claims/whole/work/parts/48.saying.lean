/-! ===== told, saying ===== -/
theorem in_nI {n a b : Nat} (hn : n < 2 ^ 30) (ha : a < 2 ^ 30) (hb : b < 2 ^ 30) : f_X9_in (nI n).toInt64 (lN a) (lN b) = some (if a ≤ n ∧ n ≤ b then 1 else 0) := by
  rw [in_iff, Int32.toInt_toInt64, nI_toInt (by omega), pk_lT (by omega), pk_lT (by omega)]
  by_cases c : a ≤ n ∧ n ≤ b
  · rw [if_pos c, if_pos (by omega)]
  · rw [if_neg c, if_neg (by omega)]
theorem rngK (x : Int32) (b : Nat) (hb : b < 2 ^ 20) : (∃ j, j < 4 ∧ x = nI (b + j) ∧ x - nI b = nI j ∧ f_X8_isProgram (x - nI b) = some 1 ∧ f_X9_in x.toInt64 (lN b) (lN (b + 3)) = some 1) ∨ (f_X8_isProgram (x - nI b) = some 0 ∧ f_X9_in x.toInt64 (lN b) (lN (b + 3)) = some 0) := by
  rcases rngP (x - nI b) with ⟨j, hj, e, h1, _⟩ | ⟨h1, h2⟩
  · left
    have ex : x = nI (b + j) := by
      have : x = (x - nI b) + nI b := by rw [Int32.sub_add_cancel]
      rw [this, e, nI_add, Nat.add_comm]
    refine ⟨j, hj, ex, e, h1, ?_⟩
    rw [ex, in_nI (by omega) (by omega) (by omega), if_pos (by omega)]
  · right
    refine ⟨h1, ?_⟩
    rw [in_iff]
    by_cases c : (lN b).toInt ≤ x.toInt64.toInt ∧ x.toInt64.toInt ≤ (lN (b + 3)).toInt
    · exfalso
      rw [pk_lT (by omega), pk_lT (by omega), Int32.toInt_toInt64] at c
      have ex : x = nI x.toInt.toNat := by
        apply Int32.toInt_inj.mp; rw [nI_toInt (by omega)]; omega
      rw [ex, pk_sub (by omega)] at h1
      unfold f_X8_isProgram at h1
      rw [within_iff, nI_toInt (by omega), show (3 : Int32).toInt = 3 from rfl, if_pos (by omega)] at h1
      exact absurd h1 (by decide)
    · rw [if_neg c]
section PR4
variable (HS : HSt) (WS : WSt) (OS : OSt) (SS : SSt)
theorem ok_told : Ok_told (Rel HS WS OS SS) := by
  intro k σX σM a1 hk hR
  have hR0 := hR.mono (Nat.le_succ k)
  obtain ⟨A, hV, ⟨x1, x2, x3, x4, x5, x6, x7, x8⟩, m1, m2, m3, m4, m5, mv, m6, m7, m8⟩ := hR
  have t1 : σX.1 69 1 = nI (aT A 6).1 := (x3.2.1 6 (Or.inr rfl)).1
  have t2 := (m3.2 6 (Or.inr rfl)).1
  by_cases h0 : a1 = 0
  · subst h0
    exact ⟨nI (aN A), by unfold f_X8_told; rw [if_pos rfl, x3.1], by unfold f_X9_told; rw [show f_X9_in (0 : Int32).toInt64 10 13 = some 0 by decide, Option.bind_some, if_pos rfl, show f_X9_in (0 : Int32).toInt64 20 23 = some 0 by decide, Option.bind_some, if_pos rfl, if_pos rfl, m3.1], hR0⟩
  by_cases h1 : a1 = 1
  · subst h1
    exact ⟨nI (aT A 6).1, by unfold f_X8_told; rw [if_neg (by decide), if_pos rfl, t1], by unfold f_X9_told; rw [show f_X9_in (1 : Int32).toInt64 10 13 = some 0 by decide, Option.bind_some, if_pos rfl, show f_X9_in (1 : Int32).toInt64 20 23 = some 0 by decide, Option.bind_some, if_pos rfl, if_neg (by decide), if_pos rfl, in67, chk_t, six, t2], hR0⟩
  rcases rngK a1 10 (by decide) with ⟨j, hj, e, e', a, b⟩ | ⟨a, b⟩
  · refine ⟨nI (aP A j).1, ?_, ?_, hR0⟩
    · unfold f_X8_told
      rw [if_neg h0, if_neg h1, L10, a, Option.bind_some, if_neg (by decide), e', ip4 hj, chk_t, nm_, cp4 hj, (x2 j hj).1.1]
    · unfold f_X9_told
      rw [show (10 : Int64) = lN 10 from rfl, show (13 : Int64) = lN (10 + 3) from rfl, b, Option.bind_some, if_neg (by decide), L10, e', ip4 hj, chk_t, cp4 hj, (m2 j hj).1.1]
  rcases rngK a1 20 (by decide) with ⟨j, hj, e, e', a', b'⟩ | ⟨a', b'⟩
  · refine ⟨nI (aH A j), ?_, ?_, hR0⟩
    · unfold f_X8_told
      rw [if_neg h0, if_neg h1, L10, a, Option.bind_some, if_pos rfl, L20, a', Option.bind_some, if_neg (by decide), e', ip4 hj, chk_t, nm_, cp4 hj, (x2 j hj).2.1]
    · unfold f_X9_told
      rw [show (10 : Int64) = lN 10 from rfl, show (13 : Int64) = lN (10 + 3) from rfl, b, Option.bind_some, if_pos rfl, show (20 : Int64) = lN 20 from rfl, show (23 : Int64) = lN (20 + 3) from rfl, b', Option.bind_some, if_neg (by decide), L20, e', ip4 hj, chk_t, cp4 hj, (m2 j hj).2.1]
  · refine ⟨-2, ?_, ?_, hR0⟩
    · unfold f_X8_told
      rw [if_neg h0, if_neg h1, L10, a, Option.bind_some, if_pos rfl, L20, a', Option.bind_some, if_pos rfl]
    · unfold f_X9_told
      rw [show (10 : Int64) = lN 10 from rfl, show (13 : Int64) = lN (10 + 3) from rfl, b, Option.bind_some, if_pos rfl, show (20 : Int64) = lN 20 from rfl, show (23 : Int64) = lN (20 + 3) from rfl, b', Option.bind_some, if_pos rfl, if_neg h0, if_neg h1]
/-- a SAYING takes the signs -/
theorem p_take {σ : St} {n : Nat} {T : Tx} (hn : n < 6) (hT : T.1 ≤ 40) (hc : ∀ i, i < T.1 → T.2 i ≤ 126) (h : CXt σ 69 T) : ∃ s, f_X5_take (57 + 2 * n) 69 σ = some s ∧ Ag (fun i => i ≠ 57 + 2 * n ∧ i ≠ 57 + 2 * n + 1) σ s ∧ CXt s (57 + 2 * n) T ∧ s.1 (57 + 2 * n) 3 = nI (col T T.1) ∧ s.2 (57 + 2 * n) 2 = lN (alkT T T.1) := by
  obtain ⟨h1, h2⟩ := h
  generalize hsa : 57 + 2 * n = sa
  have hne : sa ≠ 69 := by omega
  have hne1 : sa + 1 ≠ 69 := by omega
  generalize hs4 : stL (stI (stI (stR σ (sa + 1) (va_cpy (σ.1 (69 + 1)) (σ.1 (sa + 1)) 0 0 40)) sa 1 (nI T.1)) sa 3 0) sa 2 0 = s4
  have e1 : (stR σ (sa + 1) (va_cpy (σ.1 (69 + 1)) (σ.1 (sa + 1)) 0 0 40)).1 69 1 = nI T.1 := by rw [stR_v, if_neg (by omega)]; exact h1
  have a4 : Ag (fun i => i ≠ sa ∧ i ≠ sa + 1) σ s4 := by
    rw [← hs4]; exact ((((Ag.refl _ _).r_ (by omega)).i_ (by omega)).i_ (by omega)).l_ (by omega)
  have s41 : s4.1 sa 1 = nI T.1 := by rw [← hs4, stL_1, stI_ne (by simp), stI_same]
  have s43 : s4.1 sa 3 = nI 0 := by rw [← hs4, stL_1, stI_same]; rfl
  have s42 : s4.2 sa 2 = lN 0 := by rw [← hs4, stL_same]; rfl
  have s4s : ∀ i, i < T.1 → s4.1 (sa + 1) i = nI (T.2 i) := fun i hi => by
    rw [← hs4, stL_1, stI_nk (by omega), stI_nk (by omega), stR_v, if_pos rfl]
    unfold va_cpy
    rw [if_pos (by omega), Nat.zero_add, Nat.sub_zero]; exact h2 i hi
  have key := wh_cnt (b := b_X5_take_35 sa) T.1 (fun i y => y.1 = nI i ∧ (∀ j, j ≠ sa → y.2.1 j = s4.1 j) ∧ (∀ j, j ≠ sa → y.2.2 j = s4.2 j) ∧ y.2.1 sa 1 = nI T.1 ∧ y.2.1 sa 3 = nI (col T i) ∧ y.2.2 sa 2 = lN (alkT T i)) (fun s => (∀ j, j ≠ sa → s.1 j = s4.1 j) ∧ (∀ j, j ≠ sa → s.2 j = s4.2 j) ∧ s.1 sa 1 = nI T.1 ∧ s.1 sa 3 = nI (col T T.1) ∧ s.2 sa 2 = lN (alkT T T.1)) ?_ ?_ FU 0 ((0 : Int32), s4) (Nat.zero_le _) ⟨rfl, fun _ _ => rfl, fun _ _ => rfl, s41, s43, s42⟩ (by rw [FU_]; omega)
  · obtain ⟨s, e, q1, q2, q3, q4, q5⟩ := key
    refine ⟨s, ?_, fun i hi => ⟨(q1 i hi.1).trans (a4 i hi).1, (q2 i hi.1).trans (a4 i hi).2⟩, ⟨q3, fun i hi => by rw [q1 _ (by omega)]; exact s4s i hi⟩, q4, q5⟩
    unfold f_X5_take
    simp only [nm_, e1]
    rw [hs4, e]; rfl
  · rintro i ⟨y, s⟩ hi ⟨h0, q1, q2, q3, q4, q5⟩
    have h0 : y = nI i := h0
    subst h0
    have q3 : s.1 sa 1 = nI T.1 := q3
    have q4 : s.1 sa 3 = nI (col T i) := q4
    have q5 : s.2 sa 2 = lN (alkT T i) := q5
    have hci := hc i hi
    have q6 : s.1 (sa + 1) i = nI (T.2 i) := by rw [show s.1 (sa + 1) = s4.1 (sa + 1) from q1 (sa + 1) (by omega)]; exact s4s i hi
    have hn : ¬ (nI T.1 ≤ nI i) := nI_ge hi (by omega)
    left
    unfold b_X5_take_35
    by_cases c58 : T.2 i = 58
    · have c58' : nI (T.2 i) = (58 : Int32) := by rw [c58]; rfl
      refine ⟨(nI (i + 1), stL (stI s sa 3 (nI i)) sa 2 (lN (alkT T (i + 1)))), ?_, rfl, fun j hj => ?_, fun j hj => ?_, ?_, ?_, ?_⟩
      · simp only [un_, q3, if_neg hn, inb_nI (show i < 40 by omega) (by decide), chk_t, nI_clamp (show i < 2 ^ 31 by omega), q6, if_pos c58', nm_, stI_nk (show sa + 1 ≠ sa by omega), p_alk (T.2 i) (by omega), Option.bind_some, stI_2, q5, fb_orL, nI_1]
        rfl
      · show (stL (stI s sa 3 (nI i)) sa 2 _).1 j = _; rw [stL_1, stI_nk hj]; exact q1 j hj
      · show (stL (stI s sa 3 (nI i)) sa 2 _).2 j = _; rw [stL_nk hj]; exact q2 j hj
      · show (stL (stI s sa 3 (nI i)) sa 2 _).1 sa 1 = _; rw [stL_1, stI_ne (by simp)]; exact q3
      · show (stL (stI s sa 3 (nI i)) sa 2 _).1 sa 3 = nI (col T (i + 1)); rw [stL_1, stI_same]; unfold col; rw [if_pos c58]
      · show (stL (stI s sa 3 (nI i)) sa 2 _).2 sa 2 = _; rw [stL_same]
    · have c58' : ¬ (nI (T.2 i) = (58 : Int32)) := by rw [eqc hci]; exact c58
      refine ⟨(nI (i + 1), stL (stI s sa 3 (nI (col T i))) sa 2 (lN (alkT T (i + 1)))), ?_, rfl, fun j hj => ?_, fun j hj => ?_, ?_, ?_, ?_⟩
      · simp only [un_, q3, if_neg hn, inb_nI (show i < 40 by omega) (by decide), chk_t, nI_clamp (show i < 2 ^ 31 by omega), q6, if_neg c58', nm_, stI_nk (show sa + 1 ≠ sa by omega), p_alk (T.2 i) (by omega), Option.bind_some, stI_2, q4, q5, fb_orL, nI_1]
        rfl
      · show (stL (stI s sa 3 (nI (col T i))) sa 2 _).1 j = _; rw [stL_1, stI_nk hj]; exact q1 j hj
      · show (stL (stI s sa 3 (nI (col T i))) sa 2 _).2 j = _; rw [stL_nk hj]; exact q2 j hj
      · show (stL (stI s sa 3 (nI (col T i))) sa 2 _).1 sa 1 = _; rw [stL_1, stI_ne (by simp)]; exact q3
      · show (stL (stI s sa 3 (nI (col T i))) sa 2 _).1 sa 3 = nI (col T (i + 1)); rw [stL_1, stI_same]; rw [col, if_neg c58]
      · show (stL (stI s sa 3 (nI (col T i))) sa 2 _).2 sa 2 = _; rw [stL_same]
  · rintro ⟨y, s⟩ ⟨h0, q1, q2, q3, q4, q5⟩
    have h0 : y = nI T.1 := h0
    subst h0
    have q3 : s.1 sa 1 = nI T.1 := q3
    unfold b_X5_take_35
    simp only [un_, q3, if_pos (show nI T.1 ≤ nI T.1 from nI_le (Nat.le_refl _) (by omega))]
    exact ⟨s, rfl, q1, q2, q3, q4, q5⟩
/-- the reference copies the signs -/
theorem p_copyM {σ : St} {n : Nat} {T : Tx} (hn : n < 6) (h20 : σ.1 0 20 = nI n) (hT : T.1 ≤ 40) (h : CMt σ 6 T) : ∃ s, wh FU b_X9_saying_24 ((0 : Int32), σ) = some s ∧ Ag (fun i => i ≠ 14) σ s ∧ (∀ j, j < 40 * n ∨ 40 * n + 40 ≤ j → s.1 14 j = σ.1 14 j) ∧ ∀ i, i < T.1 → s.1 14 (40 * n + i) = nI (T.2 i) := by
  obtain ⟨h1, h2⟩ := h
  refine wh_cnt (b := b_X9_saying_24) T.1 (fun i y => y.1 = nI i ∧ Ag (fun i => i ≠ 14) σ y.2 ∧ (∀ j, j < 40 * n ∨ 40 * n + 40 ≤ j → y.2.1 14 j = σ.1 14 j) ∧ ∀ j, j < i → y.2.1 14 (40 * n + j) = nI (T.2 j)) (fun s => Ag (fun i => i ≠ 14) σ s ∧ (∀ j, j < 40 * n ∨ 40 * n + 40 ≤ j → s.1 14 j = σ.1 14 j) ∧ ∀ i, i < T.1 → s.1 14 (40 * n + i) = nI (T.2 i)) ?_ ?_ FU 0 ((0 : Int32), σ) (Nat.zero_le _) ⟨rfl, Ag.refl _ _, fun _ _ => rfl, fun j hj => absurd hj (Nat.not_lt_zero j)⟩ (by rw [FU_]; omega)
  · rintro i ⟨y, s⟩ hi ⟨h0, q1, q2, q3⟩
    have h0 : y = nI i := h0
    have q1 : Ag (fun i => i ≠ 14) σ s := q1
    have q2 : ∀ j, j < 40 * n ∨ 40 * n + 40 ≤ j → s.1 14 j = σ.1 14 j := q2
    have q3 : ∀ j, j < i → s.1 14 (40 * n + j) = nI (T.2 j) := q3
    subst h0
    left
    have z20 : s.1 0 20 = nI n := by rw [(q1 0 (by decide)).1]; exact h20
    have z15 : s.1 15 6 = nI T.1 := by rw [(q1 15 (by decide)).1]; exact h1
    have z14 : s.1 14 (240 + i) = nI (T.2 i) := by rw [q2 _ (by omega)]; exact h2 i hi
    have hn' : ¬ (nI T.1 ≤ nI i) := nI_ge hi (by omega)
    have e1 : (240 : Int32) + nI i = nI (240 + i) := by rw [L240, nI_add]
    have e2 : (40 : Int32) * nI n + nI i = nI (40 * n + i) := by rw [L40, pk_mul, nI_add]
    refine ⟨(nI (i + 1), stI s 14 (40 * n + i) (nI (T.2 i))), ?_, rfl, ?_, fun j hj => ?_, fun j hj => ?_⟩
    · unfold b_X9_saying_24
      simp only [un_, six, in67, chk_t, z15, if_neg hn', e1, z20, e2, inb_nI (show 240 + i < 280 by omega) (by decide), inb_nI (show 40 * n + i < 280 by omega) (by decide), nI_clamp (show 240 + i < 2 ^ 31 by omega), nI_clamp (show 40 * n + i < 2 ^ 31 by omega), z14, nm_, nI_1]
    · exact q1.i_ (fun h => h rfl)
    · show (stI s 14 (40 * n + i) (nI (T.2 i))).1 14 j = _; rw [stI_ne (by omega)]; exact q2 j hj
    · show (stI s 14 (40 * n + i) (nI (T.2 i))).1 14 (40 * n + j) = _
      rw [stI_v]
      by_cases e : j = i
      · rw [if_pos ⟨rfl, by omega⟩, e]
      · rw [if_neg (by omega)]; exact q3 j (by omega)
  · rintro ⟨y, s⟩ ⟨h0, q1, q2, q3⟩
    have h0 : y = nI T.1 := h0
    have q1 : Ag (fun i => i ≠ 14) σ s := q1
    subst h0
    have z15 : s.1 15 6 = nI T.1 := by rw [(q1 15 (by decide)).1]; exact h1
    unfold b_X9_saying_24
    simp only [un_, six, in67, chk_t, z15, if_pos (show nI T.1 ≤ nI T.1 from nI_le (Nat.le_refl _) (by omega))]
    exact ⟨s, rfl, q1, q2, q3⟩
def nsay (A : Ab) : Ab := (aP A, aH A, aN A + 1, (fun s => if s = aN A then aT A 6 else if s = 6 then (0, (aT A 6).2) else aT A s), aW A, aS A)
theorem ok_saying : Ok_saying (Rel HS WS OS SS) := by
  intro k σX σM hk hR
  have hR0 := hR
  obtain ⟨A, hV, hX, hM⟩ := hR
  have x3 := hX.2.2.1
  have m3 := hM.2.2.1
  have hN := hV.2.1
  obtain ⟨t1, t2⟩ := hV.2.2.1 6 (Or.inr rfl)
  have t3 := x3.2.1 6 (Or.inr rfl)
  have t4 := m3.2 6 (Or.inr rfl)
  by_cases h6 : aN A = 6
  · exact ansE HS WS OS SS hR0 (r := -4) (by unfold f_X8_saying; rw [x3.1, h6]; rfl) (by unfold f_X9_saying; rw [m3.1, h6]; rfl)
  have hn : aN A < 6 := by omega
  have c1 : nI (aN A) < (6 : Int32) := nI_lt hn (by decide)
  have c2 : ¬ (nI (aN A) = (6 : Int32)) := by rw [L6, eq_nI (by omega) (by decide)]; exact h6
  obtain ⟨r, e1, f1⟩ := p_firstFault t1 (fun i hi => (t2 i hi).2) t3
  obtain ⟨r', e2, f2⟩ := p_fault t1 (fun i hi => (t2 i hi).2) t4
  have := f1.one f2
  subst this
  have e1 : f_X5_firstFault 69 σX = some r := e1
  rcases f1.ok t1 with ⟨rfl, hok⟩ | ⟨j, hj, rfl⟩
  rotate_left
  · have hne : ¬ (nI j = (-6 : Int32)) := fun e => by
      have := congrArg Int32.toInt e
      rw [nI_toInt (by omega), show (-6 : Int32).toInt = -6 from rfl] at this; omega
    exact ansE HS WS OS SS hR0 (r := -5) (by unfold f_X8_saying; rw [x3.1, if_pos c1, e1, Option.bind_some, if_neg hne]) (by unfold f_X9_saying; rw [m3.1, if_neg c2, e2, Option.bind_some, if_neg (nI_pos (by omega))])
  obtain ⟨s, p1, p2, p3, p4, p5⟩ := p_take hn t1 (fun i hi => (t2 i hi).2) t3
  obtain ⟨u, u1, u2, u3, u4⟩ := p_copyM hn m3.1 t1 t4
  have s87 : s.1 87 2 = nI (aN A) := by rw [(p2 87 (by omega)).1]; exact x3.1
  have u20 : u.1 0 20 = nI (aN A) := by rw [(u2 0 (by decide)).1]; exact m3.1
  have u15 : u.1 15 6 = nI (aT A 6).1 := by rw [(u2 15 (by decide)).1]; exact t4.1
  have y87 : (stI s 69 1 0).1 87 2 = nI (aN A) := by rw [stI_nk (by decide)]; exact s87
  have y20 : (stI (stI u 15 (aN A) (nI (aT A 6).1)) 15 6 0).1 0 20 = nI (aN A) := by rw [stI_nk (by decide), stI_nk (by decide)]; exact u20
  have dec : nI (aN A + 1) - (1 : Int32) = nI (aN A) := by rw [show (1 : Int32) = nI 1 from rfl, pk_sub (by omega), Nat.add_sub_cancel]
  have hE : TxE A (nsay A) := ⟨rfl, rfl, Nat.le_succ _, fun i hi => by show (if i = aN A then _ else if i = 6 then _ else aT A i) = _; rw [if_neg (by omega), if_neg (by omega)], rfl, rfl⟩
  have tn : aT (nsay A) (aN A) = aT A 6 := by show (if aN A = aN A then _ else _) = _; rw [if_pos rfl]
  have t6 : aT (nsay A) 6 = (0, (aT A 6).2) := by show (if 6 = aN A then _ else if 6 = 6 then _ else _) = _; rw [if_neg (by omega), if_pos rfl]
  refine ⟨nI (aN A), stI (stI s 69 1 0) 87 2 (nI (aN A + 1)), stI (stI (stI u 15 (aN A) (nI (aT A 6).1)) 15 6 0) 0 20 (nI (aN A + 1)), ?_, ?_, nsay A, ?_, ?_, ?_⟩
  · unfold f_X8_saying
    rw [x3.1, if_pos c1, e1, Option.bind_some, if_pos rfl, inb_nI hn (by decide), chk_t, nm_, nI_clamp (by omega), p1, Option.bind_some, nm_, nm_, y87, nI_1, stI_same, dec]
  · unfold f_X9_saying
    rw [m3.1, if_neg c2, e2, Option.bind_some, if_pos (by decide), u1, Option.bind_some, in67, chk_t, u20, inb_nI (show aN A < 7 by omega) (by decide), chk_t, nm_, chk_t, nm_, nm_, six, nI_clamp (by omega), u15, y20, nI_1, stI_same, dec]
  · obtain ⟨v1, v2, v3, v4, v5⟩ := hV
    refine ⟨v1, by show aN A + 1 ≤ 6; omega, fun i hi => ?_, fun i hi => ?_, v5⟩
    · by_cases e : i = aN A
      · subst e; rw [tn]; exact ⟨t1, t2⟩
      · by_cases e' : i = 6
        · subst e'; rw [t6]; exact ⟨Nat.zero_le 40, fun i hi => absurd hi (Nat.not_lt_zero i)⟩
        · have hi : i < aN A + 1 ∨ i = 6 := hi
          rw [hE.2.2.2.1 i (by omega)]; exact v3 i (Or.inl (by omega))
    · have hi : i < aN A + 1 := hi
      by_cases e : i = aN A
      · subst e; rw [tn]; exact hok
      · rw [hE.2.2.2.1 i (by omega)]; exact v4 i (by omega)
  · refine hE.x hX (((p2.mono (by omega)).i_ (by omega)).i_ (by omega)) ⟨by rw [stI_same]; rfl, fun i hi => ?_, fun i hi => ?_⟩
    · by_cases e : i = aN A
      · subst e; rw [tn]
        unfold CXt
        rw [stI_nk (by omega), stI_nk (by omega), stI_nk (by omega), stI_nk (by omega)]; exact p3
      · by_cases e' : i = 6
        · subst e'; rw [t6]
          exact ⟨by rw [stI_nk (by decide)]; rw [stI_same]; rfl, fun i hi => absurd hi (Nat.not_lt_zero i)⟩
        · have hi : i < aN A + 1 ∨ i = 6 := hi
          rw [hE.2.2.2.1 i (by omega)]
          unfold CXt
          rw [stI_nk (by omega), stI_nk (by omega), stI_nk (by omega), stI_nk (by omega), (p2 _ (by omega)).1, (p2 _ (by omega)).1]
          exact x3.2.1 i (Or.inl (by omega))
    · have hi : i < aN A + 1 := hi
      rw [stI_nk (by omega), stI_nk (by omega), stI_2, stI_2]
      by_cases e : i = aN A
      · subst e; rw [tn]; exact ⟨p4, p5⟩
      · rw [hE.2.2.2.1 i (by omega), (p2 _ (by omega)).1, (p2 _ (by omega)).2]
        exact x3.2.2 i (by omega)
  · refine hE.m hM ((((u2.mono (by omega)).i_ (by omega)).i_ (by omega)).i_ (by omega)) (fun j hj => by rw [stI_ne (fun q => hj q.2), stI_nk (by decide), stI_nk (by decide), (u2 0 (by decide)).1]) ⟨by rw [stI_same]; rfl, fun i hi => ?_⟩
    have w14 : (stI (stI (stI u 15 (aN A) (nI (aT A 6).1)) 15 6 0) 0 20 (nI (aN A + 1))).1 14 = u.1 14 := by rw [stI_nk (by decide), stI_nk (by decide), stI_nk (by decide)]
    unfold CMt
    rw [w14, stI_nk (show 15 ≠ 0 by decide), stI_v, stI_v]
    by_cases e : i = aN A
    · subst e; rw [tn, if_neg (by omega), if_pos ⟨rfl, rfl⟩]; exact ⟨rfl, u4⟩
    · by_cases e' : i = 6
      · subst e'; rw [t6, if_pos ⟨rfl, rfl⟩]; exact ⟨rfl, fun i hi => absurd hi (Nat.not_lt_zero i)⟩
      · have hi : i < aN A + 1 ∨ i = 6 := hi
        have hi' : i < aN A := by omega
        rw [hE.2.2.2.1 i hi', if_neg (by omega), if_neg (by omega), (u2 15 (by decide)).1]
        have hl := (hV.2.2.1 i (Or.inl hi')).1
        refine ⟨(m3.2 i (Or.inl hi')).1, fun j hj => ?_⟩
        rw [u3 _ (by omega)]; exact (m3.2 i (Or.inl hi')).2 j hj
end PR4
