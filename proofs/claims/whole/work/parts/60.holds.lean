/-! ===== holds ===== -/
noncomputable def hM_ (T : Tx) (n : Nat) : Bool := mtq T (n / 256) (n % 256)
noncomputable def hB_ (T : Tx) (P : Pg) (hu : Nat) (Q : Pg) (hu' n : Nat) : Bool := mtq T (n / 256) (n % 256) && !asq T P hu (n / 256) Q hu' (n % 256)
noncomputable def hG_ (T : Tx) (P : Pg) (hu : Nat) (Q : Pg) (hu' n : Nat) : Bool := mtq T (n / 256) (n % 256) && asq T P hu (n / 256) Q hu' (n % 256)
/-- no good one for a START -/
def hL_ (G : Nat → Bool) (s : Nat) : Bool := decide (cnt G (256 * s + 256) = cnt G (256 * s))
noncomputable def HSp : HSt := fun T P hu Q hu' => (nI (cnt (hB_ T P hu Q hu') 65536), fst_ (hB_ T P hu Q hu') 65536, nI (cnt (hM_ T) 65536), fst_ (hL_ (hG_ T P hu Q hu')) 256)
def Tri (M B G : Nat → Bool) : Prop := ∀ i, (M i = false ∧ B i = false ∧ G i = false) ∨ (M i = true ∧ B i = true ∧ G i = false) ∨ (M i = true ∧ B i = false ∧ G i = true)
theorem tri_p (T : Tx) (P : Pg) (hu : Nat) (Q : Pg) (hu' : Nat) : Tri (hM_ T) (hB_ T P hu Q hu') (hG_ T P hu Q hu') := by
  intro i
  unfold hM_ hB_ hG_
  cases mtq T (i / 256) (i % 256) <;> cases asq T P hu (i / 256) Q hu' (i % 256) <;> simp
theorem Tri.sum {M B G : Nat → Bool} (h : Tri M B G) : ∀ n, cnt M n = cnt B n + cnt G n := by
  intro n
  induction n with
  | zero => rfl
  | succ n ih =>
    rcases h n with ⟨a, b, c⟩ | ⟨a, b, c⟩ | ⟨a, b, c⟩
    · rw [cnt_f a, cnt_f b, cnt_f c, ih]
    · rw [cnt_t a, cnt_t b, cnt_f c, ih]; omega
    · rw [cnt_t a, cnt_f b, cnt_t c, ih]; omega
theorem cnt_mono (Q : Nat → Bool) (a : Nat) : ∀ d, cnt Q a ≤ cnt Q (a + d) := by
  intro d
  induction d with
  | zero => exact Nat.le_refl _
  | succ d ih => rw [show a + (d + 1) = a + d + 1 from rfl, cnt]; split <;> omega
theorem dm {x o : Nat} (ho : o < 256) : (256 * x + o) / 256 = x ∧ (256 * x + o) % 256 = o := by omega
/-- the class: one START -/
theorem p_jStart {σ : St} {T : Tx} {P Q : Pg} (hP : VP P) (hQ : VP Q) {qa hu hu' x : Nat} (hqa : qa + 12 < 57) (hx : x < 256) (h1 : CX1 σ) (hA : Akd σ T P hu x (alkT T T.1)) (tr : ∀ y, y < 256 → TraceRow σ qa Q hu' y) (e2 : σ.1 72 2 = nI (cnt (hB_ T P hu Q hu') (256 * x))) (e3 : σ.1 72 3 = fst_ (hB_ T P hu Q hu') (256 * x)) (e4 : σ.1 72 4 = nI (cnt (hM_ T) (256 * x))) : ∃ σ', f_X3_judgeStart (nI x) qa σ = some σ' ∧ σ'.1 72 2 = nI (cnt (hB_ T P hu Q hu') (256 * x + 256)) ∧ σ'.1 72 3 = fst_ (hB_ T P hu Q hu') (256 * x + 256) ∧ σ'.1 72 4 = nI (cnt (hM_ T) (256 * x + 256)) ∧ σ'.1 72 5 = σ.1 72 5 ∧ Ag (fun k => k ≠ 72) σ σ' := by
  have dB : ∀ o, o < 256 → hB_ T P hu Q hu' (256 * x + o) = (mtq T x o && !asq T P hu x Q hu' o) := fun o ho => by unfold hB_; rw [(dm ho).1, (dm ho).2]
  have dM : ∀ o, o < 256 → hM_ T (256 * x + o) = mtq T x o := fun o ho => by unfold hM_; rw [(dm ho).1, (dm ho).2]
  generalize hB_ T P hu Q hu' = B at *
  generalize hM_ T = M at *
  have key := wh_cnt (b := b_X3_judgeStart_2 (nI x) qa) 256 (fun o y => y.1 = nI o ∧ y.2.1 72 2 = nI (cnt B (256 * x + o)) ∧ y.2.1 72 3 = fst_ B (256 * x + o) ∧ y.2.1 72 4 = nI (cnt M (256 * x + o)) ∧ y.2.1 72 5 = σ.1 72 5 ∧ Ag (fun k => k ≠ 72) σ y.2) (fun σ' => σ'.1 72 2 = nI (cnt B (256 * x + 256)) ∧ σ'.1 72 3 = fst_ B (256 * x + 256) ∧ σ'.1 72 4 = nI (cnt M (256 * x + 256)) ∧ σ'.1 72 5 = σ.1 72 5 ∧ Ag (fun k => k ≠ 72) σ σ') ?_ ?_ FU 0 ((0 : Int32), σ) (Nat.zero_le _) ⟨rfl, e2, e3, e4, rfl, Ag.refl _ _⟩ (by rw [FU_]; omega)
  · obtain ⟨s, e, q⟩ := key
    exact ⟨s, by unfold f_X3_judgeStart; rw [e]; rfl, q⟩
  · rintro o ⟨y, s⟩ ho ⟨h0, q2, q3, q4, q5, ag⟩
    have h0 : y = nI o := h0
    subst h0
    dsimp only at q2 q3 q4 q5 ag
    left
    have hAs : Akd s T P hu x (alkT T T.1) := by unfold Akd; rw [(ag 71 (by decide)).1, (ag 71 (by decide)).2]; exact hA
    have hX1 : CX1 s := h1.ag (ag.mono (by omega))
    have em := p_meantX ho hX1 hAs
    unfold b_X3_judgeStart_2
    rw [un_, if_neg (show ¬ ((256 : Int32) ≤ nI o) from nI_ge ho (by decide)), em, Option.bind_some]
    cases hm : mtq T x o
    · rw [if_pos (by decide), nm_, nI_1]
      have b1 : B (256 * x + o) = false := by rw [dB o ho, hm]; rfl
      have m1 : M (256 * x + o) = false := by rw [dM o ho, hm]
      exact ⟨_, rfl, rfl, by rw [show 256 * x + (o + 1) = 256 * x + o + 1 from rfl, cnt_f b1]; exact q2, by rw [show 256 * x + (o + 1) = 256 * x + o + 1 from rfl, fst_f b1]; exact q3, by rw [show 256 * x + (o + 1) = 256 * x + o + 1 from rfl, cnt_f m1]; exact q4, q5, ag⟩
    · rw [if_neg (by decide), nm_]
      have m1 : M (256 * x + o) = true := by rw [dM o ho, hm]
      have ag2 : Ag (fun k => k ≠ 72) σ (stI s 72 4 (s.1 72 4 + 1)) := ag.i_ (fun h => h rfl)
      have hAs2 : Akd (stI s 72 4 (s.1 72 4 + 1)) T P hu x (alkT T T.1) := by unfold Akd; rw [(ag2 71 (by decide)).1, (ag2 71 (by decide)).2]; exact hA
      rw [p_brokenX' hP hQ hx ho ((tr o ho).ag (ag2.mono (by omega))) hAs2, Option.bind_some]
      have z4 : s.1 72 4 + 1 = nI (cnt M (256 * x + (o + 1))) := by rw [q4, nI_1, show 256 * x + (o + 1) = 256 * x + o + 1 from rfl, cnt_t m1]
      rw [z4] at ag2 ⊢
      cases ha : asq T P hu x Q hu' o
      · have b1 : B (256 * x + o) = true := by rw [dB o ho, hm, ha]; rfl
        rw [if_neg (by decide), nm_]
        have g2 : (stI s 72 4 (nI (cnt M (256 * x + (o + 1))))).1 72 2 + 1 = nI (cnt B (256 * x + (o + 1))) := by rw [stI_ne (by decide), q2, nI_1, show 256 * x + (o + 1) = 256 * x + o + 1 from rfl, cnt_t b1]
        rw [g2]
        have g3 : (stI (stI s 72 4 (nI (cnt M (256 * x + (o + 1))))) 72 2 (nI (cnt B (256 * x + (o + 1))))).1 72 3 = fst_ B (256 * x + o) := by rw [stI_ne (by decide), stI_ne (by decide)]; exact q3
        rw [g3]
        have fin : ∀ v, v = fst_ B (256 * x + (o + 1)) → (stI (stI (stI s 72 4 (nI (cnt M (256 * x + (o + 1))))) 72 2 (nI (cnt B (256 * x + (o + 1))))) 72 3 v).1 72 2 = nI (cnt B (256 * x + (o + 1))) ∧ (stI (stI (stI s 72 4 (nI (cnt M (256 * x + (o + 1))))) 72 2 (nI (cnt B (256 * x + (o + 1))))) 72 3 v).1 72 3 = fst_ B (256 * x + (o + 1)) ∧ (stI (stI (stI s 72 4 (nI (cnt M (256 * x + (o + 1))))) 72 2 (nI (cnt B (256 * x + (o + 1))))) 72 3 v).1 72 4 = nI (cnt M (256 * x + (o + 1))) ∧ (stI (stI (stI s 72 4 (nI (cnt M (256 * x + (o + 1))))) 72 2 (nI (cnt B (256 * x + (o + 1))))) 72 3 v).1 72 5 = σ.1 72 5 ∧ Ag (fun k => k ≠ 72) σ (stI (stI (stI s 72 4 (nI (cnt M (256 * x + (o + 1))))) 72 2 (nI (cnt B (256 * x + (o + 1))))) 72 3 v) := by
          intro v hv
          exact ⟨by rw [stI_ne (by decide), stI_same], by rw [stI_same]; exact hv, by rw [stI_ne (by decide), stI_ne (by decide), stI_same], by rw [stI_ne (by decide), stI_ne (by decide), stI_ne (by decide)]; exact q5, (ag2.i_ (fun h => h rfl)).i_ (fun h => h rfl)⟩
        by_cases c : cnt B (256 * x + o) = 0
        · rw [if_pos ((fst6 B _ (by omega)).mpr c), nm_, nm_, nI_1]
          refine ⟨_, rfl, rfl, fin _ ?_⟩
          rw [show 256 * x + (o + 1) = 256 * x + o + 1 from rfl, fst_t0 b1 c, L256, pk_mul, nI_add, Nat.mul_comm]
        · rw [if_neg (fun q => c ((fst6 B _ (by omega)).mp q)), nm_, nm_, nI_1]
          refine ⟨_, rfl, rfl, fin _ ?_⟩
          rw [show 256 * x + (o + 1) = 256 * x + o + 1 from rfl, fst_t1 c]
      · have b1 : B (256 * x + o) = false := by rw [dB o ho, hm, ha]; rfl
        rw [if_pos (by decide), nm_, nI_1]
        refine ⟨_, rfl, rfl, ?_, ?_, stI_same _ _ _ _, ?_, ag2⟩
        · show (stI s 72 4 _).1 72 2 = _
          rw [stI_ne (by decide), show 256 * x + (o + 1) = 256 * x + o + 1 from rfl, cnt_f b1]; exact q2
        · show (stI s 72 4 _).1 72 3 = _
          rw [stI_ne (by decide), show 256 * x + (o + 1) = 256 * x + o + 1 from rfl, fst_f b1]; exact q3
        · show (stI s 72 4 _).1 72 5 = _
          rw [stI_ne (by decide)]; exact q5
  · rintro ⟨y, s⟩ ⟨h0, q⟩
    have h0 : y = nI 256 := h0
    subst h0
    exact ⟨s, by unfold b_X3_judgeStart_2; rw [un_, if_pos (by decide)], q⟩
/-- the class: all PAIRS -/
theorem p_judge {k : Nat} {A : Ab} {σ : St} {s p q : Nat} (hV : VA A) (hk : k ≤ 512) (h1 : CX1 σ) (h2 : CX2 k A σ) (h3 : CX3 A σ) (hs : s < aN A) (hp : p < 4) (hq : q < 4) : ∃ σ1 σ', f_X3_judge (57 + 2 * s) (4 + 13 * p) (4 + 13 * q) σ = some σ' ∧ HSp (aT A s) (aP A p) (aH A p) (aP A q) (aH A q) = (σ'.1 72 2, σ'.1 72 3, σ'.1 72 4, σ'.1 72 5) ∧ CX2 k A σ1 ∧ Kp A σ σ1 ∧ Ag (fun k => k ≠ 71 ∧ k ≠ 72) σ1 σ' := by
  have hP := (hV.1 p hp).1
  have hQ := (hV.1 q hq).1
  have h6 := hV.2.1
  have hok := hV.2.2.2.1 s hs
  obtain ⟨hT, hc⟩ := hV.2.2.1 s (Or.inl hs)
  obtain ⟨x1, eX1, cX1, tX1, kX1⟩ := h2.all hV hk h1 hp
  obtain ⟨x2, eX2, cX2, tX2, kX2⟩ := cX1.all hV hk (h1.kp kX1) hq
  have hC1 : CX1 x2 := h1.kp (kX1.trans kX2)
  have hS : CXs x2 (57 + 2 * s) (aT A s) := (h3.s hs).ag ((kX1.trans kX2).1.mono (by omega))
  have tX1' : ∀ m, m < 256 → TraceRow x2 (4 + 13 * p) (aP A p) (aH A p) m := fun m hm => kX2.2 p m hp hm (tX1 m hm)
  unfold HSp
  have tri := tri_p (aT A s) (aP A p) (aH A p) (aP A q) (aH A q)
  have key := wh_cnt (b := b_X3_judge_33 (57 + 2 * s) (4 + 13 * p) (4 + 13 * q)) 256 (fun x y => y.1 = nI x ∧ y.2.1 72 2 = nI (cnt (hB_ (aT A s) (aP A p) (aH A p) (aP A q) (aH A q)) (256 * x)) ∧ y.2.1 72 3 = fst_ (hB_ (aT A s) (aP A p) (aH A p) (aP A q) (aH A q)) (256 * x) ∧ y.2.1 72 4 = nI (cnt (hM_ (aT A s)) (256 * x)) ∧ y.2.1 72 5 = fst_ (hL_ (hG_ (aT A s) (aP A p) (aH A p) (aP A q) (aH A q))) x ∧ Ag (fun k => k ≠ 71 ∧ k ≠ 72) x2 y.2) (fun σ' => (nI (cnt (hB_ (aT A s) (aP A p) (aH A p) (aP A q) (aH A q)) 65536), fst_ (hB_ (aT A s) (aP A p) (aH A p) (aP A q) (aH A q)) 65536, nI (cnt (hM_ (aT A s)) 65536), fst_ (hL_ (hG_ (aT A s) (aP A p) (aH A p) (aP A q) (aH A q))) 256) = (σ'.1 72 2, σ'.1 72 3, σ'.1 72 4, σ'.1 72 5) ∧ Ag (fun k => k ≠ 71 ∧ k ≠ 72) x2 σ') ?_ ?_ FU 0 ((0 : Int32), stI (stI (stI (stI x2 72 2 0) 72 3 (-6)) 72 4 0) 72 5 (-6)) (Nat.zero_le _) ⟨rfl, by rw [stI_ne (by decide), stI_ne (by decide), stI_ne (by decide), stI_same]; rfl, by rw [stI_ne (by decide), stI_ne (by decide), stI_same]; rfl, by rw [stI_ne (by decide), stI_same]; rfl, by rw [stI_same]; rfl, ((((Ag.refl _ _).i_ (fun h => h.2 rfl)).i_ (fun h => h.2 rfl)).i_ (fun h => h.2 rfl)).i_ (fun h => h.2 rfl)⟩ (by rw [FU_]; omega)
  · obtain ⟨s', e, q1, q2⟩ := key
    exact ⟨x2, s', by unfold f_X3_judge; rw [eX1, Option.bind_some, eX2, Option.bind_some, nm_, nm_, nm_, nm_, e]; rfl, q1, cX2, kX1.trans kX2, q2⟩
  · rintro x ⟨y, st⟩ hx ⟨h0, q2, q3, q4, q5, ag⟩
    have h0 : y = nI x := h0
    subst h0
    dsimp only at q2 q3 q4 q5 ag
    left
    obtain ⟨s8, e8, ak, ag8⟩ := p_ask (σ := st) (sa := 57 + 2 * s) (pa := 4 + 13 * p) (by omega) (by omega) hok hT hc (hS.ag (ag.mono (by omega))) hx ((tX1' x hx).ag (ag.mono (by omega)))
    have ag8' : Ag (fun k => k ≠ 71 ∧ k ≠ 72) x2 s8 := ag.trans (ag8.mono (fun k h => h.1))
    have k8 := (ag8 72 (by decide)).1
    obtain ⟨s9, e9, r2, r3, r4, r5, ag9⟩ := p_jStart (σ := s8) (qa := 4 + 13 * q) hP hQ (by omega) hx (hC1.ag (ag8'.mono (by omega))) ak (fun y hy => (tX2 y hy).ag (ag8'.mono (by omega))) (by rw [k8]; exact q2) (by rw [k8]; exact q3) (by rw [k8]; exact q4)
    have ag9' : Ag (fun k => k ≠ 71 ∧ k ≠ 72) x2 s9 := ag8'.trans (ag9.mono (fun k h => h.2))
    rw [k8, q5] at r5
    generalize hG_ (aT A s) (aP A p) (aH A p) (aP A q) (aH A q) = G at *
    generalize hB_ (aT A s) (aP A p) (aH A p) (aP A q) (aH A q) = B at *
    generalize hM_ (aT A s) = M at *
    have su := tri.sum
    have d1 : st.1 72 4 - st.1 72 2 = nI (cnt G (256 * x)) := by rw [q4, q2, pk_sub (by rw [su]; omega), su]; congr 1; omega
    have d2 : s9.1 72 4 - s9.1 72 2 = nI (cnt G (256 * x + 256)) := by rw [r4, r2, pk_sub (by rw [su]; omega), su]; congr 1; omega
    have lG := cnt_le G (256 * x)
    have lG' := cnt_le G (256 * x + 256)
    unfold b_X3_judge_33
    rw [un_, if_neg (show ¬ ((256 : Int32) ≤ nI x) from nI_ge hx (by decide)), nm_, e8, Option.bind_some, e9, Option.bind_some, r5, d1, d2, nm_, nm_, nm_, nI_1]
    have go : ∀ (s' : St), s'.1 72 2 = nI (cnt B (256 * x + 256)) → s'.1 72 3 = fst_ B (256 * x + 256) → s'.1 72 4 = nI (cnt M (256 * x + 256)) → s'.1 72 5 = fst_ (hL_ G) (x + 1) → Ag (fun k => k ≠ 71 ∧ k ≠ 72) x2 s' → ∃ s'', (some (Sum.inl (nI (x + 1), s')) : Option ((Int32 × St) ⊕ St)) = some (.inl s'') ∧ (s''.1 = nI (x + 1) ∧ s''.2.1 72 2 = nI (cnt B (256 * (x + 1))) ∧ s''.2.1 72 3 = fst_ B (256 * (x + 1)) ∧ s''.2.1 72 4 = nI (cnt M (256 * (x + 1))) ∧ s''.2.1 72 5 = fst_ (hL_ G) (x + 1) ∧ Ag (fun k => k ≠ 71 ∧ k ≠ 72) x2 s''.2) := by
      intro s' a b c d e
      exact ⟨_, rfl, rfl, a, b, c, d, e⟩
    by_cases cl : cnt (hL_ G) x = 0
    · rw [if_pos ((fst6 (hL_ G) x (by omega)).mpr cl)]
      by_cases c : cnt G (256 * x + 256) = cnt G (256 * x)
      · have hl : hL_ G x = true := decide_eq_true c
        rw [if_pos (by rw [c])]
        exact go _ (by rw [stI_ne (by decide)]; exact r2) (by rw [stI_ne (by decide)]; exact r3) (by rw [stI_ne (by decide)]; exact r4) (by rw [stI_same, fst_t0 hl cl]) (ag9'.i_ (fun h => h.2 rfl))
      · have hl : hL_ G x = false := decide_eq_false c
        rw [if_neg (by rw [eq_nI (by omega) (by omega)]; exact c)]
        exact go _ r2 r3 r4 (by rw [r5, fst_f hl]) ag9'
    · rw [if_neg (fun q => cl ((fst6 (hL_ G) x (by omega)).mp q))]
      exact go _ r2 r3 r4 (by rw [r5, fst_t1 cl]) ag9'
  · rintro ⟨y, st⟩ ⟨h0, q2, q3, q4, q5, ag⟩
    have h0 : y = nI 256 := h0
    subst h0
    exact ⟨st, by unfold b_X3_judge_33; rw [un_, if_pos (by decide)], by rw [show (65536 : Nat) = 256 * 256 from rfl]; dsimp only at q2 q3 q4 q5; rw [q2, q3, q4, q5], ag⟩
