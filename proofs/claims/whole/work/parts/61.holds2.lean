/-! ===== holds: the reference ===== -/
def SH (k j : Nat) : Prop := k = 0 ∧ 23 ≤ j ∧ j ≤ 26
theorem bIt : (bI true = (0 : Int32)) = False := eq_false (by decide)
theorem bIf : (bI false = (0 : Int32)) = True := eq_true (by decide)
theorem CMt.fr {σ σ' : St} {s : Nat} {T : Tx} {S : Nat → Nat → Prop} (h : CMt σ s T) (hf : Fr S σ σ') (hs : ∀ k j, S k j → k ≠ 14 ∧ k ≠ 15) : CMt σ' s T := by
  unfold CMt
  refine ⟨by rw [hf.1 15 s (fun q => (hs _ _ q).2 rfl)]; exact h.1, fun i hi => by rw [hf.1 14 _ (fun q => (hs _ _ q).1 rfl)]; exact h.2 i hi⟩
theorem RunM.frS {σ σ' : St} {a hu m : Nat} {P : Pg} {S : Nat → Nat → Prop} (h : RunM σ a P hu m) (hf : Fr S σ σ') (hs : ∀ k j, S k j → k < 9 ∨ 13 < k) : RunM σ' a P hu m := h.ag (fun k h1 h2 => funext fun j => hf.1 k j (fun q => by have := hs k j q; omega))
theorem p_fp36 {σ : St} {s hu hu' x : Nat} {T : Tx} {P Q : Pg} (hs : s < 6) (h : okT T) (hT : T.1 ≤ 40) (hc : ∀ i, i < T.1 → 33 ≤ T.2 i ∧ T.2 i ≤ 126) (hM : CMt σ s T) (hP : VP P) (hQ : VP Q) (hx : x < 256) (r1 : RunM σ x P hu x) (r2 : ∀ y, y < 256 → RunM σ (256 + y) Q hu' y) (e23 : σ.1 0 23 = nI (cnt (hB_ T P hu Q hu') (256 * x))) (e24 : σ.1 0 24 = fst_ (hB_ T P hu Q hu') (256 * x)) (e25 : σ.1 0 25 = nI (cnt (hM_ T) (256 * x))) : ∃ b σ', wh FU (b_X9_findPairs_36 (nI s) (nI x)) ((0 : Int32), (0 : Int32), σ) = some (bI b, σ') ∧ (b = false ↔ cnt (hG_ T P hu Q hu') (256 * x + 256) = cnt (hG_ T P hu Q hu') (256 * x)) ∧ σ'.1 0 23 = nI (cnt (hB_ T P hu Q hu') (256 * x + 256)) ∧ σ'.1 0 24 = fst_ (hB_ T P hu Q hu') (256 * x + 256) ∧ σ'.1 0 25 = nI (cnt (hM_ T) (256 * x + 256)) ∧ σ'.1 0 26 = σ.1 0 26 ∧ Fr SH σ σ' := by
  have dB : ∀ o, o < 256 → hB_ T P hu Q hu' (256 * x + o) = (mtq T x o && !asq T P hu x Q hu' o) := fun o ho => by unfold hB_; rw [(dm ho).1, (dm ho).2]
  have dG : ∀ o, o < 256 → hG_ T P hu Q hu' (256 * x + o) = (mtq T x o && asq T P hu x Q hu' o) := fun o ho => by unfold hG_; rw [(dm ho).1, (dm ho).2]
  have dM : ∀ o, o < 256 → hM_ T (256 * x + o) = mtq T x o := fun o ho => by unfold hM_; rw [(dm ho).1, (dm ho).2]
  generalize hB_ T P hu Q hu' = B at *
  generalize hG_ T P hu Q hu' = G at *
  generalize hM_ T = M at *
  have key := wh_cnt (b := b_X9_findPairs_36 (nI s) (nI x)) 256 (fun o y => ∃ b st, y = (bI b, nI o, st) ∧ (b = false ↔ cnt G (256 * x + o) = cnt G (256 * x)) ∧ st.1 0 23 = nI (cnt B (256 * x + o)) ∧ st.1 0 24 = fst_ B (256 * x + o) ∧ st.1 0 25 = nI (cnt M (256 * x + o)) ∧ st.1 0 26 = σ.1 0 26 ∧ Fr SH σ st) (fun r => ∃ b σ', r = (bI b, σ') ∧ (b = false ↔ cnt G (256 * x + 256) = cnt G (256 * x)) ∧ σ'.1 0 23 = nI (cnt B (256 * x + 256)) ∧ σ'.1 0 24 = fst_ B (256 * x + 256) ∧ σ'.1 0 25 = nI (cnt M (256 * x + 256)) ∧ σ'.1 0 26 = σ.1 0 26 ∧ Fr SH σ σ') ?_ ?_ FU 0 ((0 : Int32), (0 : Int32), σ) (Nat.zero_le _) ⟨false, σ, rfl, ⟨fun _ => rfl, fun _ => rfl⟩, e23, e24, e25, rfl, Fr.refl _ _⟩ (by rw [FU_]; omega)
  · obtain ⟨r, e, b, σ', rfl, q⟩ := key
    exact ⟨b, σ', e, q⟩
  · rintro o y ho ⟨b, st, rfl, q0, q3, q4, q5, q6, qf⟩
    left
    have hMs : CMt st s T := hM.fr qf (fun k j q => by have := q.1; omega)
    have R1 : RunM st x P hu x := r1.frS qf (fun k j q => by have := q.1; omega)
    have R2 : RunM st (256 + o) Q hu' o := (r2 o ho).frS qf (fun k j q => by have := q.1; omega)
    have em := p_meantM (by omega) h hT hc hMs hx ho
    have ea := p_asSaid hs h hT hc hMs hP hQ hx ho (show x < 512 by omega) (show 256 + o < 512 by omega) R1 R2
    have e256 : (256 : Int32) + nI o = nI (256 + o) := by rw [L256, nI_add]
    have ex : (256 : Int32) * nI x + nI o = nI (256 * x + o) := by rw [L256, pk_mul, nI_add]
    have sc : 256 * x + (o + 1) = 256 * x + o + 1 := rfl
    have mo := cnt_mono G (256 * x) o
    have lB := cnt_le B (256 * x + o)
    have cB := cnt0 B (show 256 * x + o ≤ 65536 by omega)
    cases hm : mtq T x o
    · have b1 : B (256 * x + o) = false := by rw [dB o ho, hm]; rfl
      have g1 : G (256 * x + o) = false := by rw [dG o ho, hm]; rfl
      have m1 : M (256 * x + o) = false := by rw [dM o ho, hm]
      refine ⟨_, ?_, b, st, rfl, by rw [sc, cnt_f g1]; exact q0, by rw [sc, cnt_f b1]; exact q3, by rw [sc, fst_f b1]; exact q4, by rw [sc, cnt_f m1]; exact q5, q6, qf⟩
      unfold b_X9_findPairs_36
      rw [un_, un_, if_neg (show ¬ ((256 : Int32) ≤ nI o) from nI_ge ho (by decide)), em, Option.bind_some, hm, if_pos (by decide), nm_, nI_1]
    · have m1 : M (256 * x + o) = true := by rw [dM o ho, hm]
      have go : ∀ (v23 v24 : Int32) (b' : Bool), (b' = false ↔ cnt G (256 * x + (o + 1)) = cnt G (256 * x)) → v23 = nI (cnt B (256 * x + (o + 1))) → v24 = fst_ B (256 * x + (o + 1)) → b_X9_findPairs_36 (nI s) (nI x) (bI b, nI o, st) = some (.inl (bI b', nI (o + 1), stI (stI (stI st 0 25 (st.1 0 25 + 1)) 0 24 v24) 0 23 v23)) → ∃ s', b_X9_findPairs_36 (nI s) (nI x) (bI b, nI o, st) = some (.inl s') ∧ ∃ b st, s' = (bI b, nI (o + 1), st) ∧ (b = false ↔ cnt G (256 * x + (o + 1)) = cnt G (256 * x)) ∧ st.1 0 23 = nI (cnt B (256 * x + (o + 1))) ∧ st.1 0 24 = fst_ B (256 * x + (o + 1)) ∧ st.1 0 25 = nI (cnt M (256 * x + (o + 1))) ∧ st.1 0 26 = σ.1 0 26 ∧ Fr SH σ st := by
        intro v23 v24 b' h0 h1 h2 h3
        refine ⟨_, h3, b', _, rfl, h0, by rw [stI_same]; exact h1, by rw [stI_ne (by decide), stI_same]; exact h2, ?_, ?_, ((qf.st _ ⟨rfl, by omega, by omega⟩).st _ ⟨rfl, by omega, by omega⟩).st _ ⟨rfl, by omega, by omega⟩⟩
        · rw [stI_ne (by decide), stI_ne (by decide), stI_same, q5, nI_1, sc, cnt_t m1]
        · rw [stI_ne (by decide), stI_ne (by decide), stI_ne (by decide)]; exact q6
      have pr : ∀ (a : Int32) (j : Nat), j ≠ 25 → (stI st 0 25 a).1 0 j = st.1 0 j := fun a j hj => stI_ne (fun q => hj q.2)
      have pr2 : ∀ (a c : Int32), (stI (stI st 0 25 a) 0 24 c).1 0 23 = st.1 0 23 := fun a c => by rw [stI_ne (by decide), stI_ne (by decide)]
      cases ha : asq T P hu x Q hu' o
      · have b1 : B (256 * x + o) = true := by rw [dB o ho, hm, ha]; rfl
        have g1 : G (256 * x + o) = false := by rw [dG o ho, hm, ha]; rfl
        by_cases c : cnt B (256 * x + o) = 0
        · refine go (nI (cnt B (256 * x + o) + 1)) (nI (256 * x + o)) b (by rw [sc, cnt_f g1]; exact q0) (by rw [sc, cnt_t b1]) (by rw [sc, fst_t0 b1 c]) ?_
          unfold b_X9_findPairs_36
          rw [un_, un_, if_neg (show ¬ ((256 : Int32) ≤ nI o) from nI_ge ho (by decide)), em, Option.bind_some, hm, if_neg (by decide), e256, ea, Option.bind_some, ha]
          cases b <;> simp only [nm_, bIt, bIf, if_true, if_false, pr _ 23 (by decide), pr2, q3, cB, c, ex, nI_1] <;> rfl
        · refine go (nI (cnt B (256 * x + o) + 1)) (st.1 0 24) b (by rw [sc, cnt_f g1]; exact q0) (by rw [sc, cnt_t b1]) (by rw [sc, fst_t1 c]; exact q4) ?_
          unfold b_X9_findPairs_36
          rw [un_, un_, if_neg (show ¬ ((256 : Int32) ≤ nI o) from nI_ge ho (by decide)), em, Option.bind_some, hm, if_neg (by decide), e256, ea, Option.bind_some, ha]
          cases b <;> simp only [nm_, bIt, bIf, if_true, if_false, pr _ 23 (by decide), pr _ 24 (by decide), pr2, q3, cB, if_neg c, ex, nI_1] <;> rfl
      · have b1 : B (256 * x + o) = false := by rw [dB o ho, hm, ha]; rfl
        have g1 : G (256 * x + o) = true := by rw [dG o ho, hm, ha]; rfl
        refine go (st.1 0 23 + 0) (st.1 0 24) true (by rw [sc, cnt_t g1]; exact ⟨fun q => (by cases q), fun q => (by omega)⟩) (by rw [sc, cnt_f b1, q3]; exact nI_add _ 0) (by rw [sc, fst_f b1]; exact q4) ?_
        unfold b_X9_findPairs_36
        rw [un_, un_, if_neg (show ¬ ((256 : Int32) ≤ nI o) from nI_ge ho (by decide)), em, Option.bind_some, hm, if_neg (by decide), e256, ea, Option.bind_some, ha]
        cases b <;> simp only [nm_, bIt, bIf, if_true, if_false, pr _ 23 (by decide), pr _ 24 (by decide), pr2, nI_1] <;> rfl
  · rintro y ⟨b, st, rfl, q⟩
    exact ⟨_, by unfold b_X9_findPairs_36; rw [un_, un_, if_pos (by decide)], b, st, rfl, q⟩
theorem nI_n0 {n : Nat} (h : n < 2 ^ 31) : ¬ (nI n < (0 : Int32)) := nI_pos h
theorem fst_neg (Q : Nat → Bool) : ∀ n, n ≤ 65536 → (fst_ Q n < (0 : Int32) ↔ cnt Q n = 0) := by
  intro n
  induction n with
  | zero => intro _; exact ⟨fun _ => rfl, fun _ => (by show (-6 : Int32) < 0; decide)⟩
  | succ n ih =>
    intro hn
    have ih := ih (by omega)
    rw [fst_, cnt]
    by_cases q : Q n = true
    · rw [if_pos q]
      by_cases c : cnt Q n = 0
      · rw [if_pos ⟨q, c⟩]; exact ⟨fun e => absurd e (nI_n0 (by omega)), fun e => by omega⟩
      · rw [if_neg (fun h => c h.2)]; exact ⟨fun e => absurd (ih.mp e) c, fun e => by omega⟩
    · rw [if_neg q, if_neg (fun h => q h.1)]; exact ih
theorem p_findPairs {σ : St} {s hu hu' : Nat} {T : Tx} {P Q : Pg} (hs : s < 6) (h : okT T) (hT : T.1 ≤ 40) (hc : ∀ i, i < T.1 → 33 ≤ T.2 i ∧ T.2 i ≤ 126) (hM : CMt σ s T) (hP : VP P) (hQ : VP Q) (r1 : ∀ m, m < 256 → RunM σ m P hu m ∧ RunM σ (256 + m) Q hu' m) : ∃ σ', f_X9_findPairs (nI s) σ = some σ' ∧ HSp T P hu Q hu' = (σ'.1 0 23, σ'.1 0 24, σ'.1 0 25, σ'.1 0 26) ∧ Fr SH σ σ' := by
  unfold HSp
  have key := wh_cnt (b := b_X9_findPairs_24 (nI s)) 256 (fun x y => y.1 = nI x ∧ y.2.1 0 23 = nI (cnt (hB_ T P hu Q hu') (256 * x)) ∧ y.2.1 0 24 = fst_ (hB_ T P hu Q hu') (256 * x) ∧ y.2.1 0 25 = nI (cnt (hM_ T) (256 * x)) ∧ y.2.1 0 26 = fst_ (hL_ (hG_ T P hu Q hu')) x ∧ Fr SH σ y.2) (fun σ' => (nI (cnt (hB_ T P hu Q hu') 65536), fst_ (hB_ T P hu Q hu') 65536, nI (cnt (hM_ T) 65536), fst_ (hL_ (hG_ T P hu Q hu')) 256) = (σ'.1 0 23, σ'.1 0 24, σ'.1 0 25, σ'.1 0 26) ∧ Fr SH σ σ') ?_ ?_ FU 0 ((0 : Int32), stI (stI (stI (stI σ 0 23 0) 0 24 (-6)) 0 25 0) 0 26 (-6)) (Nat.zero_le _) ⟨rfl, by rw [stI_ne (by decide), stI_ne (by decide), stI_ne (by decide), stI_same]; rfl, by rw [stI_ne (by decide), stI_ne (by decide), stI_same]; rfl, by rw [stI_ne (by decide), stI_same]; rfl, by rw [stI_same]; rfl, ((((Fr.refl SH σ).st _ ⟨rfl, by omega, by omega⟩).st _ ⟨rfl, by omega, by omega⟩).st _ ⟨rfl, by omega, by omega⟩).st _ ⟨rfl, by omega, by omega⟩⟩ (by rw [FU_]; omega)
  · obtain ⟨s', e, q1, q2⟩ := key
    exact ⟨s', by unfold f_X9_findPairs; rw [nm_, nm_, nm_, nm_, e]; rfl, q1, q2⟩
  · rintro x ⟨y, st⟩ hx ⟨h0, q3, q4, q5, q6, qf⟩
    have h0 : y = nI x := h0
    subst h0
    dsimp only at q3 q4 q5 q6 qf
    left
    have sh : ∀ k j, SH k j → k < 9 ∨ 13 < k := fun k j q => by have := q.1; omega
    obtain ⟨b, s2, e2, hb, g3, g4, g5, g6, gf⟩ := p_fp36 (σ := st) hs h hT hc (hM.fr qf (fun k j q => by have := q.1; omega)) hP hQ hx ((r1 x hx).1.frS qf sh) (fun y hy => (r1 y hy).2.frS qf sh) q3 q4 q5
    rw [q6] at g6
    generalize hG_ T P hu Q hu' = G at *
    unfold b_X9_findPairs_24
    rw [un_, if_neg (show ¬ ((256 : Int32) ≤ nI x) from nI_ge hx (by decide)), e2, Option.bind_some, un_]
    have go : ∀ v : Int32, v = fst_ (hL_ G) (x + 1) → ∃ s', (some (Sum.inl (nI (x + 1), stI s2 0 26 v)) : Option ((Int32 × St) ⊕ St)) = some (.inl s') ∧ (s'.1 = nI (x + 1) ∧ s'.2.1 0 23 = nI (cnt (hB_ T P hu Q hu') (256 * (x + 1))) ∧ s'.2.1 0 24 = fst_ (hB_ T P hu Q hu') (256 * (x + 1)) ∧ s'.2.1 0 25 = nI (cnt (hM_ T) (256 * (x + 1))) ∧ s'.2.1 0 26 = fst_ (hL_ G) (x + 1) ∧ Fr SH σ s'.2) := by
      intro v hv
      refine ⟨_, rfl, rfl, ?_, ?_, ?_, ?_, (qf.trans gf).st _ ⟨rfl, by omega, by omega⟩⟩
      · show (stI s2 0 26 v).1 0 23 = _; rw [stI_ne (by decide)]; exact g3
      · show (stI s2 0 26 v).1 0 24 = _; rw [stI_ne (by decide)]; exact g4
      · show (stI s2 0 26 v).1 0 25 = _; rw [stI_ne (by decide)]; exact g5
      · show (stI s2 0 26 v).1 0 26 = _; rw [stI_same]; exact hv
    cases b
    · have hl : hL_ G x = true := decide_eq_true (hb.mp rfl)
      rw [if_pos (by decide), g6]
      by_cases c : cnt (hL_ G) x = 0
      · rw [if_pos ((fst_neg (hL_ G) x (by omega)).mpr c), nm_, nm_, nI_1]
        exact go _ (by rw [fst_t0 hl c])
      · rw [if_neg (fun q => c ((fst_neg (hL_ G) x (by omega)).mp q)), nm_, nm_, nI_1]
        exact go _ (by rw [fst_t1 c])
    · have hl : hL_ G x = false := decide_eq_false (fun q => by have := hb.mpr q; cases this)
      rw [if_neg (by decide), nm_, nm_, nI_1, g6]
      exact go _ (by rw [fst_f hl])
  · rintro ⟨y, st⟩ ⟨h0, q3, q4, q5, q6, qf⟩
    have h0 : y = nI 256 := h0
    subst h0
    exact ⟨st, by unfold b_X9_findPairs_24; rw [un_, if_pos (by decide)], by rw [show (65536 : Nat) = 256 * 256 from rfl]; dsimp only at q3 q4 q5 q6; rw [q3, q4, q5, q6], qf⟩
/-- one of the four answers -/
def pick (H : Int32 × Int32 × Int32 × Int32) (w : Int32) : Int32 := if w = 0 then H.1 else if w = 1 then H.2.1 else if w = 2 then H.2.2.1 else H.2.2.2
theorem key3 {s p q s' p' q' : Nat} (hs : s < 600) (hp : p < 4) (hq : q < 4) (hs' : s' < 600) (hp' : p' < 4) (hq' : q' < 4) (e : nI (16 * s + 4 * p + q) = nI (16 * s' + 4 * p' + q')) : s = s' ∧ p = p' ∧ q = q' := by
  rw [eq_nI (by omega) (by omega)] at e; omega
theorem p_keyOf (s p q : Nat) : f_X8_keyOf (nI s) (nI p) (nI q) = some (nI (16 * s + 4 * p + q)) := by
  unfold f_X8_keyOf
  rw [L4, pk_mul, nI_add, pk_mul, nI_add]
  congr 2; omega
theorem key_M (s p q : Nat) : (16 : Int32) * nI s + (4 : Int32) * nI p + nI q = nI (16 * s + 4 * p + q) := by rw [L16, L4, pk_mul, pk_mul, nI_add, nI_add]
theorem p_holdsX {WS : WSt} {OS : OSt} {k : Nat} {A : Ab} {σ : St} {s p q w : Nat} (hV : VA A) (hk : k ≤ 512) (hX : CXa HSp WS OS k A σ) (hs : s < aN A) (hp : p < 4) (hq : q < 4) (sa : f_X8_isSaying (nI s) σ = some 1) (pa : f_X8_isProgram (nI p) = some 1) (qa : f_X8_isProgram (nI q) = some 1) (wa : f_X8_isWithin (nI w) (3 : Int32) = some 1) : ∃ σ', f_X8_holds (nI s) (nI p) (nI q) (nI w) σ = some (pick (HSp (aT A s) (aP A p) (aH A p) (aP A q) (aH A q)) (nI w), σ') ∧ CXa HSp WS OS k A σ' := by
  have h6 := hV.2.1
  have fin : ∀ st : St, HSp (aT A s) (aP A p) (aH A p) (aP A q) (aH A q) = (st.1 72 2, st.1 72 3, st.1 72 4, st.1 72 5) → (if nI w = (0 : Int32) then some ((st.1 72 2), st) else (if nI w = (1 : Int32) then some ((st.1 72 3), st) else (if nI w = (2 : Int32) then some ((st.1 72 4), st) else some ((st.1 72 5), st)))) = some (pick (HSp (aT A s) (aP A p) (aH A p) (aP A q) (aH A q)) (nI w), st) := by
    intro st e
    rw [e]
    unfold pick
    by_cases a : nI w = (0 : Int32)
    · rw [if_pos a, if_pos a]
    · rw [if_neg a, if_neg a]
      by_cases b : nI w = (1 : Int32)
      · rw [if_pos b, if_pos b]
      · rw [if_neg b, if_neg b]
        by_cases c : nI w = (2 : Int32)
        · rw [if_pos c, if_pos c]
        · rw [if_neg c, if_neg c]
  unfold f_X8_holds
  rw [sa, Option.bind_some, if_neg (by decide), pa, Option.bind_some, if_neg (by decide), qa, Option.bind_some, if_neg (by decide), wa, Option.bind_some, if_neg (by decide), p_keyOf, Option.bind_some]
  by_cases c : σ.1 72 1 = nI (16 * s + 4 * p + q)
  · rw [if_pos c]
    refine ⟨σ, fin σ ?_, hX⟩
    rcases hX.2.2.2.2.2.1 with e | ⟨s', p', q', a1, a2, a3, a4, a5⟩
    · rw [e] at c; exact absurd c.symm (nI_n6 (by omega))
    · rw [a4] at c
      obtain ⟨rfl, rfl, rfl⟩ := key3 (by omega) a2 a3 (by omega) hp hq c
      exact a5
  · rw [if_neg c, in6 hV hs, chk_t, nm_, c6 hV hs, ip4 hp, chk_t, nm_, cp4 hp, ip4 hq, chk_t, nm_, cp4 hq]
    obtain ⟨s1, s2, e, hh, c2, k1, ag⟩ := p_judge hV hk hX.1 hX.2.1 hX.2.2.1 hs hp hq
    rw [e, Option.bind_some, nm_]
    have hk1 := hX.kp hV c2 k1
    have ag' : Ag (fun i => i ≠ 71 ∧ i ≠ 72) s1 (stI s2 72 1 (nI (16 * s + 4 * p + q))) := ag.i_ (fun h => h.2 rfl)
    have hh' : HSp (aT A s) (aP A p) (aH A p) (aP A q) (aH A q) = ((stI s2 72 1 (nI (16 * s + 4 * p + q))).1 72 2, (stI s2 72 1 (nI (16 * s + 4 * p + q))).1 72 3, (stI s2 72 1 (nI (16 * s + 4 * p + q))).1 72 4, (stI s2 72 1 (nI (16 * s + 4 * p + q))).1 72 5) := by
      rw [stI_ne (by decide), stI_ne (by decide), stI_ne (by decide), stI_ne (by decide)]; exact hh
    refine ⟨_, fin _ hh', ?_⟩
    obtain ⟨x1, x2, x3, x4, x5, x6, x7, x8⟩ := hk1
    exact ⟨x1.ag (ag'.mono (by omega)), x2.ag (ag'.mono (by omega)), x3.ag h6 (ag'.mono (by omega)), x4.ag (ag'.mono (by omega)), x5.ag (ag'.mono (by omega)), Or.inr ⟨s, p, q, hs, hp, hq, stI_same _ _ _ _, hh'⟩, x7.ag (ag'.mono (by omega)), x8.ag (ag'.mono (by omega))⟩
theorem p_holdsM {WS : WSt} {SS : SSt} {k : Nat} {A : Ab} {σ : St} {s p q w : Nat} (hV : VA A) (hk : k ≤ 512) (hM : CMa HSp WS SS k A σ) (hs : s < aN A) (hp : p < 4) (hq : q < 4) (sa : f_X9_isSaying (nI s) σ = some 1) (pa : f_X9_isProgram (nI p) = some 1) (qa : f_X9_isProgram (nI q) = some 1) (wa : f_X9_in (nI w).toInt64 0 (3 : Int64) = some 1) : ∃ σ', f_X9_holds (nI s) (nI p) (nI q) (nI w) σ = some (pick (HSp (aT A s) (aP A p) (aH A p) (aP A q) (aH A q)) (nI w), σ') ∧ CMa HSp WS SS k A σ' := by
  have h6 := hV.2.1
  have hP := (hV.1 p hp).1
  have hQ := (hV.1 q hq).1
  have hok := hV.2.2.2.1 s hs
  obtain ⟨hT, hc⟩ := hV.2.2.1 s (Or.inl hs)
  have fin : ∀ st : St, HSp (aT A s) (aP A p) (aH A p) (aP A q) (aH A q) = (st.1 0 23, st.1 0 24, st.1 0 25, st.1 0 26) → (if nI w = (0 : Int32) then some ((st.1 0 23), st) else (if nI w = (1 : Int32) then some ((st.1 0 24), st) else (if nI w = (2 : Int32) then some ((st.1 0 25), st) else some ((st.1 0 26), st)))) = some (pick (HSp (aT A s) (aP A p) (aH A p) (aP A q) (aH A q)) (nI w), st) := by
    intro st e
    rw [e]
    unfold pick
    by_cases a : nI w = (0 : Int32)
    · rw [if_pos a, if_pos a]
    · rw [if_neg a, if_neg a]
      by_cases b : nI w = (1 : Int32)
      · rw [if_pos b, if_pos b]
      · rw [if_neg b, if_neg b]
        by_cases c : nI w = (2 : Int32)
        · rw [if_pos c, if_pos c]
        · rw [if_neg c, if_neg c]
  unfold f_X9_holds
  rw [sa, Option.bind_some, if_neg (by decide), pa, Option.bind_some, if_neg (by decide), qa, Option.bind_some, if_neg (by decide), wa, Option.bind_some, if_neg (by decide), key_M, nm_]
  obtain ⟨s1, e1, c1, t1, f1⟩ := hM.2.1.all hV hp hq
  have hM1 := hM.fr c1 f1
  obtain ⟨s2, e2, hh, f2⟩ := p_findPairs (by omega) hok hT hc (hM1.2.2.1.2 s (Or.inl hs)) hP hQ t1
  have new : ∃ σ', ((f_X9_runAll (nI p) (nI q) σ).bind fun s5 => (f_X9_findPairs (nI s) s5).bind fun s6 => nm (stI s6 0 21 (nI (16 * s + 4 * p + q))) fun s7 => nm (stI s7 0 22 (s7.1 0 7)) fun s8 => (if nI w = (0 : Int32) then some ((s8.1 0 23), s8) else (if nI w = (1 : Int32) then some ((s8.1 0 24), s8) else (if nI w = (2 : Int32) then some ((s8.1 0 25), s8) else some ((s8.1 0 26), s8))))) = some (pick (HSp (aT A s) (aP A p) (aH A p) (aP A q) (aH A q)) (nI w), σ') ∧ CMa HSp WS SS k A σ' := by
    rw [e1, Option.bind_some, e2, Option.bind_some, nm_, nm_]
    generalize hs8 : stI (stI s2 0 21 (nI (16 * s + 4 * p + q))) 0 22 ((stI s2 0 21 (nI (16 * s + 4 * p + q))).1 0 7) = s8
    have z : ∀ j, j ≠ 21 → j ≠ 22 → s8.1 0 j = s2.1 0 j := fun j h1 h2 => by rw [← hs8, stI_ne (fun q => h2 q.2), stI_ne (fun q => h1 q.2)]
    have z21 : s8.1 0 21 = nI (16 * s + 4 * p + q) := by rw [← hs8, stI_ne (by decide), stI_same]
    have z22 : s8.1 0 22 = s8.1 0 7 := by rw [z 7 (by decide) (by decide), ← hs8, stI_same, stI_ne (by decide)]
    have z0 : ∀ j, (j < 21 ∨ 26 < j) → s8.1 0 j = s1.1 0 j := fun j h1 => by rw [z j (by omega) (by omega), f2.1 0 j (by unfold SH; omega)]
    have ag : Ag (fun i => i ≠ 0) s1 s8 := by
      intro c hc
      rw [← hs8]
      exact ⟨by rw [stI_nk hc, stI_nk hc]; exact funext fun j => f2.1 c j (by unfold SH; omega), by rw [stI_2, stI_2, f2.2.1]⟩
    have hh' : HSp (aT A s) (aP A p) (aH A p) (aP A q) (aH A q) = (s8.1 0 23, s8.1 0 24, s8.1 0 25, s8.1 0 26) := by
      rw [z 23 (by decide) (by decide), z 24 (by decide) (by decide), z 25 (by decide) (by decide), z 26 (by decide) (by decide)]; exact hh
    refine ⟨s8, fin s8 hh', ?_⟩
    obtain ⟨m1, m2, m3, m4, m5, mv, m6, m7, m8⟩ := hM1
    obtain ⟨⟨a, a1, a2, a3, a4⟩, b⟩ := mv
    refine ⟨m1.ag (ag.mono (by omega)), m2.ag (ag.mono (by omega)), m3.ag (ag.mono (by omega)) (z0 20 (by decide)), m4.ag (ag.mono (by omega)), m5.ag (ag.mono (by omega)), ⟨⟨a, a1, by rw [z0 7 (by decide)]; exact a2, Or.inr ⟨a, Nat.le_refl _, by rw [z22, z0 7 (by decide)]; exact a2⟩, by rw [z0 42 (by decide)]; exact a4⟩, by rw [z0 8 (by decide), z0 40 (by decide)]; exact b⟩, ?_, ?_, ?_⟩
    · intro _
      exact ⟨s, p, q, hs, hp, hq, z21, hh'⟩
    · unfold CM7; rw [z0 40 (by decide), z0 8 (by decide), z0 39 (by decide), z0 37 (by decide), (ag 18 (by decide)).1, (ag 19 (by decide)).1, (ag 7 (by decide)).1]; exact m7
    · unfold CM8; rw [z0 42 (by decide), z0 7 (by decide), z0 41 (by decide), z0 43 (by decide)]; exact m8
  by_cases c : σ.1 0 21 = nI (16 * s + 4 * p + q)
  · rw [if_pos c]
    by_cases d : σ.1 0 22 = σ.1 0 7
    · rw [if_pos d]
      refine ⟨σ, fin σ ?_, hM⟩
      obtain ⟨s', p', q', a1, a2, a3, a4, a5⟩ := hM.2.2.2.2.2.2.1 d
      rw [a4] at c
      obtain ⟨rfl, rfl, rfl⟩ := key3 (by omega) a2 a3 (by omega) hp hq c
      exact a5
    · rw [if_neg d]; exact new
  · rw [if_neg c]; exact new
section PRB
variable (WS : WSt) (OS : OSt) (SS : SSt)
theorem ok_holds : Ok_holds (Rel HSp WS OS SS) := by
  intro k σX σM a1 a2 a3 a4 hk hR
  have hR0 := hR
  obtain ⟨A, hV, hX, hM⟩ := hR
  rcases rngY hV hX hM a1 with ⟨s, hs, rfl, sa, sb⟩ | ⟨sa, sb⟩
  rotate_left
  · exact ansE HSp WS OS SS hR0 (r := -1) (by unfold f_X8_holds; rw [sa]; rfl) (by unfold f_X9_holds; rw [sb]; rfl)
  rcases rngP a2 with ⟨p, hp, rfl, pa, pb⟩ | ⟨pa, pb⟩
  rotate_left
  · exact ansE HSp WS OS SS hR0 (r := -1) (by unfold f_X8_holds; rw [sa, Option.bind_some, if_neg (by decide), pa]; rfl) (by unfold f_X9_holds; rw [sb, Option.bind_some, if_neg (by decide), pb]; rfl)
  rcases rngP a3 with ⟨q, hq, rfl, qa, qb⟩ | ⟨qa, qb⟩
  rotate_left
  · exact ansE HSp WS OS SS hR0 (r := -1) (by unfold f_X8_holds; rw [sa, Option.bind_some, if_neg (by decide), pa, Option.bind_some, if_neg (by decide), qa]; rfl) (by unfold f_X9_holds; rw [sb, Option.bind_some, if_neg (by decide), pb, Option.bind_some, if_neg (by decide), qb]; rfl)
  rcases rng a4 3 (by decide) with ⟨w, hw, rfl, wa, wb⟩ | ⟨_, wa, wb⟩
  rotate_left
  · exact ansE HSp WS OS SS hR0 (r := -2) (by unfold f_X8_holds; rw [sa, Option.bind_some, if_neg (by decide), pa, Option.bind_some, if_neg (by decide), qa, Option.bind_some, if_neg (by decide), L3, wa]; rfl) (by unfold f_X9_holds; rw [sb, Option.bind_some, if_neg (by decide), pb, Option.bind_some, if_neg (by decide), qb, Option.bind_some, if_neg (by decide), show (3 : Int64) = lN 3 from rfl, wb]; rfl)
  obtain ⟨x', eX, hX'⟩ := p_holdsX (w := w) hV (by omega) hX hs hp hq sa pa qa wa
  obtain ⟨m', eM, hM'⟩ := p_holdsM (w := w) hV (by omega) hM hs hp hq sb pb qb wb
  exact ⟨_, x', m', eX, eM, A, hV, hX'.mono (Nat.le_succ k), hM'.mono (Nat.le_succ k)⟩
end PRB
