/-! ===== part ===== -/
/-- where a run is ahead of STEP t, as it is walked: at 24 it is GONE -/
def ps (P : Pg) (m t : Nat) : Nat := if t < 24 then sq P m t else 3072 + sq P m 24 % 256
theorem ps_ok {P : Pg} (hV : VP P) {m : Nat} (hm : m < 256) (t : Nat) : (ps P m t / 256 < P.1 ∨ ps P m t / 256 = 12) ∧ ps P m t < 3328 := by
  unfold ps
  split
  · exact sq_ok hV hm t
  · have := Nat.mod_lt (sq P m 24) (show 0 < 256 by decide); omega
theorem ps0 {P : Pg} {m : Nat} : ps P m 0 = 256 * nl P 0 + m := rfl
theorem ps_lt {P : Pg} {m t : Nat} (h : ps P m t / 256 < 12) : t < 24 := by
  unfold ps at h
  split at h
  · assumption
  · omega
theorem ps_step {P : Pg} (hV : VP P) {m t : Nat} (hm : m < 256) (h : ps P m t / 256 < 12) : ps P m (t + 1) / 256 = (if t + 1 = 24 then 12 else cod P (ps P m t / 256) (ps P m t % 256) % 4096 / 256) ∧ ps P m (t + 1) % 256 = cod P (ps P m t / 256) (ps P m t % 256) % 256 := by
  have ht := ps_lt h
  have e : ps P m t = sq P m t := by unfold ps; rw [if_pos ht]
  rw [e] at h ⊢
  have hl : sq P m t / 256 < P.1 := by have := (sq_ok hV hm t).1; omega
  have hc := cod_lt hV hl (Nat.mod_lt (sq P m t) (show 0 < 256 by decide))
  have es : sq P m (t + 1) = cod P (sq P m t / 256) (sq P m t % 256) % 4096 := by rw [sq, if_pos h]
  unfold ps
  by_cases c : t + 1 = 24
  · rw [if_neg (by omega), if_pos c, ← c, es]
    have := Nat.mod_lt (cod P (sq P m t / 256) (sq P m t % 256) % 4096) (show 0 < 256 by decide)
    constructor
    · omega
    · omega
  · rw [if_pos (by omega), if_neg c, es]
    exact ⟨rfl, hc.2.2.symm⟩
theorem ps_stay {P : Pg} (hV : VP P) {m t : Nat} (hm : m < 256) (h : ¬ ps P m t / 256 < 12) : ∀ d, ps P m (t + d) = ps P m t := by
  intro d
  by_cases ht : t < 24
  · have e : ps P m t = sq P m t := by unfold ps; rw [if_pos ht]
    rw [e] at h ⊢
    by_cases hd : t + d < 24
    · unfold ps; rw [if_pos hd]; exact (stay (hu := 0) h d).1
    · unfold ps; rw [if_neg hd]
      have := (stay (hu := 0) h (24 - t)).1
      rw [show t + (24 - t) = 24 by omega] at this
      rw [this]
      have hb := sq_ok hV hm t
      omega
  · unfold ps; rw [if_neg (by omega), if_neg ht]
theorem stp_or (P : Pg) (m : Nat) : ∀ t, stp P m t = t ∨ (stp P m t < t ∧ ¬ sq P m (stp P m t) / 256 < 12) := by
  intro t
  induction t with
  | zero => exact Or.inl rfl
  | succ t ih =>
    rw [stp]
    by_cases c : sq P m t / 256 < 12
    · rw [if_pos c, stp_run t c]; exact Or.inl rfl
    · rw [if_neg c]
      right
      rcases ih with e | ⟨h1, h2⟩
      · rw [e]; exact ⟨by omega, c⟩
      · exact ⟨by omega, h2⟩
theorem ps_cls {P : Pg} (hV : VP P) {m : Nat} (hm : m < 256) {t : Nat} (h : t ≤ stp P m 24) : (if t < stp P m 24 then sq P m t else 3072 + sq P m 24 % 256) = ps P m t := by
  have hT := stp_le P m 24
  rcases stp_or P m 24 with e | ⟨h1, h2⟩
  · rw [e] at h ⊢; rfl
  · unfold ps
    by_cases c : t < stp P m 24
    · rw [if_pos c, if_pos (by omega)]
    · have et : t = stp P m 24 := by omega
      rw [if_neg c, if_pos (by omega), et]
      have := (stay (hu := 0) h2 (24 - stp P m 24)).1
      rw [show stp P m 24 + (24 - stp P m 24) = 24 by omega] at this
      rw [this]
      have hb := sq_ok hV hm (stp P m 24)
      have := hV.1
      omega
theorem ps_cls2 {P : Pg} (hV : VP P) {m : Nat} (hm : m < 256) {t : Nat} (h : stp P m 24 ≤ t) : ps P m t = ps P m (stp P m 24) := by
  rcases stp_or P m 24 with e | ⟨h1, h2⟩
  · rw [e] at h ⊢; unfold ps; rw [if_neg (by omega), if_neg (by omega)]
  · have e : ps P m (stp P m 24) = sq P m (stp P m 24) := by unfold ps; rw [if_pos h1]
    have := ps_stay hV hm (t := stp P m 24) (by rw [e]; exact h2) (t - stp P m 24)
    rw [show stp P m 24 + (t - stp P m 24) = t by omega] at this
    exact this
theorem mmin_nI {a b : Nat} (ha : a < 2 ^ 30) (hb : b < 2 ^ 30) : mmin (nI a) (nI b) = nI (min a b) := by
  unfold mmin
  by_cases c : a ≤ b
  · rw [if_neg (nI_nlt c (by omega)), Nat.min_eq_left c]
  · rw [if_pos (nI_lt (by omega) (by omega)), Nat.min_eq_right (by omega)]
theorem p_lineAhead {σ : St} {pa m hu t : Nat} {P : Pg} (hV : VP P) (hm : m < 256) (ht : t ≤ 24) (h : TraceRow σ pa P hu m) : f_X4_lineAhead pa (nI m) (nI t) σ = some (nI (ps P m t / 256)) := by
  obtain ⟨_, _, _, h4, _, _, h7⟩ := h
  have hT := stp_le P m 24
  unfold f_X4_lineAhead
  have hmn : min t (stp P m 24) ≤ stp P m 24 := Nat.min_le_right _ _
  have e1 : nI m * (25 : Int32) + nI (min t (stp P m 24)) = nI (25 * m + min t (stp P m 24)) := by rw [L25, pk_mul, nI_add, Nat.mul_comm]
  have ep : ps P m (min t (stp P m 24)) = ps P m t := by
    by_cases c : t ≤ stp P m 24
    · rw [Nat.min_eq_left c]
    · rw [Nat.min_eq_right (by omega)]; exact (ps_cls2 hV hm (by omega)).symm
  have hb := (ps_ok hV hm t).2
  rw [inb_nI hm (by decide), chk_t, nm_, nI_clamp (by omega), h4, mmin_nI (by omega) (by omega), e1, inb_nI (show 25 * m + min t (stp P m 24) < 6400 by omega) (by decide), chk_t, nz256, chk_t, nI_clamp (by omega), h7 _ hmn, ps_cls hV hm hmn, ep, div256 (by omega)]
-- the reference
def S6 (k j : Nat) : Prop := k = 0 ∧ ((9 ≤ j ∧ j ≤ 11) ∨ (27 ≤ j ∧ j ≤ 32))
theorem SQ_S6 : ∀ k j, S6 k j → SQ k j := by intro k j h; unfold S6 at h; unfold SQ; omega
theorem CM2.s6 {A : Ab} {σ σ' : St} (h : CM2 A σ) (hf : Fr S6 σ σ') : CM2 A σ' := h.ag (fun c hc => ⟨funext fun j => hf.1 c j (by unfold S6; omega), by rw [hf.2.1]⟩)
theorem p_stepFirst {σ : St} {p l x t : Nat} {P : Pg} (hV : VP P) (hp : p < 4) (hL : Laid σ p P) (hl : l < P.1) (hx : x < 256) (ht : t < 24) (h27 : σ.1 0 27 = nI l) (h28 : σ.1 0 28 = nI x) (h29 : σ.1 0 29 = nI t) : ∃ σ', f_X9_stepFirst (nI p) σ = some σ' ∧ σ'.1 0 27 = nI (if t + 1 = 24 then 12 else cod P l x % 4096 / 256) ∧ σ'.1 0 28 = nI (cod P l x % 256) ∧ σ'.1 0 29 = nI (t + 1) ∧ Fr S6 σ σ' ∧ ∀ j, 30 ≤ j → σ'.1 0 j = σ.1 0 j := by
  have hc := cod_lt hV hl hx
  have h12 := hV.1
  obtain ⟨s, e, e11, e9, e10, hf⟩ := p_stepM hp (show l < 12 by omega) hx hc.1 (hL l x hl hx)
  have s29 : s.1 0 29 = nI t := by rw [hf.1 0 29 (by unfold S3; omega)]; exact h29
  have fs : Fr S6 σ s := hf.mono (fun k j h => by unfold S3 at h; unfold S6; omega)
  unfold f_X9_stepFirst
  simp only [h27, h28, e, Option.bind_some, nm_, s29, nI_1, stI_same]
  by_cases c : t + 1 = 24
  · rw [if_pos (show nI (t + 1) = (24 : Int32) by rw [c]; rfl)]
    refine ⟨_, rfl, ?_, ?_, ?_, ?_, ?_⟩
    · rw [stI_ne (by decide), stI_same, if_pos c]; rfl
    · rw [stI_same, stI_ne (by decide), stI_ne (by decide), e10]
    · rw [stI_ne (by decide), stI_ne (by decide), stI_same]
    · exact ((fs.st _ (by unfold S6; omega)).st _ (by unfold S6; omega)).st _ (by unfold S6; omega)
    · intro j hj
      rw [stI_ne (by omega), stI_ne (by omega), stI_ne (by omega), hf.1 0 j (by unfold S3; omega)]
  · rw [if_neg (show ¬ (nI (t + 1) = (24 : Int32)) by rw [L24, eq_nI (by omega) (by decide)]; exact c)]
    refine ⟨_, rfl, ?_, ?_, ?_, ?_, ?_⟩
    · rw [stI_ne (by decide), stI_same, stI_ne (by decide), e9, if_neg c, hc.2.1]
    · rw [stI_same, stI_ne (by decide), stI_ne (by decide), e10]
    · rw [stI_ne (by decide), stI_ne (by decide), stI_same]
    · exact ((fs.st _ (by unfold S6; omega)).st _ (by unfold S6; omega)).st _ (by unfold S6; omega)
    · intro j hj
      rw [stI_ne (by omega), stI_ne (by omega), stI_ne (by omega), hf.1 0 j (by unfold S3; omega)]
theorem p_stepSecond {σ : St} {p l x t : Nat} {P : Pg} (hV : VP P) (hp : p < 4) (hL : Laid σ p P) (hl : l < P.1) (hx : x < 256) (ht : t < 24) (h27 : σ.1 0 30 = nI l) (h28 : σ.1 0 31 = nI x) (h29 : σ.1 0 32 = nI t) : ∃ σ', f_X9_stepSecond (nI p) σ = some σ' ∧ σ'.1 0 30 = nI (if t + 1 = 24 then 12 else cod P l x % 4096 / 256) ∧ σ'.1 0 31 = nI (cod P l x % 256) ∧ σ'.1 0 32 = nI (t + 1) ∧ Fr S6 σ σ' ∧ ∀ j, 12 ≤ j → j < 30 → σ'.1 0 j = σ.1 0 j := by
  have hc := cod_lt hV hl hx
  have h12 := hV.1
  obtain ⟨s, e, e11, e9, e10, hf⟩ := p_stepM hp (show l < 12 by omega) hx hc.1 (hL l x hl hx)
  have s29 : s.1 0 32 = nI t := by rw [hf.1 0 32 (by unfold S3; omega)]; exact h29
  have fs : Fr S6 σ s := hf.mono (fun k j h => by unfold S3 at h; unfold S6; omega)
  unfold f_X9_stepSecond
  simp only [h27, h28, e, Option.bind_some, nm_, s29, nI_1, stI_same]
  by_cases c : t + 1 = 24
  · rw [if_pos (show nI (t + 1) = (24 : Int32) by rw [c]; rfl)]
    refine ⟨_, rfl, ?_, ?_, ?_, ?_, ?_⟩
    · rw [stI_ne (by decide), stI_same, if_pos c]; rfl
    · rw [stI_same, stI_ne (by decide), stI_ne (by decide), e10]
    · rw [stI_ne (by decide), stI_ne (by decide), stI_same]
    · exact ((fs.st _ (by unfold S6; omega)).st _ (by unfold S6; omega)).st _ (by unfold S6; omega)
    · intro j hj hj2
      rw [stI_ne (by omega), stI_ne (by omega), stI_ne (by omega), hf.1 0 j (by unfold S3; omega)]
  · rw [if_neg (show ¬ (nI (t + 1) = (24 : Int32)) by rw [L24, eq_nI (by omega) (by decide)]; exact c)]
    refine ⟨_, rfl, ?_, ?_, ?_, ?_, ?_⟩
    · rw [stI_ne (by decide), stI_same, stI_ne (by decide), e9, if_neg c, hc.2.1]
    · rw [stI_same, stI_ne (by decide), stI_ne (by decide), e10]
    · rw [stI_ne (by decide), stI_ne (by decide), stI_same]
    · exact ((fs.st _ (by unfold S6; omega)).st _ (by unfold S6; omega)).st _ (by unfold S6; omega)
    · intro j hj hj2
      rw [stI_ne (by omega), stI_ne (by omega), stI_ne (by omega), hf.1 0 j (by unfold S3; omega)]
/-- where the reference's two runs are -/
def Pos (σ : St) (P : Pg) (m t : Nat) (Q : Pg) (m' u : Nat) : Prop := (σ.1 0 27 = nI (ps P m t / 256) ∧ σ.1 0 28 = nI (ps P m t % 256) ∧ σ.1 0 29 = nI t) ∧ σ.1 0 30 = nI (ps Q m' u / 256) ∧ σ.1 0 31 = nI (ps Q m' u % 256) ∧ σ.1 0 32 = nI u
theorem Laid.fr {σ σ' : St} {p : Nat} {P : Pg} (h : Laid σ p P) (hf : Fr S6 σ σ') : Laid σ' p P := fun i m hi hm => by rw [hf.1 8 _ (by unfold S6; omega)]; exact h i m hi hm
theorem Pos.one {σ : St} {p m t m' u : Nat} {P Q : Pg} (hV : VP P) (hp : p < 4) (hL : Laid σ p P) (hm : m < 256) (h : Pos σ P m t Q m' u) (hl : ps P m t / 256 < 12) : ∃ σ', f_X9_stepFirst (nI p) σ = some σ' ∧ Pos σ' P m (t + 1) Q m' u ∧ Fr S6 σ σ' := by
  obtain ⟨⟨a, b, c⟩, d⟩ := h
  have ho := ps_ok hV hm t
  obtain ⟨σ', e, e1, e2, e3, hf, e4⟩ := p_stepFirst hV hp hL (l := ps P m t / 256) (x := ps P m t % 256) (by omega) (by omega) (ps_lt hl) a b c
  obtain ⟨q1, q2⟩ := ps_step hV hm hl
  exact ⟨σ', e, ⟨⟨by rw [e1, q1], by rw [e2, q2], e3⟩, by rw [e4 30 (by decide), e4 31 (by decide), e4 32 (by decide)]; exact d⟩, hf⟩
theorem Pos.two {σ : St} {q m t m' u : Nat} {P Q : Pg} (hV : VP Q) (hp : q < 4) (hL : Laid σ q Q) (hm : m' < 256) (h : Pos σ P m t Q m' u) (hl : ps Q m' u / 256 < 12) : ∃ σ', f_X9_stepSecond (nI q) σ = some σ' ∧ Pos σ' P m t Q m' (u + 1) ∧ Fr S6 σ σ' := by
  obtain ⟨d, a, b, c⟩ := h
  have ho := ps_ok hV hm u
  obtain ⟨σ', e, e1, e2, e3, hf, e4⟩ := p_stepSecond hV hp hL (l := ps Q m' u / 256) (x := ps Q m' u % 256) (by omega) (by omega) (ps_lt hl) a b c
  obtain ⟨q1, q2⟩ := ps_step hV hm hl
  exact ⟨σ', e, ⟨by rw [e4 27 (by decide) (by decide), e4 28 (by decide) (by decide), e4 29 (by decide) (by decide)]; exact d, by rw [e1, q1], by rw [e2, q2], e3⟩, hf⟩
theorem p_beginBoth {σ : St} {p q m m' : Nat} {P Q : Pg} (hP : VP P) (hQ : VP Q) (hp : p < 4) (hq : q < 4) (hm : m < 256) (hm' : m' < 256) (h5 : σ.1 5 p = nI P.1) (h5' : σ.1 5 q = nI Q.1) : ∃ σ', f_X9_beginBoth (nI p) (nI m) (nI q) (nI m') σ = some σ' ∧ Pos σ' P m 0 Q m' 0 ∧ Fr S6 σ σ' := by
  unfold f_X9_beginBoth
  rw [L0, p_held h5 hP.1 hp (by decide), Option.bind_some, nm_, nm_, nm_, p_held (P := Q) (by rw [stI_nk (by decide), stI_nk (by decide), stI_nk (by decide)]; exact h5') hQ.1 hq (by decide), Option.bind_some, nm_, nm_, nm_]
  have e1 : ps P m 0 / 256 = nl P 0 ∧ ps P m 0 % 256 = m := by rw [ps0]; omega
  have e2 : ps Q m' 0 / 256 = nl Q 0 ∧ ps Q m' 0 % 256 = m' := by rw [ps0]; omega
  refine ⟨_, rfl, ?_, ?_⟩
  · unfold Pos
    rw [e1.1, e1.2, e2.1, e2.2]
    refine ⟨⟨?_, ?_, ?_⟩, ?_, ?_, ?_⟩
    · rw [stI_ne (by decide), stI_ne (by decide), stI_ne (by decide), stI_ne (by decide), stI_ne (by decide), stI_same]
    · rw [stI_ne (by decide), stI_ne (by decide), stI_ne (by decide), stI_ne (by decide), stI_same]
    · rw [stI_ne (by decide), stI_ne (by decide), stI_ne (by decide), stI_same]
    · rw [stI_ne (by decide), stI_ne (by decide), stI_same]
    · rw [stI_ne (by decide), stI_same]
    · rw [stI_same]
  · exact ((((((Fr.refl _ _).st _ (by unfold S6; omega)).st _ (by unfold S6; omega)).st _ (by unfold S6; omega)).st _ (by unfold S6; omega)).st _ (by unfold S6; omega)).st _ (by unfold S6; omega)
/-- layTable of both -/
theorem CM2.lay2 {A : Ab} {σ : St} {p q : Nat} (hV : VA A) (h : CM2 A σ) (hp : p < 4) (hq : q < 4) : ∃ s1 s2, f_X9_layTable (nI p) σ = some s1 ∧ f_X9_layTable (nI q) s1 = some s2 ∧ CM2 A s2 ∧ Laid s2 p (aP A p) ∧ Laid s2 q (aP A q) ∧ Fr SQ σ s2 := by
  obtain ⟨s1, e1, c1, l1, f1⟩ := h.lay hV hp
  obtain ⟨s2, e2, c2, l2, f2⟩ := c1.lay hV hq
  refine ⟨s1, s2, e1, e2, c2, (c2 p hp).2.2.2 ?_, (c2 q hq).2.2.2 l2, (f1.mono SQ_SL).trans (f2.mono SQ_SL)⟩
  by_cases e : p = q
  · subst e; exact l2
  · rw [f2.1 7 p (by unfold SL S3; omega)]; exact l1
/-- the first STEP at which LINES are not the same -/
def PA (P : Pg) (m : Nat) (Q : Pg) (m' : Nat) (r : Int32) : Prop := (∃ t, t ≤ 24 ∧ (∀ i, i < t → ps P m i / 256 = ps Q m' i / 256) ∧ ps P m t / 256 ≠ ps Q m' t / 256 ∧ r = nI t) ∨ ((∀ i, i ≤ 24 → ps P m i / 256 = ps Q m' i / 256) ∧ r = -6)
theorem PA.one {P Q : Pg} {m m' : Nat} {a b : Int32} (ha : PA P m Q m' a) (hb : PA P m Q m' b) : a = b := by
  rcases ha with ⟨i, i1, i2, i3, rfl⟩ | ⟨i1, rfl⟩ <;> rcases hb with ⟨j, j1, j2, j3, rfl⟩ | ⟨j1, rfl⟩
  · rcases Nat.lt_trichotomy i j with h | h | h
    · exact absurd (j2 i h) i3
    · rw [h]
    · exact absurd (i2 j h) j3
  · exact absurd (j1 i i1) i3
  · exact absurd (i1 j j1) j3
  · rfl
section PR6
variable (HS : HSt) (WS : WSt) (OS : OSt) (SS : SSt)
theorem p_partX {σ : St} {p q m m' hu hu' : Nat} {P Q : Pg} (hP : VP P) (hQ : VP Q) (hp : p < 4) (hq : q < 4) (hm : m < 256) (hm' : m' < 256) (h1 : TraceRow σ (4 + 13 * p) P hu m) (h2 : TraceRow σ (4 + 13 * q) Q hu' m') : ∃ r, (wh FU (b_X8_part_58 (nI p) (nI m) (nI q) (nI m') σ) (0 : Int32)).bind (Sum.elim (fun _ => some ((-6 : Int32), σ)) (fun z => some z)) = some (r, σ) ∧ PA P m Q m' r := by
  have key := wh_cnt (b := b_X8_part_58 (nI p) (nI m) (nI q) (nI m') σ) 25 (fun i y => y = nI i ∧ ∀ j, j < i → ps P m j / 256 = ps Q m' j / 256) (fun r => (r = .inl () ∧ ∀ i, i ≤ 24 → ps P m i / 256 = ps Q m' i / 256) ∨ ∃ t, t ≤ 24 ∧ (∀ i, i < t → ps P m i / 256 = ps Q m' i / 256) ∧ ps P m t / 256 ≠ ps Q m' t / 256 ∧ r = .inr (nI t, σ)) ?_ ?_ FU 0 (0 : Int32) (Nat.zero_le _) ⟨rfl, fun j hj => absurd hj (Nat.not_lt_zero j)⟩ (by rw [FU_]; omega)
  · obtain ⟨r, e, hr⟩ := key
    rw [e, Option.bind_some]
    rcases hr with ⟨rfl, hq⟩ | ⟨t, t1, t2, t3, rfl⟩
    · exact ⟨-6, rfl, Or.inr ⟨hq, rfl⟩⟩
    · exact ⟨nI t, rfl, Or.inl ⟨t, t1, t2, t3, rfl⟩⟩
  · rintro i y hi ⟨rfl, hj⟩
    have o1 := ps_ok hP hm i
    have o2 := ps_ok hQ hm' i
    unfold b_X8_part_58
    rw [if_neg (show ¬ ((24 : Int32) < nI i) from nI_nlt (show i ≤ 24 by omega) (by decide)), ip4 hp, chk_t, nm_, cp4 hp, p_lineAhead hP hm (by omega) h1, Option.bind_some, ip4 hq, chk_t, nm_, cp4 hq, p_lineAhead hQ hm' (by omega) h2, Option.bind_some]
    by_cases c : ps P m i / 256 = ps Q m' i / 256
    · left
      rw [if_pos (by rw [c])]
      refine ⟨nI (i + 1), by rw [nm_, nI_1], rfl, fun j hj' => ?_⟩
      by_cases e : j = i
      · subst e; exact c
      · exact hj j (by omega)
    · right
      rw [if_neg (by rw [eq_nI (by omega) (by omega)]; exact c)]
      exact ⟨_, rfl, Or.inr ⟨i, by omega, hj, c, rfl⟩⟩
  · rintro y ⟨rfl, hj⟩
    unfold b_X8_part_58
    rw [if_pos (by decide)]
    exact ⟨_, rfl, Or.inl ⟨rfl, fun i hi => hj i (by omega)⟩⟩
theorem p_partM {A : Ab} {σ : St} {p q m m' : Nat} (hV : VA A) (hp : p < 4) (hq : q < 4) (hm : m < 256) (hm' : m' < 256) (hC : CM2 A σ) (hL : Laid σ p (aP A p)) (hL' : Laid σ q (aP A q)) (h : Pos σ (aP A p) m 0 (aP A q) m' 0) : ∃ r s, (wh FU (b_X9_part_56 (nI p) (nI q)) ((0 : Int32), σ)).bind (un fun z1 s7 => (if (s7.1 0 27) = (s7.1 0 30) then some ((-6 : Int32), s7) else some (z1, s7))) = some (r, s) ∧ PA (aP A p) m (aP A q) m' r ∧ CM2 A s ∧ Fr S6 σ s := by
  have hP := (hV.1 p hp).1
  have hQ := (hV.1 q hq).1
  have key := wh_cnt (b := b_X9_part_56 (nI p) (nI q)) 25 (fun i y => y.1 = nI i ∧ i ≤ 24 ∧ (∀ j, j < i → ps (aP A p) m j / 256 = ps (aP A q) m' j / 256) ∧ Pos y.2 (aP A p) m i (aP A q) m' i ∧ CM2 A y.2 ∧ Laid y.2 p (aP A p) ∧ Laid y.2 q (aP A q) ∧ Fr S6 σ y.2) (fun r => ∃ t, t ≤ 24 ∧ (∀ j, j < t → ps (aP A p) m j / 256 = ps (aP A q) m' j / 256) ∧ r.1 = nI t ∧ Pos r.2 (aP A p) m t (aP A q) m' t ∧ CM2 A r.2 ∧ Fr S6 σ r.2 ∧ (ps (aP A p) m t / 256 ≠ ps (aP A q) m' t / 256 ∨ (ps (aP A p) m t / 256 = ps (aP A q) m' t / 256 ∧ ¬ ps (aP A p) m t / 256 < 12))) ?_ ?_ FU 0 ((0 : Int32), σ) (Nat.zero_le _) ⟨rfl, Nat.zero_le _, fun j hj => absurd hj (Nat.not_lt_zero j), h, hC, hL, hL', Fr.refl _ _⟩ (by rw [FU_]; omega)
  · obtain ⟨⟨z, s⟩, e, t, t1, t2, t3, ⟨⟨p1, p2, p3⟩, p4, p5, p6⟩, t5, t6, t7⟩ := key
    have t3 : z = nI t := t3
    have p1 : s.1 0 27 = nI (ps (aP A p) m t / 256) := p1
    have p4 : s.1 0 30 = nI (ps (aP A q) m' t / 256) := p4
    have o1 := ps_ok hP hm t
    have o2 := ps_ok hQ hm' t
    rw [e, Option.bind_some, un_, p1, p4]
    rcases t7 with t7 | ⟨t7, t8⟩
    · rw [if_neg (by rw [eq_nI (by omega) (by omega)]; exact t7)]
      exact ⟨z, s, rfl, Or.inl ⟨t, t1, t2, t7, t3⟩, t5, t6⟩
    · rw [if_pos (by rw [t7])]
      refine ⟨-6, s, rfl, Or.inr ⟨fun i hi => ?_, rfl⟩, t5, t6⟩
      by_cases c : i < t
      · exact t2 i c
      · have a := ps_stay hP hm t8 (i - t)
        have b := ps_stay hQ hm' (t := t) (by rw [← t7]; exact t8) (i - t)
        rw [show t + (i - t) = i by omega] at a b
        rw [a, b, t7]
  · rintro i ⟨y, s⟩ hi ⟨h0, h1, h2, h3, h4, h5, h6, h7⟩
    have h0 : y = nI i := h0
    subst h0
    have h3 : Pos s (aP A p) m i (aP A q) m' i := h3
    have h4 : CM2 A s := h4
    have h5 : Laid s p (aP A p) := h5
    have h6 : Laid s q (aP A q) := h6
    have h7 : Fr S6 σ s := h7
    have o1 := ps_ok hP hm i
    have o2 := ps_ok hQ hm' i
    unfold b_X9_part_56
    rw [un_, h3.1.1, h3.2.1]
    by_cases c : ps (aP A p) m i / 256 = ps (aP A q) m' i / 256
    · rw [if_pos (by rw [c])]
      by_cases d : ps (aP A p) m i / 256 < 12
      · left
        rw [if_neg (show ¬ ((12 : Int32) ≤ nI _) from nI_ge d (by decide))]
        obtain ⟨s5, e5, q5, f5⟩ := h3.one hP hp h5 hm d
        obtain ⟨s6, e6, q6, f6⟩ := q5.two hQ hq (h6.fr f5) hm' (by rw [← c]; exact d)
        have := ps_lt d
        refine ⟨(nI (i + 1), s6), by rw [e5, Option.bind_some, e6, Option.bind_some, nm_, nI_1], rfl, by omega, fun j hj => ?_, q6, (h4.s6 f5).s6 f6, (h5.fr f5).fr f6, (h6.fr f5).fr f6, (h7.trans f5).trans f6⟩
        by_cases e : j = i
        · subst e; exact c
        · exact h2 j (by omega)
      · right
        rw [if_pos (show (12 : Int32) ≤ nI (ps (aP A p) m i / 256) from nI_le (show 12 ≤ ps (aP A p) m i / 256 by omega) (by omega))]
        exact ⟨_, rfl, i, h1, h2, rfl, h3, h4, h7, Or.inr ⟨c, d⟩⟩
    · right
      rw [if_neg (by rw [eq_nI (by omega) (by omega)]; exact c)]
      exact ⟨_, rfl, i, h1, h2, rfl, h3, h4, h7, Or.inl c⟩
  · rintro ⟨y, s⟩ ⟨h0, h1, _⟩
    omega
theorem ok_part : Ok_part (Rel HS WS OS SS) := by
  intro k σX σM a1 a2 a3 a4 hk hR
  rcases rngP a1 with ⟨p, hp, rfl, pa, pb⟩ | ⟨pa, pb⟩
  rotate_left
  · exact ansE HS WS OS SS hR (r := -1) (by unfold f_X8_part; rw [pa]; rfl) (by unfold f_X9_part; rw [pb]; rfl)
  rcases rngP a3 with ⟨q, hq, rfl, qa, qb⟩ | ⟨qa, qb⟩
  rotate_left
  · exact ansE HS WS OS SS hR (r := -1) (by unfold f_X8_part; rw [pa, Option.bind_some, if_neg (by decide), qa]; rfl) (by unfold f_X9_part; rw [pb, Option.bind_some, if_neg (by decide), qb]; rfl)
  rcases rngS a2 with ⟨m, hm, rfl, ma, mb⟩ | ⟨ma, mb⟩
  rotate_left
  · exact ansE HS WS OS SS hR (r := -2) (by unfold f_X8_part; rw [pa, Option.bind_some, if_neg (by decide), qa, Option.bind_some, if_neg (by decide), ma]; rfl) (by unfold f_X9_part; rw [pb, Option.bind_some, if_neg (by decide), qb, Option.bind_some, if_neg (by decide), mb]; rfl)
  rcases rngS a4 with ⟨m', hm', rfl, na, nb⟩ | ⟨na, nb⟩
  rotate_left
  · exact ansE HS WS OS SS hR (r := -2) (by unfold f_X8_part; rw [pa, Option.bind_some, if_neg (by decide), qa, Option.bind_some, if_neg (by decide), ma, Option.bind_some, if_neg (by decide), na]; rfl) (by unfold f_X9_part; rw [pb, Option.bind_some, if_neg (by decide), qb, Option.bind_some, if_neg (by decide), mb, Option.bind_some, if_neg (by decide), nb]; rfl)
  obtain ⟨A, hV, hX, hM⟩ := hR
  have hP := (hV.1 p hp).1
  have hQ := (hV.1 q hq).1
  obtain ⟨x1, eX1, cX1, tX1, kX1⟩ := hX.2.1.tr (m := m) hV (by omega) hX.1 hp hm
  obtain ⟨x2, eX2, cX2, tX2, kX2⟩ := cX1.tr (m := m') hV (by omega) (hX.1.kp kX1) hq hm'
  obtain ⟨rx, ex, fx⟩ := p_partX hP hQ hp hq hm hm' (kX2.2 p m hp hm tX1) tX2
  obtain ⟨s1, s2, e1, e2, c2, l1, l2, f2⟩ := hM.2.1.lay2 hV hp hq
  obtain ⟨s3, e3, p3, f3⟩ := p_beginBoth hP hQ hp hq hm hm' (c2 p hp).1.1 (c2 q hq).1.1
  obtain ⟨rm, s4, e4, fm, c4, f4⟩ := p_partM hV hp hq hm hm' (c2.s6 f3) (l1.fr f3) (l2.fr f3) p3
  have := fx.one fm
  subst this
  refine ansQ (r := rx) hV hX hM ?_ ?_ cX2 (kX1.trans kX2) c4 ((f2.trans (f3.mono SQ_S6)).trans (f4.mono SQ_S6))
  · unfold f_X8_part
    rw [pa, Option.bind_some, if_neg (by decide), qa, Option.bind_some, if_neg (by decide), ma, Option.bind_some, if_neg (by decide), na, Option.bind_some, if_neg (by decide), ip4 hp, chk_t, nm_, cp4 hp, eX1, Option.bind_some, ip4 hq, chk_t, nm_, cp4 hq, eX2, Option.bind_some, ex]
  · unfold f_X9_part
    rw [pb, Option.bind_some, if_neg (by decide), qb, Option.bind_some, if_neg (by decide), mb, Option.bind_some, if_neg (by decide), nb, Option.bind_some, if_neg (by decide), e1, Option.bind_some, e2, Option.bind_some, e3, Option.bind_some, e4]
end PR6
