/-! ===== so: the class ===== -/
/-- all that is asked behind the : but SHOWN -/
def NsP (T : Tx) (P : Pg) (x y : Nat) : Prop := SgP T (cl T + 1) T.1 (sq P x 24 % 256) (sq P y 24 % 256) ∧ ∀ j, j < T.1 → (T.2 j = 101 → endv P x = endv P y) ∧ (T.2 j = 116 → stp P x 24 = stp P y 24)
def hasO (T : Tx) : Prop := ∃ j, j < T.1 ∧ T.2 j = 111
theorem AsP_ns {T : Tx} {P : Pg} {hu x y : Nat} : AsP T P hu x P hu y ↔ (NsP T P x y ∧ (hasO T → shw P hu x 24 = shw P hu y 24)) := by
  unfold AsP NsP cok
  constructor
  · rintro ⟨a, b⟩
    exact ⟨⟨a, fun j hj => ⟨(b j hj).1, (b j hj).2.2⟩⟩, fun ⟨j, hj, e⟩ => (b j hj).2.1 e⟩
  · rintro ⟨⟨a, b⟩, c⟩
    exact ⟨a, fun j hj => ⟨(b j hj).1, fun e => c ⟨j, hj, e⟩, (b j hj).2⟩⟩
def MS : Nat := 18445618173802708992
theorem MS_alk (c : Nat) : (MS &&& alk c) = if c = 111 then 0 else alk c := by
  unfold alk
  by_cases h1 : c = 101
  · rw [if_pos h1, if_neg (by omega)]; decide
  · rw [if_neg h1]
    by_cases h2 : c = 111
    · rw [if_pos h2, if_pos h2]; decide
    · rw [if_neg h2, if_neg h2]
      by_cases h3 : c = 116
      · rw [if_pos h3]; decide
      · rw [if_neg h3]; decide
theorem AlP_ns {T : Tx} {P : Pg} (hP : VP P) {hu x y : Nat} (hx : x < 256) (hy : y < 256) : AlP T P hu x P hu y (alkT T T.1 &&& MS) ↔ NsP T P x y := by
  unfold AlP NsP
  have e : ((cto P hu x ^^^ cto P hu y) &&& (alkT T T.1 &&& MS) = 0) ↔ ∀ j, j < T.1 → (T.2 j = 101 → endv P x = endv P y) ∧ (T.2 j = 116 → stp P x 24 = stp P y 24) := by
    rw [Nat.and_comm (alkT T T.1) MS, ← Nat.and_assoc, alk_and]
    have one : ∀ c, ((cto P hu x ^^^ cto P hu y) &&& MS) &&& alk c = 0 ↔ ((c = 101 → endv P x = endv P y) ∧ (c = 116 → stp P x 24 = stp P y 24)) := by
      intro c
      rw [Nat.and_assoc, MS_alk]
      by_cases h : c = 111
      · rw [if_pos h, Nat.and_zero]
        exact ⟨fun _ => ⟨fun q => by omega, fun q => by omega⟩, fun _ => rfl⟩
      · rw [if_neg h, alk_cok hP hP hx hy c]
        unfold cok
        exact ⟨fun q => ⟨q.1, q.2.2⟩, fun q => ⟨q.1, fun r => absurd r h, q.2⟩⟩
    exact ⟨fun q j hj => (one _).mp (q j hj), fun q j hj => (one _).mpr (q j hj)⟩
  rw [e]
theorem noO (T : Tx) : (2 ^ 50 - 1) &&& alkT T T.1 = 0 ↔ ¬ hasO T := by
  rw [alk_and]
  constructor
  · rintro h ⟨j, hj, e⟩
    have := h j hj
    rw [e] at this
    exact absurd this (by decide)
  · intro h j hj
    have hn : T.2 j ≠ 111 := fun e => h ⟨j, hj, e⟩
    unfold alk
    by_cases h1 : T.2 j = 101
    · rw [if_pos h1]; decide
    · rw [if_neg h1, if_neg hn]
      by_cases h3 : T.2 j = 116
      · rw [if_pos h3]; decide
      · rw [if_neg h3]; decide
theorem mmax_nI {a b : Nat} (ha : a < 2 ^ 30) (hb : b < 2 ^ 30) : mmax (nI a) (nI b) = nI (max a b) := by
  rcases Nat.lt_or_ge a b with h | h
  · rw [Nat.max_eq_right (by omega), mmax_nle]
    rw [le_nI (by omega) (by omega)]; omega
  · rw [Nat.max_eq_left h, mmax_le]
    rw [le_nI (by omega) (by omega)]; omega
/-- the groups -/
def Grp (σ : St) (G : Nat → Nat) : Prop := ∀ i, i < 256 → σ.1 74 i = nI (G i) ∧ G i ≤ i
def jn (G : Nat → Nat) (a b : Nat) : Nat → Nat := fun i => if G i = max (G a) (G b) then min (G a) (G b) else G i
theorem Grp.ag {σ σ' : St} {G : Nat → Nat} (h : Grp σ G) (e : σ'.1 74 = σ.1 74) : Grp σ' G := by unfold Grp; rw [e]; exact h
theorem p_join {σ : St} {G : Nat → Nat} {a b : Nat} (ha : a < 256) (hb : b < 256) (h : Grp σ G) : ∃ σ', f_X6_join (nI a) (nI b) σ = some σ' ∧ Grp σ' (jn G a b) ∧ Ag (fun k => k ≠ 74) σ σ' := by
  obtain ⟨a1, a2⟩ := h a ha
  obtain ⟨b1, b2⟩ := h b hb
  have jle : ∀ i, i < 256 → jn G a b i ≤ i := by
    intro i hi
    have := (h i hi).2
    unfold jn
    split
    · omega
    · exact this
  unfold f_X6_join
  rw [inb_nI ha (by decide), chk_t, inb_nI hb (by decide), chk_t, nm_, chk_t, chk_t, nm_, nI_clamp (by omega), nI_clamp (by omega), a1, b1, mmin_nI (by omega) (by omega), mmax_nI (by omega) (by omega)]
  by_cases c : min (G a) (G b) = max (G a) (G b)
  · rw [if_pos (by rw [c])]
    refine ⟨σ, rfl, fun i hi => ⟨?_, jle i hi⟩, Ag.refl _ _⟩
    rw [(h i hi).1]
    unfold jn
    by_cases d : G i = max (G a) (G b)
    · rw [if_pos d, d, c]
    · rw [if_neg d]
  · rw [if_neg (by rw [eq_nI (by omega) (by omega)]; exact c)]
    have key := wh_cnt (b := b_X6_join_43 (nI (min (G a) (G b))) (nI (max (G a) (G b)))) 256 (fun i z => z.1 = nI i ∧ (∀ j, j < i → z.2.1 74 j = nI (jn G a b j)) ∧ (∀ j, i ≤ j → j < 256 → z.2.1 74 j = nI (G j)) ∧ Ag (fun k => k ≠ 74) σ z.2) (fun s => (∀ j, j < 256 → s.1 74 j = nI (jn G a b j)) ∧ Ag (fun k => k ≠ 74) σ s) ?_ ?_ FU 0 ((0 : Int32), σ) (Nat.zero_le _) ⟨rfl, fun j hj => absurd hj (Nat.not_lt_zero j), fun j _ hj => (h j hj).1, Ag.refl _ _⟩ (by rw [FU_]; omega)
    · obtain ⟨s, e, q1, q2⟩ := key
      exact ⟨s, by rw [e]; rfl, fun i hi => ⟨q1 i hi, jle i hi⟩, q2⟩
    · rintro i ⟨y, s⟩ hi ⟨h0, q1, q2, ag⟩
      have h0 : y = nI i := h0
      subst h0
      dsimp only at q1 q2 ag
      left
      have gi := (h i hi).2
      have fin : ∀ v, v = nI (jn G a b i) → (∀ j, j < i + 1 → (stI s 74 i v).1 74 j = nI (jn G a b j)) ∧ (∀ j, i + 1 ≤ j → j < 256 → (stI s 74 i v).1 74 j = nI (G j)) ∧ Ag (fun k => k ≠ 74) σ (stI s 74 i v) := by
        intro v hv
        refine ⟨fun j hj => ?_, fun j hj hj2 => ?_, ag.i_ (fun q => q rfl)⟩
        · rw [stI_v]
          by_cases e : j = i
          · rw [if_pos ⟨rfl, e⟩, e]; exact hv
          · rw [if_neg (fun q => e q.2)]; exact q1 j (by omega)
        · rw [stI_ne (fun q => by omega)]; exact q2 j (by omega) hj2
      unfold b_X6_join_43
      rw [un_, if_neg (show ¬ ((256 : Int32) ≤ nI i) from nI_ge hi (by decide)), inb_nI hi (by decide), chk_t, chk_t, chk_t, chk_t, nm_, nm_, nm_, nm_, nI_1, nI_clamp (by omega), q2 i (Nat.le_refl _) hi]
      by_cases d : G i = max (G a) (G b)
      · rw [if_pos (by rw [d])]
        exact ⟨_, rfl, rfl, fin _ (by unfold jn; rw [if_pos d])⟩
      · rw [if_neg (by rw [eq_nI (by omega) (by omega)]; exact d)]
        exact ⟨_, rfl, rfl, fin _ (by unfold jn; rw [if_neg d])⟩
    · rintro ⟨y, s⟩ ⟨h0, q1, _, ag⟩
      have h0 : y = nI 256 := h0
      subst h0
      exact ⟨s, by unfold b_X6_join_43; rw [un_, if_pos (by decide)], q1, ag⟩
/-- what groups tell of the first n PAIRS -/
def JI (T : Tx) (P : Pg) (G : Nat → Nat) (n : Nat) : Prop := (∀ F : Nat → Nat, (∀ x y, x < 256 → y < 256 → mtq T x y = true → F x = F y) → ∀ i, i < 256 → F (G i) = F i) ∧ ∀ m, m < n → mtq T (m / 256) (m % 256) = true → G (m / 256) = G (m % 256) ∧ NsP T P (m / 256) (m % 256)
theorem JI.skip {T : Tx} {P : Pg} {G : Nat → Nat} {x y : Nat} (hy : y < 256) (h : JI T P G (256 * x + y)) (hm : ¬ mtq T x y = true) : JI T P G (256 * x + (y + 1)) := by
  refine ⟨h.1, fun m hm2 q => ?_⟩
  by_cases e : m = 256 * x + y
  · rw [e, (dm hy).1, (dm hy).2] at q; exact absurd q hm
  · exact h.2 m (by omega) q
theorem JI.join {T : Tx} {P : Pg} {G : Nat → Nat} {x y : Nat} (hx : x < 256) (hy : y < 256) (h : JI T P G (256 * x + y)) (hm : mtq T x y = true) (hn : NsP T P x y) : JI T P (jn G x y) (256 * x + (y + 1)) := by
  refine ⟨fun F hF i hi => ?_, fun m hm2 q => ?_⟩
  · have fx := h.1 F hF x hx
    have fy := h.1 F hF y hy
    have fi := h.1 F hF i hi
    have e := hF x y hx hy hm
    unfold jn
    by_cases d : G i = max (G x) (G y)
    · rw [if_pos d]
      rcases Nat.le_total (G x) (G y) with l | l
      · rw [Nat.min_eq_left l, fx, e, ← fy, ← fi, d, Nat.max_eq_right l]
      · rw [Nat.min_eq_right l, fy, ← e, ← fx, ← fi, d, Nat.max_eq_left l]
    · rw [if_neg d]; exact fi
  · by_cases e : m = 256 * x + y
    · rw [e, (dm hy).1, (dm hy).2]
      refine ⟨?_, hn⟩
      unfold jn
      rcases Nat.le_total (G x) (G y) with l | l
      · rw [Nat.min_eq_left l, Nat.max_eq_right l, if_pos rfl]
        split <;> rfl
      · rw [Nat.min_eq_right l, Nat.max_eq_left l, if_pos rfl]
        split <;> rfl
    · obtain ⟨a, b⟩ := h.2 m (by omega) q
      refine ⟨?_, b⟩
      unfold jn
      rw [a]
theorem p_joinStart {σ : St} {T : Tx} {P : Pg} {pa hu x : Nat} {G : Nat → Nat} (hP : VP P) (hpa : pa + 12 < 57) (hx : x < 256) (h1 : CX1 σ) (hA : Akd σ T P hu x (alkT T T.1 &&& MS)) (tr : ∀ y, y < 256 → TraceRow σ pa P hu y) (hG : Grp σ G) (hJ : JI T P G (256 * x)) : ∃ r σ', f_X6_joinStart pa (nI x) σ = some (r, σ') ∧ Ag (fun k => k ≠ 74) σ σ' ∧ ((r = 1 ∧ ∃ G', Grp σ' G' ∧ JI T P G' (256 * x + 256)) ∨ (r = 0 ∧ ∃ y, y < 256 ∧ mtq T x y = true ∧ ¬ NsP T P x y)) := by
  have key := wh_cnt (b := b_X6_joinStart_2 pa (nI x)) 256 (fun y z => z.1 = nI y ∧ Ag (fun k => k ≠ 74) σ z.2 ∧ ∃ G', Grp z.2 G' ∧ JI T P G' (256 * x + y)) (fun w => ∃ r σ', (Sum.elim (fun s3 => some ((1 : Int32), s3)) (fun z => some z)) w = some (r, σ') ∧ Ag (fun k => k ≠ 74) σ σ' ∧ ((r = 1 ∧ ∃ G', Grp σ' G' ∧ JI T P G' (256 * x + 256)) ∨ (r = 0 ∧ ∃ y, y < 256 ∧ mtq T x y = true ∧ ¬ NsP T P x y))) ?_ ?_ FU 0 ((0 : Int32), σ) (Nat.zero_le _) ⟨rfl, Ag.refl _ _, G, hG, hJ⟩ (by rw [FU_]; omega)
  · obtain ⟨w, e, r, σ', q⟩ := key
    exact ⟨r, σ', by unfold f_X6_joinStart; rw [e, Option.bind_some, q.1], q.2⟩
  · rintro y ⟨z, s⟩ hy ⟨h0, ag, G', g1, j1⟩
    have h0 : z = nI y := h0
    subst h0
    dsimp only at ag g1
    have hA' : Akd s T P hu x (alkT T T.1 &&& MS) := by
      unfold Akd; rw [(ag 71 (by decide)).1, (ag 71 (by decide)).2]; exact hA
    have em := p_meantX hy (h1.ag (ag.mono (by omega))) hA'
    have ebr := p_brokenX (Nat.lt_of_le_of_lt Nat.and_le_left (alkT_lt T T.1)) hy ((tr y hy).ag (ag.mono (S' := fun k => pa ≤ k ∧ k ≤ pa + 12) (fun k hk => by omega))) hA'
    unfold b_X6_joinStart_2
    rw [un_, if_neg (show ¬ ((256 : Int32) ≤ nI y) from nI_ge hy (by decide)), em, Option.bind_some]
    cases c : mtq T x y
    · rw [if_pos (by decide), nm_, nI_1]
      left
      exact ⟨_, rfl, rfl, ag, G', g1, j1.skip hy (by rw [c]; decide)⟩
    · rw [if_neg (by decide), ebr, Option.bind_some]
      by_cases d : NsP T P x y
      · rw [if_pos (by rw [cb_t.mpr ((AlP_ns hP hx hy).mpr d)]; rfl)]
        obtain ⟨s2, e2, g2, ag2⟩ := p_join hx hy g1
        rw [e2, Option.bind_some, nm_, nI_1]
        left
        exact ⟨_, rfl, rfl, ag.trans ag2, _, g2, j1.join hx hy c d⟩
      · rw [if_neg (by rw [cb_f.mpr (fun q => d ((AlP_ns hP hx hy).mp q))]; decide)]
        right
        exact ⟨_, rfl, 0, s, rfl, ag, Or.inr ⟨rfl, y, hy, c, d⟩⟩
  · rintro ⟨z, s⟩ ⟨h0, ag, q⟩
    have h0 : z = nI 256 := h0
    subst h0
    exact ⟨_, by unfold b_X6_joinStart_2; rw [un_, if_pos (by decide)], 1, s, rfl, ag, Or.inl ⟨rfl, q⟩⟩
theorem p_joinAll {σ : St} {T : Tx} {P : Pg} {sa pa hu : Nat} (hP : VP P) (hsa : 57 ≤ sa ∧ sa ≤ 67) (hpa : pa + 12 < 57) (h : okT T) (hT : T.1 ≤ 40) (hc : ∀ i, i < T.1 → 33 ≤ T.2 i ∧ T.2 i ≤ 126) (h1 : CX1 σ) (hX : CXs σ sa T) (tr : ∀ y, y < 256 → TraceRow σ pa P hu y) : ∃ r σ', f_X6_joinAll sa pa σ = some (r, σ') ∧ Ag (fun k => k ≠ 71 ∧ k ≠ 74) σ σ' ∧ ((r = 1 ∧ ∃ G', Grp σ' G' ∧ JI T P G' 65536) ∨ (r = 0 ∧ ∃ x, x < 256 ∧ ∃ y, y < 256 ∧ mtq T x y = true ∧ ¬ NsP T P x y)) := by
  have k0 := wh_cnt (b := b_X6_joinAll_2) 256 (fun i z => z.1 = nI i ∧ (∀ j, j < i → z.2.1 74 j = nI j) ∧ Ag (fun k => k ≠ 74) σ z.2) (fun s => (∀ j, j < 256 → s.1 74 j = nI j) ∧ Ag (fun k => k ≠ 74) σ s) ?_ ?_ FU 0 ((0 : Int32), σ) (Nat.zero_le _) ⟨rfl, fun j hj => absurd hj (Nat.not_lt_zero j), Ag.refl _ _⟩ (by rw [FU_]; omega)
  rotate_left
  · rintro i ⟨y, s⟩ hi ⟨h0, q1, ag⟩
    have h0 : y = nI i := h0
    subst h0
    left
    refine ⟨(nI (i + 1), stI s 74 i (nI i)), ?_, rfl, fun j hj => ?_, ag.i_ (fun q => q rfl)⟩
    · unfold b_X6_joinAll_2
      rw [un_, if_neg (show ¬ ((256 : Int32) ≤ nI i) from nI_ge hi (by decide)), inb_nI hi (by decide), chk_t, nm_, nm_, nI_1, nI_clamp (by omega)]
    · show (stI s 74 i (nI i)).1 74 j = nI j
      rw [stI_v]
      by_cases e : j = i
      · rw [if_pos ⟨rfl, e⟩, e]
      · rw [if_neg (fun q => e q.2)]; exact q1 j (by omega)
  · rintro ⟨y, s⟩ ⟨h0, q⟩
    have h0 : y = nI 256 := h0
    subst h0
    exact ⟨s, by unfold b_X6_joinAll_2; rw [un_, if_pos (by decide)], q⟩
  obtain ⟨s3, e3, g3, ag3⟩ := k0
  have hG : Grp s3 (fun i => i) := fun i hi => ⟨g3 i hi, Nat.le_refl _⟩
  have key := wh_cnt (b := b_X6_joinAll_24 sa pa) 256 (fun x z => z.1 = nI x ∧ Ag (fun k => k ≠ 71 ∧ k ≠ 74) σ z.2 ∧ ∃ G', Grp z.2 G' ∧ JI T P G' (256 * x)) (fun w => ∃ r σ', (Sum.elim (fun s8 => some ((1 : Int32), s8)) (fun z => some z)) w = some (r, σ') ∧ Ag (fun k => k ≠ 71 ∧ k ≠ 74) σ σ' ∧ ((r = 1 ∧ ∃ G', Grp σ' G' ∧ JI T P G' (256 * 256)) ∨ (r = 0 ∧ ∃ x, x < 256 ∧ ∃ y, y < 256 ∧ mtq T x y = true ∧ ¬ NsP T P x y))) ?_ ?_ FU 0 ((0 : Int32), s3) (Nat.zero_le _) ⟨rfl, ag3.mono (fun k q => q.2), _, hG, ⟨fun F _ i _ => rfl, fun m hm => absurd hm (Nat.not_lt_zero m)⟩⟩ (by rw [FU_]; omega)
  · obtain ⟨w, e, r, σ', q⟩ := key
    exact ⟨r, σ', by unfold f_X6_joinAll; rw [e3, Option.bind_some, e, Option.bind_some, q.1], q.2⟩
  · rintro x ⟨z, s⟩ hx ⟨h0, ag, G', g1, j1⟩
    have h0 : z = nI x := h0
    subst h0
    dsimp only at ag g1
    have trs : ∀ y, y < 256 → TraceRow s pa P hu y := fun y hy => (tr y hy).ag (ag.mono (fun k hk => by omega))
    obtain ⟨s5, e5, a5, ag5⟩ := p_ask hsa hpa h hT hc (hX.ag (ag.mono (by omega))) hx (trs x hx)
    have e4 : (s5.2 71 4) &&& (-1125899906842624 : Int64) = lN (alkT T T.1 &&& MS) := by
      rw [a5.2.2.2, show (-1125899906842624 : Int64) = lN MS from rfl, fb_andL]
    have a6 : Akd (stL s5 71 4 (lN (alkT T T.1 &&& MS))) T P hu x (alkT T T.1 &&& MS) := ⟨a5.1, a5.2.1, by rw [stL_ne (by decide)]; exact a5.2.2.1, stL_same _ _ _ _⟩
    have ag6 : Ag (fun k => k ≠ 71) s (stL s5 71 4 (lN (alkT T T.1 &&& MS))) := ag5.l_ (fun q => q rfl)
    obtain ⟨r, s7, e7, ag7, q7⟩ := p_joinStart hP hpa hx ((h1.ag (ag.mono (by omega))).ag (ag6.mono (by omega))) a6 (fun y hy => (trs y hy).ag (ag6.mono (fun k hk => by omega))) (g1.ag (ag6 74 (by decide)).1) j1
    have ag8 : Ag (fun k => k ≠ 71 ∧ k ≠ 74) σ s7 := (ag.trans (ag6.mono (fun k q => q.1))).trans (ag7.mono (fun k q => q.2))
    unfold b_X6_joinAll_24
    rw [un_, if_neg (show ¬ ((256 : Int32) ≤ nI x) from nI_ge hx (by decide)), e5, Option.bind_some, nm_, e4, e7, Option.bind_some, un_]
    rcases q7 with ⟨rfl, q⟩ | ⟨rfl, y, q⟩
    · rw [if_neg (by decide), nm_, nI_1]
      left
      exact ⟨_, rfl, rfl, ag8, q⟩
    · rw [if_pos (by decide)]
      right
      exact ⟨_, rfl, 0, s7, rfl, ag8, Or.inr ⟨rfl, x, hx, y, q⟩⟩
  · rintro ⟨z, s⟩ ⟨h0, ag, q⟩
    have h0 : z = nI 256 := h0
    subst h0
    exact ⟨_, by unfold b_X6_joinAll_24; rw [un_, if_pos (by decide)], 1, s, rfl, ag, Or.inl ⟨rfl, q⟩⟩
theorem p_isAlike {σ : St} {P : Pg} {pa hu u : Nat} {G : Nat → Nat} (hP : VP P) (hpa : pa + 12 < 57) (hX : PX σ pa P) (hu4 : u < 4096) (hG : Grp σ G) (tr : ∀ y, y < 256 → TraceRow σ pa P hu y) : ∃ σ', f_X6_isAlike pa (nI u) σ = some (bI (cb (∀ i, i < 256 → shw P u i 24 = shw P u (G i) 24)), σ') ∧ Ag (fun k => k ≠ 75) σ σ' := by
  have key := wh_cnt (b := b_X6_isAlike_2 pa (nI u)) 256 (fun x z => z.1 = nI x ∧ (∀ i, i < x → z.2.2 75 i = lN (enc (shw P u i 24))) ∧ (∀ i, i < x → shw P u i 24 = shw P u (G i) 24) ∧ Ag (fun k => k ≠ 75) σ z.2) (fun w => ∃ σ', (Sum.elim (fun s3 => some ((1 : Int32), s3)) (fun z => some z)) w = some (bI (cb (∀ i, i < 256 → shw P u i 24 = shw P u (G i) 24)), σ') ∧ Ag (fun k => k ≠ 75) σ σ') ?_ ?_ FU 0 ((0 : Int32), σ) (Nat.zero_le _) ⟨rfl, fun j hj => absurd hj (Nat.not_lt_zero j), fun j hj => absurd hj (Nat.not_lt_zero j), Ag.refl _ _⟩ (by rw [FU_]; omega)
  · obtain ⟨w, e, σ', q⟩ := key
    exact ⟨σ', by unfold f_X6_isAlike; rw [e, Option.bind_some, q.1], q.2⟩
  · rintro x ⟨z, s⟩ hx ⟨h0, q1, q2, ag⟩
    have h0 : z = nI x := h0
    subst h0
    dsimp only at q1 ag
    obtain ⟨gx, gl⟩ := hG x hx
    have trs := (tr x hx).ag (ag.mono (S' := fun k => pa ≤ k ∧ k ≤ pa + 12) (fun k hk => by omega))
    have es := p_shownUnder hP (hX.ag (ag.mono (fun k hk => by omega))) hx hu4 rfl trs.2.2.2.1 (fun t ht => by rw [trs.2.2.2.2.2.2 t (by omega), if_pos ht])
    have v1 : ∀ i, i < x + 1 → (stL s 75 x (lN (enc (shw P u x 24)))).2 75 i = lN (enc (shw P u i 24)) := by
      intro i hi
      rw [stL_v]
      by_cases e : i = x
      · rw [if_pos ⟨rfl, e⟩, e]
      · rw [if_neg (fun q => e q.2)]; exact q1 i (by omega)
    have e74 : (stL s 75 x (lN (enc (shw P u x 24)))).1 74 x = nI (G x) := by rw [stL_1, (ag 74 (by decide)).1]; exact gx
    have ag2 : Ag (fun k => k ≠ 75) σ (stL s 75 x (lN (enc (shw P u x 24)))) := ag.l_ (fun q => q rfl)
    have lx := encs_lt P u x
    have lg := encs_lt P u (G x)
    unfold b_X6_isAlike_2
    rw [un_, if_neg (show ¬ ((256 : Int32) ≤ nI x) from nI_ge hx (by decide)), es, Option.bind_some, inb_nI hx (by decide), chk_t, nm_, chk_t, chk_t, nI_clamp (by omega), e74, inb_nI (show G x < 256 by omega) (by decide), chk_t, nI_clamp (by omega), v1 x (by omega), v1 (G x) (by omega), nm_, nI_1]
    by_cases c : enc (shw P u x 24) = enc (shw P u (G x) 24)
    · rw [if_pos (by rw [lg0 (by omega) (by omega)]; exact c)]
      left
      refine ⟨_, rfl, rfl, v1, fun i hi => ?_, ag2⟩
      by_cases e : i = x
      · rw [e]; exact (enc_iff P P u u x (G x)).mp c
      · exact q2 i (by omega)
    · rw [if_neg (by rw [lg0 (by omega) (by omega)]; exact c)]
      right
      refine ⟨_, rfl, _, ?_, ag2⟩
      rw [cb_f.mpr (fun q => c ((enc_iff P P u u x (G x)).mpr (q x hx)))]
      rfl
  · rintro ⟨z, s⟩ ⟨h0, q1, q2, ag⟩
    have h0 : z = nI 256 := h0
    subst h0
    refine ⟨_, by unfold b_X6_isAlike_2; rw [un_, if_pos (by decide)], s, ?_, ag⟩
    rw [cb_t.mpr q2]
    rfl
theorem JI.good {T : Tx} {P : Pg} {G : Nat → Nat} (h : JI T P G 65536) (hu s : Nat) : gdq T P hu s = true ↔ (hasO T → ∀ i, i < 256 → shw P (hu ||| s) i 24 = shw P (hu ||| s) (G i) 24) := by
  unfold gdq
  rw [cb_t]
  have pr : ∀ x y, x < 256 → y < 256 → mtq T x y = true → G x = G y ∧ NsP T P x y := by
    intro x y hx hy hm
    have := h.2 (256 * x + y) (by omega)
    rw [(dm hy).1, (dm hy).2] at this
    exact this hm
  constructor
  · intro q ho i hi
    have := h.1 (fun i => enc (shw P (hu ||| s) i 24)) (fun x y hx hy hm => by
      have := (AsP_ns.mp (cb_t.mp (q x hx y hy hm))).2 ho
      show enc _ = enc _
      rw [this]) i hi
    exact ((enc_iff P P _ _ _ _).mp this).symm
  · intro q x hx y hy hm
    obtain ⟨a, b⟩ := pr x y hx hy hm
    refine cb_t.mpr (AsP_ns.mpr ⟨b, fun ho => ?_⟩)
    rw [q ho x hx, q ho y hy, a]
