/-! ===== orders: the reference, and the call ===== -/
def SO (k j : Nat) : Prop := (k = 0 ∧ (j = 46 ∨ (9 ≤ j ∧ j ≤ 11))) ∨ k = 21 ∨ k = 22
theorem SO_S3 : ∀ k j, S3 k j → SO k j := by intro k j h; unfold S3 at h; unfold SO; omega
def RMo (σ : St) (S : BSt) : Prop := σ.1 0 46 = nI S.1 ∧ (∀ j, j < S.1 → σ.1 22 j = nI (S.2.1 j)) ∧ ∀ x, x < 43264 → σ.1 21 x = bI (S.2.2 x)
theorem RMo.s3 {σ σ' : St} {S : BSt} (h : RMo σ S) (hf : Fr S3 σ σ') : RMo σ' S := by
  obtain ⟨a, b, c⟩ := h
  exact ⟨by rw [hf.1 0 46 (by unfold S3; omega)]; exact a, fun j hj => by rw [hf.1 22 j (by unfold S3; omega)]; exact b j hj, fun x hx => by rw [hf.1 21 x (by unfold S3; omega)]; exact c x hx⟩
theorem p_come {σ : St} {P Q : Pg} {S : BSt} (h : BI P Q S) (hR : RMo σ S) {a b m : Nat} (hx : bok P Q (bpt a b m)) : ∃ σ', f_X9_come (nI a) (nI b) (nI m) σ = some σ' ∧ RMo σ' (badd (bpt a b m) S) ∧ Fr SO σ σ' := by
  have ex : (256 : Int32) * ((13 : Int32) * nI a + nI b) + nI m = nI (bpt a b m) := by
    rw [L13, L256, pk_mul, nI_add, pk_mul, nI_add]; rfl
  have hlt := hx.1
  have hle := h.le
  have addh := h.lt hlt
  generalize bpt a b m = x at *
  obtain ⟨r1, r2, r3⟩ := hR
  unfold f_X9_come badd
  rw [ex, nm_, inb_nI hlt (by decide), chk_t, chk_t, nI_clamp (by omega), r3 x hlt]
  cases c : S.2.2 x
  · have hn := addh c
    rw [if_pos (by decide), if_neg (by decide), nm_, stI_nk (show 0 ≠ 21 by decide), r1, inb_nI hn (by decide), chk_t, nm_, nI_clamp (by omega), nm_, stI_nk (show 0 ≠ 22 by decide), stI_nk (show 0 ≠ 21 by decide), r1, nI_1]
    refine ⟨_, rfl, ⟨?_, ?_, ?_⟩, (((Fr.refl SO σ).st _ (Or.inr (Or.inl rfl))).st _ (Or.inr (Or.inr rfl))).st _ (Or.inl ⟨rfl, Or.inl rfl⟩)⟩
    · rw [stI_same]
    · intro j hj
      dsimp only at hj ⊢
      rw [stI_nk (show 22 ≠ 0 by decide), stI_v]
      by_cases e : j = S.1
      · rw [if_pos ⟨rfl, e⟩, if_pos e]
      · rw [if_neg (fun q => e q.2), if_neg e, stI_nk (show 22 ≠ 21 by decide)]; exact r2 j (by omega)
    · intro y hy
      dsimp only
      rw [stI_nk (show 21 ≠ 0 by decide), stI_nk (show 21 ≠ 22 by decide), stI_v]
      by_cases e : y = x
      · rw [if_pos ⟨rfl, e⟩, decide_eq_true e]; rfl
      · rw [if_neg (fun q => e q.2), decide_eq_false e, Bool.false_or]; exact r3 y hy
  · rw [if_neg (show ¬ (bI true = 0) by decide), if_pos rfl]
    exact ⟨σ, rfl, ⟨r1, r2, r3⟩, Fr.refl _ _⟩
theorem p_clr21 (σ : St) : ∃ σ', wh FU b_X9_findOrders_13 ((0 : Int32), σ) = some σ' ∧ (∀ j, j < 43264 → σ'.1 21 j = 0) ∧ Fr (fun k _ => k = 21) σ σ' := by
  obtain ⟨N, hN⟩ : ∃ N, N = 43264 := ⟨_, rfl⟩
  have key := wh_cnt (b := b_X9_findOrders_13) N (fun i y => y.1 = nI i ∧ (∀ j, j < i → y.2.1 21 j = 0) ∧ Fr (fun k _ => k = 21) σ y.2) (fun s => (∀ j, j < N → s.1 21 j = 0) ∧ Fr (fun k _ => k = 21) σ s) ?_ ?_ FU 0 ((0 : Int32), σ) (Nat.zero_le _) ⟨rfl, fun j hj => absurd hj (Nat.not_lt_zero j), Fr.refl _ _⟩ (by rw [FU_]; omega)
  · obtain ⟨s, e, q⟩ := key
    rw [hN] at q
    exact ⟨s, e, q⟩
  · rintro i ⟨y, s⟩ hi ⟨h0, q1, q2⟩
    have h0 : y = nI i := h0
    subst h0
    left
    refine ⟨(nI (i + 1), stI s 21 i 0), ?_, rfl, fun j hj => ?_, q2.st _ rfl⟩
    · unfold b_X9_findOrders_13
      rw [un_, if_neg (show ¬ ((43264 : Int32) ≤ nI i) from nI_ge (show i < 43264 by omega) (by decide)), inb_nI (show i < 43264 by omega) (by decide), chk_t, nm_, nm_, nI_1, nI_clamp (by omega)]
    · show (stI s 21 i 0).1 21 j = 0
      rw [stI_v]
      by_cases e : j = i
      · rw [if_pos ⟨rfl, e⟩]
      · rw [if_neg (fun q => e q.2)]; exact q1 j (by omega)
  · rintro ⟨y, s⟩ ⟨h0, q⟩
    have h0 : y = nI N := h0
    subst h0
    exact ⟨s, by unfold b_X9_findOrders_13; rw [un_, if_pos (show (43264 : Int32) ≤ nI N from nI_le (show 43264 ≤ N by omega) (by omega))], q⟩
theorem Laid.frS {σ σ' : St} {p : Nat} {P : Pg} {S : Nat → Nat → Prop} (h : Laid σ p P) (hf : Fr S σ σ') (hs : ∀ k j, S k j → k ≠ 8) : Laid σ' p P := fun i m hi hm => by rw [hf.1 8 _ (fun q => hs _ _ q rfl)]; exact h i m hi hm
theorem SO8 : ∀ k j, SO k j → k ≠ 8 := by intro k j h; unfold SO at h; omega
theorem CM2.frS {A : Ab} {σ σ' : St} {S : Nat → Nat → Prop} (h : CM2 A σ) (hf : Fr S σ σ') (hs : ∀ k j, S k j → k = 0 ∨ 8 < k) : CM2 A σ' := h.ag (fun c hc => ⟨funext fun j => hf.1 c j (fun q => by have := hs _ _ q; omega), by rw [hf.2.1]⟩)
theorem c12 {a : Nat} (ha : a < 2 ^ 31) : ((12 : Int32) ≤ nI a) = (12 ≤ a) := le_nI (by decide) ha
theorem p_fo59 {A : Ab} {σ : St} {p q m : Nat} (hV : VA A) (hp : p < 4) (hq : q < 4) (hm : m < 256) (hL : Laid σ p (aP A p)) (hL' : Laid σ q (aP A q)) (hR : RMo σ (bfs (aP A p) (aP A q) m 0)) : ∃ σ', wh FU (b_X9_findOrders_59 (nI p) (nI q)) ((0 : Int32), σ) = some σ' ∧ (∀ x, x < 256 → σ'.1 21 (43008 + x) = bI (OSp (aP A p) (aP A q) m x)) ∧ Fr SO σ σ' := by
  have hP := (hV.1 p hp).1
  have hQ := (hV.1 q hq).1
  have h1 := hP.1
  have h2 := hQ.1
  generalize aP A p = P at *
  generalize aP A q = Q at *
  obtain ⟨N, hN⟩ : ∃ N, N = 43264 := ⟨_, rfl⟩
  have key := wh_cnt (b := b_X9_findOrders_59 (nI p) (nI q)) N (fun k y => y.1 = nI k ∧ RMo y.2 (bfs P Q m k) ∧ Fr SO σ y.2) (fun s => RMo s (bfs P Q m N) ∧ Fr SO σ s) ?_ ?_ FU 0 ((0 : Int32), σ) (Nat.zero_le _) ⟨rfl, hR, Fr.refl _ _⟩ (by rw [FU_]; omega)
  · obtain ⟨s, e, q1, q2⟩ := key
    refine ⟨s, e, fun x hx => ?_, q2⟩
    rw [← OSp_e hN]
    exact q1.2.2 (43008 + x) (by omega)
  · rintro k ⟨y, s⟩ hk ⟨h0, q1, q2⟩
    have h0 : y = nI k := h0
    subst h0
    dsimp only at q1 q2
    have bi := BI.all hP hQ hm k
    have le := bi.le
    unfold b_X9_findOrders_59
    rw [un_, q1.1]
    by_cases c : k < (bfs P Q m k).1
    · left
      have o := (bi.1 k c).1
      have hb : bfs P Q m (k + 1) = bst2 Q ((bfs P Q m k).2.1 k) (bst1 P ((bfs P Q m k).2.1 k) (bfs P Q m k)) := by rw [bfs, if_pos c]
      have qv := q1.2.1 k c
      have bi1 := bi.s1 hP hQ o
      rw [hb]
      generalize bfs P Q m k = S at *
      generalize S.2.1 k = x at *
      obtain ⟨o1, o2, o3⟩ := o
      have Ls := hL.frS q2 SO8
      rw [if_neg (nI_ge c (by omega)), inb_nI (show k < 43264 by omega) (by decide), chk_t, nz256, chk_t, nz13, chk_t, nI_clamp (by omega), qv, nm_, chk_t, chk_t, chk_t, nm_, chk_t, chk_t, nm_, L256, L13, pk_rem (a := x) (by omega) (by decide) (by decide), pk_div (a := x) (by omega) (by decide) (by decide), pk_rem (by omega) (by decide) (by decide), pk_div (by omega) (by decide) (by decide)]
      have step2 : ∀ (s6 : St) (S1 : BSt), BI P Q S1 → RMo s6 S1 → Fr SO σ s6 → ∃ s7, (if (12 : Int32) ≤ nI (x / 256 % 13) then nm (nI k + 1) fun x6 => (some (Sum.inl (x6, s6)) : Option ((Int32 × St) ⊕ St)) else (f_X9_step (nI q) (nI (x / 256 % 13)) (nI (x % 256)) s6).bind fun s13 => (f_X9_come (nI (x / 256 / 13)) (s13.1 0 9) (s13.1 0 10) s13).bind fun s14 => nm (nI k + 1) fun x8 => some (Sum.inl (x8, s14))) = some (.inl s7) ∧ (s7.1 = nI (k + 1) ∧ RMo s7.2 (bst2 Q x S1) ∧ Fr SO σ s7.2) := by
        intro s6 S1 b1 r1 a1
        by_cases d : x / 256 % 13 = 12
        · rw [if_pos (by rw [c12 (by omega)]; omega), nm_, nI_1]
          refine ⟨_, rfl, rfl, ?_, a1⟩
          unfold bst2; rw [if_neg (by omega)]; exact r1
        · have n := cod_nx hQ (i := x / 256 % 13) (m := x % 256) (by omega) (by omega)
          have n2 := cod_lt hQ (i := x / 256 % 13) (m := x % 256) (by omega) (by omega)
          obtain ⟨s13, e13, v11, v9, v10, f13⟩ := p_stepM (σ := s6) (p := q) (i := x / 256 % 13) (m := x % 256) (c := cod Q (x / 256 % 13) (x % 256)) hq (by omega) (by omega) n.2.2.2 ((hL'.frS a1 SO8) _ _ (by omega) (by omega))
          obtain ⟨s7, e7, r7, g7⟩ := p_come b1 (r1.s3 f13) (bok_p (m := cod Q (x / 256 % 13) (x % 256) % 256) h1 h2 o2 n.1 (by omega))
          rw [if_neg (by rw [c12 (by omega)]; omega), e13, Option.bind_some, v9, v10, n2.2.1, e7, Option.bind_some, nm_, nI_1]
          refine ⟨_, rfl, rfl, ?_, (a1.trans (f13.mono SO_S3)).trans g7⟩
          unfold bst2; rw [if_pos (by omega)]; exact r7
      by_cases d : x / 256 / 13 = 12
      · rw [if_pos (by rw [c12 (by omega)]; omega)]
        have e : bst1 P x S = S := by unfold bst1; rw [if_neg (by omega)]
        rw [e]
        exact step2 s S bi q1 q2
      · have n := cod_nx hP (i := x / 256 / 13) (m := x % 256) (by omega) (by omega)
        have n2 := cod_lt hP (i := x / 256 / 13) (m := x % 256) (by omega) (by omega)
        obtain ⟨s13, e13, v11, v9, v10, f13⟩ := p_stepM (σ := s) (p := p) (i := x / 256 / 13) (m := x % 256) (c := cod P (x / 256 / 13) (x % 256)) hp (by omega) (by omega) n.2.2.2 (Ls _ _ (by omega) (by omega))
        obtain ⟨s6, e6, r6, g6⟩ := p_come bi (q1.s3 f13) (bok_p (m := cod P (x / 256 / 13) (x % 256) % 256) h1 h2 n.1 o3 (by omega))
        have e : bst1 P x S = badd (bpt (cod P (x / 256 / 13) (x % 256) % 4096 / 256) (x / 256 % 13) (cod P (x / 256 / 13) (x % 256) % 256)) S := by unfold bst1; rw [if_pos (by omega)]
        rw [if_neg (by rw [c12 (by omega)]; omega), e13, Option.bind_some, v9, v10, n2.2.1, e6, Option.bind_some]
        rw [← e] at r6
        exact step2 s6 _ bi1 r6 ((q2.trans (f13.mono SO_S3)).trans g6)
    · right
      rw [if_pos (nI_le (by omega) (by omega))]
      refine ⟨s, rfl, ?_, q2⟩
      have := bfs_stay (P := P) (Q := Q) (m := m) (k := k) (by omega) (N - k)
      rw [show k + (N - k) = N by omega] at this
      rw [this]; exact q1
  · rintro ⟨y, s⟩ ⟨h0, q1, q2⟩
    have h0 : y = nI N := h0
    subst h0
    dsimp only at q1 q2
    have le := (BI.all hP hQ hm N).le
    refine ⟨s, ?_, q1, q2⟩
    unfold b_X9_findOrders_59
    rw [un_, q1.1, if_pos (nI_le (by omega) (by omega))]
def SW (k j : Nat) : Prop := SQ k j ∨ SO k j
theorem p_findOrders {A : Ab} {σ : St} {p q m : Nat} (hV : VA A) (h : CM2 A σ) (hp : p < 4) (hq : q < 4) (hm : m < 256) : ∃ σ', f_X9_findOrders (nI p) (nI q) (nI m) σ = some σ' ∧ (∀ x, x < 256 → σ'.1 21 (43008 + x) = bI (OSp (aP A p) (aP A q) m x)) ∧ CM2 A σ' ∧ Fr SW σ σ' := by
  have hP := (hV.1 p hp).1
  have hQ := (hV.1 q hq).1
  obtain ⟨s1, s2, e1, e2, c2, l1, l2, f2⟩ := h.lay2 hV hp hq
  obtain ⟨s5, e5, z5, f5⟩ := p_clr21 s2
  have f6 : Fr SO s2 (stI s5 0 46 0) := (f5.mono (fun k j h => Or.inr (Or.inl h))).st _ (Or.inl ⟨rfl, Or.inl rfl⟩)
  have c6 : CM2 A (stI s5 0 46 0) := c2.frS f6 (fun k j h => by unfold SO at h; omega)
  have R0 : RMo (stI s5 0 46 0) (0, (fun _ => 0), fun _ => false) := ⟨stI_same _ _ _ _, fun j hj => absurd hj (Nat.not_lt_zero j), fun x hx => by rw [stI_nk (by decide)]; exact z5 x hx⟩
  obtain ⟨s7, e7, r7, f7⟩ := p_come (BI.z (aP A p) (aP A q)) R0 (bok0 hP hQ hm)
  obtain ⟨s8, e8, z8, f8⟩ := p_fo59 (σ := s7) hV hp hq hm (((l1.frS f6 SO8)).frS f7 SO8) (((l2.frS f6 SO8)).frS f7 SO8) r7
  have hd1 : f_X9_held (nI p) (0 : Int32) (stI s5 0 46 0) = some (nI (nl (aP A p) 0)) := p_held (j := 0) (c6 p hp).1.1 hP.1 hp (by decide)
  have hd2 : f_X9_held (nI q) (0 : Int32) (stI s5 0 46 0) = some (nI (nl (aP A q) 0)) := p_held (j := 0) (c6 q hq).1.1 hQ.1 hq (by decide)
  refine ⟨s8, ?_, z8, (c6.frS f7 (fun k j h => by unfold SO at h; omega)).frS f8 (fun k j h => by unfold SO at h; omega), (f2.mono (fun k j h => Or.inl h)).trans (((f6.trans f7).trans f8).mono (fun k j h => Or.inr h))⟩
  unfold f_X9_findOrders
  rw [e1, Option.bind_some, e2, Option.bind_some, e5, Option.bind_some, nm_, hd1, Option.bind_some, hd2, Option.bind_some, e7, Option.bind_some, e8]
  rfl
theorem CMa.frW {HS : HSt} {WS : WSt} {SS : SSt} {k : Nat} {A : Ab} {σ σ' : St} (h : CMa HS WS SS k A σ) (h2 : CM2 A σ') (hf : Fr SW σ σ') : CMa HS WS SS k A σ' := by
  obtain ⟨m1, m2, m3, m4, m5, mv, m6, m7, m8⟩ := h
  have row : ∀ c, 14 ≤ c → c ≤ 20 → σ'.1 c = σ.1 c := fun c hc hc2 => funext fun j => hf.1 c j (by unfold SW SQ SO; omega)
  have z : ∀ j, ¬ (9 ≤ j ∧ j ≤ 11) → ¬ (27 ≤ j ∧ j ≤ 32) → j ≠ 46 → σ'.1 0 j = σ.1 0 j := fun j h1 h2 h3 => hf.1 0 j (by unfold SW SQ SO; omega)
  refine ⟨?_, h2, ?_, ?_, ?_, ?_, ?_, ?_, ?_⟩
  · unfold CM1; rw [row 20 (by decide) (by decide)]; exact m1
  · unfold CM3 CMt; rw [row 14 (by decide) (by decide), row 15 (by decide) (by decide), z 20 (by decide) (by decide) (by decide)]; exact m3
  · unfold CM4; rw [row 16 (by decide) (by decide)]; exact m4
  · unfold CM5; rw [row 17 (by decide) (by decide)]; exact m5
  · unfold CMv; rw [z 7 (by decide) (by decide) (by decide), z 22 (by decide) (by decide) (by decide), z 42 (by decide) (by decide) (by decide), z 8 (by decide) (by decide) (by decide), z 40 (by decide) (by decide) (by decide)]; exact mv
  · unfold CM6; rw [z 7 (by decide) (by decide) (by decide), z 22 (by decide) (by decide) (by decide), z 21 (by decide) (by decide) (by decide), z 23 (by decide) (by decide) (by decide), z 24 (by decide) (by decide) (by decide), z 25 (by decide) (by decide) (by decide), z 26 (by decide) (by decide) (by decide)]; exact m6
  · intro q
    rw [z 40 (by decide) (by decide) (by decide), z 8 (by decide) (by decide) (by decide)] at q
    obtain ⟨s, p, q', a1, a2, a3, a4, ⟨a5, a6⟩, a7, a8⟩ := m7 q
    refine ⟨s, p, q', a1, a2, a3, by rw [z 39 (by decide) (by decide) (by decide)]; exact a4, ⟨hf.2.2 _ a5, hf.2.2 _ a6⟩, ?_, by rw [z 37 (by decide) (by decide) (by decide)]; exact a8⟩
    rw [row 18 (by decide) (by decide), row 19 (by decide) (by decide)]; exact a7
  · unfold CM8; rw [z 42 (by decide) (by decide) (by decide), z 7 (by decide) (by decide) (by decide), z 41 (by decide) (by decide) (by decide), z 43 (by decide) (by decide) (by decide)]; exact m8
/-- the first one, told otherwise -/
def FQ (E : Nat → Bool) (i n : Nat) (r : Int32) : Prop := (∃ j, i ≤ j ∧ j < n ∧ E j = true ∧ (∀ l, i ≤ l → l < j → E l = false) ∧ r = nI j) ∨ ((∀ l, i ≤ l → l < n → E l = false) ∧ r = -6)
theorem FQ.one {E : Nat → Bool} {i n : Nat} {a b : Int32} (ha : FQ E i n a) (hb : FQ E i n b) : a = b := by
  rcases ha with ⟨j, h1, h2, h3, h4, rfl⟩ | ⟨h1, rfl⟩ <;> rcases hb with ⟨j', g1, g2, g3, g4, rfl⟩ | ⟨g1, rfl⟩
  · rcases Nat.lt_trichotomy j j' with h | h | h
    · have := g4 j h1 h; rw [h3] at this; cases this
    · rw [h]
    · have := h4 j' g1 h; rw [g3] at this; cases this
  · have := g1 j h1 h2; rw [h3] at this; cases this
  · have := h1 j' g1 g2; rw [g3] at this; cases this
  · rfl
theorem cnt_z (E : Nat → Bool) : ∀ n, cnt E n = 0 ↔ ∀ l, l < n → E l = false := by
  intro n
  induction n with
  | zero => exact ⟨fun _ l hl => absurd hl (Nat.not_lt_zero l), fun _ => rfl⟩
  | succ n ih =>
    cases h : E n
    · rw [cnt_f h, ih]
      constructor
      · intro q l hl
        by_cases e : l = n
        · subst e; exact h
        · exact q l (by omega)
      · intro q l hl; exact q l (by omega)
    · rw [cnt_t h]
      constructor
      · intro q; omega
      · intro q; have := q n (by omega); rw [h] at this; cases this
theorem fst_FQ (E : Nat → Bool) : ∀ n, FQ E 0 n (fst_ E n) := by
  intro n
  induction n with
  | zero => exact Or.inr ⟨fun l _ hl => absurd hl (Nat.not_lt_zero l), rfl⟩
  | succ n ih =>
    cases h : E n
    · rw [fst_f h]
      rcases ih with ⟨j, h1, h2, h3, h4, h5⟩ | ⟨h1, h2⟩
      · exact Or.inl ⟨j, h1, by omega, h3, h4, h5⟩
      · refine Or.inr ⟨fun l hl1 hl => ?_, h2⟩
        by_cases e : l = n
        · subst e; exact h
        · exact h1 l hl1 (by omega)
    · by_cases c : cnt E n = 0
      · rw [fst_t0 h c]
        exact Or.inl ⟨n, by omega, by omega, h, fun l _ hl => (cnt_z E n).mp c l hl, rfl⟩
      · rw [fst_t1 c]
        rcases ih with ⟨j, h1, h2, h3, h4, h5⟩ | ⟨h1, h2⟩
        · exact Or.inl ⟨j, h1, by omega, h3, h4, h5⟩
        · exact absurd ((cnt_z E n).mpr (fun l hl => h1 l (by omega) hl)) c
theorem p_countEnds {σ : St} {E : Nat → Bool} (h : ∀ x, x < 256 → sbit σ (43008 + x) = E x) : f_X2_countEnds σ = some (nI (cnt E 256)) := by
  have key := wh_cnt (b := b_X2_countEnds_4 σ) 256 (fun i y => y = (nI (cnt E i), nI i)) (fun r => r = nI (cnt E 256)) ?_ ?_ FU 0 ((0 : Int32), (0 : Int32)) (Nat.zero_le _) rfl (by rw [FU_]; omega)
  · obtain ⟨r, e, rfl⟩ := key
    unfold f_X2_countEnds; rw [e]; rfl
  · rintro i y hi rfl
    left
    refine ⟨_, ?_, rfl⟩
    unfold b_X2_countEnds_4
    rw [un_, if_neg (show ¬ ((256 : Int32) ≤ nI i) from nI_ge hi (by decide)), p_isEnd hi, Option.bind_some, h i hi]
    cases q : E i
    · rw [if_pos (by decide), nm_, nm_, nI_1, cnt_f q, show nI (cnt E i) + (0 : Int32) = nI (cnt E i) from nI_add _ 0]
    · rw [if_neg (by decide), nm_, nm_, nI_1, nI_1, cnt_t q]
  · rintro y rfl
    refine ⟨_, ?_, rfl⟩
    unfold b_X2_countEnds_4
    rw [un_, if_pos (by decide)]
theorem p_leastEnd {σ : St} {E : Nat → Bool} (h : ∀ x, x < 256 → sbit σ (43008 + x) = E x) : f_X2_leastEnd σ = some (fst_ E 256) := by
  have key := wh_cnt (b := b_X2_leastEnd_2 σ) 256 (fun i y => y = nI i ∧ ∀ l, l < i → E l = false) (fun r => ∃ v, (Sum.elim (fun _ => some (-6 : Int32)) (fun z => some z)) r = some v ∧ FQ E 0 256 v) ?_ ?_ FU 0 (0 : Int32) (Nat.zero_le _) ⟨rfl, fun l hl => absurd hl (Nat.not_lt_zero l)⟩ (by rw [FU_]; omega)
  · obtain ⟨r, e, v, e2, hv⟩ := key
    unfold f_X2_leastEnd; rw [e, Option.bind_some, e2, hv.one (fst_FQ E 256)]
  · rintro i y hi ⟨rfl, hl⟩
    unfold b_X2_leastEnd_2
    rw [if_neg (show ¬ ((256 : Int32) ≤ nI i) from nI_ge hi (by decide)), p_isEnd hi, Option.bind_some, h i hi]
    cases q : E i
    · left
      rw [if_pos (by decide), nm_, nI_1]
      refine ⟨_, rfl, rfl, fun l hl2 => ?_⟩
      by_cases e : l = i
      · subst e; exact q
      · exact hl l (by omega)
    · right
      rw [if_neg (by decide)]
      exact ⟨_, rfl, _, rfl, Or.inl ⟨i, by omega, hi, q, fun l _ h => hl l h, rfl⟩⟩
  · rintro y ⟨rfl, hl⟩
    unfold b_X2_leastEnd_2
    rw [if_pos (by decide)]
    exact ⟨_, rfl, _, rfl, Or.inr ⟨fun l _ h => hl l h, rfl⟩⟩
theorem p_ordM {σ : St} {E : Nat → Bool} (h : ∀ x, x < 256 → σ.1 21 (43008 + x) = bI (E x)) : wh FU (b_X9_orders_105 σ) ((0 : Int32), (-6 : Int32), (255 : Int32)) = some (nI (cnt E 256), fst_ E 256) := by
  have key := wh_cnt (b := b_X9_orders_105 σ) 256 (fun k y => ∃ c v, y = (nI c, v, nI (256 - k) + (-1 : Int32)) ∧ c + cnt E (256 - k) = cnt E 256 ∧ FQ E (256 - k) 256 v) (fun r => r = (nI (cnt E 256), fst_ E 256)) ?_ ?_ FU 0 ((0 : Int32), (-6 : Int32), (255 : Int32)) (Nat.zero_le _) ⟨0, -6, rfl, Nat.zero_add _, Or.inr ⟨fun l h1 h2 => by omega, rfl⟩⟩ (by rw [FU_]; omega)
  · obtain ⟨r, e, rfl⟩ := key
    exact e
  · rintro k y hk ⟨c, v, rfl, hc, hv⟩
    left
    have e1 : nI (256 - k) + (-1 : Int32) = nI (255 - k) := by
      rw [show 256 - k = (255 - k) + 1 by omega]; exact pk_m1 _
    have e2 : (43008 : Int32) + nI (255 - k) = nI (43008 + (255 - k)) := by rw [L43008, nI_add]
    unfold b_X9_orders_105
    rw [un_, un_, e1, if_neg (nI_pos (by omega)), e2, inb_nI (show 43008 + (255 - k) < 43264 by omega) (by decide), chk_t, chk_t, chk_t, nI_clamp (by omega), h (255 - k) (by omega)]
    have e3 : 256 - (k + 1) = 255 - k := by omega
    have e4 : 256 - k = 255 - k + 1 := by omega
    cases q : E (255 - k)
    · rw [if_pos (by decide), if_pos (by decide), nm_, nm_]
      refine ⟨_, rfl, c, v, ?_, ?_, ?_⟩
      · rw [show nI c + (0 : Int32) = nI c from nI_add _ 0, e3]
      · rw [e3]; rw [e4, cnt_f q] at hc; exact hc
      · rw [e3]
        rcases hv with ⟨j, h1, h2, h3, h4, h5⟩ | ⟨h1, h2⟩
        · refine Or.inl ⟨j, by omega, h2, h3, fun l hl1 hl2 => ?_, h5⟩
          by_cases e : l = 255 - k
          · rw [e]; exact q
          · exact h4 l (by omega) hl2
        · refine Or.inr ⟨fun l hl1 hl2 => ?_, h2⟩
          by_cases e : l = 255 - k
          · rw [e]; exact q
          · exact h1 l (by omega) hl2
    · rw [if_neg (by decide), if_neg (by decide), nm_, nm_, nI_1]
      refine ⟨_, rfl, c + 1, nI (255 - k), ?_, ?_, ?_⟩
      · rw [e3]
      · rw [e3]; rw [e4, cnt_t q] at hc; omega
      · rw [e3]
        exact Or.inl ⟨255 - k, by omega, by omega, q, fun l hl1 hl2 => by omega, rfl⟩
  · rintro y ⟨c, v, rfl, hc, hv⟩
    refine ⟨_, ?_, rfl⟩
    unfold b_X9_orders_105
    rw [un_, un_, if_pos (by decide)]
    rw [Nat.sub_self] at hc hv
    have hc' : c = cnt E 256 := hc
    rw [hc', hv.one (fst_FQ E 256)]
theorem rngO (x : Int32) : (∃ j, j ≤ 1 ∧ x = nI j ∧ x < (10 : Int32) ∧ f_X8_isWithin x (1 : Int32) = some 1 ∧ f_X9_in x.toInt64 0 1 = some 1) ∨ (∃ j, j < 256 ∧ x = nI (10 + j) ∧ ¬ x < (10 : Int32) ∧ ¬ (266 : Int32) ≤ x ∧ f_X8_isWithin x (1 : Int32) = some 0 ∧ f_X9_in x.toInt64 0 1 = some 0 ∧ f_X9_in x.toInt64 10 265 = some 1) ∨ ((x < (10 : Int32) ∨ (¬ x < (10 : Int32) ∧ (266 : Int32) ≤ x)) ∧ f_X8_isWithin x (1 : Int32) = some 0 ∧ f_X9_in x.toInt64 0 1 = some 0 ∧ f_X9_in x.toInt64 10 265 = some 0) := by
  have h1 : (10 : Int32).toInt = 10 := rfl
  have h2 : (266 : Int32).toInt = 266 := rfl
  have h3 : (10 : Int64).toInt = 10 := rfl
  have h4 : (265 : Int64).toInt = 265 := rfl
  have h5 : (0 : Int64).toInt = 0 := rfl
  have h6 : (1 : Int64).toInt = 1 := rfl
  have h7 : (1 : Int32).toInt = 1 := rfl
  rw [in_iff, in_iff, within_iff, Int32.lt_iff_toInt_lt, Int32.le_iff_toInt_le, Int32.toInt_toInt64, h1, h2, h3, h4, h5, h6, h7]
  by_cases c : 0 ≤ x.toInt ∧ x.toInt ≤ 1
  · left
    rw [if_pos c]
    refine ⟨x.toInt.toNat, by omega, ?_, by omega, rfl, rfl⟩
    apply Int32.toInt_inj.mp
    rw [nI_toInt (by omega)]; omega
  · right
    rw [if_neg c]
    by_cases d : 10 ≤ x.toInt ∧ x.toInt ≤ 265
    · left
      rw [if_pos d]
      refine ⟨x.toInt.toNat - 10, by omega, ?_, by omega, by omega, rfl, rfl, rfl⟩
      apply Int32.toInt_inj.mp
      rw [nI_toInt (by omega)]; omega
    · right
      rw [if_neg d]
      exact ⟨by omega, rfl, rfl, rfl⟩
/-- the answer -/
def oan (E : Nat → Bool) (w : Int32) : Int32 := if w = 0 then nI (cnt E 256) else if w = 1 then fst_ E 256 else bI (E (w.toNatClampNeg - 10))
def Wok (w : Int32) : Prop := w = 0 ∨ w = 1 ∨ ∃ x, x < 256 ∧ w = nI (10 + x)
theorem p_oanX {σ : St} {E : Nat → Bool} (h : ∀ x, x < 256 → sbit σ (43008 + x) = E x) {w : Int32} (hw : Wok w) : (if w = (0 : Int32) then (f_X2_countEnds σ).bind fun r31 => some (r31, σ) else (if w = (1 : Int32) then (f_X2_leastEnd σ).bind fun r32 => some (r32, σ) else (f_X2_isEnd (w - (10 : Int32)) σ).bind fun r33 => (if r33 = (0 : Int32) then some ((0 : Int32), σ) else some ((1 : Int32), σ)))) = some (oan E w, σ) := by
  unfold oan
  by_cases a : w = 0
  · rw [if_pos a, if_pos a, p_countEnds h]; rfl
  · rw [if_neg a, if_neg a]
    by_cases b : w = 1
    · rw [if_pos b, if_pos b, p_leastEnd h]; rfl
    · rw [if_neg b, if_neg b]
      rcases hw with q | q | ⟨x, hx, rfl⟩
      · exact absurd q a
      · exact absurd q b
      · rw [L10, pk_sub (by omega), Nat.add_sub_cancel_left, p_isEnd hx, Option.bind_some, h x hx, nI_clamp (by omega), Nat.add_sub_cancel_left]
        cases E x <;> rfl
theorem p_oX {HS : HSt} {WS : WSt} {k : Nat} {A : Ab} {σ : St} {p q m : Nat} {w : Int32} (hV : VA A) (hX : CXa HS WS OSp k A σ) (hp : p < 4) (hq : q < 4) (hm : m < 256) (hw : Wok w) : ∃ σ', ((f_X8_keyOf (nI m) (nI p) (nI q)).bind fun r30 => (if (σ.1 84 0) = r30 then (if w = (0 : Int32) then (f_X2_countEnds σ).bind fun r31 => some (r31, σ) else (if w = (1 : Int32) then (f_X2_leastEnd σ).bind fun r32 => some (r32, σ) else (f_X2_isEnd (w - (10 : Int32)) σ).bind fun r33 => (if r33 = (0 : Int32) then some ((0 : Int32), σ) else some ((1 : Int32), σ)))) else chk (inb (nI p) 4) (nm (4 + 13 * (nI p).toNatClampNeg) fun k7 => chk (inb (nI q) 4) (nm (4 + 13 * (nI q).toNatClampNeg) fun k8 => (f_X2_reach k7 k8 (nI m) σ).bind fun s7 => nm (stI s7 84 0 r30) fun s8 => (if w = (0 : Int32) then (f_X2_countEnds s8).bind fun r34 => some (r34, s8) else (if w = (1 : Int32) then (f_X2_leastEnd s8).bind fun r35 => some (r35, s8) else (f_X2_isEnd (w - (10 : Int32)) s8).bind fun r36 => (if r36 = (0 : Int32) then some ((0 : Int32), s8) else some ((1 : Int32), s8)))))))) = some (oan (OSp (aP A p) (aP A q) m) w, σ') ∧ CXa HS WS OSp k A σ' := by
  have h6 := hV.2.1
  rw [p_keyOf, Option.bind_some]
  by_cases c : σ.1 84 0 = nI (16 * m + 4 * p + q)
  · rw [if_pos c]
    refine ⟨σ, p_oanX ?_ hw, hX⟩
    rcases hX.2.2.2.2.2.2.2 with e | ⟨m', p', q', a1, a2, a3, a4, a5⟩
    · rw [e] at c; exact absurd c.symm (nI_n6 (by omega))
    · rw [a4] at c
      obtain ⟨rfl, rfl, rfl⟩ := key3 (by omega) a2 a3 (by omega) hp hq c
      exact a5
  · rw [if_neg c, ip4 hp, chk_t, nm_, cp4 hp, ip4 hq, chk_t, nm_, cp4 hq]
    obtain ⟨s7, e7, z7, ag⟩ := p_reach (m := m) (show 4 + 13 * p + 12 < 57 by omega) (show 4 + 13 * q + 12 < 57 by omega) (hV.1 p hp).1 (hV.1 q hq).1 (hX.2.1 p hp).1 (hX.2.1 q hq).1 hm
    rw [e7, Option.bind_some, nm_]
    have ag' : Ag (fun i => i ≠ 84 ∧ i ≠ 85 ∧ i ≠ 86) σ (stI s7 84 0 (nI (16 * m + 4 * p + q))) := ag.i_ (fun h => h.1 rfl)
    have z8 : ∀ x, x < 256 → sbit (stI s7 84 0 (nI (16 * m + 4 * p + q))) (43008 + x) = OSp (aP A p) (aP A q) m x := z7
    refine ⟨_, p_oanX z8 hw, ?_⟩
    obtain ⟨x1, x2, x3, x4, x5, x6, x7, x8⟩ := hX
    exact ⟨x1.ag (ag'.mono (by omega)), x2.ag (ag'.mono (by omega)), x3.ag h6 (ag'.mono (by omega)), x4.ag (ag'.mono (by omega)), x5.ag (ag'.mono (by omega)), x6.ag (ag'.mono (by omega)), x7.ag (ag'.mono (by omega)), Or.inr ⟨m, p, q, hm, hp, hq, stI_same _ _ _ _, z8⟩⟩
section PRC
variable (HS : HSt) (WS : WSt) (SS : SSt)
theorem ok_orders : Ok_orders (Rel HS WS OSp SS) := by
  intro k σX σM a1 a2 a3 a4 hk hR
  have hR0 := hR
  obtain ⟨A, hV, hX, hM⟩ := hR
  rcases rngP a1 with ⟨p, hp, rfl, pa, pb⟩ | ⟨pa, pb⟩
  rotate_left
  · exact ansE HS WS OSp SS hR0 (r := -1) (by unfold f_X8_orders; rw [pa]; rfl) (by unfold f_X9_orders; rw [pb]; rfl)
  rcases rngP a2 with ⟨q, hq, rfl, qa, qb⟩ | ⟨qa, qb⟩
  rotate_left
  · exact ansE HS WS OSp SS hR0 (r := -1) (by unfold f_X8_orders; rw [pa, Option.bind_some, if_neg (by decide), qa]; rfl) (by unfold f_X9_orders; rw [pb, Option.bind_some, if_neg (by decide), qb]; rfl)
  rcases rngS a3 with ⟨m, hm, rfl, ma, mb⟩ | ⟨ma, mb⟩
  rotate_left
  · refine ansE HS WS OSp SS hR0 (r := -2) ?_ (by unfold f_X9_orders; rw [pb, Option.bind_some, if_neg (by decide), qb, Option.bind_some, if_neg (by decide), mb]; rfl)
    unfold f_X8_orders; rw [pa, Option.bind_some, if_neg (by decide), qa, Option.bind_some, if_neg (by decide), ma]
    by_cases c : a4 < 10
    · rw [if_pos c]; rfl
    · rw [if_neg c]
      by_cases d : (266 : Int32) ≤ a4
      · rw [if_pos d]; rfl
      · rw [if_neg d]; rfl
  obtain ⟨m', eM, z, c', f'⟩ := p_findOrders hV hM.2.1 hp hq hm
  have hM' := hM.frW c' f'
  have oM := p_ordM z
  rcases rngO a4 with ⟨j, hj, rfl, w1, w2, w3⟩ | ⟨j, hj, rfl, w1, w2, w3, w4, w5⟩ | ⟨w1, w2, w3, w4⟩
  · have hw : Wok (nI j) := by
      rcases (show j = 0 ∨ j = 1 by omega) with rfl | rfl
      · exact Or.inl rfl
      · exact Or.inr (Or.inl rfl)
    obtain ⟨x', eX, hX'⟩ := p_oX hV hX hp hq hm hw
    refine ⟨oan (OSp (aP A p) (aP A q) m) (nI j), x', m', ?_, ?_, A, hV, hX'.mono (Nat.le_succ k), hM'.mono (Nat.le_succ k)⟩
    · unfold f_X8_orders; rw [pa, Option.bind_some, if_neg (by decide), qa, Option.bind_some, if_neg (by decide), if_pos w1, ma, Option.bind_some, if_neg (by decide), w2, Option.bind_some, if_neg (by decide)]
      exact eX
    · unfold f_X9_orders
      rw [pb, Option.bind_some, if_neg (by decide), qb, Option.bind_some, if_neg (by decide), mb, Option.bind_some, if_neg (by decide), w3, Option.bind_some, if_neg (by decide), eM, Option.bind_some, if_pos (show nI j ≤ (9 : Int32) from nI_le (show j ≤ 9 by omega) (by decide)), oM, Option.bind_some, un_]
      unfold oan
      rcases (show j = 0 ∨ j = 1 by omega) with rfl | rfl <;> rfl
  · have hw : Wok (nI (10 + j)) := Or.inr (Or.inr ⟨j, hj, rfl⟩)
    obtain ⟨x', eX, hX'⟩ := p_oX hV hX hp hq hm hw
    refine ⟨oan (OSp (aP A p) (aP A q) m) (nI (10 + j)), x', m', ?_, ?_, A, hV, hX'.mono (Nat.le_succ k), hM'.mono (Nat.le_succ k)⟩
    · unfold f_X8_orders; rw [pa, Option.bind_some, if_neg (by decide), qa, Option.bind_some, if_neg (by decide), if_neg w1, if_neg w2, ma, Option.bind_some, if_neg (by decide), w3, Option.bind_some, if_pos (by decide)]
      exact eX
    · unfold f_X9_orders
      have ei : (43008 : Int32) + nI (10 + j) - (10 : Int32) = nI (43008 + j) := by rw [L43008, L10, nI_add, pk_sub (by omega)]; congr 1; omega
      rw [pb, Option.bind_some, if_neg (by decide), qb, Option.bind_some, if_neg (by decide), mb, Option.bind_some, if_neg (by decide), w4, Option.bind_some, if_pos (by decide), w5, Option.bind_some, if_neg (by decide), eM, Option.bind_some, if_neg (show ¬ nI (10 + j) ≤ (9 : Int32) from nI_ge (show 9 < 10 + j by omega) (by omega)), ei, inb_nI (show 43008 + j < 43264 by omega) (by decide), chk_t, nI_clamp (by omega), z j hj]
      have n0 : ¬ nI (10 + j) = (0 : Int32) := nI_ne0 (by omega) (by omega)
      have n1 : ¬ nI (10 + j) = (1 : Int32) := fun e => by rw [show (1 : Int32) = nI 1 from rfl, eq_nI (by omega) (by decide)] at e; omega
      unfold oan
      rw [if_neg n0, if_neg n1, nI_clamp (by omega), Nat.add_sub_cancel_left]
      cases OSp (aP A p) (aP A q) m j <;> rfl
  · refine ansE HS WS OSp SS hR0 (r := -2) ?_ (by unfold f_X9_orders; rw [pb, Option.bind_some, if_neg (by decide), qb, Option.bind_some, if_neg (by decide), mb, Option.bind_some, if_neg (by decide), w3, Option.bind_some, if_pos (by decide), w4]; rfl)
    unfold f_X8_orders; rw [pa, Option.bind_some, if_neg (by decide), qa, Option.bind_some, if_neg (by decide), ma]
    rcases w1 with w1 | ⟨w1, w1'⟩
    · rw [if_pos w1, Option.bind_some, if_neg (by decide), w2]; rfl
    · rw [if_neg w1, if_pos w1', Option.bind_some, if_neg (by decide), w2]; rfl
end PRC
