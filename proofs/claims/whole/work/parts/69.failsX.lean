/-! ===== fails: the class ===== -/
def mv1 (P : Pg) (w a x : Nat) : Nat := if w = 2 then 256 * a + x else cod P a x % 4096
def mv2 (Q : Pg) (w b y : Nat) : Nat := if w = 1 then 256 * b + y else cod Q b y % 4096
/-- where a PAIR can stand, and who moves there -/
def Sdp (P Q : Pg) (w a b : Nat) : Prop := a ≤ 12 ∧ b ≤ 12 ∧ ((w = 2 ∧ b < Q.1) ∨ (w = 1 ∧ a < P.1) ∨ (w = 0 ∧ a < P.1 ∧ b < Q.1))
theorem Sdp.of {P Q : Pg} {W : Nat → Nat → Nat} (hP : VP P) (hQ : VP Q) (hW : Wle W) {Z : WAc} (hZ : WOK P Q Z) {j : Nat} (hj : j < 168) (hs : ¬ Z.2.1 j = 0) : Sdp P Q (mvr W (j / 13) (j % 13)) (j / 13) (j % 13) := by
  have p1 := hP.1
  have q1 := hQ.1
  rcases hZ j with q | ⟨_, h1, h2⟩
  · exact absurd q hs
  · refine ⟨by omega, by omega, ?_⟩
    rcases mvr_c hW (show j / 13 ≤ 12 by omega) (show j % 13 ≤ 12 by omega) with h | h | h | h
    · omega
    · exact Or.inl ⟨h.1, by omega⟩
    · exact Or.inr (Or.inl ⟨h.1, by omega⟩)
    · exact Or.inr (Or.inr ⟨h.1, by omega, by omega⟩)
theorem mv1_lt {P Q : Pg} (hP : VP P) {w a b x : Nat} (h : Sdp P Q w a b) (hx : x < 256) : mv1 P w a x < 3328 := by
  obtain ⟨h1, h2, h3⟩ := h
  unfold mv1
  split
  · omega
  · exact (cod_nx hP (by omega) hx).2.1
theorem mv2_lt {P Q : Pg} (hQ : VP Q) {w a b y : Nat} (h : Sdp P Q w a b) (hy : y < 256) : mv2 Q w b y < 3328 := by
  obtain ⟨h1, h2, h3⟩ := h
  unfold mv2
  split
  · omega
  · exact (cod_nx hQ (by omega) hy).2.1
def kpt (P Q : Pg) (S : Nat → Nat) (w a b x y : Nat) : Prop := shq (S (13 * a + b)) x y → shq (S (13 * (mv1 P w a x / 256) + mv2 Q w b y / 256)) (mv1 P w a x % 256) (mv2 Q w b y % 256)
def Kpd (P Q : Pg) (S : Nat → Nat) (w a b : Nat) : Prop := ∀ x, x < 256 → ∀ y, y < 256 → kpt P Q S w a b x y
/-- what fails may change -/
def Fk (σ σ' : St) : Prop := Ag (fun k => k ≠ 76 ∧ k ≠ 81 ∧ k ≠ 82 ∧ k ≠ 83) σ σ' ∧ ∀ j, j ≠ 9 → σ'.1 76 j = σ.1 76 j
theorem Fk.refl (σ : St) : Fk σ σ := ⟨Ag.refl _ _, fun _ _ => rfl⟩
theorem Fk.trans {a b c : St} (h1 : Fk a b) (h2 : Fk b c) : Fk a c := ⟨h1.1.trans h2.1, fun j hj => (h2.2 j hj).trans (h1.2 j hj)⟩
theorem Fk.i_ {a b : St} {k j : Nat} {x : Int32} (h : Fk a b) (hk : k = 81 ∨ k = 82 ∨ k = 83) : Fk a (stI b k j x) := ⟨h.1.i_ (by omega), fun i hi => by rw [stI_nk (by omega)]; exact h.2 i hi⟩
theorem Fk.n_ {a b : St} {x : Int32} (h : Fk a b) : Fk a (stI b 76 9 x) := ⟨h.1.i_ (fun q => q.1 rfl), fun i hi => by rw [stI_ne (fun e => hi e.2)]; exact h.2 i hi⟩
theorem Fk.c83 {a b c : St} (h : Fk a b) (h2 : Ag (fun k => k ≠ 83) b c) : Fk a c := ⟨h.1.trans (h2.mono (fun k q => q.2.2.2)), fun j hj => by rw [(h2 76 (by decide)).1]; exact h.2 j hj⟩
def mvS (s : St) (m : Nat) (u v : Int32) : St := stI (stI (stI s 81 m u) 82 m v) 76 9 (((stI (stI s 81 m u) 82 m v).1 76 9) ||| ((1 : Int32) <<< ((((stI (stI s 81 m u) 82 m v).1 82 m) / (256 : Int32)) &&& 31)))
theorem mvS_81 (s : St) (m : Nat) (u v : Int32) (i : Nat) : (mvS s m u v).1 81 i = if i = m then u else s.1 81 i := by
  unfold mvS
  rw [stI_nk (by decide), stI_nk (by decide), stI_v]
  by_cases e : i = m
  · rw [if_pos ⟨rfl, e⟩, if_pos e]
  · rw [if_neg (fun q => e q.2), if_neg e]
theorem mvS_82 (s : St) (m : Nat) (u v : Int32) (i : Nat) : (mvS s m u v).1 82 i = if i = m then v else s.1 82 i := by
  unfold mvS
  rw [stI_nk (by decide), stI_v]
  by_cases e : i = m
  · rw [if_pos ⟨rfl, e⟩, if_pos e]
  · rw [if_neg (fun q => e q.2), if_neg e, stI_nk (by decide)]
theorem mvS_9 (s : St) (m : Nat) (u : Int32) {v : Nat} (hv : v < 3328) : (mvS s m u (nI v)).1 76 9 = s.1 76 9 ||| nI (2 ^ (v / 256)) := by
  unfold mvS
  rw [stI_same, stI_same, stI_nk (by decide), stI_nk (by decide), div256 (by omega), sh1 _ (by omega)]
theorem mvS_f {a s : St} {m : Nat} {u v : Int32} (h : Fk a s) : Fk a (mvS s m u v) := ((h.i_ (Or.inl rfl)).i_ (Or.inr (Or.inl rfl))).n_
theorem bit_or (B k i : Nat) : (B ||| 2 ^ k) / 2 ^ i % 2 = 1 ↔ (B / 2 ^ i % 2 = 1 ∨ i = k) := by
  have h := fb_bit_set B k i
  rw [Nat.testBit_eq_decide_div_mod_eq, Nat.testBit_eq_decide_div_mod_eq] at h
  rw [← decide_eq_true_iff (p := (B ||| 2 ^ k) / 2 ^ i % 2 = 1), h, Bool.or_eq_true, decide_eq_true_iff, decide_eq_true_iff]
theorem p_moveAll {σ : St} {pa qa j : Nat} {P Q : Pg} {W : Nat → Nat → Nat} (hpa : pa + 12 < 57) (hqa : qa + 12 < 57) (hP : VP P) (hQ : VP Q) (hX : PX σ pa P) (hY : PX σ qa Q) (hT : WTx σ W) (hj : j < 168) (hS : Sdp P Q (mvr W (j / 13) (j % 13)) (j / 13) (j % 13)) : ∃ σ', f_X7_moveAll pa qa (nI j) σ = some σ' ∧ (∀ m, m < 256 → σ'.1 81 m = nI (mv1 P (mvr W (j / 13) (j % 13)) (j / 13) m) ∧ σ'.1 82 m = nI (mv2 Q (mvr W (j / 13) (j % 13)) (j % 13) m)) ∧ (∃ B, B < 2 ^ 13 ∧ σ'.1 76 9 = nI B ∧ ∀ m, m < 256 → B / 2 ^ (mv2 Q (mvr W (j / 13) (j % 13)) (j % 13) m / 256) % 2 = 1) ∧ Fk σ σ' := by
  have hw : σ.1 77 j = nI (mvr W (j / 13) (j % 13)) := by
    have := hT (j / 13) (j % 13) (by omega) (by omega) (by omega)
    rw [show 13 * (j / 13) + j % 13 = j by omega] at this
    exact this
  unfold f_X7_moveAll
  rw [nz13, chk_t, nm_, chk_t, nm_, inb_nI (show j < 169 by omega) (by decide), chk_t, nm_, nm_, (d13 (by omega)).2, (d13 (by omega)).1, nI_clamp (by omega), hw]
  generalize mvr W (j / 13) (j % 13) = w at *
  generalize j / 13 = a at *
  generalize j % 13 = b at *
  have key := wh_cnt (b := b_X7_moveAll_28 pa qa (nI a) (nI b) (nI w)) 256 (fun i z => z.1 = nI i ∧ (∀ m, m < i → z.2.1 81 m = nI (mv1 P w a m) ∧ z.2.1 82 m = nI (mv2 Q w b m)) ∧ (∃ B, B < 2 ^ 13 ∧ z.2.1 76 9 = nI B ∧ ∀ m, m < i → B / 2 ^ (mv2 Q w b m / 256) % 2 = 1) ∧ Fk σ z.2) (fun s => (∀ m, m < 256 → s.1 81 m = nI (mv1 P w a m) ∧ s.1 82 m = nI (mv2 Q w b m)) ∧ (∃ B, B < 2 ^ 13 ∧ s.1 76 9 = nI B ∧ ∀ m, m < 256 → B / 2 ^ (mv2 Q w b m / 256) % 2 = 1) ∧ Fk σ s) ?_ ?_ FU 0 ((0 : Int32), stI σ 76 9 0) (Nat.zero_le _) ⟨rfl, fun m hm => absurd hm (Nat.not_lt_zero m), ⟨0, by decide, stI_same _ _ _ _, fun m hm => absurd hm (Nat.not_lt_zero m)⟩, (Fk.refl σ).n_⟩ (by rw [FU_]; omega)
  · obtain ⟨s, e, q⟩ := key
    exact ⟨s, by rw [e]; rfl, q⟩
  · rintro i ⟨y, s⟩ hi ⟨h0, q1, ⟨B, hB, q2, q3⟩, f⟩
    have h0 : y = nI i := h0
    subst h0
    dsimp only at q1 q2 f
    left
    have l1 := mv1_lt (Q := Q) hP hS hi
    have l2 := mv2_lt (P := P) hQ hS hi
    have eb : b_X7_moveAll_28 pa qa (nI a) (nI b) (nI w) (nI i, s) = some (.inl (nI (i + 1), mvS s i (nI (mv1 P w a i)) (nI (mv2 Q w b i)))) := by
      have m256 : ∀ n, nI n * (256 : Int32) + nI i = nI (256 * n + i) := fun n => by rw [L256, pk_mul, nI_add, Nat.mul_comm]
      have pX : ∀ s', Fk σ s' → PX s' pa P := fun s' h => hX.ag (h.1.mono (fun k hk => by omega))
      have pY : ∀ s', Fk σ s' → PX s' qa Q := fun s' h => hY.ag (h.1.mono (fun k hk => by omega))
      unfold b_X7_moveAll_28
      rw [un_, if_neg (show ¬ ((256 : Int32) ≤ nI i) from nI_ge hi (by decide))]
      rcases hS.2.2 with ⟨rfl, hb⟩ | ⟨rfl, ha⟩ | ⟨rfl, ha, hb⟩
      · rw [if_pos (by decide), inb_nI hi (by decide), chk_t, nm_, if_neg (by decide), m256, nI_clamp (by omega), p_steppedS hQ (pY _ (f.i_ (Or.inl rfl))) hb hi, Option.bind_some, chk_t, nm_, chk_t, nz256, chk_t, nm_, nm_, nI_1]
        rfl
      · rw [if_neg (by decide), p_steppedS hP (pX _ f) ha hi, Option.bind_some, inb_nI hi (by decide), chk_t, nm_, if_pos (by decide), chk_t, nm_, chk_t, nz256, chk_t, nm_, nm_, nI_1, m256, nI_clamp (by omega)]
        rfl
      · rw [if_neg (by decide), p_steppedS hP (pX _ f) ha hi, Option.bind_some, inb_nI hi (by decide), chk_t, nm_, if_neg (by decide), nI_clamp (by omega), p_steppedS hQ (pY _ (f.i_ (Or.inl rfl))) hb hi, Option.bind_some, chk_t, nm_, chk_t, nz256, chk_t, nm_, nm_, nI_1]
        rfl
    refine ⟨_, eb, rfl, fun m hm => ?_, ⟨B ||| 2 ^ (mv2 Q w b i / 256), ?_, ?_, fun m hm => ?_⟩, mvS_f f⟩
    · show (mvS s i _ _).1 81 m = _ ∧ (mvS s i _ _).1 82 m = _
      rw [mvS_81, mvS_82]
      by_cases e : m = i
      · rw [if_pos e, if_pos e, e]; exact ⟨rfl, rfl⟩
      · rw [if_neg e, if_neg e]; exact q1 m (by omega)
    · exact Nat.or_lt_two_pow hB (wb_lt2 (by omega))
    · show (mvS s i _ _).1 76 9 = _
      rw [mvS_9 _ _ _ l2, q2, fa_or]
    · rw [bit_or]
      by_cases e : m = i
      · right; rw [e]
      · left; exact q3 m (by omega)
  · rintro ⟨y, s⟩ ⟨h0, q⟩
    have h0 : y = nI 256 := h0
    subst h0
    exact ⟨s, by unfold b_X7_moveAll_28; rw [un_, if_pos (by decide)], q⟩
theorem p_askNext {σ : St} {n B : Nat} {S : Nat → Nat} (hn : n < 3328) (hB : B < 2 ^ 13) (h9 : σ.1 76 9 = nI B) (h78 : ∀ j, j < 169 → σ.1 78 j = nI (S j) ∧ S j < 4096) : ∃ a σ', f_X7_askNext (nI n) σ = some (bI a, σ') ∧ (∀ l, l < 13 → B / 2 ^ l % 2 = 1 → σ'.1 83 l = nI (dny (S (13 * (n / 256) + l)) (n % 256)) ∧ (a = false → dny (S (13 * (n / 256) + l)) (n % 256) = 0)) ∧ Ag (fun k => k ≠ 83) σ σ' := by
  have key := wh_cnt (b := b_X7_askNext_4 (nI n)) 13 (fun i z => ∃ Y st, z = (nI Y, nI i, st) ∧ Y < 2 ^ 16 ∧ (∀ l, l < i → B / 2 ^ l % 2 = 1 → st.1 83 l = nI (dny (S (13 * (n / 256) + l)) (n % 256)) ∧ (Y = 0 → dny (S (13 * (n / 256) + l)) (n % 256) = 0)) ∧ Ag (fun k => k ≠ 83) σ st) (fun r => ∃ Y st, r = (nI Y, st) ∧ Y < 2 ^ 16 ∧ (∀ l, l < 13 → B / 2 ^ l % 2 = 1 → st.1 83 l = nI (dny (S (13 * (n / 256) + l)) (n % 256)) ∧ (Y = 0 → dny (S (13 * (n / 256) + l)) (n % 256) = 0)) ∧ Ag (fun k => k ≠ 83) σ st) ?_ ?_ FU 0 ((0 : Int32), (0 : Int32), σ) (Nat.zero_le _) ⟨0, σ, rfl, by decide, fun l hl => absurd hl (Nat.not_lt_zero l), Ag.refl _ _⟩ (by rw [FU_]; omega)
  · obtain ⟨r, e, Y, st, rfl, hY, q, ag⟩ := key
    unfold f_X7_askNext
    rw [e, Option.bind_some, un_]
    by_cases c : Y = 0
    · rw [if_pos (by rw [c]; rfl)]
      exact ⟨false, st, rfl, fun l hl hb => ⟨(q l hl hb).1, fun _ => (q l hl hb).2 c⟩, ag⟩
    · rw [if_neg (by rw [L0, eq_nI (by omega) (by decide)]; exact c)]
      exact ⟨true, st, rfl, fun l hl hb => ⟨(q l hl hb).1, fun h => by cases h⟩, ag⟩
  · rintro i z hi ⟨Y, st, rfl, hY, q, ag⟩
    left
    unfold b_X7_askNext_4
    rw [un_, un_, if_neg (show ¬ ((13 : Int32) ≤ nI i) from nI_ge hi (by decide)), (ag 76 (by decide)).1, h9]
    by_cases c : B / 2 ^ i % 2 = 0
    · rw [if_pos (by rw [bit0 (by omega) (by omega)]; exact c), nm_, nI_1]
      refine ⟨_, rfl, Y, st, rfl, hY, fun l hl hb => ?_, ag⟩
      by_cases e : l = i
      · subst e; omega
      · exact q l (by omega) hb
    · obtain ⟨v78, l78⟩ := h78 (13 * (n / 256) + i) (by omega)
      have hm := Nat.mod_lt n (show 0 < 256 by decide)
      have ei : (nI n / (256 : Int32)) * (13 : Int32) + nI i = nI (13 * (n / 256) + i) := by rw [div256 (by omega), L13, pk_mul, nI_add, Nat.mul_comm]
      rw [if_neg (by rw [bit0 (by omega) (by omega)]; exact c), nz256, chk_t, ei, inb_nI (show 13 * (n / 256) + i < 169 by omega) (by decide), chk_t, nm_, chk_t, nI_clamp (by omega), (ag 78 (by decide)).1, v78, rem256 (by omega), p_denyX l78 hm, Option.bind_some, inb_nI hi (by decide), chk_t, nm_, chk_t, nm_, nm_, nI_1, nI_clamp (by omega), stI_same, fa_or]
      refine ⟨_, rfl, _, _, rfl, Nat.or_lt_two_pow hY (dny_lt _ _), fun l hl hb => ?_, ag.i_ (fun q => q rfl)⟩
      rw [stI_v]
      by_cases e : l = i
      · rw [if_pos ⟨rfl, e⟩, e]
        exact ⟨rfl, fun h => (Nat.or_eq_zero_iff.mp h).2⟩
      · rw [if_neg (fun q => e q.2)]
        have := q l (by omega) hb
        exact ⟨this.1, fun h => this.2 (Nat.or_eq_zero_iff.mp h).1⟩
  · rintro z ⟨Y, st, rfl, q⟩
    exact ⟨_, by unfold b_X7_askNext_4; rw [un_, un_, if_pos (by decide)], Y, st, rfl, q⟩
theorem p_areKept {σ : St} {D : Nat} {N dn : Nat → Nat} (hD : D < 2 ^ 16) (h1 : CX1 σ) (hN : ∀ y, y < 256 → σ.1 82 y = nI (N y) ∧ N y < 3328) (hd : ∀ y, y < 256 → σ.1 83 (N y / 256) = nI (dn y) ∧ dn y < 2 ^ 16) : f_X7_areKept (nI D) σ = some (bI (cb (∀ y, y < 256 → hotP y 4 &&& D = 0 → hotP (N y % 256) 4 &&& dn y = 0))) := by
  have key := wh_cnt (b := b_X7_areKept_2 (nI D) σ) 256 (fun i z => z = nI i ∧ ∀ y, y < i → hotP y 4 &&& D = 0 → hotP (N y % 256) 4 &&& dn y = 0) (fun r => (Sum.elim (fun _ => some (1 : Int32)) (fun z => some z)) r = some (bI (cb (∀ y, y < 256 → hotP y 4 &&& D = 0 → hotP (N y % 256) 4 &&& dn y = 0)))) ?_ ?_ FU 0 (0 : Int32) (Nat.zero_le _) ⟨rfl, fun m hm => absurd hm (Nat.not_lt_zero m)⟩ (by rw [FU_]; omega)
  · obtain ⟨r, e, q⟩ := key
    unfold f_X7_areKept
    rw [e, Option.bind_some, q]
  · rintro i z hi ⟨rfl, q⟩
    obtain ⟨n1, n2⟩ := hN i hi
    obtain ⟨d1, d2⟩ := hd i hi
    have hm := Nat.mod_lt (N i) (show 0 < 256 by decide)
    unfold b_X7_areKept_2
    rw [if_neg (show ¬ ((256 : Int32) ≤ nI i) from nI_ge hi (by decide)), inb_nI hi (by decide), chk_t, nm_, chk_t, nI_clamp (by omega), (h1 i hi).1, n1, nz256, chk_t, rem256 (by omega), div256 (by omega), inb_nI hm (by decide), chk_t, chk_t, inb_nI (show N i / 256 < 13 by omega) (by decide), chk_t, nI_clamp (by omega), nI_clamp (by omega), (h1 _ hm).1, d1, nI_1, nm_]
    by_cases c : hotP i 4 &&& D = 0
    · rw [if_pos (by rw [hot_nI hi hD]; exact c)]
      by_cases d : hotP (N i % 256) 4 &&& dn i = 0
      · rw [if_pos (by rw [hot_nI hm d2]; exact d)]
        left
        refine ⟨_, rfl, rfl, fun y hy hc => ?_⟩
        by_cases e : y = i
        · rw [e]; exact d
        · exact q y (by omega) hc
      · rw [if_neg (by rw [hot_nI hm d2]; exact d)]
        right
        refine ⟨_, rfl, ?_⟩
        rw [cb_f.mpr (fun h => d (h i hi c))]
        rfl
    · rw [if_neg (by rw [hot_nI hi hD]; exact c)]
      left
      refine ⟨_, rfl, rfl, fun y hy hc => ?_⟩
      by_cases e : y = i
      · rw [e] at hc; exact absurd hc c
      · exact q y (by omega) hc
  · rintro z ⟨rfl, q⟩
    refine ⟨_, by unfold b_X7_areKept_2; rw [if_pos (by decide)], ?_⟩
    rw [cb_t.mpr q]
    rfl
theorem p_isKeptX {σ : St} {pa qa j : Nat} {P Q : Pg} {W : Nat → Nat → Nat} {S : Nat → Nat} (hpa : pa + 12 < 57) (hqa : qa + 12 < 57) (hP : VP P) (hQ : VP Q) (h1 : CX1 σ) (hX : PX σ pa P) (hY : PX σ qa Q) (hT : WTx σ W) (h78 : ∀ j, j < 169 → σ.1 78 j = nI (S j) ∧ S j < 4096) (hj : j < 168) (hS : Sdp P Q (mvr W (j / 13) (j % 13)) (j / 13) (j % 13)) : ∃ σ', f_X7_isKept pa qa (nI j) σ = some (bI (cb (Kpd P Q S (mvr W (j / 13) (j % 13)) (j / 13) (j % 13))), σ') ∧ Fk σ σ' := by
  obtain ⟨s1, e1, q81, ⟨B, hB, q9, qB⟩, f1⟩ := p_moveAll hpa hqa hP hQ hX hY hT hj hS
  unfold f_X7_isKept
  rw [e1, Option.bind_some]
  have hj2 : 13 * (j / 13) + j % 13 = j := by omega
  generalize mvr W (j / 13) (j % 13) = w at *
  generalize j / 13 = a at *
  generalize j % 13 = b at *
  have c1 : CX1 s1 := h1.ag (f1.1.mono (by omega))
  have s78 : ∀ j, j < 169 → s1.1 78 j = nI (S j) ∧ S j < 4096 := fun j hj => by rw [(f1.1 78 (by decide)).1]; exact h78 j hj
  have key := wh_cnt (b := b_X7_isKept_10 (nI j)) 256 (fun x z => z.1 = nI x ∧ (∀ i, i < x → ∀ y, y < 256 → kpt P Q S w a b i y) ∧ Ag (fun k => k ≠ 83) s1 z.2) (fun r => ∃ st, (Sum.elim (fun s4 => some ((1 : Int32), s4)) (fun z => some z)) r = some (bI (cb (Kpd P Q S w a b)), st) ∧ Ag (fun k => k ≠ 83) s1 st) ?_ ?_ FU 0 ((0 : Int32), s1) (Nat.zero_le _) ⟨rfl, fun m hm => absurd hm (Nat.not_lt_zero m), Ag.refl _ _⟩ (by rw [FU_]; omega)
  · obtain ⟨r, e, st, q, ag⟩ := key
    exact ⟨st, by rw [e, Option.bind_some, q], f1.c83 ag⟩
  · rintro x ⟨z, st⟩ hx ⟨h0, q, ag⟩
    have h0 : z = nI x := h0
    subst h0
    dsimp only at ag
    have hn := mv1_lt (Q := Q) hP hS hx
    have hnm := Nat.mod_lt (mv1 P w a x) (show 0 < 256 by decide)
    obtain ⟨a3, s3, e3, q3, ag3⟩ := p_askNext (σ := st) (S := S) hn hB (by rw [(ag 76 (by decide)).1]; exact q9) (fun j hj => by rw [(ag 78 (by decide)).1]; exact s78 j hj)
    have ag4 := ag.trans ag3
    have row : ∀ y, y < 256 → s3.1 83 (mv2 Q w b y / 256) = nI (dny (S (13 * (mv1 P w a x / 256) + mv2 Q w b y / 256)) (mv1 P w a x % 256)) ∧ (a3 = false → dny (S (13 * (mv1 P w a x / 256) + mv2 Q w b y / 256)) (mv1 P w a x % 256) = 0) := fun y hy => q3 _ (by have := mv2_lt (P := P) hQ hS hy; omega) (qB y hy)
    have next : ∀ y, y < 256 → (hotP (mv2 Q w b y % 256) 4 &&& dny (S (13 * (mv1 P w a x / 256) + mv2 Q w b y / 256)) (mv1 P w a x % 256) = 0 ↔ shq (S (13 * (mv1 P w a x / 256) + mv2 Q w b y / 256)) (mv1 P w a x % 256) (mv2 Q w b y % 256)) := fun y hy => shq_x _ (Nat.mod_lt _ (by decide))
    unfold b_X7_isKept_10
    rw [un_, if_neg (show ¬ ((256 : Int32) ≤ nI x) from nI_ge hx (by decide)), inb_nI hx (by decide), chk_t, nI_clamp (by omega), (ag 81 (by decide)).1, (q81 x hx).1, e3, Option.bind_some, un_]
    cases a3
    · rw [if_pos (by decide), nm_, nI_1]
      left
      refine ⟨_, rfl, rfl, fun i hi y hy => ?_, ag4⟩
      by_cases e : i = x
      · subst e
        intro _
        rw [← next y hy, (row y hy).2 rfl, Nat.and_zero]
      · exact q i (by omega) y hy
    · rw [if_neg (by decide), inb_nI (show j < 169 by omega) (by decide), chk_t, nI_clamp (show j < 2 ^ 31 by omega), (ag4 78 (by decide)).1, (s78 j (by omega)).1, p_denyX (s78 j (by omega)).2 hx, Option.bind_some, p_areKept (dny_lt _ _) (c1.ag (ag4.mono (by omega))) (N := mv2 Q w b) (dn := fun y => dny (S (13 * (mv1 P w a x / 256) + mv2 Q w b y / 256)) (mv1 P w a x % 256)) (fun y hy => ⟨by rw [(ag4 82 (by decide)).1]; exact (q81 y hy).2, mv2_lt (P := P) hQ hS hy⟩) (fun y hy => ⟨(row y hy).1, dny_lt _ _⟩), Option.bind_some]
      have ek : (∀ y, y < 256 → hotP y 4 &&& dny (S j) x = 0 → hotP (mv2 Q w b y % 256) 4 &&& dny (S (13 * (mv1 P w a x / 256) + mv2 Q w b y / 256)) (mv1 P w a x % 256) = 0) ↔ (∀ y, y < 256 → kpt P Q S w a b x y) := by
        constructor
        · intro h y hy
          intro hs
          rw [hj2] at hs
          exact (next y hy).mp (h y hy ((shq_x _ hy).mpr hs))
        · intro h y hy hd
          refine (next y hy).mpr (h y hy ?_)
          rw [hj2]
          exact (shq_x _ hy).mp hd
      by_cases c : ∀ y, y < 256 → kpt P Q S w a b x y
      · rw [if_neg (by rw [cb_t.mpr (ek.mpr c)]; decide), nm_, nI_1]
        left
        refine ⟨_, rfl, rfl, fun i hi y hy => ?_, ag4⟩
        by_cases e : i = x
        · subst e; exact c y hy
        · exact q i (by omega) y hy
      · rw [if_pos (by rw [cb_f.mpr (fun h => c (ek.mp h))]; rfl)]
        right
        refine ⟨_, rfl, s3, ?_, ag4⟩
        rw [cb_f.mpr (show ¬ Kpd P Q S w a b from fun h => c (h x hx))]
        rfl
  · rintro ⟨z, st⟩ ⟨h0, q, ag⟩
    have h0 : z = nI 256 := h0
    subst h0
    refine ⟨_, by unfold b_X7_isKept_10; rw [un_, if_pos (by decide)], st, ?_, ag⟩
    rw [cb_t.mpr (show Kpd P Q S w a b from q)]
    rfl
/-- the first PLACE that fails -/
def FFl (E : Nat → Prop) (r : Int32) : Prop := (∃ j, j < 168 ∧ E j ∧ (∀ i, i < j → ¬ E i) ∧ r = nI (100 * (j / 13) + j % 13)) ∨ ((∀ j, j < 168 → ¬ E j) ∧ r = -6)
theorem FFl.one {E : Nat → Prop} {a b : Int32} (ha : FFl E a) (hb : FFl E b) : a = b := by
  rcases ha with ⟨j, h1, h2, h3, rfl⟩ | ⟨h1, rfl⟩
  · rcases hb with ⟨i, g1, g2, g3, rfl⟩ | ⟨g1, rfl⟩
    · have : i = j := by
        rcases Nat.lt_trichotomy i j with h | h | h
        · exact absurd g2 (h3 i h)
        · exact h
        · exact absurd h2 (g3 j h)
      rw [this]
    · exact absurd h2 (g1 j h1)
  · rcases hb with ⟨i, g1, g2, g3, rfl⟩ | ⟨g1, rfl⟩
    · exact absurd g2 (h1 i g1)
    · rfl
def bad (P Q : Pg) (S : Nat → Nat) (W : Nat → Nat → Nat) (Z : WAc) (j : Nat) : Prop := ¬ Z.2.1 j = 0 ∧ ¬ Kpd P Q S (mvr W (j / 13) (j % 13)) (j / 13) (j % 13)
theorem e100 {j : Nat} (hj : j < 169) : (100 : Int32) * (nI j / (13 : Int32)) + (nI j - nI j / (13 : Int32) * (13 : Int32)) = nI (100 * (j / 13) + j % 13) := by
  rw [(d13 hj).2, (d13 hj).1, L100, pk_mul, nI_add]
theorem p_firstFailing {σ : St} {pa qa : Nat} {P Q : Pg} {W : Nat → Nat → Nat} {S : Nat → Nat} {Z : WAc} (hpa : pa + 12 < 57) (hqa : qa + 12 < 57) (hP : VP P) (hQ : VP Q) (hW : Wle W) (hZ : WOK P Q Z) (h1 : CX1 σ) (hX : PX σ pa P) (hY : PX σ qa Q) (hT : WTx σ W) (h78 : ∀ j, j < 169 → σ.1 78 j = nI (S j) ∧ S j < 4096) (h80 : ∀ j, j < 169 → σ.1 80 j = Z.2.1 j) : ∃ r σ', f_X7_firstFailing pa qa σ = some (r, σ') ∧ FFl (bad P Q S W Z) r ∧ Fk σ σ' := by
  have key := wh_cnt (b := b_X7_firstFailing_2 pa qa) 168 (fun i z => z.1 = nI i ∧ (∀ j, j < i → ¬ bad P Q S W Z j) ∧ Fk σ z.2) (fun r => ∃ v st, (Sum.elim (fun s3 => some ((-6 : Int32), s3)) (fun z => some z)) r = some (v, st) ∧ FFl (bad P Q S W Z) v ∧ Fk σ st) ?_ ?_ FU 0 ((0 : Int32), σ) (Nat.zero_le _) ⟨rfl, fun m hm => absurd hm (Nat.not_lt_zero m), Fk.refl σ⟩ (by rw [FU_]; omega)
  · obtain ⟨r, e, v, st, q⟩ := key
    exact ⟨v, st, by unfold f_X7_firstFailing; rw [e, Option.bind_some, q.1], q.2⟩
  · rintro i ⟨z, st⟩ hi ⟨h0, q, f⟩
    have h0 : z = nI i := h0
    subst h0
    dsimp only at f
    unfold b_X7_firstFailing_2
    rw [un_, if_neg (show ¬ ((168 : Int32) ≤ nI i) from nI_ge hi (by decide)), inb_nI (show i < 169 by omega) (by decide), chk_t, nI_clamp (by omega), (f.1 80 (by decide)).1, h80 i (by omega)]
    by_cases c : Z.2.1 i = 0
    · rw [if_pos c, nm_, nI_1]
      left
      refine ⟨_, rfl, rfl, fun j hj hb => ?_, f⟩
      by_cases e : j = i
      · subst e; exact hb.1 c
      · exact q j (by omega) hb
    · obtain ⟨s2, e2, f2⟩ := p_isKeptX (σ := st) (S := S) hpa hqa hP hQ (h1.ag (f.1.mono (by omega))) (hX.ag (f.1.mono (fun k hk => by omega))) (hY.ag (f.1.mono (fun k hk => by omega))) (show WTx st W from fun a b ha hb hn => by rw [(f.1 77 (by decide)).1]; exact hT a b ha hb hn) (fun j hj => by rw [(f.1 78 (by decide)).1]; exact h78 j hj) hi (Sdp.of hP hQ hW hZ hi c)
      rw [if_neg c, e2, Option.bind_some, un_]
      by_cases d : Kpd P Q S (mvr W (i / 13) (i % 13)) (i / 13) (i % 13)
      · rw [if_neg (by rw [cb_t.mpr d]; decide), nm_, nI_1]
        left
        refine ⟨_, rfl, rfl, fun j hj hb => ?_, f.trans f2⟩
        by_cases e : j = i
        · subst e; exact hb.2 d
        · exact q j (by omega) hb
      · rw [if_pos (by rw [cb_f.mpr d]; rfl), nz13, chk_t, chk_t, e100 (by omega)]
        right
        exact ⟨_, rfl, _, s2, rfl, Or.inl ⟨i, hi, ⟨c, d⟩, q, rfl⟩, f.trans f2⟩
  · rintro ⟨z, st⟩ ⟨h0, q, f⟩
    have h0 : z = nI 168 := h0
    subst h0
    exact ⟨_, by unfold b_X7_firstFailing_2; rw [un_, if_pos (by decide)], -6, st, rfl, Or.inr ⟨q, rfl⟩, f⟩
theorem CXa.fk {HS : HSt} {WS : WSt} {OS : OSt} {k : Nat} {A : Ab} {σ σ' : St} (hV : VA A) (h : CXa HS WS OS k A σ) (f : Fk σ σ') : CXa HS WS OS k A σ' := by
  obtain ⟨x1, x2, x3, x4, x5, x6, x7, x8⟩ := h
  have ag := f.1
  refine ⟨x1.ag (ag.mono (by omega)), x2.ag (ag.mono (by omega)), x3.ag hV.2.1 (ag.mono (by omega)), x4.ag (ag.mono (by omega)), x5.ag (ag.mono (by omega)), x6.ag (ag.mono (by omega)), ?_, x8.ag (ag.mono (by omega))⟩
  unfold CX7
  rw [f.2 1 (by decide), f.2 6 (by decide), (ag 79 (by decide)).1, (ag 80 (by decide)).1]
  exact x7
