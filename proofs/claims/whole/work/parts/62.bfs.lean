/-! ===== orders: what is meant, and the class ===== -/
abbrev BSt : Type := Nat × (Nat → Nat) × (Nat → Bool)
def badd (x : Nat) (S : BSt) : BSt := if S.2.2 x = true then S else (S.1 + 1, (fun j => if j = S.1 then x else S.2.1 j), fun j => decide (j = x) || S.2.2 j)
/-- a point: two LINES and a MEMORY -/
def bpt (a b m : Nat) : Nat := 256 * (13 * a + b) + m
def bst1 (P : Pg) (x : Nat) (S : BSt) : BSt := if x / 256 / 13 < 12 then badd (bpt (cod P (x / 256 / 13) (x % 256) % 4096 / 256) (x / 256 % 13) (cod P (x / 256 / 13) (x % 256) % 256)) S else S
def bst2 (Q : Pg) (x : Nat) (S : BSt) : BSt := if x / 256 % 13 < 12 then badd (bpt (x / 256 / 13) (cod Q (x / 256 % 13) (x % 256) % 4096 / 256) (cod Q (x / 256 % 13) (x % 256) % 256)) S else S
def bfs (P Q : Pg) (m : Nat) : Nat → BSt
  | 0 => badd (bpt (nl P 0) (nl Q 0) m) (0, (fun _ => 0), fun _ => false)
  | k + 1 => if k < (bfs P Q m k).1 then bst2 Q ((bfs P Q m k).2.1 k) (bst1 P ((bfs P Q m k).2.1 k) (bfs P Q m k)) else bfs P Q m k
noncomputable def OSp : OSt := fun P Q m x => cb (∃ N, N = 43264 ∧ (bfs P Q m N).2.2 (43008 + x) = true)
theorem OSp_e {N : Nat} (h : N = 43264) (P Q : Pg) (m x : Nat) : (bfs P Q m N).2.2 (43008 + x) = OSp P Q m x := cb_c ⟨fun q => ⟨N, h, q⟩, fun ⟨M, h1, q⟩ => by rw [h, ← h1]; exact q⟩
/-- a point with LINES that are there -/
def bok (P Q : Pg) (x : Nat) : Prop := x < 43264 ∧ (x / 256 / 13 < P.1 ∨ x / 256 / 13 = 12) ∧ (x / 256 % 13 < Q.1 ∨ x / 256 % 13 = 12)
def BI (P Q : Pg) (S : BSt) : Prop := (∀ j, j < S.1 → bok P Q (S.2.1 j) ∧ S.2.2 (S.2.1 j) = true) ∧ (∀ x, S.2.2 x = true → ∃ j, j < S.1 ∧ S.2.1 j = x) ∧ (∀ i j, i < j → j < S.1 → S.2.1 i ≠ S.2.1 j)
theorem BI.le {P Q : Pg} {S : BSt} (h : BI P Q S) : S.1 ≤ 43264 := fb_holes 43264 S.1 S.2.1 (fun i hi => (h.1 i hi).1.1) h.2.2
theorem BI.lt {P Q : Pg} {S : BSt} (h : BI P Q S) {x : Nat} (hx : x < 43264) (hs : S.2.2 x = false) : S.1 < 43264 := by
  rcases Nat.lt_or_ge S.1 43264 with a | a
  · exact a
  · have e : S.1 = 43264 := Nat.le_antisymm h.le a
    obtain ⟨i, h1, h2⟩ := fb_onto (n := 43264) (f := S.2.1) (fun i hi => (h.1 i (by omega)).1.1) (fun i j hij hj => h.2.2 i j hij (by omega)) hx
    have := (h.1 i (by omega)).2
    rw [h2, hs] at this; cases this
theorem BI.add {P Q : Pg} {S : BSt} (h : BI P Q S) {x : Nat} (hx : bok P Q x) : BI P Q (badd x S) := by
  unfold badd
  cases hs : S.2.2 x
  · rw [if_neg (by decide)]
    refine ⟨fun j hj => ?_, fun y hy => ?_, fun i j hij hj => ?_⟩
    · dsimp only at hj ⊢
      by_cases e : j = S.1
      · rw [if_pos e]; exact ⟨hx, by simp⟩
      · rw [if_neg e]
        obtain ⟨a, b⟩ := h.1 j (by omega)
        exact ⟨a, by rw [b]; simp⟩
    · dsimp only at hy ⊢
      rcases Bool.or_eq_true _ _ ▸ hy with a | a
      · exact ⟨S.1, by omega, by rw [if_pos rfl]; exact (of_decide_eq_true a).symm⟩
      · obtain ⟨j, h1, h2⟩ := h.2.1 y a
        exact ⟨j, by omega, by rw [if_neg (by omega)]; exact h2⟩
    · dsimp only at hj ⊢
      rw [if_neg (show ¬ i = S.1 by omega)]
      by_cases e : j = S.1
      · rw [if_pos e]
        intro q
        have := (h.1 i (by omega)).2
        rw [q, hs] at this; cases this
      · rw [if_neg e]; exact h.2.2 i j hij (by omega)
  · rw [if_pos rfl]; exact h
theorem bpt_d {a b m : Nat} (hb : b < 13) (hm : m < 256) : bpt a b m / 256 / 13 = a ∧ bpt a b m / 256 % 13 = b ∧ bpt a b m % 256 = m := by unfold bpt; omega
theorem bok_p {P Q : Pg} {a b m : Nat} (hP : P.1 ≤ 12) (hQ : Q.1 ≤ 12) (ha : a < P.1 ∨ a = 12) (hb : b < Q.1 ∨ b = 12) (hm : m < 256) : bok P Q (bpt a b m) := by
  obtain ⟨e1, e2, e3⟩ := bpt_d (a := a) (b := b) (m := m) (by omega) hm
  exact ⟨by unfold bpt; omega, by rw [e1]; exact ha, by rw [e2]; exact hb⟩
theorem cod_nx {P : Pg} (hV : VP P) {i m : Nat} (hi : i < P.1) (hm : m < 256) : (cod P i m % 4096 / 256 < P.1 ∨ cod P i m % 4096 / 256 = 12) ∧ cod P i m % 4096 < 3328 ∧ cod P i m % 4096 % 256 = cod P i m % 256 ∧ cod P i m < 8192 := by
  obtain ⟨l, x, h1, h2, h3⟩ := cod_form hV hi hm
  have := hV.1
  omega
theorem BI.s1 {P Q : Pg} (hP : VP P) (hQ : VP Q) {S : BSt} (h : BI P Q S) {x : Nat} (hx : bok P Q x) : BI P Q (bst1 P x S) := by
  have h1 := hP.1
  have h2 := hQ.1
  obtain ⟨x1, x2, x3⟩ := hx
  unfold bst1
  by_cases c : x / 256 / 13 < 12
  · rw [if_pos c]
    have n := cod_nx hP (i := x / 256 / 13) (m := x % 256) (by omega) (by omega)
    exact h.add (bok_p h1 h2 n.1 x3 (by omega))
  · rw [if_neg c]; exact h
theorem BI.s2 {P Q : Pg} (hP : VP P) (hQ : VP Q) {S : BSt} (h : BI P Q S) {x : Nat} (hx : bok P Q x) : BI P Q (bst2 Q x S) := by
  have h1 := hP.1
  have h2 := hQ.1
  obtain ⟨x1, x2, x3⟩ := hx
  unfold bst2
  by_cases c : x / 256 % 13 < 12
  · rw [if_pos c]
    have n := cod_nx hQ (i := x / 256 % 13) (m := x % 256) (by omega) (by omega)
    exact h.add (bok_p h1 h2 x2 n.1 (by omega))
  · rw [if_neg c]; exact h
theorem BI.z (P Q : Pg) : BI P Q (0, (fun _ => 0), fun _ => false) := ⟨fun j hj => absurd hj (Nat.not_lt_zero j), fun x hx => (by cases hx), fun i j _ hj => absurd hj (Nat.not_lt_zero j)⟩
theorem bok0 {P Q : Pg} (hP : VP P) (hQ : VP Q) {m : Nat} (hm : m < 256) : bok P Q (bpt (nl P 0) (nl Q 0) m) := bok_p hP.1 hQ.1 (nl_or P 0) (nl_or Q 0) hm
theorem BI.all {P Q : Pg} (hP : VP P) (hQ : VP Q) {m : Nat} (hm : m < 256) : ∀ k, BI P Q (bfs P Q m k) := by
  intro k
  induction k with
  | zero => exact (BI.z P Q).add (bok0 hP hQ hm)
  | succ k ih =>
    rw [bfs]
    by_cases c : k < (bfs P Q m k).1
    · rw [if_pos c]
      have o := (ih.1 k c).1
      exact (ih.s1 hP hQ o).s2 hP hQ o
    · rw [if_neg c]; exact ih
theorem bfs_stay {P Q : Pg} {m k : Nat} (h : (bfs P Q m k).1 ≤ k) : ∀ d, bfs P Q m (k + d) = bfs P Q m k := by
  intro d
  induction d with
  | zero => rfl
  | succ d ih =>
    show bfs P Q m (k + d + 1) = _
    rw [bfs, if_neg (by rw [ih]; omega), ih]
-- the class
theorem sbit_lg (v : Int64) {k : Nat} (hk : k < 64) : (lg_cmp ((v >>> ((nI k).toInt64 &&& 63)) &&& (1 : Int64)) (0 : Int64) = 0) ↔ v.toBitVec.getLsbD k = false := by
  rw [lg_cmp_eq, wb_c k hk, ← Int64.toBitVec_inj, Int64.toBitVec_and, Int64.toBitVec_shiftRight]
  have e1 : (lN k).toBitVec.smod 64 = BitVec.ofNat 64 k := wb_sm k hk
  have e2 : (BitVec.ofNat 64 k).toNat = k := by rw [BitVec.toNat_ofNat, Nat.mod_eq_of_lt (by omega)]
  rw [e1, BitVec.sshiftRight_eq', e2]
  have e3 : (v.toBitVec.sshiftRight k).getLsbD 0 = v.toBitVec.getLsbD k := by
    rw [BitVec.getLsbD_sshiftRight]
    simp [hk]
  constructor
  · intro q
    have := congrArg (fun b => BitVec.getLsbD b 0) q
    simp only [BitVec.getLsbD_and, e3] at this
    simpa using this
  · intro q
    apply BitVec.eq_of_getLsbD_eq
    intro i hi
    rw [BitVec.getLsbD_and]
    by_cases c : i = 0
    · subst c; rw [e3, q]; simp
    · have : (Int64.toBitVec 1).getLsbD i = false := by
        show (1#64).getLsbD i = false
        rw [BitVec.getLsbD_one]; simp [c]
      rw [this, Bool.and_false]; simp
theorem d64 {x : Nat} (hx : x < 43264) : nI x / (64 : Int32) = nI (x / 64) ∧ nI x - nI x / (64 : Int32) * (64 : Int32) = nI (x % 64) := ⟨by rw [L64, pk_div (by omega) (by decide) (by decide)], by rw [L64, pk_rem (by omega) (by decide) (by decide)]⟩
theorem nz64 : nz (64 : Int32) = true := by decide
theorem nz13 : nz (13 : Int32) = true := by decide
theorem p_isSeen {σ : St} {x : Nat} (hx : x < 43264) : f_X2_isSeen (nI x) σ = some (bI (sbit σ x)) := by
  unfold f_X2_isSeen
  rw [nz64, chk_t, (d64 hx).2, (d64 hx).1, inb_nI (show x / 64 < 676 by omega) (by decide), chk_t, chk_t, nI_clamp (by omega)]
  have q := sbit_lg (σ.2 86 (x / 64)) (k := x % 64) (by omega)
  cases c : sbit σ x
  · rw [if_pos (q.mpr c)]; rfl
  · rw [if_neg (fun w => by have := q.mp w; unfold sbit at c; rw [this] at c; cases c)]; rfl
theorem p_isEnd {σ : St} {x : Nat} (hx : x < 256) : f_X2_isEnd (nI x) σ = some (bI (sbit σ (43008 + x))) := by
  unfold f_X2_isEnd
  rw [show (43008 : Int32) + nI x = nI (43008 + x) from by rw [L43008, nI_add], p_isSeen (by omega), Option.bind_some, chk_of (bI01 _)]
theorem sbit_set {σ : St} {x y : Nat} : sbit (stL σ 86 (x / 64) (σ.2 86 (x / 64) ||| ((1 : Int64) <<< ((nI (x % 64)).toInt64 &&& 63)))) y = (decide (y = x) || sbit σ y) := by
  unfold sbit
  have hs : (1 : Int64) <<< ((nI (x % 64)).toInt64 &&& 63) = lN (1 * 2 ^ (x % 64)) := wb_shl 1 (by omega)
  rw [stL_v, hs]
  by_cases c : y / 64 = x / 64
  · rw [if_pos ⟨rfl, c⟩, Int64.toBitVec_or, BitVec.getLsbD_or, c, Bool.or_comm]
    congr 1
    have : (lN (1 * 2 ^ (x % 64))).toBitVec = BitVec.ofNat 64 (2 ^ (x % 64)) := by rw [Nat.one_mul]; rfl
    rw [this, BitVec.getLsbD_ofNat, Nat.testBit_two_pow]
    have h64 : y % 64 < 64 := Nat.mod_lt _ (by decide)
    rw [decide_eq_true h64, Bool.true_and]
    by_cases d : y = x
    · rw [decide_eq_true d, d]; simp
    · rw [decide_eq_false d, decide_eq_false (by omega)]
  · rw [if_neg (fun q => c q.2), decide_eq_false (by intro e; exact c (by rw [e])), Bool.false_or]
/-- the class's row of points -/
def RX (σ : St) (S : BSt) : Prop := σ.1 84 2 = nI S.1 ∧ (∀ j, j < S.1 → σ.1 85 j = nI (S.2.1 j)) ∧ ∀ x, x < 43264 → sbit σ x = S.2.2 x
theorem p_add {σ : St} {P Q : Pg} {S : BSt} (h : BI P Q S) (hR : RX σ S) {a b m : Nat} (hx : bok P Q (bpt a b m)) : ∃ σ', f_X2_add (nI a) (nI b) (nI m) σ = some σ' ∧ RX σ' (badd (bpt a b m) S) ∧ Ag (fun k => k ≠ 84 ∧ k ≠ 85 ∧ k ≠ 86) σ σ' := by
  have ex : ((nI a * (13 : Int32)) + nI b) * (256 : Int32) + nI m = nI (bpt a b m) := by
    rw [L13, L256, pk_mul, nI_add, pk_mul, nI_add]; unfold bpt; congr 1; omega
  have hlt := hx.1
  have hle := h.le
  have addh := h.lt hlt
  generalize bpt a b m = x at *
  obtain ⟨r1, r2, r3⟩ := hR
  unfold f_X2_add badd
  rw [ex, nm_, if_neg (nI_pos (by omega)), if_neg (show ¬ ((43264 : Int32) ≤ nI x) from nI_ge hlt (by decide)), r1, p_isSeen hlt, Option.bind_some, r3 x hlt]
  cases c : S.2.2 x
  · have hn := addh c
    rw [if_neg (show ¬ ((43264 : Int32) ≤ nI S.1) from nI_ge hn (by decide)), if_pos (by decide), if_neg (by decide), nz64, chk_t, (d64 hlt).2, (d64 hlt).1, inb_nI (show x / 64 < 676 by omega) (by decide), chk_t, chk_t, chk_t, nI_clamp (by omega), nm_, stL_1, r1, inb_nI hn (by decide), chk_t, nm_, nI_clamp (by omega), nm_]
    rw [stI_nk (show 84 ≠ 85 by decide), stL_1, r1, nI_1]
    refine ⟨_, rfl, ⟨?_, ?_, ?_⟩, ((((Ag.refl _ _).l_ (fun q => q.2.2 rfl)).i_ (fun q => q.2.1 rfl)).i_ (fun q => q.1 rfl))⟩
    · rw [stI_same]
    · intro j hj
      dsimp only at hj ⊢
      rw [stI_nk (show 85 ≠ 84 by decide), stI_v]
      by_cases e : j = S.1
      · rw [if_pos ⟨rfl, e⟩, if_pos e]
      · rw [if_neg (fun q => e q.2), if_neg e, stL_1]; exact r2 j (by omega)
    · intro y hy
      have : sbit (stI (stI (stL σ 86 (x / 64) (σ.2 86 (x / 64) ||| ((1 : Int64) <<< ((nI (x % 64)).toInt64 &&& 63)))) 85 S.1 (nI x)) 84 2 (nI (S.1 + 1))) y = sbit (stL σ 86 (x / 64) (σ.2 86 (x / 64) ||| ((1 : Int64) <<< ((nI (x % 64)).toInt64 &&& 63)))) y := rfl
      rw [this, sbit_set, r3 y hy]
  · rw [if_neg (show ¬ (bI true = 0) by decide), if_pos rfl]
    by_cases d : (43264 : Int32) ≤ nI S.1
    · rw [if_pos d]; exact ⟨σ, rfl, ⟨r1, r2, r3⟩, Ag.refl _ _⟩
    · rw [if_neg d]; exact ⟨σ, rfl, ⟨r1, r2, r3⟩, Ag.refl _ _⟩
theorem p_steppedS {σ : St} {pa : Nat} {P : Pg} (hV : VP P) (hX : PX σ pa P) {i m : Nat} (hi : i < P.1) (hm : m < 256) : f_X4_steppedState pa (nI i) (nI m) σ = some (nI (cod P i m % 4096)) := by
  unfold f_X4_steppedState
  rw [p_stepped hV hX hi hm, Option.bind_some, and4095]
theorem p_fill86 (σ : St) : ∃ σ', f_J7_fill_d0a16 86 676 (0 : Int64) σ = some σ' ∧ (∀ j, j < 676 → σ'.2 86 j = 0) ∧ Ag (fun k => k ≠ 86) σ σ' := by
  have key := wh_cnt (b := b_J7_fill_d0a16_6 86 676 (0 : Int64) (Int32.ofNat 676)) 676 (fun i y => y.1 = nI i ∧ (∀ j, j < i → y.2.2 86 j = 0) ∧ Ag (fun k => k ≠ 86) σ y.2) (fun s => (∀ j, j < 676 → s.2 86 j = 0) ∧ Ag (fun k => k ≠ 86) σ s) ?_ ?_ FU 0 ((0 : Int32), σ) (Nat.zero_le _) ⟨rfl, fun j hj => absurd hj (Nat.not_lt_zero j), Ag.refl _ _⟩ (by rw [FU_]; omega)
  · obtain ⟨s, e, q⟩ := key
    exact ⟨s, by unfold f_J7_fill_d0a16; rw [nm_, e]; rfl, q⟩
  · rintro i ⟨y, s⟩ hi ⟨h0, q1, q2⟩
    have h0 : y = nI i := h0
    subst h0
    left
    refine ⟨(nI (i + 1), stL s 86 i 0), ?_, rfl, fun j hj => ?_, q2.l_ (fun q => q rfl)⟩
    · unfold b_J7_fill_d0a16_6
      rw [un_, if_neg (show ¬ (Int32.ofNat 676 ≤ nI i) from nI_ge hi (by decide)), inb_nI hi (by decide), chk_t, nm_, nm_, nI_1, nI_clamp (by omega)]
    · show (stL s 86 i 0).2 86 j = 0
      rw [stL_v]
      by_cases e : j = i
      · rw [if_pos ⟨rfl, e⟩]
      · rw [if_neg (fun q => e q.2)]; exact q1 j (by omega)
  · rintro ⟨y, s⟩ ⟨h0, q⟩
    have h0 : y = nI 676 := h0
    subst h0
    exact ⟨s, by unfold b_J7_fill_d0a16_6; rw [un_, if_pos (by decide)], q⟩
theorem n12 {a : Nat} (ha : a < 100) : (nI a = (12 : Int32)) = (a = 12) := eq_nI (by omega) (by decide)
theorem p_reach {σ : St} {pa qa m : Nat} {P Q : Pg} (hpa : pa + 12 < 57) (hqa : qa + 12 < 57) (hP : VP P) (hQ : VP Q) (hX : PX σ pa P) (hY : PX σ qa Q) (hm : m < 256) : ∃ σ', f_X2_reach pa qa (nI m) σ = some σ' ∧ (∀ x, x < 256 → sbit σ' (43008 + x) = OSp P Q m x) ∧ Ag (fun k => k ≠ 84 ∧ k ≠ 85 ∧ k ≠ 86) σ σ' := by
  have h1 := hP.1
  have h2 := hQ.1
  obtain ⟨N, hN⟩ : ∃ N, N = 43264 := ⟨_, rfl⟩
  obtain ⟨s1, e1, f1, g1⟩ := p_fill86 σ
  have g2 : Ag (fun k => k ≠ 84 ∧ k ≠ 85 ∧ k ≠ 86) σ (stI s1 84 2 0) := (g1.mono (fun k h => h.2.2)).i_ (fun q => q.1 rfl)
  have X2 := hX.ag (g2.mono (S' := fun k => pa ≤ k ∧ k ≤ pa + 12) (fun k hk => by omega))
  have Y2 := hY.ag (g2.mono (S' := fun k => qa ≤ k ∧ k ≤ qa + 12) (fun k hk => by omega))
  have R0 : RX (stI s1 84 2 0) (0, (fun _ => 0), fun _ => false) := by
    refine ⟨stI_same _ _ _ _, fun j hj => absurd hj (Nat.not_lt_zero j), fun x hx => ?_⟩
    unfold sbit
    rw [stI_2, f1 (x / 64) (by omega)]
    show (0#64).getLsbD (x % 64) = false
    simp
  obtain ⟨s3, e3, r3, g3⟩ := p_add (BI.z P Q) R0 (bok0 hP hQ hm)
  have n1 := nl_lt h1 0
  have n2 := nl_lt h2 0
  have key := wh_cnt (b := b_X2_reach_41 pa qa) N (fun k y => y.1 = nI k ∧ RX y.2 (bfs P Q m k) ∧ Ag (fun k => k ≠ 84 ∧ k ≠ 85 ∧ k ≠ 86) σ y.2) (fun s => RX s (bfs P Q m N) ∧ Ag (fun k => k ≠ 84 ∧ k ≠ 85 ∧ k ≠ 86) σ s) ?_ ?_ FU 0 ((0 : Int32), s3) (Nat.zero_le _) ⟨rfl, r3, g2.trans g3⟩ (by rw [FU_]; omega)
  · obtain ⟨s, e, q1, q2⟩ := key
    refine ⟨s, ?_, fun x hx => ?_, q2⟩
    · unfold f_X2_reach
      have st1 : f_X4_stateAt pa (0 : Int32) (nI m) (stI s1 84 2 0) = some (nI (256 * nl P 0 + m)) := p_stateAt (j := 0) X2.1 h1 (by decide)
      have st2 : f_X4_stateAt qa (0 : Int32) (nI m) (stI s1 84 2 0) = some (nI (256 * nl Q 0 + m)) := p_stateAt (j := 0) Y2.1 h2 (by decide)
      rw [e1, Option.bind_some, nm_, st1, Option.bind_some, nz256, chk_t, st2, Option.bind_some, chk_t, L256, pk_div (by omega) (by decide) (by decide), pk_div (by omega) (by decide) (by decide), show (256 * nl P 0 + m) / 256 = nl P 0 by omega, show (256 * nl Q 0 + m) / 256 = nl Q 0 by omega, e3, Option.bind_some, e]
      rfl
    · rw [← OSp_e hN]
      exact q1.2.2 (43008 + x) (by omega)
  · rintro k ⟨y, s⟩ hk ⟨h0, q1, q2⟩
    have h0 : y = nI k := h0
    subst h0
    dsimp only at q1 q2
    have bi := BI.all hP hQ hm k
    have le := bi.le
    unfold b_X2_reach_41
    rw [un_, q1.1]
    by_cases c : k < (bfs P Q m k).1
    · left
      have o := (bi.1 k c).1
      have hb : bfs P Q m (k + 1) = bst2 Q ((bfs P Q m k).2.1 k) (bst1 P ((bfs P Q m k).2.1 k) (bfs P Q m k)) := by rw [bfs, if_pos c]
      have qv := q1.2.1 k c
      have bi1 := bi.s1 hP hQ o
      rw [hb]
      generalize bfs P Q m k = S at *
      generalize S.2.1 k = x at *
      obtain ⟨o1, o2, o3⟩ := o
      have X3 := hX.ag (q2.mono (S' := fun k => pa ≤ k ∧ k ≤ pa + 12) (fun k hk => by omega))
      rw [if_neg (nI_ge c (by omega)), if_neg (show ¬ ((43264 : Int32) ≤ nI k) from nI_ge (show k < 43264 by omega) (by decide)), inb_nI (show k < 43264 by omega) (by decide), chk_t, nz256, chk_t, nI_clamp (by omega), qv, nm_, chk_t, chk_t, nz13, chk_t, nm_, chk_t, chk_t, chk_t, nm_, L256, L13, pk_rem (by omega) (by decide) (by decide), pk_div (by omega) (by decide) (by decide), pk_rem (by omega) (by decide) (by decide), pk_div (by omega) (by decide) (by decide)]
      have step2 : ∀ (s6 : St) (S1 : BSt), BI P Q S1 → RX s6 S1 → Ag (fun k => k ≠ 84 ∧ k ≠ 85 ∧ k ≠ 86) σ s6 → ∃ s7, (if nI (x / 256 % 13) = 12 then nm (nI k + 1) fun x6 => (some (Sum.inl (x6, s6)) : Option ((Int32 × St) ⊕ St)) else (f_X4_steppedState qa (nI (x / 256 % 13)) (nI (x % 256)) s6).bind fun r4 => chk true (chk true ((f_X2_add (nI (x / 256 / 13)) (r4 / nI 256) (r4 - r4 / nI 256 * nI 256) s6).bind fun s7 => nm (nI k + 1) fun x7 => some (Sum.inl (x7, s7))))) = some (.inl s7) ∧ (s7.1 = nI (k + 1) ∧ RX s7.2 (bst2 Q x S1) ∧ Ag (fun k => k ≠ 84 ∧ k ≠ 85 ∧ k ≠ 86) σ s7.2) := by
        intro s6 S1 b1 r1 a1
        by_cases d : x / 256 % 13 = 12
        · rw [if_pos (by rw [n12 (by omega)]; exact d), nm_, nI_1]
          refine ⟨_, rfl, rfl, ?_, a1⟩
          unfold bst2; rw [if_neg (by omega)]; exact r1
        · have n := cod_nx hQ (i := x / 256 % 13) (m := x % 256) (by omega) (by omega)
          have n' := n.2.1
          have Y6 := hY.ag (a1.mono (S' := fun k => qa ≤ k ∧ k ≤ qa + 12) (fun k hk => by omega))
          obtain ⟨s7, e7, r7, g7⟩ := p_add b1 r1 (bok_p (m := cod Q (x / 256 % 13) (x % 256) % 256) h1 h2 o2 n.1 (by omega))
          rw [if_neg (by rw [n12 (by omega)]; exact d), p_steppedS hQ Y6 (by omega) (by omega), Option.bind_some, chk_t, chk_t, pk_rem (by omega) (by decide) (by decide), pk_div (by omega) (by decide) (by decide), n.2.2.1, e7, Option.bind_some, nm_, nI_1]
          refine ⟨_, rfl, rfl, ?_, a1.trans g7⟩
          unfold bst2; rw [if_pos (by omega)]; exact r7
      by_cases d : x / 256 / 13 = 12
      · rw [if_pos (by rw [n12 (by omega)]; exact d)]
        have e : bst1 P x S = S := by unfold bst1; rw [if_neg (by omega)]
        rw [e]
        exact step2 s S bi q1 q2
      · have n := cod_nx hP (i := x / 256 / 13) (m := x % 256) (by omega) (by omega)
        have n' := n.2.1
        obtain ⟨s6, e6, r6, g6⟩ := p_add bi q1 (bok_p (m := cod P (x / 256 / 13) (x % 256) % 256) h1 h2 n.1 o3 (by omega))
        have e : bst1 P x S = badd (bpt (cod P (x / 256 / 13) (x % 256) % 4096 / 256) (x / 256 % 13) (cod P (x / 256 / 13) (x % 256) % 256)) S := by unfold bst1; rw [if_pos (by omega)]
        rw [if_neg (by rw [n12 (by omega)]; exact d), p_steppedS hP X3 (by omega) (by omega), Option.bind_some, chk_t, chk_t, pk_rem (by omega) (by decide) (by decide), pk_div (by omega) (by decide) (by decide), n.2.2.1, e6, Option.bind_some]
        rw [← e] at r6
        exact step2 s6 _ bi1 r6 (q2.trans g6)
    · right
      rw [if_pos (nI_le (by omega) (by omega))]
      refine ⟨s, rfl, ?_, q2⟩
      have := bfs_stay (P := P) (Q := Q) (m := m) (k := k) (by omega) (N - k)
      rw [show k + (N - k) = N by omega] at this
      rw [this]; exact q1
  · rintro ⟨y, s⟩ ⟨h0, q1, q2⟩
    have h0 : y = nI N := h0
    subst h0
    dsimp only at q1 q2
    have le := (BI.all hP hQ hm N).le
    refine ⟨s, ?_, q1, q2⟩
    unfold b_X2_reach_41
    rw [un_, q1.1, if_pos (nI_le (by omega) (by omega))]
