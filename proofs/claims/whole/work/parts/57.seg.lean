/-! ===== texts: their tests ===== -/
/-- a loop whose place goes up -/
theorem wh_up {S R : Type} {b : S → Option (S ⊕ R)} (N : Nat) (I : Nat → S → Prop) (Q : R → Prop) (hs : ∀ k s, k ≤ N → I k s → (∃ k' s', k < k' ∧ k' ≤ N ∧ b s = some (.inl s') ∧ I k' s') ∨ (∃ r, b s = some (.inr r) ∧ Q r)) : ∀ (n a : Nat) (s : S), a ≤ N → I a s → N - a < n → ∃ r, wh n b s = some r ∧ Q r := by
  intro n
  induction n with
  | zero => intro a s _ _ h1; omega
  | succ n ih =>
    intro a s ha hI hn
    rcases hs a s ha hI with ⟨k', s', h1, h2, e, hI'⟩ | ⟨r, e, hQ⟩
    · obtain ⟨r, e2, hQ⟩ := ih k' s' h2 hI' (by omega)
      exact ⟨r, by show (b s).bind _ = _; rw [e]; exact e2, hQ⟩
    · exact ⟨r, by show (b s).bind _ = _; rw [e]; rfl, hQ⟩
theorem gs_s (T : Tx) (i : Nat) : gs T (i + 1) = (due (gs T i).1 (T.2 i) (gs T i).2, (gs T i).2 || decide (T.2 i = 58)) := rfl
theorem gs_1 (T : Tx) (i : Nat) : (gs T (i + 1)).1 = due (gs T i).1 (T.2 i) (gs T i).2 := rfl
def isSg (c : Nat) : Prop := c = 61 ∨ c = 60 ∨ c = 62 ∨ c = 35
def isE (c : Nat) : Prop := c = 101 ∨ c = 111 ∨ c = 116
theorem due0 {c : Nat} {b : Bool} (h : due 0 c b ≠ 4) : (isLet c ∧ due 0 c b = 1) ∨ (¬ isLet c ∧ b = true ∧ isE c ∧ due 0 c b = 3) := by
  unfold due at h ⊢
  unfold isLet isE
  rw [if_pos rfl] at h ⊢
  by_cases a : 97 ≤ c ∧ c ≤ 100
  · left; rw [if_pos a]; exact ⟨a, rfl⟩
  · right
    rw [if_neg a] at h ⊢
    by_cases e : b = true ∧ (c = 101 ∨ c = 111 ∨ c = 116)
    · rw [if_pos e]; exact ⟨a, e.1, e.2, rfl⟩
    · rw [if_neg e] at h; exact absurd rfl h
theorem due1 {c : Nat} {b : Bool} (h : due 1 c b ≠ 4) : isSg c ∧ due 1 c b = 2 := by
  unfold due at h ⊢
  unfold isSg
  rw [if_neg (by decide), if_pos rfl] at h ⊢
  by_cases e : c = 61 ∨ c = 60 ∨ c = 62 ∨ c = 35
  · rw [if_pos e]; exact ⟨e, rfl⟩
  · rw [if_neg e] at h; exact absurd rfl h
theorem due2 {c : Nat} {b : Bool} (h : due 2 c b ≠ 4) : isLet c ∧ due 2 c b = 3 := by
  unfold due at h ⊢
  unfold isLet
  rw [if_neg (by decide), if_neg (by decide), if_pos rfl] at h ⊢
  by_cases e : 97 ≤ c ∧ c ≤ 100
  · rw [if_pos e]; exact ⟨e, rfl⟩
  · rw [if_neg e] at h; exact absurd rfl h
theorem due3 {c : Nat} {b : Bool} (h : due 3 c b ≠ 4) : (c = 38 ∨ (c = 58 ∧ b = false)) ∧ due 3 c b = 0 := by
  unfold due at h ⊢
  rw [if_neg (by decide), if_neg (by decide), if_neg (by decide)] at h ⊢
  by_cases e : c = 38 ∨ (c = 58 ∧ b = false)
  · rw [if_pos e]; exact ⟨e, rfl⟩
  · rw [if_neg e] at h; exact absurd rfl h
theorem due_le (s c : Nat) (b : Bool) : due s c b ≤ 4 := by
  unfold due
  repeat' split
  all_goals decide
/-- a : stands only behind a test, and only once -/
theorem due58 {s : Nat} {b : Bool} (hs : s < 4) (h : due s 58 b ≠ 4) : s = 3 ∧ b = false := by
  have : s = 0 ∨ s = 1 ∨ s = 2 ∨ s = 3 := by omega
  rcases this with rfl | rfl | rfl | rfl
  · rcases due0 h with ⟨a, _⟩ | ⟨_, _, a, _⟩
    · unfold isLet at a; omega
    · unfold isE at a; omega
  · have := (due1 h).1; unfold isSg at this; omega
  · have := (due2 h).1; unfold isLet at this; omega
  · rcases (due3 h).1 with a | a
    · omega
    · exact ⟨rfl, a.2⟩
theorem dueE {s c : Nat} {b : Bool} (hs : s < 4) (hc : isE c) (h : due s c b ≠ 4) : s = 0 ∧ b = true := by
  have : s = 0 ∨ s = 1 ∨ s = 2 ∨ s = 3 := by omega
  unfold isE at hc
  rcases this with rfl | rfl | rfl | rfl
  · rcases due0 h with ⟨a, _⟩ | ⟨_, a, _, _⟩
    · unfold isLet at a; omega
    · exact ⟨rfl, a⟩
  · have := (due1 h).1; unfold isSg at this; omega
  · have := (due2 h).1; unfold isLet at this; omega
  · rcases (due3 h).1 with a | a <;> omega
theorem gs_l4 {T : Tx} (h : okT T) {i : Nat} (hi : i ≤ T.1) : (gs T i).1 < 4 := by
  cases i with
  | zero => exact (by decide : 0 < 4)
  | succ i =>
    have a := h.1 i (by omega)
    have b := due_le (gs T i).1 (T.2 i) (gs T i).2
    rw [← gs_1] at b
    omega
theorem gs_2 (T : Tx) : ∀ n, (gs T n).2 = true ↔ ∃ i, i < n ∧ T.2 i = 58 := by
  intro n
  induction n with
  | zero => exact ⟨fun h => (by cases h), fun ⟨i, h, _⟩ => absurd h (Nat.not_lt_zero i)⟩
  | succ n ih =>
    rw [gs_s, Bool.or_eq_true, ih, decide_eq_true_eq]
    constructor
    · rintro (⟨i, h1, h2⟩ | h)
      · exact ⟨i, by omega, h2⟩
      · exact ⟨n, by omega, h⟩
    · rintro ⟨i, h1, h2⟩
      by_cases e : i = n
      · subst e; exact Or.inr h2
      · exact Or.inl ⟨i, by omega, h2⟩
theorem col_or (T : Tx) : ∀ n, (∀ i, i < n → T.2 i ≠ 58) ∨ (col T n < n ∧ T.2 (col T n) = 58) := by
  intro n
  induction n with
  | zero => exact Or.inl (fun i h => absurd h (Nat.not_lt_zero i))
  | succ n ih =>
    rw [col]
    by_cases e : T.2 n = 58
    · rw [if_pos e]; exact Or.inr ⟨by omega, e⟩
    · rw [if_neg e]
      rcases ih with ih | ih
      · left
        intro i hi
        by_cases q : i = n
        · subst q; exact e
        · exact ih i (by omega)
      · exact Or.inr ⟨by omega, ih.2⟩
/-- where the : is -/
abbrev cl (T : Tx) : Nat := col T T.1
theorem cl_ok {T : Tx} (h : okT T) : cl T < T.1 ∧ T.2 (cl T) = 58 ∧ (gs T (cl T)).1 = 3 ∧ (gs T (cl T + 1)).1 = 0 ∧ (gs T (cl T)).2 = false ∧ (∀ i, i < cl T → T.2 i ≠ 58) ∧ cl T + 1 < T.1 := by
  rcases col_or T T.1 with a | ⟨a, b⟩
  · obtain ⟨i, h1, h2⟩ := (gs_2 T T.1).mp h.2.2
    exact absurd h2 (a i h1)
  · have d := h.1 _ a
    rw [gs_1, b] at d
    obtain ⟨e1, e2⟩ := due58 (gs_l4 h (Nat.le_of_lt a)) d
    have e3 : (gs T (cl T + 1)).1 = 0 := by
      rw [e1, e2] at d
      rw [gs_1, b, e1, e2]
      exact (due3 d).2
    refine ⟨a, b, e1, e3, e2, fun i hi q => ?_, ?_⟩
    · have := (gs_2 T (cl T)).mpr ⟨i, hi, q⟩
      rw [e2] at this; cases this
    · have h3 := h.2.1
      have h4 : cl T < T.1 := a
      by_cases e : cl T + 1 = T.1
      · rw [e, h3] at e3; cases e3
      · omega
/-- where a loop over tests can stand -/
def InP (T : Tx) (to i : Nat) : Prop := i = to + 1 ∨ (i < to ∧ (gs T i).1 = 0)
theorem tok {T : Tx} (h : okT T) {to i : Nat} (ht : to ≤ T.1) (h3 : (gs T to).1 = 3) (hi : i < to) (h0 : (gs T i).1 = 0) : (isLet (T.2 i) ∧ i + 3 ≤ to ∧ isSg (T.2 (i + 1)) ∧ isLet (T.2 (i + 2)) ∧ (gs T (i + 1)).1 = 1 ∧ (gs T (i + 2)).1 = 2 ∧ (gs T (i + 3)).1 = 3 ∧ InP T to (i + 4)) ∨ (¬ isLet (T.2 i) ∧ isE (T.2 i) ∧ (gs T (i + 1)).1 = 3 ∧ InP T to (i + 2)) := by
  have d0 := h.1 i (by omega)
  rw [gs_1, h0] at d0
  rcases due0 d0 with ⟨a, b⟩ | ⟨a, b, c, d⟩
  · left
    have g1 : (gs T (i + 1)).1 = 1 := by rw [gs_1, h0]; exact b
    have n1 : i + 1 ≠ to := fun e => by rw [e, h3] at g1; cases g1
    have d1 := h.1 (i + 1) (by omega)
    rw [gs_1, g1] at d1
    obtain ⟨c1, c2⟩ := due1 d1
    have g2 : (gs T (i + 2)).1 = 2 := by rw [gs_1, g1]; exact c2
    have n2 : i + 2 ≠ to := fun e => by rw [e, h3] at g2; cases g2
    have d2 := h.1 (i + 2) (by omega)
    rw [gs_1, g2] at d2
    obtain ⟨k1, k2⟩ := due2 d2
    have g3 : (gs T (i + 3)).1 = 3 := by rw [gs_1, g2]; exact k2
    refine ⟨a, by omega, c1, k1, g1, g2, g3, ?_⟩
    by_cases e : i + 3 = to
    · exact Or.inl (by omega)
    · right
      have d3 := h.1 (i + 3) (by omega)
      rw [gs_1, g3] at d3
      have g4 : (gs T (i + 4)).1 = 0 := by rw [gs_1, g3]; exact (due3 d3).2
      have n4 : i + 4 ≠ to := fun e => by rw [e, h3] at g4; cases g4
      exact ⟨by omega, g4⟩
  · right
    have g1 : (gs T (i + 1)).1 = 3 := by rw [gs_1, h0]; exact d
    refine ⟨a, c, g1, ?_⟩
    by_cases e : i + 1 = to
    · exact Or.inl (by omega)
    · right
      have d1 := h.1 (i + 1) (by omega)
      rw [gs_1, g1] at d1
      have g2 : (gs T (i + 2)).1 = 0 := by rw [gs_1, g1]; exact (due3 d1).2
      have n2 : i + 2 ≠ to := fun e => by rw [e, h3] at g2; cases g2
      exact ⟨by omega, g2⟩
def stq (c a b : Nat) : Bool := if c = 61 then decide (a = b) else if c = 60 then decide (a < b) else if c = 62 then decide (b < a) else decide (a ≠ b)
/-- a TEST that begins at place i -/
def tst (T : Tx) (x y i : Nat) : Prop := (gs T i).1 = 0 → isLet (T.2 i) → stq (T.2 (i + 1)) (val x (T.2 i - 97)) (val y (T.2 (i + 2) - 97)) = true
def SgP (T : Tx) (fr to x y : Nat) : Prop := ∀ i, fr ≤ i → i < to → tst T x y i
theorem SgP.ext {T : Tx} {fr i j x y : Nat} (hij : i ≤ j) : SgP T fr j x y ↔ (SgP T fr i x y ∧ ∀ k, fr ≤ k → i ≤ k → k < j → tst T x y k) := by
  constructor
  · intro h
    exact ⟨fun k h1 h2 => h k h1 (by omega), fun k h1 h2 h3 => h k h1 h3⟩
  · rintro ⟨h1, h2⟩ k h3 h4
    by_cases c : k < i
    · exact h1 k h3 c
    · exact h2 k h3 (by omega) h4
theorem SgP.let_ {T : Tx} {fr i x y : Nat} (hf : fr ≤ i) (h0 : (gs T i).1 = 0) (hl : isLet (T.2 i)) (g1 : (gs T (i + 1)).1 = 1) (g2 : (gs T (i + 2)).1 = 2) (g3 : (gs T (i + 3)).1 = 3) : SgP T fr (i + 4) x y ↔ (SgP T fr i x y ∧ stq (T.2 (i + 1)) (val x (T.2 i - 97)) (val y (T.2 (i + 2) - 97)) = true) := by
  rw [SgP.ext (show i ≤ i + 4 by omega)]
  constructor
  · rintro ⟨h1, h2⟩
    exact ⟨h1, h2 i hf (Nat.le_refl _) (by omega) h0 hl⟩
  · rintro ⟨h1, h2⟩
    refine ⟨h1, fun k _ h3 h4 a b => ?_⟩
    have : k = i ∨ k = i + 1 ∨ k = i + 2 ∨ k = i + 3 := by omega
    rcases this with rfl | rfl | rfl | rfl
    · exact h2
    · rw [g1] at a; cases a
    · rw [g2] at a; cases a
    · rw [g3] at a; cases a
theorem SgP.no {T : Tx} {fr i x y : Nat} (hl : ¬ isLet (T.2 i)) (g1 : (gs T (i + 1)).1 = 3) : SgP T fr (i + 2) x y ↔ SgP T fr i x y := by
  rw [SgP.ext (show i ≤ i + 2 by omega)]
  constructor
  · exact fun h => h.1
  · intro h
    refine ⟨h, fun k _ h3 h4 a b => ?_⟩
    have : k = i ∨ k = i + 1 := by omega
    rcases this with rfl | rfl
    · exact absurd b hl
    · rw [g1] at a; cases a
theorem SgP.out {T : Tx} {fr to x y : Nat} (h3 : (gs T to).1 = 3) : SgP T fr (to + 1) x y ↔ SgP T fr to x y := by
  rw [SgP.ext (show to ≤ to + 1 by omega)]
  constructor
  · exact fun h => h.1
  · intro h
    refine ⟨h, fun k _ h4 h5 a _ => ?_⟩
    have : k = to := by omega
    subst this
    rw [h3] at a; cases a
noncomputable def cb (p : Prop) : Bool := @decide p (Classical.propDecidable p)
theorem cb_t {p : Prop} : cb p = true ↔ p := @decide_eq_true_iff p (Classical.propDecidable p)
theorem cb_f {p : Prop} : cb p = false ↔ ¬ p := @decide_eq_false_iff_not p (Classical.propDecidable p)
theorem cb_c {p : Prop} {b : Bool} (h : b = true ↔ p) : b = cb p := by
  cases hb : b
  · exact (cb_f.mpr (fun q => by rw [h.mpr q] at hb; cases hb)).symm
  · exact (cb_t.mpr (h.mp hb)).symm
-- the reference
theorem p_letM : ∀ c, c < 127 → f_X9_isLetter (nI c) = some (bI (decide (97 ≤ c ∧ c ≤ 100))) := by decide +kernel
theorem p_letX : ∀ c, c < 127 → f_X5_isLetter (nI c) = some (bI (decide (97 ≤ c ∧ c ≤ 100))) := by decide +kernel
theorem p_stand : ∀ c, c < 127 → ∀ a, a < 4 → ∀ b, b < 4 → f_X9_stand (nI c) (nI a) (nI b) = some (bI (stq c a b)) := by decide +kernel
theorem bI01 (b : Bool) : isb (bI b) = true := by cases b <;> decide
theorem sub97 {c : Nat} (h : 97 ≤ c) : nI c - (97 : Int32) = nI (c - 97) := by rw [L97, pk_sub h]
theorem p_allStand {σ : St} {s : Nat} {T : Tx} (hs : s < 7) (h : okT T) (hT : T.1 ≤ 40) (hc : ∀ i, i < T.1 → 33 ≤ T.2 i ∧ T.2 i ≤ 126) (hM : CMt σ s T) {fr to x y : Nat} (hx : x < 256) (hy : y < 256) (ht : to ≤ T.1) (h3 : (gs T to).1 = 3) (hf : fr < to) (h0 : (gs T fr).1 = 0) : f_X9_allStand (nI (40 * s + fr)) (nI (40 * s + to)) (nI x) (nI y) σ = some (bI (cb (SgP T fr to x y))) := by
  have key := wh_up (b := b_X9_allStand_6 (nI (40 * s + to)) (nI x) (nI y) σ) (to + 1) (fun i z => fr ≤ i ∧ InP T to i ∧ ∃ b, z = (bI b, nI (40 * s + i)) ∧ (b = true ↔ SgP T fr i x y)) (fun r => r = bI (cb (SgP T fr to x y))) ?_ FU fr ((1 : Int32), nI (40 * s + fr)) (by omega) ⟨Nat.le_refl _, Or.inr ⟨hf, h0⟩, true, rfl, fun _ i h1 h2 => by omega, fun _ => rfl⟩ (by rw [FU_]; omega)
  · obtain ⟨r, e, rfl⟩ := key
    unfold f_X9_allStand
    rw [e, Option.bind_some, chk_of (bI01 _)]
  · rintro i z hi ⟨h1, h2, b, rfl, hb⟩
    unfold b_X9_allStand_6
    rw [un_]
    rcases h2 with rfl | ⟨h2, g0⟩
    · right
      rw [if_pos (nI_le (by omega) (by omega))]
      exact ⟨_, rfl, by rw [cb_c (hb.trans (SgP.out h3))]⟩
    · rw [if_neg (nI_ge (by omega) (by omega))]
      cases b
      · right
        rw [if_pos (by decide)]
        refine ⟨_, rfl, ?_⟩
        rw [cb_f.mpr (fun q => by have := hb.mpr ((SgP.ext (Nat.le_of_lt h2)).mp q).1; cases this)]
      · left
        rw [if_neg (by decide), inb_nI (show 40 * s + i < 280 by omega) (by decide), chk_t, nI_clamp (by omega), hM.2 i (by omega), p_letM _ (by have := hc i (by omega); omega), Option.bind_some]
        rcases tok h ht h3 h2 g0 with ⟨t1, t2, t3, t4, t5, t6, t7, t8⟩ | ⟨t1, t2, t3, t4⟩
        · have c2 := hc (i + 2) (by omega)
          have c1 := hc (i + 1) (by omega)
          unfold isLet at t1 t4
          rw [decide_eq_true t1, if_neg (by decide)]
          simp only [show nI (40 * s + i) + (1 : Int32) = nI (40 * s + (i + 1)) from nI_add _ 1, show nI (40 * s + i) + (2 : Int32) = nI (40 * s + (i + 2)) from nI_add _ 2, show nI (40 * s + i) + (4 : Int32) = nI (40 * s + (i + 4)) from nI_add _ 4, inb_nI (show 40 * s + (i + 1) < 280 by omega) (by decide : 280 < 2 ^ 31), inb_nI (show 40 * s + (i + 2) < 280 by omega) (by decide : 280 < 2 ^ 31), inb_nI (show 40 * s + i < 280 by omega) (by decide : 280 < 2 ^ 31), chk_t, nI_clamp (show 40 * s + (i + 1) < 2 ^ 31 by omega), nI_clamp (show 40 * s + (i + 2) < 2 ^ 31 by omega), hM.2 (i + 1) (by omega), hM.2 (i + 2) (by omega), sub97 t1.1, sub97 t4.1, p_valueOfM x hx (T.2 i - 97) (by omega), p_valueOfM y hy (T.2 (i + 2) - 97) (by omega), Option.bind_some, p_stand (T.2 (i + 1)) (by omega) _ (val_lt _ _) _ (val_lt _ _), nm_]
          refine ⟨i + 4, _, by omega, ?_, rfl, by omega, t8, _, rfl, ?_⟩
          · rcases t8 with q | q <;> omega
          · rw [SgP.let_ h1 g0 t1 t5 t6 t7]
            exact ⟨fun q => ⟨hb.mp rfl, q⟩, fun q => q.2⟩
        · rw [decide_eq_false (show ¬ (97 ≤ T.2 i ∧ T.2 i ≤ 100) from t1), if_pos (by decide), nm_, show nI (40 * s + i) + (2 : Int32) = nI (40 * s + (i + 2)) from nI_add _ 2]
          refine ⟨i + 2, _, by omega, ?_, rfl, by omega, t4, true, rfl, ?_⟩
          · rcases t4 with q | q <;> omega
          · rw [SgP.no t1 t3]; exact hb
theorem p_markOf {σ : St} {s : Nat} {T : Tx} (hs : s < 7) (h : okT T) (hT : T.1 ≤ 40) (hc : ∀ i, i < T.1 → 33 ≤ T.2 i ∧ T.2 i ≤ 126) (hM : CMt σ s T) : f_X9_markOf (nI s) σ = some (nI (40 * s + (cl T + 1))) := by
  obtain ⟨c1, c2, _, _, _, c6, _⟩ := cl_ok h
  have key := wh_cnt (b := b_X9_markOf_5 σ) (cl T) (fun i z => z = nI (40 * s + i)) (fun r => r = nI (40 * s + cl T)) ?_ ?_ FU 0 (nI (40 * s)) (Nat.zero_le _) rfl (by rw [FU_]; omega)
  · obtain ⟨r, e, rfl⟩ := key
    unfold f_X9_markOf
    rw [show (40 : Int32) * nI s = nI (40 * s) from by rw [L40, pk_mul], nm_, e, Option.bind_some, nI_1]; rfl
  · rintro i z hi rfl
    left
    refine ⟨_, ?_, rfl⟩
    have hcl : cl T < T.1 := c1
    unfold b_X9_markOf_5
    rw [inb_nI (show 40 * s + i < 280 by omega) (by decide), chk_t, nI_clamp (by omega), hM.2 i (by omega), if_neg (by rw [eqc (by have := hc i (by omega); omega)]; exact c6 i hi), nm_, nI_1]; rfl
  · rintro z rfl
    refine ⟨_, ?_, rfl⟩
    have hcl : cl T < T.1 := c1
    unfold b_X9_markOf_5
    rw [inb_nI (show 40 * s + cl T < 280 by omega) (by decide), chk_t, nI_clamp (by omega), hM.2 _ c1, if_pos (by rw [eqc (by have := hc _ c1; omega)]; exact c2)]
/-- a PAIR is MEANT -/
noncomputable def mtq (T : Tx) (x y : Nat) : Bool := cb (SgP T 0 (cl T) x y)
theorem cl0 {T : Tx} (h : okT T) : 0 < cl T := by
  obtain ⟨_, _, c3, _⟩ := cl_ok h
  rcases Nat.eq_zero_or_pos (cl T) with e | e
  · rw [e] at c3; cases c3
  · exact e
theorem p_meantM {σ : St} {s : Nat} {T : Tx} (hs : s < 7) (h : okT T) (hT : T.1 ≤ 40) (hc : ∀ i, i < T.1 → 33 ≤ T.2 i ∧ T.2 i ≤ 126) (hM : CMt σ s T) {x y : Nat} (hx : x < 256) (hy : y < 256) : f_X9_isMeant (nI s) (nI x) (nI y) σ = some (bI (mtq T x y)) := by
  obtain ⟨c1, c2, c3, _, _, c6, _⟩ := cl_ok h
  unfold f_X9_isMeant
  rw [p_markOf hs h hT hc hM, Option.bind_some, show nI (40 * s + (cl T + 1)) - (1 : Int32) = nI (40 * s + cl T) from nI_pred _, show (40 : Int32) * nI s = nI (40 * s + 0) from by rw [L40, pk_mul]; rfl, p_allStand hs h hT hc hM hx hy (Nat.le_of_lt c1) c3 (cl0 h) rfl, Option.bind_some, chk_of (bI01 _)]
  rfl
