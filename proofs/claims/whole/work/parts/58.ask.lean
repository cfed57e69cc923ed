/-! ===== what a SAYING asks of a PAIR, on both sides ===== -/
/-- a sign asks nothing that is not so -/
def cok (P : Pg) (hu x : Nat) (Q : Pg) (hu' y c : Nat) : Prop := (c = 101 → endv P x = endv Q y) ∧ (c = 111 → shw P hu x 24 = shw Q hu' y 24) ∧ (c = 116 → stp P x 24 = stp Q y 24)
/-- it is as the SAYING says behind its : -/
def AsP (T : Tx) (P : Pg) (hu x : Nat) (Q : Pg) (hu' y : Nat) : Prop := SgP T (cl T + 1) T.1 (sq P x 24 % 256) (sq Q y 24 % 256) ∧ ∀ j, j < T.1 → cok P hu x Q hu' y (T.2 j)
noncomputable def asq (T : Tx) (P : Pg) (hu x : Nat) (Q : Pg) (hu' y : Nat) : Bool := cb (AsP T P hu x Q hu' y)
theorem cok_n {P : Pg} {hu x : Nat} {Q : Pg} {hu' y c : Nat} (h : ¬ isE c) : cok P hu x Q hu' y c := by
  unfold isE at h
  exact ⟨fun e => by omega, fun e => by omega, fun e => by omega⟩
theorem noE {T : Tx} (h : okT T) {j : Nat} (hj : j < T.1) (g : (gs T j).1 ≠ 0 ∨ (gs T j).2 = false) : ¬ isE (T.2 j) := by
  intro e
  have d := h.1 j hj
  rw [gs_1] at d
  obtain ⟨a, b⟩ := dueE (gs_l4 h (Nat.le_of_lt hj)) e d
  rcases g with g | g
  · exact g a
  · rw [b] at g; cases g
theorem noE0 {T : Tx} (h : okT T) {j : Nat} (hj : j < cl T + 1) : ¬ isE (T.2 j) := by
  obtain ⟨c1, c2, c3, c4, c5, c6, _⟩ := cl_ok h
  have hcl : cl T < T.1 := c1
  refine noE h (by omega) (Or.inr ?_)
  cases e : (gs T j).2
  · rfl
  · obtain ⟨i, h1, h2⟩ := (gs_2 T j).mp e
    exact absurd h2 (c6 i (by omega))
theorem p_asSaid {σ : St} {s a b hu hu' x y : Nat} {P Q : Pg} {T : Tx} (hs : s < 6) (h : okT T) (hT : T.1 ≤ 40) (hc : ∀ i, i < T.1 → 33 ≤ T.2 i ∧ T.2 i ≤ 126) (hM : CMt σ s T) (hP : VP P) (hQ : VP Q) (hx : x < 256) (hy : y < 256) (ha : a < 512) (hb : b < 512) (r1 : RunM σ a P hu x) (r2 : RunM σ b Q hu' y) : f_X9_isAsSaid (nI s) (nI a) (nI b) σ = some (bI (asq T P hu x Q hu' y)) := by
  obtain ⟨c1, c2, c3, c4, c5, c6, c7⟩ := cl_ok h
  have hcl : cl T < T.1 := c1
  have b1 := endv_le hP hx
  have b2 := endv_le hQ hy
  have l1 := shw_len P hu x 24
  have l2 := shw_len Q hu' y 24
  have t1 := stp_le P x 24
  have t2 := stp_le Q y 24
  have key := wh_up (b := b_X9_isAsSaid_46 (nI a) (nI b) σ (nI (40 * s + T.1))) (T.1 + 1) (fun i z => cl T + 1 ≤ i ∧ InP T T.1 i ∧ ∃ d, z = (bI d, nI (40 * s + i)) ∧ (d = true ↔ (SgP T (cl T + 1) T.1 (sq P x 24 % 256) (sq Q y 24 % 256) ∧ ∀ j, j < i → j < T.1 → cok P hu x Q hu' y (T.2 j)))) (fun r => r = bI (asq T P hu x Q hu' y)) ?_ FU (cl T + 1) (bI (cb (SgP T (cl T + 1) T.1 (sq P x 24 % 256) (sq Q y 24 % 256))), nI (40 * s + (cl T + 1))) (by omega) ⟨Nat.le_refl _, Or.inr ⟨c7, c4⟩, _, rfl, ?_⟩ (by rw [FU_]; omega)
  · obtain ⟨r, e, rfl⟩ := key
    unfold f_X9_isAsSaid
    rw [p_markOf (by omega) h hT hc hM, Option.bind_some, inb_nI (show s < 7 by omega) (by decide), chk_t, nI_clamp (by omega), hM.1, show (40 : Int32) * nI s + nI T.1 = nI (40 * s + T.1) from by rw [L40, pk_mul, nI_add], nm_, inb_nI ha (by decide), chk_t, inb_nI hb (by decide), chk_t, nI_clamp (by omega), nI_clamp (by omega), r1.2.1, r2.2.1, p_allStand (by omega) h hT hc hM (Nat.mod_lt _ (by decide)) (Nat.mod_lt _ (by decide)) (Nat.le_refl _) h.2.1 c7 c4, Option.bind_some, e, Option.bind_some, chk_of (bI01 _)]
  · rintro i z hi ⟨h1, h2, d, rfl, hd⟩
    unfold b_X9_isAsSaid_46
    rw [un_]
    rcases h2 with rfl | ⟨h2, g0⟩
    · right
      rw [if_pos (nI_le (by omega) (by omega))]
      refine ⟨_, rfl, ?_⟩
      rw [asq, cb_c (p := AsP T P hu x Q hu' y) (b := d)]
      rw [hd]
      unfold AsP
      exact ⟨fun q => ⟨q.1, fun j hj => q.2 j (by omega) hj⟩, fun q => ⟨q.1, fun j _ hj => q.2 j hj⟩⟩
    · rw [if_neg (nI_ge (by omega) (by omega))]
      cases d
      · right
        rw [if_pos (by decide)]
        refine ⟨_, rfl, ?_⟩
        rw [asq, cb_f.mpr (fun q => by have := hd.mpr ⟨q.1, fun j _ hj => q.2 j hj⟩; cases this)]
      · left
        have hcc := hc i (by omega)
        have hd1 := hd.mp rfl
        rw [if_neg (by decide), inb_nI (show 40 * s + i < 280 by omega) (by decide), chk_t, nI_clamp (by omega), hM.2 i (by omega), nm_, p_letM _ (by omega), Option.bind_some]
        rcases tok h (Nat.le_refl _) h.2.1 h2 g0 with ⟨t1, t2, t3, t4, t5, t6, t7, t8⟩ | ⟨t1, t2, t3, t4⟩
        · have t1' := t1
          unfold isLet at t1'
          rw [decide_eq_true t1', if_neg (by decide), nm_, show nI (40 * s + i) + (4 : Int32) = nI (40 * s + (i + 4)) from nI_add _ 4]
          refine ⟨i + 4, _, by omega, ?_, rfl, by omega, t8, true, rfl, ?_⟩
          · rcases t8 with q | q <;> omega
          · refine ⟨fun _ => ⟨hd1.1, fun j hj hj2 => ?_⟩, fun _ => rfl⟩
            by_cases q : j < i
            · exact hd1.2 j q hj2
            · apply cok_n
              have : j = i ∨ j = i + 1 ∨ j = i + 2 ∨ j = i + 3 := by omega
              rcases this with rfl | rfl | rfl | rfl
              · unfold isE; omega
              · exact noE h hj2 (Or.inl (by rw [t5]; decide))
              · exact noE h hj2 (Or.inl (by rw [t6]; decide))
              · exact noE h hj2 (Or.inl (by rw [t7]; decide))
        · rw [decide_eq_false (show ¬ (97 ≤ T.2 i ∧ T.2 i ≤ 100) from t1), if_pos (by decide)]
          have fin : ∀ e : Bool, (e = true ↔ cok P hu x Q hu' y (T.2 i)) → ∃ k' s', i < k' ∧ k' ≤ T.1 + 1 ∧ (some (Sum.inl (bI e, nI (40 * s + (i + 2)))) : Option ((Int32 × Int32) ⊕ Int32)) = some (.inl s') ∧ (cl T + 1 ≤ k' ∧ InP T T.1 k' ∧ ∃ d, s' = (bI d, nI (40 * s + k')) ∧ (d = true ↔ (SgP T (cl T + 1) T.1 (sq P x 24 % 256) (sq Q y 24 % 256) ∧ ∀ j, j < k' → j < T.1 → cok P hu x Q hu' y (T.2 j)))) := by
            intro e he
            refine ⟨i + 2, _, by omega, ?_, rfl, by omega, t4, e, rfl, ?_⟩
            · rcases t4 with q | q <;> omega
            · rw [he]
              constructor
              · intro q
                refine ⟨hd1.1, fun j hj hj2 => ?_⟩
                by_cases q2 : j < i
                · exact hd1.2 j q2 hj2
                · have : j = i ∨ j = i + 1 := by omega
                  rcases this with rfl | rfl
                  · exact q
                  · exact cok_n (noE h hj2 (Or.inl (by rw [t3]; decide)))
              · intro q
                exact q.2 i (by omega) (by omega)
          simp only [inb_nI ha (by decide : 512 < 2 ^ 31), inb_nI hb (by decide : 512 < 2 ^ 31), chk_t, nI_clamp (show a < 2 ^ 31 by omega), nI_clamp (show b < 2 ^ 31 by omega), r1.1, r1.2.2.1, r1.2.2.2.1, r2.1, r2.2.2.1, r2.2.2.2.1, nm_, show nI (40 * s + i) + (2 : Int32) = nI (40 * s + (i + 2)) from nI_add _ 2, show (1 : Int32) = bI true from rfl, show (101 : Int32) = nI 101 from rfl, show (116 : Int32) = nI 116 from rfl, eq_nI (show T.2 i < 2 ^ 31 by omega) (show 101 < 2 ^ 31 by decide), eq_nI (show T.2 i < 2 ^ 31 by omega) (show 116 < 2 ^ 31 by decide), eq_nI (show endv P x < 2 ^ 31 by omega) (show endv Q y < 2 ^ 31 by omega), eq_nI (show stp P x 24 < 2 ^ 31 by omega) (show stp Q y 24 < 2 ^ 31 by omega), eq_nI (show (shw P hu x 24).length < 2 ^ 31 by omega) (show (shw Q hu' y 24).length < 2 ^ 31 by omega)]
          unfold isE at t2
          unfold cok at fin
          by_cases q1 : T.2 i = 101
          · rw [if_pos q1]
            by_cases q2 : endv P x = endv Q y
            · rw [if_pos q2]
              exact fin true ⟨fun _ => ⟨fun _ => q2, fun q => by omega, fun q => by omega⟩, fun _ => rfl⟩
            · rw [if_neg q2]
              exact fin false ⟨fun q => (by cases q), fun q => absurd (q.1 q1) q2⟩
          · rw [if_neg q1]
            by_cases q3 : T.2 i = 116
            · rw [if_pos q3]
              by_cases q2 : stp P x 24 = stp Q y 24
              · rw [if_pos q2]
                exact fin true ⟨fun _ => ⟨fun q => by omega, fun q => by omega, fun _ => q2⟩, fun _ => rfl⟩
              · rw [if_neg q2]
                exact fin false ⟨fun q => (by cases q), fun q => absurd (q.2.2 q3) q2⟩
            · rw [if_neg q3]
              have q4 : T.2 i = 111 := by omega
              by_cases q2 : (shw P hu x 24).length = (shw Q hu' y 24).length
              · rw [if_pos q2, p_shA ha hb r1 r2 q2, Option.bind_some]
                by_cases q5 : shw P hu x 24 = shw Q hu' y 24
                · rw [decide_eq_true q5, if_neg (by decide)]
                  exact fin true ⟨fun _ => ⟨fun q => by omega, fun _ => q5, fun q => by omega⟩, fun _ => rfl⟩
                · rw [decide_eq_false q5, if_pos (by decide)]
                  exact fin false ⟨fun q => (by cases q), fun q => absurd (q.2.1 q4) q5⟩
              · rw [if_neg q2]
                exact fin false ⟨fun q => (by cases q), fun q => absurd (by rw [q.2.1 q4]) q2⟩
  · rw [cb_t]
    exact ⟨fun q => ⟨q, fun j hj hj2 => cok_n (noE0 h hj)⟩, fun q => q.1⟩
-- the class
def dnb (c v : Nat) : Nat := if c = 60 then 2 ^ (v + 1) - 1 else if c = 61 then 15 - 2 ^ v else if c = 62 then 16 - 2 ^ v else 2 ^ v
theorem p_dnb : ∀ c, c < 127 → ∀ v, v < 4 → f_X5_deniedBy (nI c) (nI v) = some (nI (dnb c v)) ∧ dnb c v < 16 := by decide +kernel
theorem p_sh4 : ∀ d, d < 16 → ∀ w, w < 4 → nI d <<< (((4 : Int32) * nI w) &&& 31) = nI (d * 16 ^ w) ∧ d * 16 ^ w < 2 ^ 16 := by decide +kernel
theorem hot_dnb : ∀ y, y < 256 → ∀ v, v < 4 → ∀ w, w < 4 → (decide (hotP y 4 &&& (dnb 60 v * 16 ^ w) = 0) = stq 60 v (val y w)) ∧ (decide (hotP y 4 &&& (dnb 61 v * 16 ^ w) = 0) = stq 61 v (val y w)) ∧ (decide (hotP y 4 &&& (dnb 62 v * 16 ^ w) = 0) = stq 62 v (val y w)) ∧ (decide (hotP y 4 &&& (dnb 35 v * 16 ^ w) = 0) = stq 35 v (val y w)) := by decide +kernel
theorem hot_sg {y v w c : Nat} (hy : y < 256) (hv : v < 4) (hw : w < 4) (hc : isSg c) : hotP y 4 &&& (dnb c v * 16 ^ w) = 0 ↔ stq c v (val y w) = true := by
  obtain ⟨a, b, d, e⟩ := hot_dnb y hy v hv w hw
  unfold isSg at hc
  rcases hc with rfl | rfl | rfl | rfl
  · rw [← b, decide_eq_true_eq]
  · rw [← a, decide_eq_true_eq]
  · rw [← d, decide_eq_true_eq]
  · rw [← e, decide_eq_true_eq]
theorem hot_lt : ∀ y, y < 256 → hotP y 4 < 2 ^ 16 := by decide +kernel
theorem hot_nI {y D : Nat} (hy : y < 256) (hD : D < 2 ^ 16) : (nI (hotP y 4) &&& nI D = (0 : Int32)) = (hotP y 4 &&& D = 0) := by
  rw [fa_and]
  have := Nat.and_lt_two_pow (hotP y 4) hD
  exact eq_nI (by omega) (by decide)
theorem p_denied {σ : St} {sa : Nat} {T : Tx} (h : okT T) (hT : T.1 ≤ 40) (hc : ∀ i, i < T.1 → 33 ≤ T.2 i ∧ T.2 i ≤ 126) (hX : CXt σ sa T) {fr to x : Nat} (hx : x < 256) (ht : to ≤ T.1) (h3 : (gs T to).1 = 3) (hf : fr < to) (h0 : (gs T fr).1 = 0) : ∃ D, f_X5_deniedFrom sa (nI fr) (nI to) (nI x) σ = some (nI D) ∧ D < 2 ^ 16 ∧ ∀ y, y < 256 → (hotP y 4 &&& D = 0 ↔ SgP T fr to x y) := by
  have key := wh_up (b := b_X5_deniedFrom_6 sa (nI to) (nI x) σ) (to + 1) (fun i z => fr ≤ i ∧ InP T to i ∧ ∃ D, z = (nI D, nI i) ∧ D < 2 ^ 16 ∧ ∀ y, y < 256 → (hotP y 4 &&& D = 0 ↔ SgP T fr i x y)) (fun r => ∃ D, r = nI D ∧ D < 2 ^ 16 ∧ ∀ y, y < 256 → (hotP y 4 &&& D = 0 ↔ SgP T fr to x y)) ?_ FU fr ((0 : Int32), nI fr) (by omega) ⟨Nat.le_refl _, Or.inr ⟨hf, h0⟩, 0, rfl, by decide, fun y _ => ⟨fun _ i h1 h2 => by omega, fun _ => Nat.and_zero _⟩⟩ (by rw [FU_]; omega)
  · obtain ⟨r, e, D, rfl, q⟩ := key
    exact ⟨D, by unfold f_X5_deniedFrom; rw [e]; rfl, q⟩
  · rintro i z hi ⟨h1, h2, D, rfl, hD, hb⟩
    unfold b_X5_deniedFrom_6
    rw [un_, show nI i + (2 : Int32) = nI (i + 2) from nI_add _ 2]
    rcases h2 with rfl | ⟨h2, g0⟩
    · right
      rw [if_pos (nI_le (by omega) (by omega))]
      exact ⟨_, rfl, D, rfl, hD, fun y hy => (hb y hy).trans (SgP.out h3)⟩
    · have hcc := hc i (by omega)
      rcases tok h ht h3 h2 g0 with ⟨t1, t2, t3, t4, t5, t6, t7, t8⟩ | ⟨t1, t2, t3, t4⟩
      · left
        have c2 := hc (i + 2) (by omega)
        have c1 := hc (i + 1) (by omega)
        have t1' := t1
        have t4' := t4
        unfold isLet at t1' t4'
        have hv := val_lt x (T.2 i - 97)
        obtain ⟨e1, e2⟩ := p_dnb (T.2 (i + 1)) (by omega) _ hv
        obtain ⟨e3, e4⟩ := p_sh4 _ e2 (T.2 (i + 2) - 97) (by omega)
        rw [if_neg (nI_ge (by omega) (by omega))]
        simp only [inb_nI (show i < 40 by omega) (by decide : 40 < 2 ^ 31), chk_t, nI_clamp (show i < 2 ^ 31 by omega), hX.2 i (by omega), p_letX _ (show T.2 i < 127 by omega), decide_eq_true t1', Option.bind_some, show ¬ (bI true = (0 : Int32)) from by decide, if_false, sub97 t1'.1, sub97 t4'.1, p_valueOfX x hx (T.2 i - 97) (by omega), show nI i + (1 : Int32) = nI (i + 1) from nI_add _ 1, inb_nI (show i + 1 < 40 by omega) (by decide : 40 < 2 ^ 31), inb_nI (show i + 2 < 40 by omega) (by decide : 40 < 2 ^ 31), nI_clamp (show i + 1 < 2 ^ 31 by omega), nI_clamp (show i + 2 < 2 ^ 31 by omega), hX.2 (i + 1) (by omega), hX.2 (i + 2) (by omega), e1, e3, fa_or, nm_, show nI i + (4 : Int32) = nI (i + 4) from nI_add _ 4]
        refine ⟨i + 4, _, by omega, ?_, rfl, by omega, t8, _, rfl, Nat.or_lt_two_pow hD e4, fun y hy => ?_⟩
        · rcases t8 with q | q <;> omega
        · rw [SgP.let_ h1 g0 t1 t5 t6 t7, Nat.and_or_distrib_left, Nat.or_eq_zero_iff, hb y hy, hot_sg hy hv (by omega) t3]
      · by_cases q : to ≤ i + 2
        · right
          rw [if_pos (nI_le q (by omega))]
          refine ⟨_, rfl, D, rfl, hD, fun y hy => (hb y hy).trans ?_⟩
          rw [← SgP.no (fr := fr) (x := x) (y := y) t1 t3]
          rcases t4 with t4 | t4
          · have : i + 2 = to + 1 := t4
            rw [this]; exact SgP.out h3
          · omega
        · left
          rw [if_neg (nI_ge (by omega) (by omega))]
          simp only [inb_nI (show i < 40 by omega) (by decide : 40 < 2 ^ 31), chk_t, nI_clamp (show i < 2 ^ 31 by omega), hX.2 i (by omega), p_letX _ (show T.2 i < 127 by omega), decide_eq_false (show ¬ (97 ≤ T.2 i ∧ T.2 i ≤ 100) from t1), Option.bind_some, show (bI false = (0 : Int32)) from by decide, if_true, nm_, show nI i + (2 : Int32) = nI (i + 2) from nI_add _ 2]
          refine ⟨i + 2, _, by omega, by omega, rfl, by omega, t4, D, rfl, hD, fun y hy => ?_⟩
          rw [SgP.no t1 t3]; exact hb y hy
theorem alk_and (X : Nat) (T : Tx) : ∀ n, X &&& alkT T n = 0 ↔ ∀ i, i < n → X &&& alk (T.2 i) = 0 := by
  intro n
  induction n with
  | zero => exact ⟨fun _ i h => absurd h (Nat.not_lt_zero i), fun _ => Nat.and_zero _⟩
  | succ n ih =>
    rw [alkT, Nat.and_or_distrib_left, Nat.or_eq_zero_iff, ih]
    constructor
    · rintro ⟨a, b⟩ i hi
      by_cases e : i = n
      · subst e; exact b
      · exact a i (by omega)
    · intro a
      exact ⟨fun i hi => a i (by omega), a n (by omega)⟩
theorem alk_lt : ∀ c, alk c < 2 ^ 57 := by
  intro c; unfold alk
  repeat' split
  all_goals decide
theorem alkT_lt (T : Tx) : ∀ n, alkT T n < 2 ^ 57 := by
  intro n
  induction n with
  | zero => exact (by decide : 0 < 2 ^ 57)
  | succ n ih => exact Nat.or_lt_two_pow ih (alk_lt _)
theorem alk_cok {P Q : Pg} (hP : VP P) (hQ : VP Q) {hu hu' x y : Nat} (hx : x < 256) (hy : y < 256) (c : Nat) : (cto P hu x ^^^ cto Q hu' y) &&& alk c = 0 ↔ cok P hu x Q hu' y c := by
  unfold alk cok
  by_cases a : c = 101
  · rw [if_pos a, show 3 * 2 ^ 50 = (2 ^ 2 - 1) * 2 ^ 50 from rfl, prt, (cto_p hP hx).2.1, (cto_p hQ hy).2.1]
    exact ⟨fun q => ⟨fun _ => q, fun _ => by omega, fun _ => by omega⟩, fun q => q.1 a⟩
  · rw [if_neg a]
    by_cases b : c = 111
    · rw [if_pos b, show 2 ^ 50 - 1 = (2 ^ 50 - 1) * 2 ^ 0 from rfl, prt, (cto_p hP hx).1, (cto_p hQ hy).1, enc_iff]
      exact ⟨fun q => ⟨fun _ => by omega, fun _ => q, fun _ => by omega⟩, fun q => q.2.1 b⟩
    · rw [if_neg b]
      by_cases d : c = 116
      · rw [if_pos d, show 31 * 2 ^ 52 = (2 ^ 5 - 1) * 2 ^ 52 from rfl, prt, (cto_p hP hx).2.2.1, (cto_p hQ hy).2.2.1]
        exact ⟨fun q => ⟨fun _ => by omega, fun _ => by omega, fun _ => q⟩, fun q => q.2.2 d⟩
      · rw [if_neg d]
        exact ⟨fun _ => ⟨fun _ => by omega, fun _ => by omega, fun _ => by omega⟩, fun _ => Nat.and_zero _⟩
/-- what is asked stands in its cell -/
def Akd (σ : St) (T : Tx) (P : Pg) (hu x al : Nat) : Prop := (∃ D, σ.1 71 1 = nI D ∧ D < 2 ^ 16 ∧ ∀ y, y < 256 → (hotP y 4 &&& D = 0 ↔ SgP T 0 (cl T) x y)) ∧ (∃ D, σ.1 71 2 = nI D ∧ D < 2 ^ 16 ∧ ∀ y, y < 256 → (hotP y 4 &&& D = 0 ↔ SgP T (cl T + 1) T.1 (sq P x 24 % 256) y)) ∧ σ.2 71 3 = lN (cto P hu x) ∧ σ.2 71 4 = lN al
/-- a SAYING as the class holds it -/
def CXs (σ : St) (sa : Nat) (T : Tx) : Prop := CXt σ sa T ∧ σ.1 sa 3 = nI (cl T) ∧ σ.2 sa 2 = lN (alkT T T.1)
theorem CXs.ag {σ σ' : St} {sa : Nat} {T : Tx} (h : CXs σ sa T) (e : Ag (fun k => k = sa ∨ k = sa + 1) σ σ') : CXs σ' sa T := by
  unfold CXs CXt
  rw [(e sa (Or.inl rfl)).1, (e sa (Or.inl rfl)).2, (e (sa + 1) (Or.inr rfl)).1]
  exact h
theorem p_ask {σ : St} {sa pa hu x : Nat} {P : Pg} {T : Tx} (hsa : 57 ≤ sa ∧ sa ≤ 67) (hpa : pa + 12 < 57) (h : okT T) (hT : T.1 ≤ 40) (hc : ∀ i, i < T.1 → 33 ≤ T.2 i ∧ T.2 i ≤ 126) (hX : CXs σ sa T) (hx : x < 256) (tr : TraceRow σ pa P hu x) : ∃ σ', f_X0_take sa pa (nI x) σ = some σ' ∧ Akd σ' T P hu x (alkT T T.1) ∧ Ag (fun k => k ≠ 71) σ σ' := by
  obtain ⟨c1, c2, c3, c4, c5, c6, c7⟩ := cl_ok h
  obtain ⟨D1, e1, d1, f1⟩ := p_denied h hT hc hX.1 (fr := 0) hx (Nat.le_of_lt c1) c3 (cl0 h) rfl
  have e1 : f_X5_deniedFrom sa (0 : Int32) (nI (cl T)) (nI x) σ = some (nI D1) := e1
  have ag1 : Ag (fun k => k ≠ 71) σ (stI σ 71 1 (nI D1)) := (Ag.refl _ _).i_ (fun q => q rfl)
  have X1 := hX.ag (ag1.mono (S' := fun k => k = sa ∨ k = sa + 1) (fun k hk => by omega))
  obtain ⟨D2, e2, d2, f2⟩ := p_denied h hT hc X1.1 (fr := cl T + 1) (to := T.1) (Nat.mod_lt (sq P x 24) (show 0 < 256 by decide)) (Nat.le_refl _) h.2.1 c7 c4
  refine ⟨stL (stL (stI (stI σ 71 1 (nI D1)) 71 2 (nI D2)) 71 3 (lN (cto P hu x))) 71 4 (lN (alkT T T.1)), ?_, ⟨⟨D1, ?_, d1, f1⟩, ⟨D2, ?_, d2, f2⟩, ?_, ?_⟩, (((Ag.refl _ _).i_ (fun q => q rfl)).i_ (fun q => q rfl)).l_ (fun q => q rfl) |>.l_ (fun q => q rfl)⟩
  · unfold f_X0_take f_X5_deniedAhead f_X5_deniedBehind
    rw [hX.2.1, e1, Option.bind_some, Option.bind_some, nm_, inb_nI hx (by decide), chk_t, nI_clamp (by omega), X1.2.1, X1.1.1, stI_nk (show pa + 8 ≠ 71 by omega), tr.2.1, show nI (cl T) + (1 : Int32) = nI (cl T + 1) from nI_1 _, e2, Option.bind_some, Option.bind_some, nm_, chk_t, nm_, nm_]
    rw [stI_2, stI_2, tr.2.2.2.2.2.1, stL_nk (show sa ≠ 71 by omega), stI_2, stI_2, hX.2.2]
  · rw [stL_1, stL_1, stI_ne (by decide), stI_same]
  · rw [stL_1, stL_1, stI_same]
  · rw [stL_ne (by decide), stL_same]
  · rw [stL_same]
theorem p_meantX {σ : St} {T : Tx} {P : Pg} {hu x al y : Nat} (hy : y < 256) (h1 : CX1 σ) (hA : Akd σ T P hu x al) : f_X0_isMeant (nI y) σ = some (bI (mtq T x y)) := by
  obtain ⟨⟨D, e, d, f⟩, _⟩ := hA
  unfold f_X0_isMeant
  rw [inb_nI hy (by decide), chk_t, nI_clamp (by omega), (h1 y hy).1, e]
  simp only [hot_nI hy d]
  by_cases q : hotP y 4 &&& D = 0
  · rw [if_pos q, mtq, cb_t.mpr ((f y hy).mp q)]; rfl
  · rw [if_neg q, mtq, cb_f.mpr (fun w => q ((f y hy).mpr w))]; rfl
/-- broken by what must be alike in these parts -/
def AlP (T : Tx) (P : Pg) (hu x : Nat) (Q : Pg) (hu' y al : Nat) : Prop := SgP T (cl T + 1) T.1 (sq P x 24 % 256) (sq Q y 24 % 256) ∧ (cto P hu x ^^^ cto Q hu' y) &&& al = 0
theorem p_brokenX {σ : St} {T : Tx} {P Q : Pg} {qa hu hu' x y al : Nat} (hal : al < 2 ^ 57) (hy : y < 256) (tr : TraceRow σ qa Q hu' y) (hA : Akd σ T P hu x al) : f_X0_isBroken qa (nI y) σ = some (bI (!cb (AlP T P hu x Q hu' y al))) := by
  obtain ⟨_, ⟨D, e, d, f⟩, e3, e4⟩ := hA
  have hm := Nat.mod_lt (sq Q y 24) (show 0 < 256 by decide)
  unfold f_X0_isBroken
  rw [inb_nI hy (by decide), chk_t, chk_t, nI_clamp (by omega), tr.2.2.1, e, e3, e4, tr.2.2.2.2.2.1, fb_xorL, fb_andL]
  simp only [hot_nI hm d, lg00 (Nat.lt_of_lt_of_le (Nat.and_lt_two_pow (cto P hu x ^^^ cto Q hu' y) hal) (by decide : 2 ^ 57 ≤ 2 ^ 63))]
  have ff := f _ hm
  by_cases q : hotP (sq Q y 24 % 256) 4 &&& D = 0
  · rw [if_pos q]
    by_cases q2 : (cto P hu x ^^^ cto Q hu' y) &&& al = 0
    · rw [if_pos q2, cb_t.mpr (show AlP T P hu x Q hu' y al from ⟨ff.mp q, q2⟩)]; rfl
    · rw [if_neg q2, cb_f.mpr (show ¬ AlP T P hu x Q hu' y al from fun w => q2 w.2)]; rfl
  · rw [if_neg q, cb_f.mpr (show ¬ AlP T P hu x Q hu' y al from fun w => q (ff.mpr w.1))]; rfl
theorem AlP_as {T : Tx} {P Q : Pg} (hP : VP P) (hQ : VP Q) {hu hu' x y : Nat} (hx : x < 256) (hy : y < 256) : AlP T P hu x Q hu' y (alkT T T.1) ↔ AsP T P hu x Q hu' y := by
  unfold AlP AsP
  rw [alk_and]
  constructor
  · rintro ⟨a, b⟩
    exact ⟨a, fun j hj => (alk_cok hP hQ hx hy _).mp (b j hj)⟩
  · rintro ⟨a, b⟩
    exact ⟨a, fun j hj => (alk_cok hP hQ hx hy _).mpr (b j hj)⟩
theorem p_brokenX' {σ : St} {T : Tx} {P Q : Pg} (hP : VP P) (hQ : VP Q) {qa hu hu' x y : Nat} (hx : x < 256) (hy : y < 256) (tr : TraceRow σ qa Q hu' y) (hA : Akd σ T P hu x (alkT T T.1)) : f_X0_isBroken qa (nI y) σ = some (bI (!asq T P hu x Q hu' y)) := by
  rw [p_brokenX (alkT_lt T T.1) hy tr hA, asq]
  congr 3
  exact cb_c (cb_t.trans (AlP_as hP hQ hx hy))
