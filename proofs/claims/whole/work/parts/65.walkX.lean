/-! ===== walks: the class ===== -/
def WX (σ : St) (Z : WAc) : Prop := (∀ j, j < 169 → σ.1 79 j = Z.1 j ∧ σ.1 80 j = Z.2.1 j) ∧ σ.1 76 6 = Z.2.2
theorem p_standAt {σ : St} {Z : WAc} {a b : Nat} (h1 : CX1 σ) (h : WX σ Z) (ha : a < 3328) (hb : b < 3328) : ∃ σ', f_X7_standAt (nI a) (nI b) σ = some (nI (13 * (a / 256) + b / 256), σ') ∧ WX σ' (stn (13 * (a / 256) + b / 256) (nI (saysP (a % 256) (b % 256) 4)) Z) ∧ Ag (fun k => k ≠ 79 ∧ k ≠ 80) σ σ' := by
  have ea : (nI a / (256 : Int32)) * (13 : Int32) + nI b / (256 : Int32) = nI (13 * (a / 256) + b / 256) := by
    rw [L256, L13, pk_div (by omega) (by decide) (by decide), pk_div (by omega) (by decide) (by decide), pk_mul, nI_add, Nat.mul_comm]
  have hj : 13 * (a / 256) + b / 256 < 169 := by omega
  have hs := p_shapeOf (σ := stI σ 80 (13 * (a / 256) + b / 256) 1) (h1.ag ((Ag.refl _ _).i_ (by decide))) a b
  generalize 13 * (a / 256) + b / 256 = j at *
  unfold f_X7_standAt
  rw [nz256, chk_t, chk_t, ea, nm_, inb_nI hj (by decide), chk_t, nm_, chk_t, nI_clamp (by omega), hs, Option.bind_some, chk_t, nm_]
  refine ⟨_, rfl, ⟨fun i hi => ?_, ?_⟩, ((Ag.refl _ _).i_ (fun q => q.2 rfl)).i_ (fun q => q.1 rfl)⟩
  · unfold stn
    dsimp only
    constructor
    · rw [stI_v]
      by_cases e : i = j
      · rw [if_pos ⟨rfl, e⟩, stI_nk (show 79 ≠ 80 by decide), if_pos e, e, (h.1 j hj).1]
      · rw [if_neg (fun q => e q.2), stI_nk (show 79 ≠ 80 by decide), if_neg e, (h.1 i hi).1]
    · rw [stI_nk (show 80 ≠ 79 by decide), stI_v]
      by_cases e : i = j
      · rw [if_pos ⟨rfl, e⟩, if_pos e]
      · rw [if_neg (fun q => e q.2), if_neg e, (h.1 i hi).2]
  · rw [stI_nk (show 76 ≠ 79 by decide), stI_nk (show 76 ≠ 80 by decide)]; exact h.2
/-- WAITS as the class holds them -/
def WTx (σ : St) (W : Nat → Nat → Nat) : Prop := ∀ a b, a ≤ 12 → b ≤ 12 → ¬ (a = 12 ∧ b = 12) → σ.1 77 (13 * a + b) = nI (mvr W a b)
theorem CX4.w {A : Ab} {σ : St} (h : CX4 A σ) : WTx σ (aW A) := by
  intro a b ha hb hn
  unfold mvr
  by_cases c : a = 12
  · rw [if_pos c]
    subst c
    rw [if_neg (fun e => hn ⟨rfl, e⟩)]
    exact h.2.2 b (by omega)
  · rw [if_neg c]
    by_cases d : b = 12
    · rw [if_pos d, d]; exact h.2.1 a (by omega)
    · rw [if_neg d]; exact h.1 a b (by omega) (by omega)
theorem VA.w {A : Ab} (hV : VA A) : Wle (aW A) := hV.2.2.2.2.1
theorem ps_row {σ : St} {pa hu m t : Nat} {P : Pg} (hV : VP P) (hm : m < 256) (h : TraceRow σ pa P hu m) (ht : t ≤ stp P m 24) : σ.1 (pa + 6) (25 * m + t) = nI (ps P m t) := by
  rw [h.2.2.2.2.2.2 t ht, ps_cls hV hm ht]
theorem ps_up {P : Pg} (hV : VP P) {m t : Nat} (hm : m < 256) (ht : t ≤ stp P m 24) (h : ps P m t / 256 < 12) : t + 1 ≤ stp P m 24 := by
  rcases Nat.lt_or_ge t (stp P m 24) with a | a
  · exact a
  · have e : t = stp P m 24 := Nat.le_antisymm ht a
    have := ps_cls hV hm ht
    rw [if_neg (by omega)] at this
    have h2 := Nat.mod_lt (sq P m 24) (show 0 < 256 by decide)
    omega
theorem p_walkPair {σ : St} {pa qa hu hu' x y : Nat} {P Q : Pg} {W : Nat → Nat → Nat} {Z : WAc} (hpa : pa + 12 < 57) (hqa : qa + 12 < 57) (hP : VP P) (hQ : VP Q) (hW : Wle W) (hx : x < 256) (hy : y < 256) (h1 : CX1 σ) (hT : WTx σ W) (tP : TraceRow σ pa P hu x) (tQ : TraceRow σ qa Q hu' y) (hZ : WX σ Z) : ∃ σ', f_X7_walkPair pa (nI x) qa (nI y) σ = some (nI (wmv P Q W x y 48), σ') ∧ WX σ' (wac P Q W x y Z 48) ∧ Ag (fun k => k ≠ 79 ∧ k ≠ 80) σ σ' := by
  have go : ∀ k, k ≤ 48 → ∀ z : Int32 × Int32 × Int32 × St, (∃ st Zp, z = (nI (25 * x + (wps P Q W x y k).1), nI (25 * y + (wps P Q W x y k).2), nI k, st) ∧ (∀ i, i < k → wmo P Q W x y (wps P Q W x y i) ≠ 3) ∧ (wps P Q W x y k).1 ≤ stp P x 24 ∧ (wps P Q W x y k).2 ≤ stp Q y 24 ∧ WX st Zp ∧ wst P Q x y (wps P Q W x y k) Zp = wac P Q W x y Z k ∧ Ag (fun k => k ≠ 79 ∧ k ≠ 80) σ st) → (k < 48 ∧ ∃ z', b_X7_walkPair_16 pa qa z = some (.inl z') ∧ (∃ st Zp, z' = (nI (25 * x + (wps P Q W x y (k + 1)).1), nI (25 * y + (wps P Q W x y (k + 1)).2), nI (k + 1), st) ∧ (∀ i, i < k + 1 → wmo P Q W x y (wps P Q W x y i) ≠ 3) ∧ (wps P Q W x y (k + 1)).1 ≤ stp P x 24 ∧ (wps P Q W x y (k + 1)).2 ≤ stp Q y 24 ∧ WX st Zp ∧ wst P Q x y (wps P Q W x y (k + 1)) Zp = wac P Q W x y Z (k + 1) ∧ Ag (fun k => k ≠ 79 ∧ k ≠ 80) σ st)) ∨ (∃ r, b_X7_walkPair_16 pa qa z = some (.inr r) ∧ ∃ σ', (Sum.elim (fun s3 => some ((48 : Int32), s3)) (fun z => some z)) r = some (nI (wmv P Q W x y 48), σ') ∧ WX σ' (wac P Q W x y Z 48) ∧ Ag (fun k => k ≠ 79 ∧ k ≠ 80) σ σ') := by
    rintro k hk z ⟨st, Zp, rfl, hn, ht, hu1, hX, hw, ag⟩
    have s1 := stp_le P x 24
    have s2 := stp_le Q y 24
    have oP := (ps_ok hP hx (wps P Q W x y k).1).2
    have oQ := (ps_ok hQ hy (wps P Q W x y k).2).2
    obtain ⟨st2, e2, hX2, ag2⟩ := p_standAt (h1.ag (ag.mono (by omega))) hX oP oQ
    have hX2 : WX st2 (wst P Q x y (wps P Q W x y k) Zp) := hX2
    rw [hw] at hX2
    have ag3 := ag.trans ag2
    have rP := ps_row hP hx (tP.ag (ag.mono (S' := fun k => pa ≤ k ∧ k ≤ pa + 12) (fun k hk => by omega))) ht
    have rQ := ps_row hQ hy (tQ.ag (ag.mono (S' := fun k => qa ≤ k ∧ k ≤ qa + 12) (fun k hk => by omega))) hu1
    unfold b_X7_walkPair_16
    rw [un_, un_, un_, if_neg (show ¬ ((48 : Int32) < nI k) from nI_nlt hk (by decide)), inb_nI (show 25 * x + (wps P Q W x y k).1 < 6400 by omega) (by decide), chk_t, inb_nI (show 25 * y + (wps P Q W x y k).2 < 6400 by omega) (by decide), chk_t, nI_clamp (by omega), nI_clamp (by omega), rP, rQ, e2, Option.bind_some, un_]
    have hm := wmo_c hP hQ hW hx hy (wps P Q W x y k)
    by_cases c : wmo P Q W x y (wps P Q W x y k) = 3
    · right
      obtain ⟨f1, f2, f3⟩ := w_fin hP hQ hW hx hy hn c Z
      have p12 : ps P x (wps P Q W x y k).1 / 256 = 12 ∧ ps Q y (wps P Q W x y k).2 / 256 = 12 := by
        rcases hm with q | q | q | q
        · exact q.2
        · rw [c] at q; exact absurd q.1 (by decide)
        · rw [c] at q; exact absurd q.1 (by decide)
        · rw [c] at q; exact absurd q.1 (by decide)
      rw [p12.1, p12.2, if_pos (by decide)]
      exact ⟨_, rfl, st2, by rw [f2]; rfl, by rw [f3]; exact hX2, ag3⟩
    · left
      have k48 := w_end hP hQ hW hx hy hn c
      have hn' : ∀ i, i < k + 1 → wmo P Q W x y (wps P Q W x y i) ≠ 3 := fun i hi => by
        by_cases e : i = k
        · subst e; exact c
        · exact hn i (by omega)
      have ne : ¬ (ps P x (wps P Q W x y k).1 / 256 = 12 ∧ ps Q y (wps P Q W x y k).2 / 256 = 12) := by
        intro q
        rcases hm with w | w | w | w
        · exact c w.1
        · omega
        · omega
        · omega
      have wt : st2.1 77 (13 * (ps P x (wps P Q W x y k).1 / 256) + ps Q y (wps P Q W x y k).2 / 256) = nI (wmo P Q W x y (wps P Q W x y k)) := by
        rw [(ag3 77 (by decide)).1]; exact hT _ _ (by omega) (by omega) ne
      rw [if_neg (by rw [L168, eq_nI (by omega) (by decide)]; omega), inb_nI (show 13 * (ps P x (wps P Q W x y k).1 / 256) + ps Q y (wps P Q W x y k).2 / 256 < 169 by omega) (by decide), chk_t, nI_clamp (by omega), wt]
      have wn : wps P Q W x y (k + 1) = ((if wmo P Q W x y (wps P Q W x y k) = 2 then (wps P Q W x y k).1 else (wps P Q W x y k).1 + 1), (if wmo P Q W x y (wps P Q W x y k) = 1 then (wps P Q W x y k).2 else (wps P Q W x y k).2 + 1)) := by rw [wps, if_neg c]
      have wa : wst P Q x y (wps P Q W x y (k + 1)) (wac P Q W x y Z k) = wac P Q W x y Z (k + 1) := by rw [wac, if_neg c]
      have z0 : ∀ n, nI n + (0 : Int32) = nI n := fun n => nI_add n 0
      refine ⟨k48, ?_⟩
      rcases hm with ⟨w, _⟩ | ⟨w, g⟩ | ⟨w, g⟩ | ⟨w, g, g'⟩
      · exact absurd w c
      · rw [w] at wn ⊢
        rw [if_pos (by decide), nm_, chk_t, if_neg (by decide), nm_, nm_, z0, nI_1, nI_1]
        have wn : wps P Q W x y (k + 1) = ((wps P Q W x y k).1, (wps P Q W x y k).2 + 1) := wn
        refine ⟨_, rfl, st2, _, ?_, hn', ?_, ?_, hX2, wa, ag3⟩
        · rw [wn]; rfl
        · rw [wn]; exact ht
        · rw [wn]; exact ps_up hQ hy hu1 g
      · rw [w] at wn ⊢
        rw [if_neg (by decide), nm_, chk_t, if_pos (by decide), nm_, nm_, z0, nI_1, nI_1]
        have wn : wps P Q W x y (k + 1) = ((wps P Q W x y k).1 + 1, (wps P Q W x y k).2) := wn
        refine ⟨_, rfl, st2, _, ?_, hn', ?_, ?_, hX2, wa, ag3⟩
        · rw [wn]; rfl
        · rw [wn]; exact ps_up hP hx ht g
        · rw [wn]; exact hu1
      · rw [w] at wn ⊢
        rw [if_neg (by decide), nm_, chk_t, if_neg (by decide), nm_, nm_, nI_1, nI_1, nI_1]
        have wn : wps P Q W x y (k + 1) = ((wps P Q W x y k).1 + 1, (wps P Q W x y k).2 + 1) := wn
        refine ⟨_, rfl, st2, _, ?_, hn', ?_, ?_, hX2, wa, ag3⟩
        · rw [wn]; rfl
        · rw [wn]; exact ps_up hP hx ht g
        · rw [wn]; exact ps_up hQ hy hu1 g'
  have key := wh_cnt (b := b_X7_walkPair_16 pa qa) 48 (fun k z => ∃ st Zp, z = (nI (25 * x + (wps P Q W x y k).1), nI (25 * y + (wps P Q W x y k).2), nI k, st) ∧ (∀ i, i < k → wmo P Q W x y (wps P Q W x y i) ≠ 3) ∧ (wps P Q W x y k).1 ≤ stp P x 24 ∧ (wps P Q W x y k).2 ≤ stp Q y 24 ∧ WX st Zp ∧ wst P Q x y (wps P Q W x y k) Zp = wac P Q W x y Z k ∧ Ag (fun k => k ≠ 79 ∧ k ≠ 80) σ st) (fun r => ∃ σ', (Sum.elim (fun s3 => some ((48 : Int32), s3)) (fun z => some z)) r = some (nI (wmv P Q W x y 48), σ') ∧ WX σ' (wac P Q W x y Z 48) ∧ Ag (fun k => k ≠ 79 ∧ k ≠ 80) σ σ') ?_ ?_ FU 0 (nI (25 * x), nI (25 * y), (0 : Int32), σ) (Nat.zero_le _) ⟨σ, Z, rfl, fun i hi => absurd hi (Nat.not_lt_zero i), Nat.zero_le _, Nat.zero_le _, hZ, rfl, Ag.refl _ _⟩ (by rw [FU_]; omega)
  · obtain ⟨r, e, σ', e2, q⟩ := key
    refine ⟨σ', ?_, q⟩
    unfold f_X7_walkPair
    rw [show nI x * (25 : Int32) = nI (25 * x) from by rw [L25, pk_mul, Nat.mul_comm], show nI y * (25 : Int32) = nI (25 * y) from by rw [L25, pk_mul, Nat.mul_comm], nm_, nm_, e, Option.bind_some, e2]
  · intro k z hk h
    rcases go k (by omega) z h with ⟨_, q⟩ | q
    · exact Or.inl q
    · exact Or.inr q
  · intro z h
    rcases go 48 (Nat.le_refl _) z h with ⟨q, _⟩ | q
    · exact absurd q (by decide)
    · exact q
theorem p_fillW (σ : St) (c : Nat) (v : Int32) : ∃ σ', f_J7_fill_53178 c 169 v σ = some σ' ∧ (∀ j, j < 169 → σ'.1 c j = v) ∧ Ag (fun k => k ≠ c) σ σ' := by
  have key := wh_cnt (b := b_J7_fill_53178_5 c 169 v (Int32.ofNat 169)) 169 (fun i y => y.1 = nI i ∧ (∀ j, j < i → y.2.1 c j = v) ∧ Ag (fun k => k ≠ c) σ y.2) (fun s => (∀ j, j < 169 → s.1 c j = v) ∧ Ag (fun k => k ≠ c) σ s) ?_ ?_ FU 0 ((0 : Int32), σ) (Nat.zero_le _) ⟨rfl, fun j hj => absurd hj (Nat.not_lt_zero j), Ag.refl _ _⟩ (by rw [FU_]; omega)
  · obtain ⟨s, e, q⟩ := key
    exact ⟨s, by unfold f_J7_fill_53178; rw [nm_, e]; rfl, q⟩
  · rintro i ⟨y, s⟩ hi ⟨h0, q1, q2⟩
    have h0 : y = nI i := h0
    subst h0
    left
    refine ⟨(nI (i + 1), stI s c i v), ?_, rfl, fun j hj => ?_, q2.i_ (fun q => q rfl)⟩
    · unfold b_J7_fill_53178_5
      rw [un_, if_neg (show ¬ (Int32.ofNat 169 ≤ nI i) from nI_ge hi (by decide)), inb_nI hi (by decide), chk_t, nm_, nm_, nI_1, nI_clamp (by omega)]
    · show (stI s c i v).1 c j = v
      rw [stI_v]
      by_cases e : j = i
      · rw [if_pos ⟨rfl, e⟩]
      · rw [if_neg (fun q => e q.2)]; exact q1 j (by omega)
  · rintro ⟨y, s⟩ ⟨h0, q⟩
    have h0 : y = nI 169 := h0
    subst h0
    exact ⟨s, by unfold b_J7_fill_53178_5; rw [un_, if_pos (by decide)], q⟩
theorem p_wa53 {σ : St} {pa qa hu hu' x D : Nat} {P Q : Pg} {W : Nat → Nat → Nat} {T : Tx} (hpa : pa + 12 < 57) (hqa : qa + 12 < 57) (hP : VP P) (hQ : VP Q) (hW : Wle W) (hx : x < 256) (h1 : CX1 σ) (hT : WTx σ W) (tP : TraceRow σ pa P hu x) (tQ : ∀ y, y < 256 → TraceRow σ qa Q hu' y) (hD : D < 2 ^ 16) (hDm : ∀ y, y < 256 → (hotP y 4 &&& D = 0 ↔ SgP T 0 (cl T) x y)) (hZ : WX σ (wal T P Q W (256 * x))) : ∃ σ', wh FU (b_X7_walkAll_53 pa qa (nI x) (nI D)) ((0 : Int32), σ) = some σ' ∧ WX σ' (wal T P Q W (256 * x + 256)) ∧ Ag (fun k => k ≠ 76 ∧ k ≠ 79 ∧ k ≠ 80) σ σ' := by
  have key := wh_cnt (b := b_X7_walkAll_53 pa qa (nI x) (nI D)) 256 (fun y z => z.1 = nI y ∧ WX z.2 (wal T P Q W (256 * x + y)) ∧ Ag (fun k => k ≠ 76 ∧ k ≠ 79 ∧ k ≠ 80) σ z.2) (fun s => WX s (wal T P Q W (256 * x + 256)) ∧ Ag (fun k => k ≠ 76 ∧ k ≠ 79 ∧ k ≠ 80) σ s) ?_ ?_ FU 0 ((0 : Int32), σ) (Nat.zero_le _) ⟨rfl, hZ, Ag.refl _ _⟩ (by rw [FU_]; omega)
  · obtain ⟨s, e, q⟩ := key
    exact ⟨s, e, q⟩
  · rintro y ⟨z, s⟩ hy ⟨h0, q1, ag⟩
    have h0 : z = nI y := h0
    subst h0
    dsimp only at q1 ag
    left
    have wn : wal T P Q W (256 * x + (y + 1)) = if mtq T x y = true then wpr P Q W x y (wal T P Q W (256 * x + y)) else wal T P Q W (256 * x + y) := by
      show wal T P Q W (256 * x + y + 1) = _
      rw [wal, (dm hy).1, (dm hy).2]
    have hot := (h1.ag (ag.mono (by omega))) y hy
    unfold b_X7_walkAll_53
    rw [un_, if_neg (show ¬ ((256 : Int32) ≤ nI y) from nI_ge hy (by decide)), inb_nI hy (by decide), chk_t, nI_clamp (by omega), hot.1]
    have dd := hDm y hy
    have hh := hot_nI hy hD
    by_cases c : hotP y 4 &&& D = 0
    · rw [if_pos (by rw [hh]; exact c)]
      have hm : mtq T x y = true := cb_t.mpr (dd.mp c)
      rw [if_pos hm] at wn
      obtain ⟨s8, e8, hX8, ag8⟩ := p_walkPair hpa hqa hP hQ hW hx hy (h1.ag (ag.mono (by omega))) (show WTx s W from fun a b ha hb hn => by rw [(ag 77 (by decide)).1]; exact hT a b ha hb hn) (tP.ag (ag.mono (S' := fun k => pa ≤ k ∧ k ≤ pa + 12) (fun k hk => by omega))) ((tQ y hy).ag (ag.mono (S' := fun k => qa ≤ k ∧ k ≤ qa + 12) (fun k hk => by omega))) q1
      rw [e8, Option.bind_some, un_, nm_, nm_, nI_1]
      refine ⟨_, rfl, rfl, ?_, (ag.trans (ag8.mono (fun k h => h.2))).i_ (fun q => q.1 rfl)⟩
      rw [wn]
      refine ⟨fun j hj => ?_, ?_⟩
      · show (stI s8 76 6 _).1 79 j = _ ∧ (stI s8 76 6 _).1 80 j = _
        rw [stI_nk (by decide), stI_nk (by decide)]
        exact hX8.1 j hj
      · show (stI s8 76 6 _).1 76 6 = _
        rw [stI_same]
        unfold wpr
        dsimp only
        rw [wac_2, q1.2]
    · rw [if_neg (by rw [hh]; exact c), nm_, nI_1]
      have hm : ¬ mtq T x y = true := fun q => c (dd.mpr (cb_t.mp q))
      rw [if_neg hm] at wn
      exact ⟨_, rfl, rfl, by rw [wn]; exact q1, ag⟩
  · rintro ⟨z, s⟩ ⟨h0, q⟩
    have h0 : z = nI 256 := h0
    subst h0
    exact ⟨s, by unfold b_X7_walkAll_53; rw [un_, if_pos (by decide)], q⟩
theorem p_walkAllX {k : Nat} {A : Ab} {σ : St} {s p q : Nat} (hV : VA A) (hk : k ≤ 512) (h1 : CX1 σ) (h2 : CX2 k A σ) (h3 : CX3 A σ) (h4 : CX4 A σ) (hs : s < aN A) (hp : p < 4) (hq : q < 4) : ∃ σ1 σ', f_X7_walkAll (57 + 2 * s) (4 + 13 * p) (4 + 13 * q) σ = some σ' ∧ WX σ' (WSp (aT A s) (aP A p) (aP A q) (aW A)) ∧ CX2 k A σ1 ∧ Kp A σ σ1 ∧ Ag (fun k => k ≠ 76 ∧ k ≠ 79 ∧ k ≠ 80) σ1 σ' := by
  have hP := (hV.1 p hp).1
  have hQ := (hV.1 q hq).1
  have h6 := hV.2.1
  have hok := hV.2.2.2.1 s hs
  obtain ⟨hT, hc⟩ := hV.2.2.1 s (Or.inl hs)
  obtain ⟨x1, eX1, cX1, tX1, kX1⟩ := h2.all hV hk h1 hp
  obtain ⟨x2, eX2, cX2, tX2, kX2⟩ := cX1.all hV hk (h1.kp kX1) hq
  have kk := kX1.trans kX2
  have hC1 : CX1 x2 := h1.kp kk
  have hS : CXs x2 (57 + 2 * s) (aT A s) := (h3.s hs).ag (kk.1.mono (by omega))
  have hW4 : WTx x2 (aW A) := (h4.ag (kk.1.mono (by omega))).w
  have tX1' : ∀ m, m < 256 → TraceRow x2 (4 + 13 * p) (aP A p) (aH A p) m := fun m hm => kX2.2 p m hp hm (tX1 m hm)
  obtain ⟨s3, e3, f3, g3⟩ := p_fillW x2 79 4095
  obtain ⟨s4, e4, f4, g4⟩ := p_fillW s3 80 0
  have ag5 : Ag (fun k => k ≠ 76 ∧ k ≠ 79 ∧ k ≠ 80) x2 (stI s4 76 6 0) := ((g3.mono (fun k h => h.2.1)).trans (g4.mono (fun k h => h.2.2))).i_ (fun q => q.1 rfl)
  have X5 : WX (stI s4 76 6 0) (wal (aT A s) (aP A p) (aP A q) (aW A) (256 * 0)) := by
    refine ⟨fun j hj => ⟨?_, ?_⟩, stI_same _ _ _ _⟩
    · rw [stI_nk (by decide), (g4 79 (by decide)).1]; exact f3 j hj
    · rw [stI_nk (by decide)]; exact f4 j hj
  obtain ⟨c1, c2, c3, c4, c5, c6, c7⟩ := cl_ok hok
  have key := wh_cnt (b := b_X7_walkAll_34 (57 + 2 * s) (4 + 13 * p) (4 + 13 * q)) 256 (fun x z => z.1 = nI x ∧ WX z.2 (wal (aT A s) (aP A p) (aP A q) (aW A) (256 * x)) ∧ Ag (fun k => k ≠ 76 ∧ k ≠ 79 ∧ k ≠ 80) x2 z.2) (fun st => WX st (wal (aT A s) (aP A p) (aP A q) (aW A) (256 * 256)) ∧ Ag (fun k => k ≠ 76 ∧ k ≠ 79 ∧ k ≠ 80) x2 st) ?_ ?_ FU 0 ((0 : Int32), stI s4 76 6 0) (Nat.zero_le _) ⟨rfl, X5, ag5⟩ (by rw [FU_]; omega)
  · obtain ⟨s', e, q1, q2⟩ := key
    refine ⟨x2, s', ?_, ?_, cX2, kk, q2⟩
    · unfold f_X7_walkAll; rw [eX1, Option.bind_some, eX2, Option.bind_some, e3, Option.bind_some, e4, Option.bind_some, nm_, e]; rfl
    · unfold WSp; rw [BN_, show (65536 : Nat) = 256 * 256 from rfl]; exact q1
  · rintro x ⟨z, st⟩ hx ⟨h0, q1, ag⟩
    have h0 : z = nI x := h0
    subst h0
    dsimp only at q1 ag
    left
    have hSs : CXs st (57 + 2 * s) (aT A s) := hS.ag (ag.mono (by omega))
    obtain ⟨D, eD, dD, fD⟩ := p_denied hok hT hc hSs.1 (fr := 0) hx (Nat.le_of_lt c1) c3 (cl0 hok) rfl
    have eD : f_X5_deniedFrom (57 + 2 * s) (0 : Int32) (nI (cl (aT A s))) (nI x) st = some (nI D) := eD
    obtain ⟨s10, e10, hX10, ag10⟩ := p_wa53 (T := aT A s) (show 4 + 13 * p + 12 < 57 by omega) (show 4 + 13 * q + 12 < 57 by omega) hP hQ hV.w hx (hC1.ag (ag.mono (by omega))) (show WTx st (aW A) from fun a b ha hb hn => by rw [(ag 77 (by decide)).1]; exact hW4 a b ha hb hn) ((tX1' x hx).ag (ag.mono (by omega))) (fun y hy => (tX2 y hy).ag (ag.mono (by omega))) dD fD q1
    refine ⟨(nI (x + 1), s10), ?_, rfl, hX10, ag.trans ag10⟩
    unfold b_X7_walkAll_34 f_X5_deniedAhead
    rw [un_, if_neg (show ¬ ((256 : Int32) ≤ nI x) from nI_ge hx (by decide)), hSs.2.1, eD, Option.bind_some, Option.bind_some, e10, Option.bind_some, nm_, nI_1]
  · rintro ⟨z, st⟩ ⟨h0, q⟩
    have h0 : z = nI 256 := h0
    subst h0
    exact ⟨st, by unfold b_X7_walkAll_34; rw [un_, if_pos (by decide)], q⟩
theorem p_makeWalk {HS : HSt} {OS : OSt} {k : Nat} {A : Ab} {σ : St} {s p q : Nat} (hV : VA A) (hk : k ≤ 512) (hX : CXa HS WSp OS k A σ) (hs : s < aN A) (hp : p < 4) (hq : q < 4) : ∃ σ', f_X8_makeWalk (nI s) (nI p) (nI q) σ = some σ' ∧ WX σ' (WSp (aT A s) (aP A p) (aP A q) (aW A)) ∧ CXa HS WSp OS k A σ' := by
  have h6 := hV.2.1
  unfold f_X8_makeWalk
  rw [p_keyOf, Option.bind_some]
  by_cases c : σ.1 76 1 = nI (16 * s + 4 * p + q)
  · rw [if_pos c]
    refine ⟨σ, rfl, ?_, hX⟩
    rcases hX.2.2.2.2.2.2.1 with e | ⟨s', p', q', a1, a2, a3, a4, a5, a6⟩
    · rw [e] at c; exact absurd c.symm (nI_n6 (by omega))
    · rw [a4] at c
      obtain ⟨rfl, rfl, rfl⟩ := key3 (by omega) a2 a3 (by omega) hp hq c
      exact ⟨a5, a6⟩
  · rw [if_neg c, in6 hV hs, chk_t, nm_, c6 hV hs, ip4 hp, chk_t, nm_, cp4 hp, ip4 hq, chk_t, nm_, cp4 hq]
    obtain ⟨s1, s2, e, hh, c2, k1, ag⟩ := p_walkAllX hV hk hX.1 hX.2.1 hX.2.2.1 hX.2.2.2.1 hs hp hq
    rw [e, Option.bind_some, nm_]
    have hk1 := hX.kp hV c2 k1
    have ag' : Ag (fun i => i ≠ 76 ∧ i ≠ 79 ∧ i ≠ 80) s1 (stI s2 76 1 (nI (16 * s + 4 * p + q))) := ag.i_ (fun h => h.1 rfl)
    have hh' : WX (stI s2 76 1 (nI (16 * s + 4 * p + q))) (WSp (aT A s) (aP A p) (aP A q) (aW A)) := by
      refine ⟨fun j hj => ?_, ?_⟩
      · rw [stI_nk (by decide), stI_nk (by decide)]; exact hh.1 j hj
      · rw [stI_ne (by decide)]; exact hh.2
    refine ⟨_, rfl, hh', ?_⟩
    obtain ⟨x1, x2, x3, x4, x5, x6, x7, x8⟩ := hk1
    exact ⟨x1.ag (ag'.mono (by omega)), x2.ag (ag'.mono (by omega)), x3.ag h6 (ag'.mono (by omega)), x4.ag (ag'.mono (by omega)), x5.ag (ag'.mono (by omega)), x6.ag (ag'.mono (by omega)), Or.inr ⟨s, p, q, hs, hp, hq, stI_same _ _ _ _, hh'.1, hh'.2⟩, x8.ag (ag'.mono (by omega))⟩
