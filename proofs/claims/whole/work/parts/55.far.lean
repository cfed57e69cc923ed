/-! ===== far ===== -/
theorem CMa.p22 {HS : HSt} {WS : WSt} {SS : SSt} {k : Nat} {A : Ab} {σ : St} (hk : k ≤ 512) (h : CMa HS WS SS k A σ) : CMa HS WS SS k A (stI σ 0 22 (-6)) := by
  obtain ⟨m1, m2, m3, m4, m5, mv, m6, m7, m8⟩ := h
  have ag : Ag (fun i => i ≠ 0) σ (stI σ 0 22 (-6)) := (Ag.refl _ _).i_ (fun h => h rfl)
  have z : ∀ j, j ≠ 22 → (stI σ 0 22 (-6)).1 0 j = σ.1 0 j := fun j hj => by rw [stI_ne (fun q => hj q.2)]
  obtain ⟨⟨a, a1, a2, a3, a4⟩, b⟩ := mv
  refine ⟨m1.ag (ag.mono (by omega)), m2.ag (ag.mono (by omega)), m3.ag (ag.mono (by omega)) (z 20 (by decide)), m4.ag (ag.mono (by omega)), m5.ag (ag.mono (by omega)), ⟨⟨a, a1, by rw [z 7 (by decide)]; exact a2, Or.inl (stI_same _ _ _ _), by rw [z 42 (by decide)]; exact a4⟩, by rw [z 8 (by decide), z 40 (by decide)]; exact b⟩, ?_, ?_, ?_⟩
  · intro q
    rw [stI_same, z 7 (by decide), a2] at q
    exact absurd q.symm (nI_n6 (by omega))
  · unfold CM7; rw [z 40 (by decide), z 8 (by decide), z 39 (by decide), z 37 (by decide), (ag 18 (by decide)).1, (ag 19 (by decide)).1, (ag 7 (by decide)).1]; exact m7
  · unfold CM8; rw [z 42 (by decide), z 7 (by decide), z 41 (by decide), z 43 (by decide)]; exact m8
theorem ansP {HS : HSt} {WS : WSt} {OS : OSt} {SS : SSt} {fX fM : St → Option (Int32 × St)} {k : Nat} {A : Ab} {σX σM σX' σM' : St} {r : Int32} (hk : k ≤ 512) (hV : VA A) (hX : CXa HS WS OS k A σX) (hM : CMa HS WS SS k A σM) (e1 : fX σX = some (r, σX')) (e2 : fM σM = some (r, stI σM' 0 22 (-6))) (h2 : CX2 k A σX') (hkp : Kp A σX σX') (h3 : CM2 A σM') (hf : Fr SQ σM σM') : AnsE fX fM (Rel HS WS OS SS) k σX σM :=
  ⟨r, σX', _, e1, e2, A, hV, (hX.kp hV h2 hkp).mono (Nat.le_succ k), ((hM.fr h3 hf).p22 hk).mono (Nat.le_succ k)⟩
def adf (a b : Nat) : Nat := (a - b) + (b - a)
theorem sv1 : ∀ m, m < 256 → ∀ v, v < 4 → ∀ x, x < 4 → val (setv m v x) v = x ∧ setv (setv m v x) v (val m v) = m ∧ setv m v (val m v) = m := by decide +kernel
theorem fr1 : ∀ a, a < 4 → ∀ b, b < 4 → mabs (nI a - nI b) = nI (adf a b) ∧ mmax (nI a) (nI b) = nI (max a b) ∧ adf a b < 4 := by decide +kernel
theorem fr2 : ∀ v, v < 4 → ∀ w, w < 4 → ∀ d, d < 4 → mmin (3 : Int32) (nI w + nI d) = nI (min 3 (w + d)) ∧ (decide (nI d < nI v - nI w) = decide (d + w < v)) ∧ (decide (nI v - nI w < -nI d) = decide (v + d < w)) ∧ (decide (nI v - nI w ≤ nI d) = decide (v ≤ w + d)) := by decide +kernel
/-- the greatest parting of ends, E gives the ends -/
def FM (E : Nat → Nat) (x y d r : Nat) : Prop := (∀ s v, s < 256 → v < 4 → v ≤ val s x + d → val s x ≤ v + d → val (E (setv s x v)) y ≤ val (E s) y + r) ∧ (r = 0 ∨ ∃ s v, s < 256 ∧ v < 4 ∧ v ≤ val s x + d ∧ val s x ≤ v + d ∧ val (E (setv s x v)) y = val (E s) y + r)
theorem FM.one {E : Nat → Nat} {x y d a b : Nat} (ha : FM E x y d a) (hb : FM E x y d b) : a = b := by
  have hab : a ≤ b := by
    rcases ha.2 with rfl | ⟨s, v, h1, h2, h3, h4, h5⟩
    · exact Nat.zero_le _
    · have := hb.1 s v h1 h2 h3 h4; omega
  have hba : b ≤ a := by
    rcases hb.2 with rfl | ⟨s, v, h1, h2, h3, h4, h5⟩
    · exact Nat.zero_le _
    · have := ha.1 s v h1 h2 h3 h4; omega
  omega
def FX1 (E : Nat → Nat) (x y d n g : Nat) : Prop := (∀ s v, s < n → val s x < v → v ≤ min 3 (val s x + d) → adf (val (E s) y) (val (E (setv s x v)) y) ≤ g) ∧ (g = 0 ∨ ∃ s v, s < 256 ∧ val s x < v ∧ v ≤ min 3 (val s x + d) ∧ adf (val (E s) y) (val (E (setv s x v)) y) = g)
theorem FX1.fm {E : Nat → Nat} {x y d g : Nat} (hx : x < 4) (h : FX1 E x y d 256 g) : FM E x y d g := by
  obtain ⟨h1, h2⟩ := h
  refine ⟨fun s v hs hv c1 c2 => ?_, ?_⟩
  · obtain ⟨q1, q2, q3⟩ := sv1 s hs x hx v hv
    rcases Nat.lt_trichotomy (val s x) v with c | c | c
    · have := h1 s v hs c (by omega)
      unfold adf at this; omega
    · rw [← c, q3]; omega
    · have hs' := setv_lt s hs x hx v hv
      have hvx := val_lt s x
      have := h1 (setv s x v) (val s x) hs' (by rw [q1]; exact c) (by rw [q1]; omega)
      rw [q2] at this
      unfold adf at this; omega
  · rcases h2 with h2 | ⟨s, v, hs, c1, c2, c3⟩
    · exact Or.inl h2
    · right
      have hv : v < 4 := by omega
      obtain ⟨q1, q2, q3⟩ := sv1 s hs x hx v hv
      unfold adf at c3
      by_cases c : val (E s) y ≤ val (E (setv s x v)) y
      · exact ⟨s, v, hs, hv, by omega, by omega, by omega⟩
      · exact ⟨setv s x v, val s x, setv_lt s hs x hx v hv, val_lt s x, by rw [q1]; omega, by rw [q1]; omega, by rw [q2]; omega⟩
theorem p_farXi {σ : St} {pa x y d s g : Nat} {E : Nat → Nat} (hE : ∀ m, m < 256 → σ.1 (pa + 8) m = nI (E m) ∧ E m < 256) (hx : x < 4) (hy : y < 4) (hs : s < 256) (hg : g < 4) (hd : d < 4) : ∃ g', wh FU (b_X8_far_106 (nI x) (nI y) pa σ (nI s) (nI (val (E s) y)) (nI (min 3 (val s x + d)))) (nI g, nI (val s x + 1)) = some (nI g') ∧ g' < 4 ∧ g ≤ g' ∧ (∀ v, val s x < v → v ≤ min 3 (val s x + d) → adf (val (E s) y) (val (E (setv s x v)) y) ≤ g') ∧ (g' = g ∨ ∃ v, val s x < v ∧ v ≤ min 3 (val s x + d) ∧ adf (val (E s) y) (val (E (setv s x v)) y) = g') := by
  have hw := val_lt s x
  have key := wh_cnt (b := b_X8_far_106 (nI x) (nI y) pa σ (nI s) (nI (val (E s) y)) (nI (min 3 (val s x + d)))) (min 3 (val s x + d) + 1) (fun i st => ∃ g', st = (nI g', nI i) ∧ g' < 4 ∧ g ≤ g' ∧ val s x < i ∧ (∀ v, val s x < v → v < i → adf (val (E s) y) (val (E (setv s x v)) y) ≤ g') ∧ (g' = g ∨ ∃ v, val s x < v ∧ v ≤ min 3 (val s x + d) ∧ adf (val (E s) y) (val (E (setv s x v)) y) = g')) (fun r => ∃ g', r = nI g' ∧ g' < 4 ∧ g ≤ g' ∧ (∀ v, val s x < v → v ≤ min 3 (val s x + d) → adf (val (E s) y) (val (E (setv s x v)) y) ≤ g') ∧ (g' = g ∨ ∃ v, val s x < v ∧ v ≤ min 3 (val s x + d) ∧ adf (val (E s) y) (val (E (setv s x v)) y) = g')) ?_ ?_ FU (val s x + 1) (nI g, nI (val s x + 1)) (by omega) ⟨g, rfl, hg, Nat.le_refl _, by omega, fun v h1 h2 => by omega, Or.inl rfl⟩ (by rw [FU_]; omega)
  · obtain ⟨r, e, g', rfl, q⟩ := key
    exact ⟨g', e, q⟩
  · rintro i st hi ⟨g', rfl, q1, q2, q3, q4, q5⟩
    left
    have hi4 : i < 4 := by omega
    have hsv := setv_lt s hs x hx i hi4
    obtain ⟨e1, e2⟩ := hE _ hsv
    have v1 := val_lt (E s) y
    have v2 := val_lt (E (setv s x i)) y
    obtain ⟨f1, _, f3⟩ := fr1 _ v1 _ v2
    obtain ⟨_, f2, _⟩ := fr1 _ q1 _ f3
    refine ⟨(nI (max g' (adf (val (E s) y) (val (E (setv s x i)) y))), nI (i + 1)), ?_, _, rfl, by omega, by omega, by omega, fun v h1 h2 => ?_, ?_⟩
    · unfold b_X8_far_106
      rw [un_, if_neg (nI_nlt (by omega) (by omega)), p_withX s hs x hx i hi4, Option.bind_some, inb_nI hsv (by decide), chk_t, nI_clamp (by omega), e1, p_valueOfX _ e2 y hy, Option.bind_some, nm_, nm_, f1, f2, nI_1]
    · by_cases e : v = i
      · subst e; omega
      · have := q4 v h1 (by omega); omega
    · by_cases c : adf (val (E s) y) (val (E (setv s x i)) y) ≤ g'
      · rw [Nat.max_eq_left c]; exact q5
      · rw [Nat.max_eq_right (by omega)]; exact Or.inr ⟨i, q3, by omega, rfl⟩
  · rintro st ⟨g', rfl, q1, q2, q3, q4, q5⟩
    unfold b_X8_far_106
    rw [un_, if_pos (nI_lt (by omega) (by omega))]
    exact ⟨_, rfl, g', rfl, q1, q2, fun v h1 h2 => q4 v h1 (by omega), q5⟩
theorem p_farX {σ : St} {pa x y d : Nat} {E : Nat → Nat} (hE : ∀ m, m < 256 → σ.1 (pa + 8) m = nI (E m) ∧ E m < 256) (hx : x < 4) (hy : y < 4) (hd : d < 4) : ∃ g, wh FU (b_X8_far_59 (nI x) (nI y) (nI d) pa σ) ((0 : Int32), (0 : Int32)) = some (nI g) ∧ FM E x y d g := by
  have key := wh_cnt (b := b_X8_far_59 (nI x) (nI y) (nI d) pa σ) 256 (fun i st => ∃ g, st = (nI g, nI i) ∧ g < 4 ∧ FX1 E x y d i g) (fun r => ∃ g, r = nI g ∧ FX1 E x y d 256 g) ?_ ?_ FU 0 ((0 : Int32), (0 : Int32)) (Nat.zero_le _) ⟨0, rfl, by decide, fun s v h => absurd h (Nat.not_lt_zero s), Or.inl rfl⟩ (by rw [FU_]; omega)
  · obtain ⟨r, e, g, rfl, q⟩ := key
    exact ⟨g, e, q.fm hx⟩
  · rintro i st hi ⟨g, rfl, q1, q2, q3⟩
    left
    obtain ⟨e1, e2⟩ := hE i hi
    obtain ⟨g', e, r1, r2, r3, r4⟩ := p_farXi (g := g) (d := d) hE hx hy hi q1 hd
    refine ⟨(nI g', nI (i + 1)), ?_, g', rfl, r1, fun s v h1 h2 h3 => ?_, ?_⟩
    · unfold b_X8_far_59
      rw [un_, if_neg (show ¬ ((256 : Int32) ≤ nI i) from nI_ge hi (by decide)), p_valueOfX i hi x hx, Option.bind_some, inb_nI hi (by decide), chk_t, nI_clamp (by omega), e1, p_valueOfX _ e2 y hy, Option.bind_some, nm_, nm_, (fr2 0 (by decide) _ (val_lt i x) d hd).1, nI_1, e, Option.bind_some, nm_, nI_1]
    · by_cases c : s = i
      · subst c; exact r3 v h2 h3
      · have := q2 s v (by omega) h2 h3; omega
    · rcases r4 with r4 | ⟨v, v1, v2, v3⟩
      · rw [r4]; exact q3
      · exact Or.inr ⟨i, v, hi, v1, v2, v3⟩
  · rintro st ⟨g, rfl, q1, q2⟩
    unfold b_X8_far_59
    rw [un_, if_pos (by decide)]
    exact ⟨_, rfl, g, rfl, q2⟩
def FM1 (E : Nat → Nat) (x y d n g : Nat) : Prop := (∀ s v, s < n → v < 4 → v ≤ val s x + d → val s x ≤ v + d → val (E (setv s x v)) y ≤ val (E s) y + g) ∧ (g = 0 ∨ ∃ s v, s < 256 ∧ v < 4 ∧ v ≤ val s x + d ∧ val s x ≤ v + d ∧ val (E (setv s x v)) y = val (E s) y + g)
theorem p_farMi {σ : St} {x y d s g : Nat} {E : Nat → Nat} (hE : ∀ m, m < 256 → σ.1 10 m = nI (E m) ∧ E m < 256) (hx : x < 4) (hy : y < 4) (hs : s < 256) (hg : g < 4) (hd : d < 4) : ∃ g', wh FU (b_X9_far_68 (nI x) (nI y) (nI d) σ (nI s)) (nI g, (0 : Int32)) = some (nI g') ∧ g' < 4 ∧ g ≤ g' ∧ (∀ v, v < 4 → v ≤ val s x + d → val s x ≤ v + d → val (E (setv s x v)) y ≤ val (E s) y + g') ∧ (g' = g ∨ ∃ v, v < 4 ∧ v ≤ val s x + d ∧ val s x ≤ v + d ∧ val (E (setv s x v)) y = val (E s) y + g') := by
  have hw := val_lt s x
  have key := wh_cnt (b := b_X9_far_68 (nI x) (nI y) (nI d) σ (nI s)) 4 (fun i st => ∃ g', st = (nI g', nI i) ∧ g' < 4 ∧ g ≤ g' ∧ (∀ v, v < i → v ≤ val s x + d → val s x ≤ v + d → val (E (setv s x v)) y ≤ val (E s) y + g') ∧ (g' = g ∨ ∃ v, v < 4 ∧ v ≤ val s x + d ∧ val s x ≤ v + d ∧ val (E (setv s x v)) y = val (E s) y + g')) (fun r => ∃ g', r = nI g' ∧ g' < 4 ∧ g ≤ g' ∧ (∀ v, v < 4 → v ≤ val s x + d → val s x ≤ v + d → val (E (setv s x v)) y ≤ val (E s) y + g') ∧ (g' = g ∨ ∃ v, v < 4 ∧ v ≤ val s x + d ∧ val s x ≤ v + d ∧ val (E (setv s x v)) y = val (E s) y + g')) ?_ ?_ FU 0 (nI g, (0 : Int32)) (Nat.zero_le _) ⟨g, rfl, hg, Nat.le_refl _, fun v h => absurd h (Nat.not_lt_zero v), Or.inl rfl⟩ (by rw [FU_]; omega)
  · obtain ⟨r, e, g', rfl, q⟩ := key
    exact ⟨g', e, q⟩
  · rintro i st hi ⟨g', rfl, q1, q2, q3, q4⟩
    left
    have hsv := setv_lt s hs x hx i hi
    obtain ⟨e1, e2⟩ := hE _ hsv
    obtain ⟨e3, e4⟩ := hE s hs
    have v1 := val_lt (E s) y
    have v2 := val_lt (E (setv s x i)) y
    obtain ⟨_, f1, f2, _⟩ := fr2 i hi _ hw d hd
    obtain ⟨_, _, _, f3⟩ := fr2 _ v2 _ v1 g' q1
    have f1 := decide_eq_decide.mp f1
    have f2 := decide_eq_decide.mp f2
    have f3 := decide_eq_decide.mp f3
    unfold b_X9_far_68
    rw [un_, if_neg (show ¬ ((4 : Int32) ≤ nI i) from nI_ge hi (by decide)), p_valueOfM s hs x hx, Option.bind_some, nm_, p_withM s hs x hx i hi, Option.bind_some, inb_nI (show setv s x i < 512 by omega) (by decide), chk_t, nI_clamp (by omega), e1, p_valueOfM _ e2 y hy, Option.bind_some, inb_nI (show s < 512 by omega) (by decide), chk_t, nI_clamp (by omega), e3, p_valueOfM _ e4 y hy, Option.bind_some, nm_]
    simp only [nm_, nI_1]
    have next : ∀ g2, g2 < 4 → g' ≤ g2 → (i ≤ val s x + d → val s x ≤ i + d → val (E (setv s x i)) y ≤ val (E s) y + g2) → (g2 = g' ∨ (i ≤ val s x + d ∧ val s x ≤ i + d ∧ val (E (setv s x i)) y = val (E s) y + g2)) → ∃ g'', (nI g2, nI (i + 1)) = (nI g'', nI (i + 1)) ∧ g'' < 4 ∧ g ≤ g'' ∧ (∀ v, v < i + 1 → v ≤ val s x + d → val s x ≤ v + d → val (E (setv s x v)) y ≤ val (E s) y + g'') ∧ (g'' = g ∨ ∃ v, v < 4 ∧ v ≤ val s x + d ∧ val s x ≤ v + d ∧ val (E (setv s x v)) y = val (E s) y + g'') := by
      intro g2 a1 a2 a3 a4
      refine ⟨g2, rfl, a1, by omega, fun v h1 h2 h3 => ?_, ?_⟩
      · by_cases e : v = i
        · subst e; exact a3 h2 h3
        · have := q3 v (by omega) h2 h3; omega
      · rcases a4 with rfl | ⟨b1, b2, b3⟩
        · exact q4
        · exact Or.inr ⟨i, hi, b1, b2, b3⟩
    by_cases c1 : d + val s x < i
    · rw [if_pos (f1.mpr c1)]
      exact ⟨_, rfl, next g' q1 (Nat.le_refl _) (by omega) (Or.inl rfl)⟩
    · rw [if_neg (fun q => c1 (f1.mp q))]
      by_cases c2 : i + d < val s x
      · rw [if_pos (f2.mpr c2)]
        exact ⟨_, rfl, next g' q1 (Nat.le_refl _) (by omega) (Or.inl rfl)⟩
      · rw [if_neg (fun q => c2 (f2.mp q))]
        by_cases c3 : val (E (setv s x i)) y ≤ val (E s) y + g'
        · rw [if_pos (f3.mpr c3)]
          exact ⟨_, rfl, next g' q1 (Nat.le_refl _) (fun _ _ => c3) (Or.inl rfl)⟩
        · rw [if_neg (fun q => c3 (f3.mp q)), pk_sub (by omega)]
          exact ⟨_, rfl, next _ (by omega) (by omega) (by omega) (Or.inr ⟨by omega, by omega, by omega⟩)⟩
  · rintro st ⟨g', rfl, q1, q2, q3, q4⟩
    unfold b_X9_far_68
    rw [un_, if_pos (by decide)]
    exact ⟨_, rfl, g', rfl, q1, q2, q3, q4⟩
theorem p_farM {σ : St} {x y d : Nat} {E : Nat → Nat} (hE : ∀ m, m < 256 → σ.1 10 m = nI (E m) ∧ E m < 256) (hx : x < 4) (hy : y < 4) (hd : d < 4) : ∃ g, wh FU (b_X9_far_57 (nI x) (nI y) (nI d) σ) ((0 : Int32), (0 : Int32)) = some (nI g) ∧ FM E x y d g := by
  have key := wh_cnt (b := b_X9_far_57 (nI x) (nI y) (nI d) σ) 256 (fun i st => ∃ g, st = (nI g, nI i) ∧ g < 4 ∧ FM1 E x y d i g) (fun r => ∃ g, r = nI g ∧ FM1 E x y d 256 g) ?_ ?_ FU 0 ((0 : Int32), (0 : Int32)) (Nat.zero_le _) ⟨0, rfl, by decide, fun s v h => absurd h (Nat.not_lt_zero s), Or.inl rfl⟩ (by rw [FU_]; omega)
  · obtain ⟨r, e, g, rfl, q⟩ := key
    exact ⟨g, e, q⟩
  · rintro i st hi ⟨g, rfl, q1, q2, q3⟩
    left
    obtain ⟨g', e, r1, r2, r3, r4⟩ := p_farMi (g := g) (d := d) hE hx hy hi q1 hd
    refine ⟨(nI g', nI (i + 1)), ?_, g', rfl, r1, fun s v h1 h2 h3 h4 => ?_, ?_⟩
    · unfold b_X9_far_57
      rw [un_, if_neg (show ¬ ((256 : Int32) ≤ nI i) from nI_ge hi (by decide)), e, Option.bind_some, nm_, nI_1]
    · by_cases c : s = i
      · subst c; exact r3 v h2 h3 h4
      · have := q2 s v (by omega) h2 h3 h4; omega
    · rcases r4 with r4 | ⟨v, v1, v2, v3, v4⟩
      · rw [r4]; exact q3
      · exact Or.inr ⟨i, v, hi, v1, v2, v3, v4⟩
  · rintro st ⟨g, rfl, q1, q2⟩
    unfold b_X9_far_57
    rw [un_, if_pos (by decide)]
    exact ⟨_, rfl, g, rfl, q2⟩
section PR8
variable (HS : HSt) (WS : WSt) (OS : OSt) (SS : SSt)
theorem rngD (x : Int32) : (∃ d, 1 ≤ d ∧ d ≤ 3 ∧ x = nI d ∧ ¬ x < (1 : Int32) ∧ x ≤ (3 : Int32) ∧ f_X9_in x.toInt64 1 3 = some 1) ∨ ((x < (1 : Int32) ∨ (¬ x < (1 : Int32) ∧ ¬ x ≤ (3 : Int32))) ∧ f_X9_in x.toInt64 1 3 = some 0) := by
  have h1 : (1 : Int32).toInt = 1 := rfl
  have h2 : (3 : Int32).toInt = 3 := rfl
  have h3 : (1 : Int64).toInt = 1 := rfl
  have h4 : (3 : Int64).toInt = 3 := rfl
  rw [in_iff, Int32.lt_iff_toInt_lt, Int32.le_iff_toInt_le, Int32.toInt_toInt64, h1, h2, h3, h4]
  by_cases c : 1 ≤ x.toInt ∧ x.toInt ≤ 3
  · left
    rw [if_pos c]
    refine ⟨x.toInt.toNat, by omega, by omega, ?_, by omega, by omega, rfl⟩
    apply Int32.toInt_inj.mp
    rw [nI_toInt (by omega)]; omega
  · right
    rw [if_neg c]
    exact ⟨by omega, rfl⟩
theorem ok_far : Ok_far (Rel HS WS OS SS) := by
  intro k σX σM a1 a2 a3 a4 hk hR
  rcases rngP a1 with ⟨p, hp, rfl, pa, pb⟩ | ⟨pa, pb⟩
  rotate_left
  · exact ansE HS WS OS SS hR (r := -1) (by unfold f_X8_far; rw [pa]; rfl) (by unfold f_X9_far; rw [pb]; rfl)
  rcases rngV a2 with ⟨x, hx, rfl, xa, xb⟩ | ⟨xa, xb⟩
  rotate_left
  · exact ansE HS WS OS SS hR (r := -2) (by unfold f_X8_far; rw [pa, Option.bind_some, if_neg (by decide), xa]; rfl) (by unfold f_X9_far; rw [pb, Option.bind_some, if_neg (by decide), xb]; rfl)
  rcases rngV a3 with ⟨y, hy, rfl, ya, yb⟩ | ⟨ya, yb⟩
  rotate_left
  · exact ansE HS WS OS SS hR (r := -2) (by unfold f_X8_far; rw [pa, Option.bind_some, if_neg (by decide), xa, Option.bind_some, if_neg (by decide), ya]; rfl) (by unfold f_X9_far; rw [pb, Option.bind_some, if_neg (by decide), xb, Option.bind_some, if_neg (by decide), yb]; rfl)
  rcases rngD a4 with ⟨d, hd1, hd, rfl, d1, d2, db⟩ | ⟨hd, db⟩
  rotate_left
  · refine ansE HS WS OS SS hR (r := -2) ?_ (by unfold f_X9_far; rw [pb, Option.bind_some, if_neg (by decide), xb, Option.bind_some, if_neg (by decide), yb, Option.bind_some, if_neg (by decide), db]; rfl)
    unfold f_X8_far; rw [pa, Option.bind_some, if_neg (by decide), xa, Option.bind_some, if_neg (by decide), ya, Option.bind_some, if_neg (by decide)]
    rcases hd with hd | ⟨hd, hd'⟩
    · rw [if_pos hd]
    · rw [if_neg hd, if_neg hd']
  obtain ⟨A, hV, hX, hM⟩ := hR
  obtain ⟨x1, eX1, cX1, tX1, kX1⟩ := hX.2.1.all hV (by omega) hX.1 hp
  obtain ⟨s1, e1, c1, t1, f1⟩ := hM.2.1.all hV hp hp
  obtain ⟨g, eg, hg⟩ := p_farX (σ := x1) (pa := 4 + 13 * p) (x := x) (y := y) (d := d) (E := fun m => sq (aP A p) m 24 % 256) (fun m hm => ⟨(tX1 m hm).2.1, Nat.mod_lt _ (by decide)⟩) (by omega) (by omega) (by omega)
  obtain ⟨g', eg', hg'⟩ := p_farM (σ := stI s1 0 22 (-6)) (x := x) (y := y) (d := d) (E := fun m => sq (aP A p) m 24 % 256) (fun m hm => ⟨by rw [stI_nk (by decide)]; exact (t1 m hm).1.2.1, Nat.mod_lt _ (by decide)⟩) (by omega) (by omega) (by omega)
  have := hg.one hg'
  subst this
  refine ansP (r := nI g) (by omega) hV hX hM ?_ ?_ cX1 kX1 c1 f1
  · unfold f_X8_far
    rw [pa, Option.bind_some, if_neg (by decide), xa, Option.bind_some, if_neg (by decide), ya, Option.bind_some, if_neg (by decide), if_neg d1, if_pos d2, ip4 hp, chk_t, nm_, cp4 hp, eX1, Option.bind_some, eg]
    rfl
  · unfold f_X9_far
    rw [pb, Option.bind_some, if_neg (by decide), xb, Option.bind_some, if_neg (by decide), yb, Option.bind_some, if_neg (by decide), db, Option.bind_some, if_neg (by decide), e1, Option.bind_some, nm_, eg']
    rfl
end PR8
