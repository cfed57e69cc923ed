/-! ===== fails: the reference ===== -/
/-- the states of both behind a move, as the reference holds them -/
def Bh (σ : St) (u v : Nat) : Prop := σ.1 0 27 = nI (u / 256) ∧ σ.1 0 28 = nI (u % 256) ∧ σ.1 0 30 = nI (v / 256) ∧ σ.1 0 31 = nI (v % 256)
def ktl (y4 : Int32) (s : St) : Option ((Int32 × Int32 × St) ⊕ (Int32 × St)) := chk (inb (((13 : Int32) * (s.1 0 27)) + (s.1 0 30)) 169) (chk (inb (((256 : Int32) * (s.1 0 28)) + (s.1 0 31)) 65536) ((if ((s.1 17 (((13 : Int32) * (s.1 0 27)) + (s.1 0 30)).toNatClampNeg) &&& ((s.1 20 (((256 : Int32) * (s.1 0 28)) + (s.1 0 31)).toNatClampNeg) ^^^ (-1 : Int32))) = (0 : Int32) then nm (y4 + (1 : Int32)) fun x4 => some (.inl ((1 : Int32), x4, s)) else nm (y4 + (1 : Int32)) fun x3 => some (.inl ((0 : Int32), x3, s)))))
theorem p_ktl {s : St} {u v y : Nat} {S : Nat → Nat} (hu : u < 3328) (hv : v < 3328) (h1 : CM1 s) (h17 : ∀ j, j < 169 → s.1 17 j = nI (S j) ∧ S j < 4096) (hB : Bh s u v) : ktl (nI y) s = some (.inl (bI (cb (shq (S (13 * (u / 256) + v / 256)) (u % 256) (v % 256))), nI (y + 1), s)) := by
  obtain ⟨b1, b2, b3, b4⟩ := hB
  have hm1 := Nat.mod_lt u (show 0 < 256 by decide)
  have hm2 := Nat.mod_lt v (show 0 < 256 by decide)
  obtain ⟨w1, w2⟩ := h17 (13 * (u / 256) + v / 256) (by omega)
  have e1 : (13 : Int32) * nI (u / 256) + nI (v / 256) = nI (13 * (u / 256) + v / 256) := by rw [L13, pk_mul, nI_add]
  have e2 : (256 : Int32) * nI (u % 256) + nI (v % 256) = nI (256 * (u % 256) + v % 256) := by rw [L256, pk_mul, nI_add]
  unfold ktl
  rw [b1, b2, b3, b4, e1, e2, inb_nI (show 13 * (u / 256) + v / 256 < 169 by omega) (by decide), chk_t, inb_nI (show 256 * (u % 256) + v % 256 < 65536 by omega) (by decide), chk_t, nI_clamp (by omega), nI_clamp (by omega), w1, h1 _ _ hm1 hm2, nm_, nm_, nI_1]
  by_cases c : shq (S (13 * (u / 256) + v / 256)) (u % 256) (v % 256)
  · rw [if_pos ((shq_m w2).mpr c), cb_t.mpr c]; rfl
  · rw [if_neg (fun h => c ((shq_m w2).mp h)), cb_f.mpr c]; rfl
theorem p_k45 {σ : St} {p q a b w x : Nat} {P Q : Pg} {S : Nat → Nat} (hP : VP P) (hQ : VP Q) (hp : p < 4) (hq : q < 4) (hx : x < 256) (hL : Laid σ p P) (hL' : Laid σ q Q) (h1 : CM1 σ) (h17 : ∀ j, j < 169 → σ.1 17 j = nI (S j) ∧ S j < 4096) (hS : Sdp P Q w a b) : ∃ k σ', wh FU (b_X9_isKept_45 (nI p) (nI q) (nI a) (nI b) (nI (S (13 * a + b))) (nI w) (nI x)) ((1 : Int32), (0 : Int32), σ) = some (bI k, σ') ∧ (k = true ↔ ∀ y, y < 256 → kpt P Q S w a b x y) ∧ Fr S6 σ σ' := by
  have hab := hS.1
  have hbb := hS.2.1
  have key := wh_cnt (b := b_X9_isKept_45 (nI p) (nI q) (nI a) (nI b) (nI (S (13 * a + b))) (nI w) (nI x)) 256 (fun i z => ∃ k st, z = (bI k, nI i, st) ∧ (k = true ↔ ∀ y, y < i → kpt P Q S w a b x y) ∧ Fr S6 σ st) (fun r => ∃ k st, r = (bI k, st) ∧ (k = true ↔ ∀ y, y < 256 → kpt P Q S w a b x y) ∧ Fr S6 σ st) ?_ ?_ FU 0 ((1 : Int32), (0 : Int32), σ) (Nat.zero_le _) ⟨true, σ, rfl, ⟨fun _ m hm => absurd hm (Nat.not_lt_zero m), fun _ => rfl⟩, Fr.refl _ _⟩ (by rw [FU_]; omega)
  · obtain ⟨r, e, k, st, rfl, q1, q2⟩ := key
    exact ⟨k, st, e, q1, q2⟩
  · rintro i z hi ⟨k, st, rfl, q1, f⟩
    have s6 : ∀ s', Fr S6 σ s' → (CM1 s' ∧ (∀ j, j < 169 → s'.1 17 j = nI (S j) ∧ S j < 4096) ∧ Laid s' p P ∧ Laid s' q Q) := fun s' f' => ⟨fun u v hu hv => by rw [f'.1 20 _ (by unfold S6; omega)]; exact h1 u v hu hv, fun j hj => by rw [f'.1 17 _ (by unfold S6; omega)]; exact h17 j hj, hL.fr f', hL'.fr f'⟩
    obtain ⟨c1, c17, _, _⟩ := s6 st f
    unfold b_X9_isKept_45
    rw [un_, un_, if_neg (show ¬ ((256 : Int32) ≤ nI i) from nI_ge hi (by decide))]
    cases k
    · rw [if_pos (by decide)]
      right
      refine ⟨_, rfl, false, st, rfl, ⟨fun h => (by cases h), fun h => ?_⟩, f⟩
      have := q1.mpr (fun y hy => h y (by omega))
      cases this
    · rw [if_neg (by decide)]
      left
      have qa := q1.mp rfl
      have e2 : (256 : Int32) * nI x + nI i = nI (256 * x + i) := by rw [L256, pk_mul, nI_add]
      rw [e2, inb_nI (show 256 * x + i < 65536 by omega) (by decide), chk_t, nI_clamp (by omega), c1 x i hx hi]
      by_cases c : shq (S (13 * a + b)) x i
      · rw [if_pos ((shq_m (h17 _ (by omega)).2).mpr c)]
        simp only [nm_]
        generalize h8 : stI (stI (stI (stI (stI (stI st 0 27 (nI a)) 0 28 (nI x)) 0 29 (0 : Int32)) 0 30 (nI b)) 0 31 (nI i)) 0 32 (0 : Int32) = s8
        have f8 : Fr S6 σ s8 := by
          rw [← h8]
          exact (((((f.st _ (by unfold S6; omega)).st _ (by unfold S6; omega)).st _ (by unfold S6; omega)).st _ (by unfold S6; omega)).st _ (by unfold S6; omega)).st _ (by unfold S6; omega)
        have v27 : s8.1 0 27 = nI a := by rw [← h8, stI_ne (by decide), stI_ne (by decide), stI_ne (by decide), stI_ne (by decide), stI_ne (by decide), stI_same]
        have v28 : s8.1 0 28 = nI x := by rw [← h8, stI_ne (by decide), stI_ne (by decide), stI_ne (by decide), stI_ne (by decide), stI_same]
        have v29 : s8.1 0 29 = nI 0 := by rw [← h8, stI_ne (by decide), stI_ne (by decide), stI_ne (by decide), stI_same]; rfl
        have v30 : s8.1 0 30 = nI b := by rw [← h8, stI_ne (by decide), stI_ne (by decide), stI_same]
        have v31 : s8.1 0 31 = nI i := by rw [← h8, stI_ne (by decide), stI_same]
        have v32 : s8.1 0 32 = nI 0 := by rw [← h8, stI_same]; rfl
        have fin : ∀ s', Fr S6 σ s' → Bh s' (mv1 P w a x) (mv2 Q w b i) → ∃ z', ktl (nI i) s' = some (.inl z') ∧ ∃ k st, z' = (bI k, nI (i + 1), st) ∧ (k = true ↔ ∀ y, y < i + 1 → kpt P Q S w a b x y) ∧ Fr S6 σ st := by
          intro s' f' hB
          obtain ⟨d1, d17, _, _⟩ := s6 s' f'
          refine ⟨_, p_ktl (mv1_lt (Q := Q) hP hS hx) (mv2_lt (P := P) hQ hS hi) d1 d17 hB, _, s', rfl, ?_, f'⟩
          rw [cb_t]
          constructor
          · intro h y hy
            by_cases e : y = i
            · subst e; exact fun _ => h
            · exact qa y (by omega)
          · intro h
            exact h i (by omega) c
        obtain ⟨_, _, L8, L8'⟩ := s6 s8 f8
        rcases hS.2.2 with ⟨rfl, hb⟩ | ⟨rfl, ha⟩ | ⟨rfl, ha, hb⟩
        · obtain ⟨s9, e9, t1, t2, t3, f9, t4⟩ := p_stepSecond hQ hq L8' hb hi (by decide) v30 v31 v32
          rw [if_neg (by decide)] at t1
          have nx := cod_nx hQ hb hi
          rw [if_pos (by decide), if_neg (by decide), e9, Option.bind_some]
          exact fin s9 (f8.trans f9) ⟨by rw [t4 27 (by decide) (by decide), v27]; unfold mv1; rw [if_pos rfl, show (256 * a + x) / 256 = a by omega], by rw [t4 28 (by decide) (by decide), v28]; unfold mv1; rw [if_pos rfl, show (256 * a + x) % 256 = x by omega], by rw [t1]; rfl, by rw [t2, ← nx.2.2.1]; rfl⟩
        · obtain ⟨s9, e9, t1, t2, t3, f9, t4⟩ := p_stepFirst hP hp L8 ha hx (by decide) v27 v28 v29
          rw [if_neg (by decide)] at t1
          have nx := cod_nx hP ha hx
          rw [if_neg (by decide), e9, Option.bind_some, if_pos (by decide)]
          exact fin s9 (f8.trans f9) ⟨by rw [t1]; rfl, by rw [t2, ← nx.2.2.1]; rfl, by rw [t4 30 (by decide), v30]; unfold mv2; rw [if_pos rfl, show (256 * b + i) / 256 = b by omega], by rw [t4 31 (by decide), v31]; unfold mv2; rw [if_pos rfl, show (256 * b + i) % 256 = i by omega]⟩
        · obtain ⟨s9, e9, t1, t2, t3, f9, t4⟩ := p_stepFirst hP hp L8 ha hx (by decide) v27 v28 v29
          obtain ⟨_, _, _, L9'⟩ := s6 s9 (f8.trans f9)
          obtain ⟨s10, e10, u1, u2, u3, f10, u4⟩ := p_stepSecond (t := 0) hQ hq L9' hb hi (by decide) (by rw [t4 30 (by decide)]; exact v30) (by rw [t4 31 (by decide)]; exact v31) (by rw [t4 32 (by decide)]; exact v32)
          rw [if_neg (by decide)] at t1 u1
          have nx := cod_nx hP ha hx
          have ny := cod_nx hQ hb hi
          rw [if_neg (by decide), e9, Option.bind_some, if_neg (by decide), e10, Option.bind_some]
          exact fin s10 ((f8.trans f9).trans f10) ⟨by rw [u4 27 (by decide) (by decide), t1]; rfl, by rw [u4 28 (by decide) (by decide), t2, ← nx.2.2.1]; rfl, by rw [u1]; rfl, by rw [u2, ← ny.2.2.1]; rfl⟩
      · rw [if_neg (fun h => c ((shq_m (h17 _ (by omega)).2).mp h)), nm_, nI_1]
        refine ⟨_, rfl, true, st, rfl, ⟨fun _ y hy => ?_, fun _ => rfl⟩, f⟩
        by_cases e : y = i
        · subst e; exact fun h => absurd h c
        · exact qa y (by omega)
  · rintro z ⟨k, st, rfl, q1, f⟩
    exact ⟨_, by unfold b_X9_isKept_45; rw [un_, un_, if_pos (by decide)], k, st, rfl, q1, f⟩
theorem p_isKeptM {σ : St} {p q a b : Nat} {P Q : Pg} {S : Nat → Nat} {W : Nat → Nat → Nat} (hP : VP P) (hQ : VP Q) (hp : p < 4) (hq : q < 4) (hL : Laid σ p P) (hL' : Laid σ q Q) (h1 : CM1 σ) (h4 : ∀ a b, a < 12 → b < 12 → σ.1 16 (12 * a + b) = nI (W a b)) (h17 : ∀ j, j < 169 → σ.1 17 j = nI (S j) ∧ S j < 4096) (hS : Sdp P Q (mvr W a b) a b) : ∃ σ', f_X9_isKept (nI p) (nI q) (nI a) (nI b) σ = some (bI (cb (Kpd P Q S (mvr W a b) a b)), σ') ∧ Fr S6 σ σ' := by
  have hab := hS.1
  have hbb := hS.2.1
  have ei : (13 : Int32) * nI a + nI b = nI (13 * a + b) := by rw [L13, pk_mul, nI_add]
  unfold f_X9_isKept
  rw [ei, inb_nI (show 13 * a + b < 169 by omega) (by decide), chk_t, nm_, p_moverAt h4 hab hbb, Option.bind_some, nI_clamp (by omega), (h17 _ (by omega)).1]
  generalize mvr W a b = w at *
  have key := wh_cnt (b := b_X9_isKept_29 (nI p) (nI q) (nI a) (nI b) (nI (S (13 * a + b))) (nI w)) 256 (fun i z => ∃ k st, z = (bI k, nI i, st) ∧ (k = true ↔ ∀ x, x < i → ∀ y, y < 256 → kpt P Q S w a b x y) ∧ Fr S6 σ st) (fun r => ∃ k st, r = (bI k, st) ∧ (k = true ↔ Kpd P Q S w a b) ∧ Fr S6 σ st) ?_ ?_ FU 0 ((1 : Int32), (0 : Int32), σ) (Nat.zero_le _) ⟨true, σ, rfl, ⟨fun _ m hm => absurd hm (Nat.not_lt_zero m), fun _ => rfl⟩, Fr.refl _ _⟩ (by rw [FU_]; omega)
  · obtain ⟨r, e, k, st, rfl, q1, f⟩ := key
    refine ⟨st, ?_, f⟩
    rw [e, Option.bind_some, un_, bI01, chk_t, cb_c q1]
  · rintro i z hi ⟨k, st, rfl, q1, f⟩
    unfold b_X9_isKept_29
    rw [un_, un_, if_neg (show ¬ ((256 : Int32) ≤ nI i) from nI_ge hi (by decide))]
    cases k
    · rw [if_pos (by decide)]
      right
      refine ⟨_, rfl, false, st, rfl, ⟨fun h => (by cases h), fun h => ?_⟩, f⟩
      have := q1.mpr (fun x hx y hy => h x (by omega) y hy)
      cases this
    · rw [if_neg (by decide)]
      left
      have qa := q1.mp rfl
      obtain ⟨k2, s2, e2, g2, f2⟩ := p_k45 (σ := st) (S := S) hP hQ hp hq hi (hL.fr f) (hL'.fr f) (fun u v hu hv => by rw [f.1 20 _ (by unfold S6; omega)]; exact h1 u v hu hv) (fun j hj => by rw [f.1 17 _ (by unfold S6; omega)]; exact h17 j hj) hS
      have e2 : wh FU (b_X9_isKept_45 (nI p) (nI q) (nI a) (nI b) (nI (S (13 * a + b))) (nI w) (nI i)) (bI true, (0 : Int32), st) = some (bI k2, s2) := e2
      rw [e2, Option.bind_some, un_, nm_, nI_1]
      refine ⟨_, rfl, k2, s2, rfl, ?_, f.trans f2⟩
      rw [g2]
      constructor
      · intro h x hx
        by_cases e : x = i
        · subst e; exact h
        · exact qa x (by omega)
      · intro h
        exact h i (by omega)
  · rintro z ⟨k, st, rfl, q1, f⟩
    exact ⟨_, by unfold b_X9_isKept_29; rw [un_, un_, if_pos (by decide)], k, st, rfl, q1, f⟩
theorem p_failsM {σ : St} {p q : Nat} {P Q : Pg} {S : Nat → Nat} {W : Nat → Nat → Nat} {Z : WAc} (hP : VP P) (hQ : VP Q) (hW : Wle W) (hZ : WOK P Q Z) (hp : p < 4) (hq : q < 4) (hL : Laid σ p P) (hL' : Laid σ q Q) (h1 : CM1 σ) (h4 : ∀ a b, a < 12 → b < 12 → σ.1 16 (12 * a + b) = nI (W a b)) (h17 : ∀ j, j < 169 → σ.1 17 j = nI (S j) ∧ S j < 4096) (h19 : ∀ j, j < 169 → σ.1 19 j = Z.2.1 j) : ∃ r σ', (wh FU (b_X9_fails_34 (nI p) (nI q)) ((0 : Int32), σ)).bind (Sum.elim (fun s4 => some ((-6 : Int32), s4)) (fun z => some z)) = some (r, σ') ∧ FFl (bad P Q S W Z) r ∧ Fr S6 σ σ' := by
  have key := wh_cnt (b := b_X9_fails_34 (nI p) (nI q)) 168 (fun i z => z.1 = nI i ∧ (∀ j, j < i → ¬ bad P Q S W Z j) ∧ Fr S6 σ z.2) (fun r => ∃ v st, (Sum.elim (fun s3 => some ((-6 : Int32), s3)) (fun z => some z)) r = some (v, st) ∧ FFl (bad P Q S W Z) v ∧ Fr S6 σ st) ?_ ?_ FU 0 ((0 : Int32), σ) (Nat.zero_le _) ⟨rfl, fun m hm => absurd hm (Nat.not_lt_zero m), Fr.refl _ σ⟩ (by rw [FU_]; omega)
  · obtain ⟨r, e, v, st, q⟩ := key
    exact ⟨v, st, by rw [e, Option.bind_some, q.1], q.2⟩
  · rintro i ⟨z, st⟩ hi ⟨h0, q1, f⟩
    have h0 : z = nI i := h0
    subst h0
    dsimp only at f
    unfold b_X9_fails_34
    rw [un_, if_neg (show ¬ ((168 : Int32) ≤ nI i) from nI_ge hi (by decide)), inb_nI (show i < 169 by omega) (by decide), chk_t, nI_clamp (by omega), f.1 19 _ (by unfold S6; omega), h19 i (by omega)]
    by_cases c : Z.2.1 i = 0
    · rw [if_pos c, nm_, nI_1]
      left
      refine ⟨_, rfl, rfl, fun j hj hb => ?_, f⟩
      by_cases e : j = i
      · subst e; exact hb.1 c
      · exact q1 j (by omega) hb
    · obtain ⟨s2, e2, f2⟩ := p_isKeptM (σ := st) (S := S) (W := W) hP hQ hp hq (hL.fr f) (hL'.fr f) (fun u v hu hv => by rw [f.1 20 _ (by unfold S6; omega)]; exact h1 u v hu hv) (fun a b ha hb => by rw [f.1 16 _ (by unfold S6; omega)]; exact h4 a b ha hb) (fun j hj => by rw [f.1 17 _ (by unfold S6; omega)]; exact h17 j hj) (Sdp.of hP hQ hW hZ hi c)
      rw [if_neg c, nz13, chk_t, chk_t, e100 (by omega), (d13 (by omega)).2, (d13 (by omega)).1, e2, Option.bind_some, un_, chk_t, chk_t]
      by_cases d : Kpd P Q S (mvr W (i / 13) (i % 13)) (i / 13) (i % 13)
      · rw [if_neg (by rw [cb_t.mpr d]; decide), nm_, nI_1]
        left
        refine ⟨_, rfl, rfl, fun j hj hb => ?_, f.trans f2⟩
        by_cases e : j = i
        · subst e; exact hb.2 d
        · exact q1 j (by omega) hb
      · rw [if_pos (by rw [cb_f.mpr d]; rfl)]
        right
        exact ⟨_, rfl, _, s2, rfl, Or.inl ⟨i, hi, ⟨c, d⟩, q1, rfl⟩, f.trans f2⟩
  · rintro ⟨z, st⟩ ⟨h0, q1, f⟩
    have h0 : z = nI 168 := h0
    subst h0
    exact ⟨_, by unfold b_X9_fails_34; rw [un_, if_pos (by decide)], -6, st, rfl, Or.inr ⟨q1, rfl⟩, f⟩
section PRE
variable (HS : HSt) (OS : OSt) (SS : SSt)
theorem ok_fails : Ok_fails (Rel HS WSp OS SS) := by
  intro k σX σM a1 a2 a3 hk hR
  have hR0 := hR
  obtain ⟨A, hV, hX, hM⟩ := hR
  rcases rngY hV hX hM a1 with ⟨s, hs, rfl, sa, sb⟩ | ⟨sa, sb⟩
  rotate_left
  · exact ansE HS WSp OS SS hR0 (r := -1) (by unfold f_X8_fails; rw [sa]; rfl) (by unfold f_X9_fails; rw [sb]; rfl)
  rcases rngP a2 with ⟨p, hp, rfl, pa, pb⟩ | ⟨pa, pb⟩
  rotate_left
  · exact ansE HS WSp OS SS hR0 (r := -1) (by unfold f_X8_fails; rw [sa, Option.bind_some, if_neg (by decide), pa]; rfl) (by unfold f_X9_fails; rw [sb, Option.bind_some, if_neg (by decide), pb]; rfl)
  rcases rngP a3 with ⟨q, hq, rfl, qa, qb⟩ | ⟨qa, qb⟩
  rotate_left
  · exact ansE HS WSp OS SS hR0 (r := -1) (by unfold f_X8_fails; rw [sa, Option.bind_some, if_neg (by decide), pa, Option.bind_some, if_neg (by decide), qa]; rfl) (by unfold f_X9_fails; rw [sb, Option.bind_some, if_neg (by decide), pb, Option.bind_some, if_neg (by decide), qb]; rfl)
  obtain ⟨x1, eX, wX, hX1⟩ := p_makeWalk hV (by omega) hX hs hp hq
  obtain ⟨m1, eM, wM, l1, l2, hM1⟩ := p_walkAllM hV hM hs hp hq
  have hP := (hV.1 p hp).1
  have hQ := (hV.1 q hq).1
  have ok := WSp_ok (T := aT A s) hP hQ (W := aW A)
  obtain ⟨r, x2, eX2, fr, fX⟩ := p_firstFailing (σ := x1) (S := aS A) (show 4 + 13 * p + 12 < 57 by omega) (show 4 + 13 * q + 12 < 57 by omega) hP hQ hV.w ok hX1.1 (hX1.2.1 p hp).1 (hX1.2.1 q hq).1 hX1.2.2.2.1.w (fun j hj => ⟨hX1.2.2.2.2.1 j hj, hV.2.2.2.2.2 j hj⟩) (fun j hj => (wX.1 j hj).2)
  obtain ⟨r', m2, eM2, fr', fM⟩ := p_failsM (σ := m1) (S := aS A) hP hQ hV.w ok hp hq l1 l2 hM1.1 hM1.2.2.2.1 (fun j hj => ⟨hM1.2.2.2.2.1 j hj, hV.2.2.2.2.2 j hj⟩) (fun j hj => (wM.1 j hj).2)
  have er := fr'.one fr
  subst er
  have ip : ∀ i, i < 4 → inb (nI i) 4 = true := fun i hi => inb_nI hi (by decide)
  refine ⟨r', x2, m2, ?_, ?_, A, hV, (hX1.fk hV fX).mono (Nat.le_succ k), (hM1.fr (hM1.2.1.s6 fM) (fM.mono SQ_S6)).mono (Nat.le_succ k)⟩
  · unfold f_X8_fails
    rw [sa, Option.bind_some, if_neg (by decide), pa, Option.bind_some, if_neg (by decide), qa, Option.bind_some, if_neg (by decide), eX, Option.bind_some, ip p hp, chk_t, nm_, ip q hq, chk_t, nm_, nI_clamp (by omega), nI_clamp (by omega), eX2, Option.bind_some, un_]
  · unfold f_X9_fails
    rw [sb, Option.bind_some, if_neg (by decide), pb, Option.bind_some, if_neg (by decide), qb, Option.bind_some, if_neg (by decide), eM, Option.bind_some, eM2]
end PRE
