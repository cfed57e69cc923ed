/-! ===== walks: the reference ===== -/
def RW (σ : St) (Z : WAc) : Prop := (∀ j, j < 169 → σ.1 18 j = Z.1 j ∧ σ.1 19 j = Z.2.1 j) ∧ σ.1 0 37 = Z.2.2
def SV (k j : Nat) : Prop := S6 k j ∨ k = 18 ∨ k = 19 ∨ (k = 0 ∧ j = 37)
theorem SV_S6 : ∀ k j, S6 k j → SV k j := fun _ _ h => Or.inl h
theorem SV_k : ∀ k j, SV k j → k = 0 ∨ k = 18 ∨ k = 19 := by intro k j h; unfold SV S6 at h; omega
theorem RW.s6 {σ σ' : St} {Z : WAc} (h : RW σ Z) (hf : Fr S6 σ σ') : RW σ' Z := ⟨fun j hj => ⟨by rw [hf.1 18 j (by unfold S6; omega)]; exact (h.1 j hj).1, by rw [hf.1 19 j (by unfold S6; omega)]; exact (h.1 j hj).2⟩, by rw [hf.1 0 37 (by unfold S6; omega)]; exact h.2⟩
theorem Pos.fr {σ σ' : St} {P Q : Pg} {m t m' u : Nat} (h : Pos σ P m t Q m' u) (hf : Fr (fun k _ => k = 18 ∨ k = 19) σ σ') : Pos σ' P m t Q m' u := by
  have e : ∀ j, σ'.1 0 j = σ.1 0 j := fun j => hf.1 0 j (by omega)
  unfold Pos
  rw [e 27, e 28, e 29, e 30, e 31, e 32]; exact h
theorem p_standThere {σ : St} {P Q : Pg} {x t y u : Nat} {Z : WAc} (hP : VP P) (hQ : VP Q) (hx : x < 256) (hy : y < 256) (h1 : CM1 σ) (hp : Pos σ P x t Q y u) (h : RW σ Z) : ∃ σ', f_X9_standThere σ = some σ' ∧ RW σ' (wst P Q x y (t, u) Z) ∧ Fr (fun k _ => k = 18 ∨ k = 19) σ σ' := by
  have oP := (ps_ok hP hx t).2
  have oQ := (ps_ok hQ hy u).2
  obtain ⟨⟨p27, p28, _⟩, p30, p31, _⟩ := hp
  have hj : 13 * (ps P x t / 256) + ps Q y u / 256 < 169 := by omega
  have hv : 256 * (ps P x t % 256) + ps Q y u % 256 < 65536 := by omega
  have hm1 := Nat.mod_lt (ps P x t) (show 0 < 256 by decide)
  have hm2 := Nat.mod_lt (ps Q y u) (show 0 < 256 by decide)
  have e1 : (13 : Int32) * nI (ps P x t / 256) + nI (ps Q y u / 256) = nI (13 * (ps P x t / 256) + ps Q y u / 256) := by rw [L13, pk_mul, nI_add]
  have e2 : (256 : Int32) * nI (ps P x t % 256) + nI (ps Q y u % 256) = nI (256 * (ps P x t % 256) + ps Q y u % 256) := by rw [L256, pk_mul, nI_add]
  have s20 := h1 _ _ hm1 hm2
  unfold f_X9_standThere wst
  dsimp only
  generalize nI (saysP (ps P x t % 256) (ps Q y u % 256) 4) = v at *
  rw [p27, p30, e1, nm_]
  generalize 13 * (ps P x t / 256) + ps Q y u / 256 = j at *
  rw [inb_nI hj (by decide), chk_t, nm_, chk_t, stI_nk (show 0 ≠ 19 by decide), p28, p31, e2, inb_nI hv (by decide), chk_t, chk_t, nm_, nI_clamp (by omega), nI_clamp (by omega), stI_nk (show 18 ≠ 19 by decide), stI_nk (show 20 ≠ 19 by decide), s20]
  refine ⟨_, rfl, ⟨fun i hi => ?_, ?_⟩, ((Fr.refl _ σ).st _ (Or.inr rfl)).st _ (Or.inl rfl)⟩
  · unfold stn
    dsimp only
    constructor
    · rw [stI_v]
      by_cases e : i = j
      · rw [if_pos ⟨rfl, e⟩, if_pos e, e, (h.1 j hj).1]
      · rw [if_neg (fun q => e q.2), stI_nk (show 18 ≠ 19 by decide), if_neg e, (h.1 i hi).1]
    · rw [stI_nk (show 19 ≠ 18 by decide), stI_v]
      by_cases e : i = j
      · rw [if_pos ⟨rfl, e⟩, if_pos e]
      · rw [if_neg (fun q => e q.2), if_neg e, (h.1 i hi).2]
  · rw [stI_nk (show 0 ≠ 18 by decide), stI_nk (show 0 ≠ 19 by decide)]; exact h.2
theorem p_moverAt {σ : St} {W : Nat → Nat → Nat} (h4 : ∀ a b, a < 12 → b < 12 → σ.1 16 (12 * a + b) = nI (W a b)) {a b : Nat} (ha : a ≤ 12) (hb : b ≤ 12) : f_X9_moverAt (nI a) (nI b) σ = some (nI (mvr W a b)) := by
  unfold f_X9_moverAt mvr
  by_cases c : a = 12
  · rw [if_pos (by rw [n12 (by omega)]; exact c), if_pos c]
    by_cases d : b = 12
    · rw [if_pos (by rw [c, d]), if_pos d]; rfl
    · rw [if_neg (by rw [eq_nI (by omega) (by omega)]; omega), if_pos (by rw [n12 (by omega)]; exact c), if_neg d]; rfl
  · rw [if_neg (by rw [n12 (by omega)]; exact c), if_neg c]
    by_cases d : b = 12
    · rw [if_pos (by rw [n12 (by omega)]; exact d), if_neg (by rw [eq_nI (by omega) (by omega)]; omega), if_neg (by rw [n12 (by omega)]; exact c), if_pos d]; rfl
    · rw [if_neg (by rw [n12 (by omega)]; exact d), if_neg d, show (12 : Int32) * nI a + nI b = nI (12 * a + b) from by rw [L12, pk_mul, nI_add], inb_nI (show 12 * a + b < 144 by omega) (by decide), chk_t, nI_clamp (by omega), h4 a b (by omega) (by omega)]
theorem mmax_le {a b : Int32} (h : b ≤ a) : mmax a b = a := by unfold mmax; rw [if_neg (Int32.not_lt.mpr h)]
theorem mmax_nle {a b : Int32} (h : ¬ b ≤ a) : mmax a b = b := by unfold mmax; rw [if_pos (Int32.not_le.mp h)]
theorem p_walkOne {σ : St} {p q x y : Nat} {P Q : Pg} {W : Nat → Nat → Nat} {Z : WAc} (hP : VP P) (hQ : VP Q) (hW : Wle W) (hp : p < 4) (hq : q < 4) (hx : x < 256) (hy : y < 256) (hL : Laid σ p P) (hL' : Laid σ q Q) (h1 : CM1 σ) (h4 : ∀ a b, a < 12 → b < 12 → σ.1 16 (12 * a + b) = nI (W a b)) (hpos : Pos σ P x 0 Q y 0) (hZ : RW σ Z) : ∃ σ', f_X9_walkOne (nI p) (nI q) σ = some σ' ∧ RW σ' (wpr P Q W x y Z) ∧ Fr SV σ σ' := by
  have stand : ∀ (st : St) (Zp : WAc) (t : Nat × Nat), Fr SV σ st → Pos st P x t.1 Q y t.2 → RW st Zp → ∃ s2, f_X9_standThere st = some s2 ∧ f_X9_moverAt (s2.1 0 27) (s2.1 0 30) s2 = some (nI (wmo P Q W x y t)) ∧ RW s2 (wst P Q x y t Zp) ∧ Pos s2 P x t.1 Q y t.2 ∧ Fr SV σ s2 := by
    intro st Zp t f hpo hR
    have h1s : CM1 st := fun a b ha hb => by rw [f.1 20 _ (fun q => by have := SV_k _ _ q; omega)]; exact h1 a b ha hb
    obtain ⟨s2, e2, r2, f2⟩ := p_standThere hP hQ hx hy h1s hpo hR
    have po2 := hpo.fr f2
    have oP := (ps_ok hP hx t.1).2
    have oQ := (ps_ok hQ hy t.2).2
    refine ⟨s2, e2, ?_, r2, po2, f.trans (f2.mono (fun k j h => by unfold SV; omega))⟩
    rw [po2.1.1, po2.2.1]
    exact p_moverAt (fun a b ha hb => by rw [f2.1 16 _ (by omega), f.1 16 _ (fun q => by have := SV_k _ _ q; omega)]; exact h4 a b ha hb) (by omega) (by omega)
  obtain ⟨s1, e1, m1, r1, po1, f1⟩ := stand σ Z (0, 0) (Fr.refl _ _) hpos hZ
  have go : ∀ k, k ≤ 48 → ∀ z : Int32 × Int32 × St, (∃ st, z = (nI k, nI (wmo P Q W x y (wps P Q W x y k)), st) ∧ (∀ i, i < k → wmo P Q W x y (wps P Q W x y i) ≠ 3) ∧ RW st (wac P Q W x y Z k) ∧ Pos st P x (wps P Q W x y k).1 Q y (wps P Q W x y k).2 ∧ Fr SV σ st) → (k < 48 ∧ ∃ z', b_X9_walkOne_20 (nI p) (nI q) z = some (.inl z') ∧ (∃ st, z' = (nI (k + 1), nI (wmo P Q W x y (wps P Q W x y (k + 1))), st) ∧ (∀ i, i < k + 1 → wmo P Q W x y (wps P Q W x y i) ≠ 3) ∧ RW st (wac P Q W x y Z (k + 1)) ∧ Pos st P x (wps P Q W x y (k + 1)).1 Q y (wps P Q W x y (k + 1)).2 ∧ Fr SV σ st)) ∨ (∃ r, b_X9_walkOne_20 (nI p) (nI q) z = some (.inr r) ∧ ∃ st, r = (nI (wmv P Q W x y 48), st) ∧ RW st (wac P Q W x y Z 48) ∧ Fr SV σ st) := by
    rintro k hk z ⟨st, rfl, hn, hR, hpo, f⟩
    unfold b_X9_walkOne_20
    rw [un_, un_]
    have hm := wmo_c hP hQ hW hx hy (wps P Q W x y k)
    by_cases c : wmo P Q W x y (wps P Q W x y k) = 3
    · right
      obtain ⟨g1, g2, g3⟩ := w_fin hP hQ hW hx hy hn c Z
      rw [c, if_pos (by decide)]
      exact ⟨_, rfl, st, by rw [g2], by rw [g3]; exact hR, f⟩
    · left
      have k48 := w_end hP hQ hW hx hy hn c
      have hn' : ∀ i, i < k + 1 → wmo P Q W x y (wps P Q W x y i) ≠ 3 := fun i hi => by
        by_cases e : i = k
        · subst e; exact c
        · exact hn i (by omega)
      have wn : wps P Q W x y (k + 1) = ((if wmo P Q W x y (wps P Q W x y k) = 2 then (wps P Q W x y k).1 else (wps P Q W x y k).1 + 1), (if wmo P Q W x y (wps P Q W x y k) = 1 then (wps P Q W x y k).2 else (wps P Q W x y k).2 + 1)) := by rw [wps, if_neg c]
      have wa : wst P Q x y (wps P Q W x y (k + 1)) (wac P Q W x y Z k) = wac P Q W x y Z (k + 1) := by rw [wac, if_neg c]
      have Ls : ∀ st, Fr SV σ st → Laid st p P := fun st f => hL.frS f (fun k j q => by have := SV_k _ _ q; omega)
      have Ls' : ∀ st, Fr SV σ st → Laid st q Q := fun st f => hL'.frS f (fun k j q => by have := SV_k _ _ q; omega)
      refine ⟨k48, ?_⟩
      rcases hm with ⟨w, _⟩ | ⟨w, g⟩ | ⟨w, g⟩ | ⟨w, g, g'⟩
      · exact absurd w c
      · rw [w] at wn ⊢
        have wn : wps P Q W x y (k + 1) = ((wps P Q W x y k).1, (wps P Q W x y k).2 + 1) := wn
        obtain ⟨s4, e4, p4, f4⟩ := hpo.two hQ hq (Ls' st f) hy g
        obtain ⟨s5, e5, m5, r5, po5, f5⟩ := stand s4 _ (wps P Q W x y (k + 1)) (f.trans (f4.mono SV_S6)) (by rw [wn]; exact p4) (hR.s6 f4)
        rw [if_neg (by decide), if_pos (by decide), if_neg (by decide), e4, Option.bind_some, nm_, e5, Option.bind_some, m5, Option.bind_some, nI_1]
        exact ⟨_, rfl, s5, rfl, hn', by rw [← wa]; exact r5, po5, f5⟩
      · rw [w] at wn ⊢
        have wn : wps P Q W x y (k + 1) = ((wps P Q W x y k).1 + 1, (wps P Q W x y k).2) := wn
        obtain ⟨s4, e4, p4, f4⟩ := hpo.one hP hp (Ls st f) hx g
        obtain ⟨s5, e5, m5, r5, po5, f5⟩ := stand s4 _ (wps P Q W x y (k + 1)) (f.trans (f4.mono SV_S6)) (by rw [wn]; exact p4) (hR.s6 f4)
        rw [if_neg (by decide), if_neg (by decide), e4, Option.bind_some, if_pos (by decide), nm_, e5, Option.bind_some, m5, Option.bind_some, nI_1]
        exact ⟨_, rfl, s5, rfl, hn', by rw [← wa]; exact r5, po5, f5⟩
      · rw [w] at wn ⊢
        have wn : wps P Q W x y (k + 1) = ((wps P Q W x y k).1 + 1, (wps P Q W x y k).2 + 1) := wn
        obtain ⟨s3, e3, p3, f3⟩ := hpo.one hP hp (Ls st f) hx g
        obtain ⟨s4, e4, p4, f4⟩ := p3.two hQ hq (Ls' s3 (f.trans (f3.mono SV_S6))) hy g'
        obtain ⟨s5, e5, m5, r5, po5, f5⟩ := stand s4 _ (wps P Q W x y (k + 1)) ((f.trans (f3.mono SV_S6)).trans (f4.mono SV_S6)) (by rw [wn]; exact p4) ((hR.s6 f3).s6 f4)
        rw [if_neg (by decide), if_neg (by decide), e3, Option.bind_some, if_neg (by decide), e4, Option.bind_some, nm_, e5, Option.bind_some, m5, Option.bind_some, nI_1]
        exact ⟨_, rfl, s5, rfl, hn', by rw [← wa]; exact r5, po5, f5⟩
  have key := wh_cnt (b := b_X9_walkOne_20 (nI p) (nI q)) 48 (fun k z => ∃ st, z = (nI k, nI (wmo P Q W x y (wps P Q W x y k)), st) ∧ (∀ i, i < k → wmo P Q W x y (wps P Q W x y i) ≠ 3) ∧ RW st (wac P Q W x y Z k) ∧ Pos st P x (wps P Q W x y k).1 Q y (wps P Q W x y k).2 ∧ Fr SV σ st) (fun r => ∃ st, r = (nI (wmv P Q W x y 48), st) ∧ RW st (wac P Q W x y Z 48) ∧ Fr SV σ st) ?_ ?_ FU 0 ((0 : Int32), nI (wmo P Q W x y (0, 0)), s1) (Nat.zero_le _) ⟨s1, rfl, fun i hi => absurd hi (Nat.not_lt_zero i), r1, po1, f1⟩ (by rw [FU_]; omega)
  · obtain ⟨r, e, st, rfl, hR, f⟩ := key
    unfold f_X9_walkOne
    rw [e1, Option.bind_some, m1, Option.bind_some, e, Option.bind_some, un_]
    have fin : ∀ v : Int32, v = mmax (st.1 0 37) (nI (wmv P Q W x y 48)) → RW (stI st 0 37 v) (wpr P Q W x y Z) ∧ Fr SV σ (stI st 0 37 v) := by
      intro v hv
      refine ⟨⟨fun j hj => ?_, ?_⟩, f.st _ (Or.inr (Or.inr (Or.inr ⟨rfl, rfl⟩)))⟩
      · rw [stI_nk (by decide), stI_nk (by decide)]; exact hR.1 j hj
      · rw [stI_same, hv, hR.2]; rfl
    by_cases c : nI (wmv P Q W x y 48) ≤ st.1 0 37
    · rw [if_pos c, nm_]
      exact ⟨_, rfl, fin _ (mmax_le c).symm⟩
    · rw [if_neg c, nm_]
      exact ⟨_, rfl, fin _ (mmax_nle c).symm⟩
  · intro k z hk h
    rcases go k (by omega) z h with ⟨_, q⟩ | q
    · exact Or.inl q
    · exact Or.inr q
  · intro z h
    rcases go 48 (Nat.le_refl _) z h with ⟨q, _⟩ | q
    · exact absurd q (by decide)
    · exact q
theorem p_w111 {σ : St} {s p q x : Nat} {T : Tx} {P Q : Pg} {W : Nat → Nat → Nat} (hs : s < 6) (h : okT T) (hT : T.1 ≤ 40) (hc : ∀ i, i < T.1 → 33 ≤ T.2 i ∧ T.2 i ≤ 126) (hM : CMt σ s T) (hP : VP P) (hQ : VP Q) (hW : Wle W) (hp : p < 4) (hq : q < 4) (hx : x < 256) (hL : Laid σ p P) (hL' : Laid σ q Q) (h5 : σ.1 5 p = nI P.1) (h5' : σ.1 5 q = nI Q.1) (h1 : CM1 σ) (h4 : ∀ a b, a < 12 → b < 12 → σ.1 16 (12 * a + b) = nI (W a b)) (hZ : RW σ (wal T P Q W (256 * x))) : ∃ σ', wh FU (b_X9_walkAll_111 (nI s) (nI p) (nI q) (nI x)) ((0 : Int32), σ) = some σ' ∧ RW σ' (wal T P Q W (256 * x + 256)) ∧ Fr SV σ σ' := by
  have key := wh_cnt (b := b_X9_walkAll_111 (nI s) (nI p) (nI q) (nI x)) 256 (fun y z => z.1 = nI y ∧ RW z.2 (wal T P Q W (256 * x + y)) ∧ Fr SV σ z.2) (fun st => RW st (wal T P Q W (256 * x + 256)) ∧ Fr SV σ st) ?_ ?_ FU 0 ((0 : Int32), σ) (Nat.zero_le _) ⟨rfl, hZ, Fr.refl _ _⟩ (by rw [FU_]; omega)
  · obtain ⟨st, e, q⟩ := key
    exact ⟨st, e, q⟩
  · rintro y ⟨z, st⟩ hy ⟨h0, q1, f⟩
    have h0 : z = nI y := h0
    subst h0
    dsimp only at q1 f
    left
    have wn : wal T P Q W (256 * x + (y + 1)) = if mtq T x y = true then wpr P Q W x y (wal T P Q W (256 * x + y)) else wal T P Q W (256 * x + y) := by
      show wal T P Q W (256 * x + y + 1) = _
      rw [wal, (dm hy).1, (dm hy).2]
    have fr : ∀ st', Fr SV σ st' → ∀ k j, k ≠ 0 → k ≠ 18 → k ≠ 19 → st'.1 k j = σ.1 k j := fun st' f k j a b c => f.1 k j (fun q => by have := SV_k _ _ q; omega)
    have em := p_meantM (by omega) h hT hc (hM.fr f (fun k j q => by have := SV_k _ _ q; omega)) hx hy
    unfold b_X9_walkAll_111
    rw [un_, if_neg (show ¬ ((256 : Int32) ≤ nI y) from nI_ge hy (by decide)), em, Option.bind_some]
    cases c : mtq T x y
    · rw [if_pos (by decide), nm_, nI_1]
      rw [c, if_neg (by decide)] at wn
      exact ⟨_, rfl, rfl, by rw [wn]; exact q1, f⟩
    · rw [if_neg (by decide)]
      rw [c, if_pos rfl] at wn
      obtain ⟨s12, e12, p12, f12⟩ := p_beginBoth hP hQ hp hq hx hy (by rw [fr st f 5 p (by decide) (by decide) (by decide)]; exact h5) (by rw [fr st f 5 q (by decide) (by decide) (by decide)]; exact h5')
      have f13 := f.trans (f12.mono SV_S6)
      have sv8 : ∀ k j, SV k j → k ≠ 8 := fun k j q => by have := SV_k _ _ q; omega
      obtain ⟨s13, e13, r13, g13⟩ := p_walkOne hP hQ hW hp hq hx hy (hL.frS f13 sv8) (hL'.frS f13 sv8) (show CM1 s12 from fun a b ha hb => by rw [fr s12 f13 20 _ (by decide) (by decide) (by decide)]; exact h1 a b ha hb) (fun a b ha hb => by rw [fr s12 f13 16 _ (by decide) (by decide) (by decide)]; exact h4 a b ha hb) p12 (q1.s6 f12)
      rw [e12, Option.bind_some, e13, Option.bind_some, nm_, nI_1]
      exact ⟨_, rfl, rfl, by rw [wn]; exact r13, f13.trans g13⟩
  · rintro ⟨z, st⟩ ⟨h0, q⟩
    have h0 : z = nI 256 := h0
    subst h0
    exact ⟨st, by unfold b_X9_walkAll_111; rw [un_, if_pos (by decide)], q⟩
theorem p_w60 (σ : St) : ∃ σ', wh FU b_X9_walkAll_60 ((0 : Int32), σ) = some σ' ∧ (∀ j, j < 169 → σ'.1 18 j = 4095 ∧ σ'.1 19 j = 0) ∧ Fr (fun k _ => k = 18 ∨ k = 19) σ σ' := by
  have key := wh_cnt (b := b_X9_walkAll_60) 169 (fun i y => y.1 = nI i ∧ (∀ j, j < i → y.2.1 18 j = 4095 ∧ y.2.1 19 j = 0) ∧ Fr (fun k _ => k = 18 ∨ k = 19) σ y.2) (fun s => (∀ j, j < 169 → s.1 18 j = 4095 ∧ s.1 19 j = 0) ∧ Fr (fun k _ => k = 18 ∨ k = 19) σ s) ?_ ?_ FU 0 ((0 : Int32), σ) (Nat.zero_le _) ⟨rfl, fun j hj => absurd hj (Nat.not_lt_zero j), Fr.refl _ _⟩ (by rw [FU_]; omega)
  · obtain ⟨s, e, q⟩ := key
    exact ⟨s, e, q⟩
  · rintro i ⟨y, s⟩ hi ⟨h0, q1, q2⟩
    have h0 : y = nI i := h0
    subst h0
    left
    refine ⟨(nI (i + 1), stI (stI s 19 i 0) 18 i 4095), ?_, rfl, fun j hj => ?_, (q2.st _ (Or.inr rfl)).st _ (Or.inl rfl)⟩
    · unfold b_X9_walkAll_60
      rw [un_, if_neg (show ¬ ((169 : Int32) ≤ nI i) from nI_ge hi (by decide)), inb_nI hi (by decide), chk_t, nm_, chk_t, nm_, nm_, nI_1, nI_clamp (by omega)]
    · show (stI (stI s 19 i 0) 18 i 4095).1 18 j = 4095 ∧ (stI (stI s 19 i 0) 18 i 4095).1 19 j = 0
      rw [stI_nk (show 19 ≠ 18 by decide)]
      by_cases e : j = i
      · rw [e, stI_same, stI_same]; exact ⟨rfl, rfl⟩
      · rw [stI_ne (fun q => e q.2), stI_nk (show 18 ≠ 19 by decide), stI_ne (fun q => e q.2)]; exact q1 j (by omega)
  · rintro ⟨y, s⟩ ⟨h0, q⟩
    have h0 : y = nI 169 := h0
    subst h0
    exact ⟨s, by unfold b_X9_walkAll_60; rw [un_, if_pos (by decide)], q⟩
theorem lay2_fl {A : Ab} {σ s1 s2 : St} {p q : Nat} (h : CM2 A σ) (hV : VA A) (hp : p < 4) (hq : q < 4) (e1 : f_X9_layTable (nI p) σ = some s1) (e2 : f_X9_layTable (nI q) s1 = some s2) : s2.1 7 p = 1 ∧ s2.1 7 q = 1 := by
  obtain ⟨t1, g1, c1, l1, f1⟩ := h.lay hV hp
  rw [e1] at g1
  have : s1 = t1 := Option.some.inj g1
  subst this
  obtain ⟨t2, g2, c2, l2, f2⟩ := c1.lay hV hq
  rw [e2] at g2
  have : s2 = t2 := Option.some.inj g2
  subst this
  exact ⟨f2.2.2 p l1, l2⟩
def SU (k j : Nat) : Prop := SQ k j ∨ SV k j ∨ (k = 0 ∧ (j = 39 ∨ j = 40))
theorem p_walkAllM {HS : HSt} {SS : SSt} {k : Nat} {A : Ab} {σ : St} {s p q : Nat} (hV : VA A) (hM : CMa HS WSp SS k A σ) (hs : s < aN A) (hp : p < 4) (hq : q < 4) : ∃ σ', f_X9_walkAll (nI s) (nI p) (nI q) σ = some σ' ∧ RW σ' (WSp (aT A s) (aP A p) (aP A q) (aW A)) ∧ Laid σ' p (aP A p) ∧ Laid σ' q (aP A q) ∧ CMa HS WSp SS k A σ' := by
  have hP := (hV.1 p hp).1
  have hQ := (hV.1 q hq).1
  have h6 := hV.2.1
  have hok := hV.2.2.2.1 s hs
  obtain ⟨hT, hc⟩ := hV.2.2.1 s (Or.inl hs)
  have f2 : Fr (fun k j => k = 0 ∧ (j = 39 ∨ j = 40)) σ (stI (stI σ 0 39 (nI (16 * s + 4 * p + q))) 0 40 ((stI σ 0 39 (nI (16 * s + 4 * p + q))).1 0 8)) := ((Fr.refl _ σ).st _ ⟨rfl, Or.inl rfl⟩).st _ ⟨rfl, Or.inr rfl⟩
  have v39 : (stI (stI σ 0 39 (nI (16 * s + 4 * p + q))) 0 40 ((stI σ 0 39 (nI (16 * s + 4 * p + q))).1 0 8)).1 0 39 = nI (16 * s + 4 * p + q) := by rw [stI_ne (by decide), stI_same]
  have v40 : (stI (stI σ 0 39 (nI (16 * s + 4 * p + q))) 0 40 ((stI σ 0 39 (nI (16 * s + 4 * p + q))).1 0 8)).1 0 40 = σ.1 0 8 := by rw [stI_same, stI_ne (by decide)]
  have new : ∃ σ', (nm (stI σ 0 39 (nI (16 * s + 4 * p + q))) fun s16 => nm (stI s16 0 40 (s16.1 0 8)) fun s17 => (f_X9_layTable (nI p) s17).bind fun s18 => (f_X9_layTable (nI q) s18).bind fun s19 => (wh FU b_X9_walkAll_60 ((0 : Int32), s19)).bind (fun s20 => nm (stI s20 0 37 (0 : Int32)) fun s21 => (wh FU (b_X9_walkAll_100 (nI s) (nI p) (nI q)) ((0 : Int32), s21)).bind (fun s22 => some s22))) = some σ' ∧ RW σ' (WSp (aT A s) (aP A p) (aP A q) (aW A)) ∧ Laid σ' p (aP A p) ∧ Laid σ' q (aP A q) ∧ CMa HS WSp SS k A σ' := by
    rw [nm_, nm_]
    generalize stI (stI σ 0 39 (nI (16 * s + 4 * p + q))) 0 40 ((stI σ 0 39 (nI (16 * s + 4 * p + q))).1 0 8) = s17 at *
    have c17 : CM2 A s17 := hM.2.1.frS f2 (fun k j h => Or.inl h.1)
    obtain ⟨s18, s19, e18, e19, c19, l1, l2, f19⟩ := c17.lay2 hV hp hq
    obtain ⟨s20, e20, z20, f20⟩ := p_w60 s19
    have f21 : Fr SV s19 (stI s20 0 37 0) := (f20.mono (fun k j h => by unfold SV; omega)).st _ (Or.inr (Or.inr (Or.inr ⟨rfl, rfl⟩)))
    have sv8 : ∀ k j, SV k j → k ≠ 8 := fun k j q => by have := SV_k _ _ q; omega
    have fu : Fr SU σ (stI s20 0 37 0) := ((f2.mono (fun k j h => Or.inr (Or.inr h))).trans (f19.mono (fun k j h => Or.inl h))).trans (f21.mono (fun k j h => Or.inr (Or.inl h)))
    have X21 : RW (stI s20 0 37 0) (wal (aT A s) (aP A p) (aP A q) (aW A) (256 * 0)) := by
      refine ⟨fun j hj => ?_, stI_same _ _ _ _⟩
      rw [stI_nk (by decide), stI_nk (by decide)]; exact z20 j hj
    have key := wh_cnt (b := b_X9_walkAll_100 (nI s) (nI p) (nI q)) 256 (fun x z => z.1 = nI x ∧ RW z.2 (wal (aT A s) (aP A p) (aP A q) (aW A) (256 * x)) ∧ Fr SV s19 z.2) (fun st => RW st (wal (aT A s) (aP A p) (aP A q) (aW A) (256 * 256)) ∧ Fr SV s19 st) ?_ ?_ FU 0 ((0 : Int32), stI s20 0 37 0) (Nat.zero_le _) ⟨rfl, X21, f21⟩ (by rw [FU_]; omega)
    · obtain ⟨st, e, q1, q2⟩ := key
      have fU : Fr SU σ st := ((f2.mono (fun k j h => Or.inr (Or.inr h))).trans (f19.mono (fun k j h => Or.inl h))).trans (q2.mono (fun k j h => Or.inr (Or.inl h)))
      have c2 : CM2 A st := c19.frS q2 (fun k j h => by have := SV_k _ _ h; omega)
      have W1 : RW st (WSp (aT A s) (aP A p) (aP A q) (aW A)) := by unfold WSp; rw [BN_, show (65536 : Nat) = 256 * 256 from rfl]; exact q1
      refine ⟨st, by rw [e18, Option.bind_some, e19, Option.bind_some, e20, Option.bind_some, nm_, e]; rfl, W1, l1.frS q2 sv8, l2.frS q2 sv8, ?_⟩
      obtain ⟨m1, m2, m3, m4, m5, mv, m6, m7, m8⟩ := hM
      have row : ∀ c, 14 ≤ c → c ≠ 18 → c ≠ 19 → st.1 c = σ.1 c := fun c hc h8 h9 => funext fun j => fU.1 c j (by unfold SU SQ SV S6; omega)
      have z : ∀ j, ¬ (9 ≤ j ∧ j ≤ 11) → ¬ (27 ≤ j ∧ j ≤ 32) → j ≠ 37 → j ≠ 39 → j ≠ 40 → st.1 0 j = σ.1 0 j := fun j h1 h2 h3 h4 h5 => fU.1 0 j (by unfold SU SQ SV S6; omega)
      have y39 : st.1 0 39 = nI (16 * s + 4 * p + q) := by rw [q2.1 0 39 (by unfold SV S6; omega), f19.1 0 39 (by unfold SQ; omega)]; exact v39
      have y40 : st.1 0 40 = σ.1 0 8 := by rw [q2.1 0 40 (by unfold SV S6; omega), f19.1 0 40 (by unfold SQ; omega)]; exact v40
      obtain ⟨a0, b, b1, b2, b3⟩ := mv
      have fl : st.1 7 p = 1 ∧ st.1 7 q = 1 := by
        have g : ∀ j, st.1 7 j = s19.1 7 j := fun j => q2.1 7 j (by unfold SV S6; omega)
        rw [g, g]
        exact lay2_fl c17 hV hp hq e18 e19
      refine ⟨?_, c2, ?_, ?_, ?_, ?_, ?_, ?_, ?_⟩
      · unfold CM1; rw [row 20 (by decide) (by decide) (by decide)]; exact m1
      · unfold CM3 CMt; rw [row 14 (by decide) (by decide) (by decide), row 15 (by decide) (by decide) (by decide), z 20 (by decide) (by decide) (by decide) (by decide) (by decide)]; exact m3
      · unfold CM4; rw [row 16 (by decide) (by decide) (by decide)]; exact m4
      · unfold CM5; rw [row 17 (by decide) (by decide) (by decide)]; exact m5
      · refine ⟨?_, b, b1, by rw [z 8 (by decide) (by decide) (by decide) (by decide) (by decide)]; exact b2, Or.inr ⟨b, Nat.le_refl _, by rw [y40]; exact b2⟩⟩
        rw [z 7 (by decide) (by decide) (by decide) (by decide) (by decide), z 22 (by decide) (by decide) (by decide) (by decide) (by decide), z 42 (by decide) (by decide) (by decide) (by decide) (by decide)]; exact a0
      · unfold CM6; rw [z 7 (by decide) (by decide) (by decide) (by decide) (by decide), z 22 (by decide) (by decide) (by decide) (by decide) (by decide), z 21 (by decide) (by decide) (by decide) (by decide) (by decide), z 23 (by decide) (by decide) (by decide) (by decide) (by decide), z 24 (by decide) (by decide) (by decide) (by decide) (by decide), z 25 (by decide) (by decide) (by decide) (by decide) (by decide), z 26 (by decide) (by decide) (by decide) (by decide) (by decide)]; exact m6
      · intro _
        exact ⟨s, p, q, hs, hp, hq, y39, fl, W1.1, W1.2⟩
      · unfold CM8; rw [z 42 (by decide) (by decide) (by decide) (by decide) (by decide), z 7 (by decide) (by decide) (by decide) (by decide) (by decide), z 41 (by decide) (by decide) (by decide) (by decide) (by decide), z 43 (by decide) (by decide) (by decide) (by decide) (by decide)]; exact m8
    · rintro x ⟨z, st⟩ hx ⟨h0, q1, f⟩
      have h0 : z = nI x := h0
      subst h0
      dsimp only at q1 f
      left
      have fU : Fr SU σ st := ((f2.mono (fun k j h => Or.inr (Or.inr h))).trans (f19.mono (fun k j h => Or.inl h))).trans (f.mono (fun k j h => Or.inr (Or.inl h)))
      have row : ∀ c j, 14 ≤ c → c ≠ 18 → c ≠ 19 → st.1 c j = σ.1 c j := fun c j hc h8 h9 => fU.1 c j (by unfold SU SQ SV S6; omega)
      have hMt : CMt st s (aT A s) := by
        have := hM.2.2.1.2 s (Or.inl hs)
        exact ⟨by rw [row 15 _ (by decide) (by decide) (by decide)]; exact this.1, fun i hi => by rw [row 14 _ (by decide) (by decide) (by decide)]; exact this.2 i hi⟩
      have r5 : ∀ j, st.1 5 j = s19.1 5 j := fun j => f.1 5 j (by unfold SV S6; omega)
      obtain ⟨s14, e14, r14, g14⟩ := p_w111 (by omega) hok hT hc hMt hP hQ hV.w hp hq hx (l1.frS f sv8) (l2.frS f sv8) (by rw [r5]; exact (c19 p hp).1.1) (by rw [r5]; exact (c19 q hq).1.1) (fun a b ha hb => by rw [row 20 _ (by decide) (by decide) (by decide)]; exact hM.1 a b ha hb) (fun a b ha hb => by rw [row 16 _ (by decide) (by decide) (by decide)]; exact hM.2.2.2.1 a b ha hb) q1
      refine ⟨(nI (x + 1), s14), ?_, rfl, r14, f.trans g14⟩
      unfold b_X9_walkAll_100
      rw [un_, if_neg (show ¬ ((256 : Int32) ≤ nI x) from nI_ge hx (by decide)), e14, Option.bind_some, nm_, nI_1]
    · rintro ⟨z, st⟩ ⟨h0, q⟩
      have h0 : z = nI 256 := h0
      subst h0
      exact ⟨st, by unfold b_X9_walkAll_100; rw [un_, if_pos (by decide)], q⟩
  unfold f_X9_walkAll
  rw [key_M, nm_]
  by_cases c : σ.1 0 39 = nI (16 * s + 4 * p + q)
  · rw [if_pos c]
    by_cases d : σ.1 0 40 = σ.1 0 8
    · rw [if_pos d]
      obtain ⟨s', p', q', a1, a2, a3, a4, ⟨a5, a6⟩, a7, a8⟩ := hM.2.2.2.2.2.2.2.1 d
      rw [a4] at c
      obtain ⟨rfl, rfl, rfl⟩ := key3 (by omega) a2 a3 (by omega) hp hq c
      exact ⟨σ, rfl, ⟨a7, a8⟩, (hM.2.1 p' hp).2.2.2 a5, (hM.2.1 q' hq).2.2.2 a6, hM⟩
    · rw [if_neg d]; exact new
  · rw [if_neg c]; exact new
