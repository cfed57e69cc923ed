/-! ===== the reference's steps ===== -/
/-- what is laid stays laid -/
def Mn (σ σ' : St) : Prop := ∀ j, σ.1 7 j = 1 → σ'.1 7 j = 1
def Fr (S : Nat → Nat → Prop) (σ σ' : St) : Prop := (∀ k j, ¬ S k j → σ'.1 k j = σ.1 k j) ∧ σ'.2 = σ.2 ∧ Mn σ σ'
theorem Fr.refl (S : Nat → Nat → Prop) (σ : St) : Fr S σ σ := ⟨fun _ _ _ => rfl, rfl, fun _ h => h⟩
theorem Fr.trans {S : Nat → Nat → Prop} {a b c : St} (h1 : Fr S a b) (h2 : Fr S b c) : Fr S a c := ⟨fun k j h => (h2.1 k j h).trans (h1.1 k j h), h2.2.1.trans h1.2.1, fun j h => h2.2.2 j (h1.2.2 j h)⟩
theorem Fr.mono {S S' : Nat → Nat → Prop} {a b : St} (h : Fr S a b) (hs : ∀ k j, S k j → S' k j) : Fr S' a b := ⟨fun k j hn => h.1 k j (fun q => hn (hs k j q)), h.2⟩
theorem Fr.st {S : Nat → Nat → Prop} {a b : St} {k j : Nat} (x : Int32) (h : Fr S a b) (hk : S k j) (h7 : k ≠ 7 ∨ x = 1 := by exact Or.inl (by decide)) : Fr S a (stI b k j x) := ⟨fun k' j' hn => by rw [stI_ne (fun e => hn (by rw [e.1, e.2]; exact hk))]; exact h.1 k' j' hn, h.2.1, fun i hi => by
    have hb := h.2.2 i hi
    rcases h7 with h7 | h7
    · rw [stI_nk (fun e => h7 e.symm)]; exact hb
    · rw [stI_v]; split
      · exact h7
      · exact hb⟩
/-- the three slots that a step tells its end by -/
def S3 (k j : Nat) : Prop := k = 0 ∧ (j = 9 ∨ j = 10 ∨ j = 11)
theorem p_held {σ : St} {p : Nat} {P : Pg} (h1 : σ.1 5 p = nI P.1) (hP : P.1 ≤ 12) (hp : p < 4) {j : Nat} (hj : j < 100) : f_X9_held (nI p) (nI j) σ = some (nI (nl P j)) := by
  unfold f_X9_held nl
  rw [inb_nI hp (by decide), chk_t, nI_clamp (by omega), h1]
  by_cases h : j < P.1
  · rw [if_pos (nI_lt h (by omega)), if_pos h]
  · rw [if_neg (nI_nlt (by omega) (by omega)), if_neg h]; rfl
theorem p_work {σ : St} {p : Nat} {P : Pg} (hV : VP P) (hM : PM σ p P) (hp : p < 4) {i m : Nat} (hi : i < P.1) (hm : m < 256) : ∃ σ', f_X9_work (nI p) (nI i) (nI m) σ = some σ' ∧ Fr S3 σ σ' ∧ ((256 : Int32) * σ'.1 0 9 + σ'.1 0 10) + (4096 : Int32) * σ'.1 0 11 = nI (cod P i m) := by
  obtain ⟨h5, hl⟩ := hM
  obtain ⟨e1, e2, e3, e4⟩ := hl i hi
  obtain ⟨v1, v2, v3, v4, v5⟩ := hV.2 i hi
  have h12 := hV.1
  have hx : (12 : Int32) * nI p + nI i = nI (12 * p + i) := by rw [L12, pk_mul, nI_add]
  have ii : inb (nI (12 * p + i)) 48 = true := inb_nI (by omega) (by decide)
  have hb := val_lt m ((P.2 i).2.2.1 % 4)
  have hc := val_lt m ((P.2 i).2.2.2 % 4)
  have q0 := p_valueOfM m hm ((P.2 i).2.2.1 % 4) (Nat.mod_lt _ (by decide))
  have q1 := p_valueOfM m hm ((P.2 i).2.2.2 % 4) (Nat.mod_lt _ (by decide))
  have q2 := p_valueOfM m hm (P.2 i).2.1 (by omega)
  have wx : ∀ x, x < 4 → f_X9_with (nI m) (nI (P.2 i).2.1) (nI x) = some (nI (setv m (P.2 i).2.1 x)) := fun x hx => p_withM m hm _ (by omega) x hx
  have hel : ∀ (s : St) (j : Nat), s.1 5 p = nI P.1 → j < 100 → f_X9_held (nI p) (nI j) s = some (nI (nl P j)) := fun s j h hj => p_held h h12 hp hj
  have num : ∀ a b : Nat, (256 : Int32) * nI a + nI b + (4096 : Int32) * (0 : Int32) = nI (256 * a + b) := fun a b => by
    rw [L256, L4096, L0, pk_mul, pk_mul, nI_add, nI_add]; rfl
  have num1 : ∀ b : Nat, (256 : Int32) * (12 : Int32) + nI b + (4096 : Int32) * (1 : Int32) = nI (7168 + b) := fun b => by
    rw [L256, L4096, L1, L12, pk_mul, pk_mul, nI_add, nI_add]; congr 1; omega
  have num2 : ∀ b : Nat, (256 : Int32) * (12 : Int32) + nI b + (4096 : Int32) * (0 : Int32) = nI (3072 + b) := fun b => by
    rw [L256, L4096, L0, L12, pk_mul, pk_mul, nI_add, nI_add]; rfl
  have f0 := Fr.st (S := S3) (k := 0) (j := 10) (nI m) (Fr.refl S3 σ) ⟨rfl, by omega⟩
  have f1 := f0.st (k := 0) (j := 9) (nI (nl P (i + 1))) ⟨rfl, by omega⟩
  have f2 := f1.st (k := 0) (j := 11) 0 ⟨rfl, by omega⟩
  unfold f_X9_work
  simp only [hx, nm_, ii, chk_t, nI_clamp (show 12 * p + i < 2 ^ 31 by omega), e3, e4, and3, q0, q1, Option.bind_some, nI_1]
  rw [hel _ _ (by rw [stI_nk (by decide)]; exact h5) (by omega)]
  simp only [Option.bind_some]
  have g : ∀ k j, k ≠ 0 → (stI (stI (stI σ 0 10 (nI m)) 0 9 (nI (nl P (i + 1)))) 0 11 0).1 k j = σ.1 k j := fun k j h => by rw [stI_nk h, stI_nk h, stI_nk h]
  have g9 : (stI (stI (stI σ 0 10 (nI m)) 0 9 (nI (nl P (i + 1)))) 0 11 0).1 0 9 = nI (nl P (i + 1)) := by rw [stI_ne (by decide), stI_same]
  have g10 : (stI (stI (stI σ 0 10 (nI m)) 0 9 (nI (nl P (i + 1)))) 0 11 0).1 0 10 = nI m := by rw [stI_ne (by decide), stI_ne (by decide), stI_same]
  have g11 : (stI (stI (stI σ 0 10 (nI m)) 0 9 (nI (nl P (i + 1)))) 0 11 0).1 0 11 = 0 := by rw [stI_same]
  generalize (stI (stI (stI σ 0 10 (nI m)) 0 9 (nI (nl P (i + 1)))) 0 11 0) = s3 at f2 g g9 g10 g11 ⊢
  have k1 := (g 1 (12 * p + i) (by decide)).trans e1
  have k2 := (g 2 (12 * p + i) (by decide)).trans e2
  have k3 := (g 3 (12 * p + i) (by decide)).trans e3
  have k5 := (g 5 p (by decide)).trans h5
  have setm : ∀ x : Nat, Fr S3 σ (stI s3 0 10 (nI x)) ∧ (256 : Int32) * (stI s3 0 10 (nI x)).1 0 9 + (stI s3 0 10 (nI x)).1 0 10 + (4096 : Int32) * (stI s3 0 10 (nI x)).1 0 11 = nI (256 * nl P (i + 1) + x) := fun x => ⟨f2.st _ ⟨rfl, by omega⟩, by rw [stI_ne (by decide), stI_same, stI_ne (by decide), g9, g11, num]⟩
  have setl : ∀ x : Nat, Fr S3 σ (stI s3 0 9 (nI x)) ∧ (256 : Int32) * (stI s3 0 9 (nI x)).1 0 9 + (stI s3 0 9 (nI x)).1 0 10 + (4096 : Int32) * (stI s3 0 9 (nI x)).1 0 11 = nI (256 * x + m) := fun x => ⟨f2.st _ ⟨rfl, by omega⟩, by rw [stI_same, stI_ne (by decide), stI_ne (by decide), g10, g11, num]⟩
  simp only [k1, k2, k3]
  unfold cod
  have hact : (P.2 i).1 = 0 ∨ (P.2 i).1 = 1 ∨ (P.2 i).1 = 2 ∨ (P.2 i).1 = 3 ∨ (P.2 i).1 = 4 ∨ (P.2 i).1 = 5 ∨ (P.2 i).1 = 6 ∨ (P.2 i).1 = 7 := by omega
  rcases hact with a | a | a | a | a | a | a | a
  · simp (config := { decide := true }) only [a, if_true, if_false, wx _ (show (P.2 i).2.2.1 < 4 by have := v4 (by omega); omega), Option.bind_some]
    exact ⟨_, rfl, setm _⟩
  · simp (config := { decide := true }) only [a, if_true, if_false, wx _ hb, Option.bind_some]
    exact ⟨_, rfl, setm _⟩
  · simp (config := { decide := true }) only [a, if_true, if_false, (add3' _ hb _ hc).1, wx _ (Nat.mod_lt _ (show 0 < 4 by decide)), Option.bind_some]
    exact ⟨_, rfl, setm _⟩
  · simp (config := { decide := true }) only [a, if_true, if_false, (add3' _ hb _ hc).2, wx _ (Nat.mod_lt _ (show 0 < 4 by decide)), Option.bind_some]
    exact ⟨_, rfl, setm _⟩
  · by_cases hz : val m ((P.2 i).2.2.2 % 4) = 0
    · simp (config := { decide := true }) only [a, if_true, if_false, hz]
      refine ⟨_, rfl, ((f2.st _ ⟨rfl, by omega⟩).st _ ⟨rfl, by omega⟩).st _ ⟨rfl, by omega⟩, ?_⟩
      rw [stI_same, stI_ne (by decide), stI_same, stI_ne (by decide), stI_ne (by decide), stI_same, num1]
    · have nz0 : ¬ (nI (val m ((P.2 i).2.2.2 % 4)) = (0 : Int32)) := nI_ne0 (by omega) (by omega)
      have nz1 : nz (nI (val m ((P.2 i).2.2.2 % 4))) = true := decide_eq_true nz0
      have hr : val m ((P.2 i).2.2.1 % 4) % val m ((P.2 i).2.2.2 % 4) < 4 := Nat.lt_of_le_of_lt (Nat.mod_le _ _) hb
      have k2' : (stI s3 0 11 0).1 2 (12 * p + i) = nI (P.2 i).2.1 := by rw [stI_nk (by decide)]; exact k2
      simp (config := { decide := true }) only [a, if_true, if_false, if_neg hz, if_neg nz0, nz1, chk_t, rem4 _ hb _ hc (by omega), k2', wx _ hr, Option.bind_some]
      refine ⟨_, rfl, ((f2.st _ ⟨rfl, by omega⟩).st _ ⟨rfl, by omega⟩).st _ ⟨rfl, by omega⟩, ?_⟩
      rw [stI_same, stI_ne (by decide), stI_ne (by decide), stI_ne (by decide), stI_same, stI_ne (by decide), stI_ne (by decide), stI_same, g9, num]
  · have hv := val_lt m (P.2 i).2.1
    by_cases hz : val m (P.2 i).2.1 = 0
    · simp (config := { decide := true }) only [a, if_true, if_false, q2, hz, Option.bind_some, g9]
      exact ⟨_, rfl, setl _⟩
    · have n0 : ¬ (nI (val m (P.2 i).2.1) ≤ (0 : Int32)) := nI_nle (by omega) (by omega)
      simp (config := { decide := true }) only [a, if_true, if_false, q2, if_neg hz, if_neg n0, Option.bind_some, hel s3 _ k5 (show (P.2 i).2.2.1 < 100 by have := v3 a; omega)]
      exact ⟨_, rfl, setl _⟩
  · simp (config := { decide := true }) only [a, if_true, if_false]
    exact ⟨_, rfl, f2, by rw [g9, g10, g11, num]⟩
  · simp (config := { decide := true }) only [a, if_true, if_false]
    refine ⟨_, rfl, f2.st _ ⟨rfl, by omega⟩, ?_⟩
    rw [stI_same, stI_ne (by decide), stI_ne (by decide), g10, g11, num2]
/-- the table of a PROGRAM is laid -/
def Laid (σ : St) (p : Nat) (P : Pg) : Prop := ∀ i m, i < P.1 → m < 256 → σ.1 8 (256 * (12 * p + i) + m) = nI (cod P i m)
/-- what laying a table may change -/
def SL (p : Nat) (k j : Nat) : Prop := S3 k j ∨ (k = 8 ∧ 3072 * p ≤ j ∧ j < 3072 * p + 3072) ∨ (k = 7 ∧ j = p)
theorem PM.fr {σ σ' : St} {p : Nat} {P : Pg} {S : Nat → Nat → Prop} (h : PM σ p P) (hf : Fr S σ σ') (hs : ∀ k j, S k j → k = 0 ∨ 6 < k) : PM σ' p P := by
  have e : ∀ k j, 0 < k → k ≤ 6 → σ'.1 k j = σ.1 k j := fun k j h1 h2 => hf.1 k j (fun q => by have := hs k j q; omega)
  refine ⟨by rw [e 5 p (by decide) (by decide)]; exact h.1, fun i hi => ?_⟩
  obtain ⟨a, b, c, d⟩ := h.2 i hi
  exact ⟨by rw [e 1 _ (by decide) (by decide)]; exact a, by rw [e 2 _ (by decide) (by decide)]; exact b, by rw [e 3 _ (by decide) (by decide)]; exact c, by rw [e 4 _ (by decide) (by decide)]; exact d⟩
theorem SL_hs {p : Nat} : ∀ k j, SL p k j → k = 0 ∨ 6 < k := by
  rintro k j (⟨h, _⟩ | ⟨h, _⟩ | ⟨h, _⟩) <;> omega
theorem p_lay23 {σ : St} {p i : Nat} {P : Pg} (hV : VP P) (hM : PM σ p P) (hp : p < 4) (hi : i < P.1) : ∃ σ', wh FU (b_X9_layTable_23 (nI p) (nI i)) ((0 : Int32), σ) = some σ' ∧ ((∀ m, m < 256 → σ'.1 8 (256 * (12 * p + i) + m) = nI (cod P i m)) ∧ Fr (fun k j => S3 k j ∨ (k = 8 ∧ 256 * (12 * p + i) ≤ j ∧ j < 256 * (12 * p + i) + 256)) σ σ') := by
  have h12 := hV.1
  refine wh_cnt 256 (fun k s => s.1 = nI k ∧ (∀ m, m < k → s.2.1 8 (256 * (12 * p + i) + m) = nI (cod P i m)) ∧ Fr (fun k j => S3 k j ∨ (k = 8 ∧ 256 * (12 * p + i) ≤ j ∧ j < 256 * (12 * p + i) + 256)) σ s.2) _ ?_ ?_ FU 0 _ (by decide) ⟨rfl, fun m h => absurd h (Nat.not_lt_zero m), Fr.refl _ _⟩ (by decide)
  · rintro k ⟨x, s⟩ hk ⟨rfl, e1, e2⟩
    left
    dsimp only at e1 e2
    have hc : ¬ ((256 : Int32) ≤ nI k) := nI_ge hk (by decide)
    have hMs : PM s p P := hM.fr e2 (by rintro k j (⟨h, _⟩ | ⟨h, _⟩) <;> omega)
    obtain ⟨s', f1, f2, f3⟩ := p_work hV hMs hp hi hk
    have ha : (256 : Int32) * ((12 : Int32) * nI p + nI i) + nI k = nI (256 * (12 * p + i) + k) := by rw [L256, L12, pk_mul, nI_add, pk_mul, nI_add]
    refine ⟨(nI (k + 1), stI s' 8 (256 * (12 * p + i) + k) (nI (cod P i k))), ?_, rfl, ?_, ?_⟩
    · simp only [b_X9_layTable_23, un_, if_neg hc, f1, Option.bind_some, ha, inb_nI (show 256 * (12 * p + i) + k < 12288 by omega) (by decide : 12288 < 2 ^ 31), chk_t, nm_, nI_clamp (show 256 * (12 * p + i) + k < 2 ^ 31 by omega), f3, nI_1]
    · intro m hm
      show (stI s' 8 _ _).1 8 _ = _
      rw [stI_v]
      by_cases h : m = k
      · subst h; rw [if_pos ⟨rfl, rfl⟩]
      · rw [if_neg (by omega), f2.1 8 _ (by rintro ⟨h, _⟩; omega)]
        exact e1 m (by omega)
    · exact (e2.trans (f2.mono (fun k j h => Or.inl h))).st _ (Or.inr ⟨rfl, by omega, by omega⟩)
  · rintro ⟨x, s⟩ ⟨rfl, e1, e2⟩
    exact ⟨s, by simp only [b_X9_layTable_23, un_]; rfl, e1, e2⟩
/-- layTable: behind it the table is laid, if it was as it says before -/
theorem p_lay {σ : St} {p : Nat} {P : Pg} (hV : VP P) (hM : PM σ p P) (hp : p < 4) (hb : σ.1 7 p = 0 ∨ σ.1 7 p = 1) (hL : σ.1 7 p = 1 → Laid σ p P) : ∃ σ', f_X9_layTable (nI p) σ = some σ' ∧ Laid σ' p P ∧ σ'.1 7 p = 1 ∧ Fr (SL p) σ σ' := by
  have h12 := hV.1
  have ip : inb (nI p) 4 = true := inb_nI hp (by decide)
  have cp : (nI p).toNatClampNeg = p := nI_clamp (by omega)
  have key : ∃ σ', wh FU (b_X9_layTable_2 (nI p)) ((0 : Int32), σ) = some σ' ∧ (Laid σ' p P ∧ Fr (SL p) σ σ') := by
    rcases hb with h0 | h1
    · refine wh_cnt P.1 (fun k s => s.1 = nI k ∧ (∀ i m, i < k → m < 256 → s.2.1 8 (256 * (12 * p + i) + m) = nI (cod P i m)) ∧ Fr (fun k j => SL p k j ∧ k ≠ 7) σ s.2) _ ?_ ?_ FU 0 _ (Nat.zero_le _) ⟨rfl, fun i m h => absurd h (Nat.not_lt_zero i), Fr.refl _ _⟩ (by rw [FU_]; omega)
      · rintro k ⟨x, s⟩ hk ⟨rfl, e1, e2⟩
        left
        dsimp only at e1 e2
        have hMs : PM s p P := hM.fr e2 (fun k j h => SL_hs k j h.1)
        have h7 : s.1 7 p = 0 := by rw [e2.1 7 p (fun h => h.2 rfl)]; exact h0
        have hc : ¬ (nI P.1 ≤ nI k) := nI_ge hk (by omega)
        obtain ⟨s', f1, f2, f3⟩ := p_lay23 hV hMs hp hk
        refine ⟨(nI (k + 1), s'), ?_, rfl, ?_, ?_⟩
        · simp only [b_X9_layTable_2, un_, ip, chk_t, cp, hMs.1, if_neg hc, h7, if_true, f1, Option.bind_some, nm_, nI_1]
        · intro i m hi hm
          show s'.1 8 _ = _
          by_cases h : i = k
          · subst h; exact f2 m hm
          · rw [f3.1 8 _ (by rintro (⟨h, _⟩ | ⟨_, h1, h2⟩) <;> omega)]
            exact e1 i m (by omega) hm
        · refine e2.trans (f3.mono ?_)
          rintro k' j' (h | ⟨h1, h2, h3⟩)
          · exact ⟨Or.inl h, by have := h.1; omega⟩
          · exact ⟨Or.inr (Or.inl ⟨h1, by omega, by omega⟩), by omega⟩
      · rintro ⟨x, s⟩ ⟨rfl, e1, e2⟩
        have hMs : PM s p P := hM.fr e2 (fun k j h => SL_hs k j h.1)
        refine ⟨s, ?_, e1, e2.mono (fun k j h => h.1)⟩
        simp only [b_X9_layTable_2, un_, ip, chk_t, cp, hMs.1, if_pos (nI_le (Nat.le_refl P.1) (show P.1 < 2 ^ 31 by omega))]
    · refine ⟨σ, ?_, hL h1, Fr.refl _ _⟩
      show (b_X9_layTable_2 (nI p) ((0 : Int32), σ)).bind _ = _
      simp only [b_X9_layTable_2, un_, ip, chk_t, cp, hM.1]
      by_cases hz : nI P.1 ≤ (0 : Int32)
      · rw [if_pos hz]; rfl
      · rw [if_neg hz, h1, if_neg (by decide)]; rfl
  obtain ⟨s, e1, e2, e3⟩ := key
  refine ⟨stI s 7 p 1, ?_, fun i m hi hm => ?_, stI_same _ _ _ _, e3.st _ (Or.inr (Or.inr ⟨rfl, rfl⟩)) (Or.inr rfl)⟩
  · unfold f_X9_layTable
    rw [e1, Option.bind_some, ip, chk_t, nm_, cp]
  · rw [stI_nk (by decide)]; exact e2 i m hi hm
/-- step: the three slots tell where it comes to -/
theorem p_stepM {σ : St} {p i m c : Nat} (hp : p < 4) (hi : i < 12) (hm : m < 256) (hc : c < 8192) (hL : σ.1 8 (256 * (12 * p + i) + m) = nI c) : ∃ σ', f_X9_step (nI p) (nI i) (nI m) σ = some σ' ∧ σ'.1 0 11 = nI (c / 4096) ∧ σ'.1 0 9 = nI (c / 256 % 16) ∧ σ'.1 0 10 = nI (c % 256) ∧ Fr S3 σ σ' := by
  have ha : (256 : Int32) * ((12 : Int32) * nI p + nI i) + nI m = nI (256 * (12 * p + i) + m) := by rw [L256, L12, pk_mul, nI_add, pk_mul, nI_add]
  refine ⟨_, ?_, ?_, ?_, ?_, ((((Fr.refl S3 σ).st (nI (c / 4096)) (k := 0) (j := 11) ⟨rfl, by omega⟩).st (nI (c / 256 % 16)) (k := 0) (j := 9) ⟨rfl, by omega⟩).st (nI (c % 256)) (k := 0) (j := 10) ⟨rfl, by omega⟩)⟩
  · unfold f_X9_step
    simp only [ha, inb_nI (show 256 * (12 * p + i) + m < 12288 by omega) (by decide : 12288 < 2 ^ 31), chk_t, nI_clamp (show 256 * (12 * p + i) + m < 2 ^ 31 by omega), hL, nm_]
    rw [pk_shrN (by omega) _ 12 (by decide), pk_shrN (by omega) _ 8 (by decide), show (15 : Int32) = nI (2 ^ 4 - 1) from rfl, fa_mask, show (255 : Int32) = nI (2 ^ 8 - 1) from rfl, fa_mask]
  · rw [stI_ne (by decide), stI_ne (by decide), stI_same]
  · rw [stI_ne (by decide), stI_same]
  · rw [stI_same]
