/-! ===== the class's runs ===== -/
def encL : List Nat → Nat → Nat
  | [], a => a
  | x :: l, a => encL l (4 * a + x)
/-- SHOWN by fours behind a 1 -/
def enc (l : List Nat) : Nat := encL l 1
theorem encL_app (l : List Nat) (x a : Nat) : encL (l ++ [x]) a = 4 * encL l a + x := by
  induction l generalizing a with
  | nil => rfl
  | cons y l ih => exact ih _
theorem enc_app (l : List Nat) (x : Nat) : enc (l ++ [x]) = 4 * enc l + x := encL_app l x 1
theorem encL_bd (l : List Nat) (h : ∀ x ∈ l, x < 4) (a : Nat) : a * 4 ^ l.length ≤ encL l a ∧ encL l a < (a + 1) * 4 ^ l.length := by
  induction l generalizing a with
  | nil => simp [encL]
  | cons y l ih =>
    have hy := h y (List.mem_cons_self)
    obtain ⟨h1, h2⟩ := ih (fun x hx => h x (List.mem_cons_of_mem _ hx)) (4 * a + y)
    have e : 4 ^ (y :: l).length = 4 * 4 ^ l.length := by rw [List.length_cons, Nat.pow_succ, Nat.mul_comm]
    rw [e]
    show a * (4 * 4 ^ l.length) ≤ encL l (4 * a + y) ∧ encL l (4 * a + y) < (a + 1) * (4 * 4 ^ l.length)
    generalize 4 ^ l.length = q at *
    have e1 : a * (4 * q) = (4 * a) * q := by rw [← Nat.mul_assoc, Nat.mul_comm a 4]
    have e2 : (a + 1) * (4 * q) = (4 * a + 4) * q := by rw [← Nat.mul_assoc]; congr 1; omega
    rw [e1, e2]
    constructor
    · exact Nat.le_trans (Nat.mul_le_mul_right _ (by omega)) h1
    · exact Nat.lt_of_lt_of_le h2 (Nat.mul_le_mul_right _ (by omega))
theorem enc_bd (l : List Nat) (h : ∀ x ∈ l, x < 4) : 4 ^ l.length ≤ enc l ∧ enc l < 2 * 4 ^ l.length := by
  have := encL_bd l h 1
  rw [Nat.one_mul] at this
  exact this
theorem enc_lt {l : List Nat} (h : ∀ x ∈ l, x < 4) (hl : l.length ≤ 24) : enc l < 2 ^ 49 := by
  have h1 := (enc_bd l h).2
  have h2 : 4 ^ l.length ≤ 4 ^ 24 := Nat.pow_le_pow_right (by decide) hl
  have h3 : (4 : Nat) ^ 24 = 2 ^ 48 := by decide
  omega
def cto (P : Pg) (hu m : Nat) : Nat := enc (shw P hu m 24) + endv P m * 2 ^ 50 + stp P m 24 * 2 ^ 52
def TraceRow (σ : St) (pa : Nat) (P : Pg) (hu m : Nat) : Prop := σ.1 (pa + 7) m = nI (endv P m) ∧ σ.1 (pa + 8) m = nI (sq P m 24 % 256) ∧ σ.1 (pa + 9) m = nI (hotP (sq P m 24 % 256) 4) ∧ σ.1 (pa + 10) m = nI (stp P m 24) ∧ σ.1 (pa + 11) m = nI (shw P hu m 24).length ∧ σ.2 (pa + 12) m = lN (cto P hu m) ∧ ∀ t, t ≤ stp P m 24 → σ.1 (pa + 6) (25 * m + t) = nI (if t < stp P m 24 then sq P m t else 3072 + sq P m 24 % 256)
theorem nz256 : nz (256 : Int32) = true := by decide
theorem lg0 {a b : Nat} (ha : a < 2 ^ 63) (hb : b < 2 ^ 63) : (lg_cmp (lN a) (lN b) = 0) = (a = b) := by
  unfold lg_cmp
  by_cases h : a = b
  · subst h; simp
  · have h2 : ¬ lN a = lN b := fun e => h ((fb_lN_inj ha hb).mp e)
    rw [if_neg h2]
    apply propext
    constructor
    · intro e
      split at e
      · exact absurd e (by decide)
      · exact absurd e (by decide)
    · intro e; exact absurd e h
theorem sm64 : ∀ c, c < 32 → ((((2 : Int32) * nI c).toInt64 &&& 63).toBitVec.smod 64).toNat = 2 * c := by decide +kernel
/-- shownUnder over a row of states -/
theorem p_shownUnder {σ : St} {pa m hu T : Nat} {P : Pg} (hV : VP P) (hX : PX σ pa P) (hm : m < 256) (hh : hu < 4096) (hT : T = stp P m 24) (h10 : σ.1 (pa + 10) m = nI T) (hst : ∀ t, t < T → σ.1 (pa + 6) (25 * m + t) = nI (sq P m t)) : f_X4_shownUnder pa (nI m) (nI hu) σ = some (lN (enc (shw P hu m 24))) := by
  have h12 := hV.1
  have hT24 : T ≤ 24 := by rw [hT]; exact stp_le P m 24
  have im : inb (nI m) 256 = true := inb_nI hm (by decide)
  have cm : (nI m).toNatClampNeg = m := nI_clamp (by omega)
  have hx1 : nI m * (25 : Int32) = nI (25 * m) := by rw [L25, pk_mul, Nat.mul_comm]
  have run : ∀ t, t < T → sq P m t / 256 < 12 := by
    intro t ht
    rcases Nat.lt_or_ge (sq P m t / 256) 12 with h | h
    · exact h
    · have h1 := (stay (hu := hu) (show ¬ sq P m t / 256 < 12 by omega) (24 - t)).2.1
      rw [show t + (24 - t) = 24 by omega, ← hT] at h1
      have := stp_le P m t
      omega
  have endT : shw P hu m 24 = shw P hu m T := by
    rcases Nat.lt_or_ge T 24 with h | h
    · have h1 : ¬ sq P m T / 256 < 12 := by
        intro hr
        have a := stp_run T hr
        have b : stp P m (T + 1) = T + 1 := by simp only [stp, if_pos hr, a]
        have mono : ∀ d, stp P m (T + 1) ≤ stp P m (T + 1 + d) := by
          intro d
          induction d with
          | zero => exact Nat.le_refl _
          | succ d ih => refine Nat.le_trans ih ?_; show _ ≤ stp P m (T + 1 + d + 1); simp only [stp]; split <;> omega
        have c := mono (24 - (T + 1))
        rw [show T + 1 + (24 - (T + 1)) = 24 by omega] at c
        omega
      have := (stay (hu := hu) h1 (24 - T)).2.2.2
      rw [show T + (24 - T) = 24 by omega] at this
      exact this
    · rw [show T = 24 by omega]
  have key : ∃ r, wh FU (b_X4_shownUnder_11 pa (nI m) (nI hu) σ (nI (25 * m))) ((1 : Int64), (0 : Int32)) = some r ∧ r = lN (enc (shw P hu m T)) := by
    refine wh_cnt T (fun t s => s.1 = lN (enc (shw P hu m t)) ∧ s.2 = nI t) _ ?_ ?_ FU 0 _ (Nat.zero_le _) ⟨rfl, rfl⟩ (by rw [FU_]; omega)
    · rintro t ⟨y1, y2⟩ ht ⟨rfl, rfl⟩
      left
      have hr := run t ht
      obtain ⟨o1, o2⟩ := sq_ok hV hm t
      have hl : sq P m t / 256 < P.1 := by omega
      obtain ⟨q1, q2, q3, q4⟩ := hX.2 _ hl
      obtain ⟨v1, v2, v3, v4, v5⟩ := hV.2 _ hl
      have hc : ¬ (nI T ≤ nI t) := nI_ge ht (by omega)
      have hy : nI (25 * m) + nI t = nI (25 * m + t) := nI_add _ _
      have iy : inb (nI (25 * m + t)) 6400 = true := inb_nI (by omega) (by decide)
      have cy_ : (nI (25 * m + t)).toNatClampNeg = 25 * m + t := nI_clamp (by omega)
      have d1 := div256 (n := sq P m t) (by omega)
      have d2 := rem256 (n := sq P m t) (by omega)
      rw [d1] at d2
      have hc2 : ¬ ((12 : Int32) ≤ nI (sq P m t / 256)) := nI_ge hr (by decide)
      have il : inb (nI (sq P m t / 256)) 12 = true := inb_nI hr (by decide)
      have cl : (nI (sq P m t / 256)).toNatClampNeg = sq P m t / 256 := nI_clamp (by omega)
      refine ⟨(lN (enc (shw P hu m (t + 1))), nI (t + 1)), ?_, rfl, rfl⟩
      by_cases k6 : (P.2 (sq P m t / 256)).1 = 6
      · have k6' : nI (P.2 (sq P m t / 256)).1 = (6 : Int32) := by rw [k6]; rfl
        by_cases hb : hu / 2 ^ (sq P m t / 256) % 2 = 0
        · have b0 : ((nI hu >>> (nI (sq P m t / 256) &&& 31)) &&& (1 : Int32)) = 0 := by rw [bit0 (by omega) (by omega)]; exact hb
          have sh1 : shw P hu m (t + 1) = shw P hu m t ++ [val (sq P m t % 256) (P.2 (sq P m t / 256)).2.1] := by simp only [shw]; rw [if_pos ⟨hr, k6, hb⟩]
          have hv := val_lt (sq P m t % 256) (P.2 (sq P m t / 256)).2.1
          have ee : (lN (enc (shw P hu m t)) <<< ((2 : Int32).toInt64 &&& 63)) ||| (nI (val (sq P m t % 256) (P.2 (sq P m t / 256)).2.1)).toInt64 = lN (enc (shw P hu m (t + 1))) := by
            rw [L2, wb_shl _ (by decide), nI_l (by omega), fb_orL, sh1, enc_app, Nat.mul_comm, Nat.two_pow_add_eq_or_of_lt (show val (sq P m t % 256) (P.2 (sq P m t / 256)).2.1 < 2 ^ 2 by omega)]
          simp only [b_X4_shownUnder_11, un_, im, chk_t, cm, h10, if_neg hc, hy, iy, cy_, hst t ht, nm_, nz256, d1, if_neg hc2, il, cl, q1, k6', if_true, b0, d2, q2, p_valueOfX (sq P m t % 256) (by omega) (P.2 (sq P m t / 256)).2.1 (by omega), Option.bind_some, ee, nI_1]
        · have b0 : ¬ (((nI hu >>> (nI (sq P m t / 256) &&& 31)) &&& (1 : Int32)) = 0) := by rw [bit0 (by omega) (by omega)]; exact hb
          have sh1 : shw P hu m (t + 1) = shw P hu m t := by simp only [shw]; rw [if_neg (fun q => hb q.2.2)]
          simp only [b_X4_shownUnder_11, un_, im, chk_t, cm, h10, if_neg hc, hy, iy, cy_, hst t ht, nm_, nz256, d1, if_neg hc2, il, cl, q1, k6', if_true, if_neg b0, nI_1, sh1]
      · have k6' : ¬ (nI (P.2 (sq P m t / 256)).1 = (6 : Int32)) := by rw [L6, eq_nI (by omega) (by decide)]; exact k6
        have sh1 : shw P hu m (t + 1) = shw P hu m t := by simp only [shw]; rw [if_neg (fun q => k6 q.2.1)]
        simp only [b_X4_shownUnder_11, un_, im, chk_t, cm, h10, if_neg hc, hy, iy, cy_, hst t ht, nm_, nz256, d1, if_neg hc2, il, cl, q1, if_neg k6', nI_1, sh1]
    · rintro ⟨y1, y2⟩ ⟨rfl, rfl⟩
      refine ⟨_, ?_, rfl⟩
      simp only [b_X4_shownUnder_11, un_, im, chk_t, cm, h10, if_pos (nI_le (Nat.le_refl T) (show T < 2 ^ 31 by omega))]
  obtain ⟨r, e, rfl⟩ := key
  unfold f_X4_shownUnder
  rw [nm_, hx1, e, Option.bind_some, endT]
theorem p_countShown {l : List Nat} (h4 : ∀ x ∈ l, x < 4) (hl : l.length ≤ 24) : f_X4_countShown (lN (enc l)) = some (nI l.length) := by
  have hb := enc_bd l h4
  have hlt := enc_lt h4 hl
  have key : ∃ r, wh FU (b_X4_countShown_2 (lN (enc l))) (0 : Int32) = some r ∧ r = nI l.length := by
    refine wh_cnt l.length (fun c s => s = nI c) _ ?_ ?_ FU 0 _ (Nat.zero_le _) rfl (by rw [FU_]; omega)
    · rintro c _ hc rfl
      left
      have hc1 : ¬ ((24 : Int32) ≤ nI c) := nI_ge (show c < 24 by omega) (by decide)
      have es : lN (enc l) >>> (((2 : Int32) * nI c).toInt64 &&& 63) = lN (enc l / 2 ^ (2 * c)) := pf_shr (sm64 c (by omega)) (by omega)
      have hne : ¬ enc l / 2 ^ (2 * c) = 1 := by
        have e4 : 2 ^ (2 * c) = 4 ^ c := by rw [Nat.pow_mul]
        have h1 : 4 ^ (c + 1) ≤ 4 ^ l.length := Nat.pow_le_pow_right (by decide) hc
        have h2 : 4 ^ (c + 1) = 4 * 4 ^ c := by rw [Nat.pow_succ, Nat.mul_comm]
        have hp : 0 < 4 ^ c := Nat.pow_pos (by decide)
        rw [e4]
        have h3 : 4 ≤ enc l / 4 ^ c := (Nat.le_div_iff_mul_le hp).mpr (by omega)
        omega
      refine ⟨nI (c + 1), ?_, rfl⟩
      have hq : enc l / 2 ^ (2 * c) < 2 ^ 63 := Nat.lt_of_le_of_lt (Nat.div_le_self _ _) (by omega)
      have hk : ¬ (lg_cmp (lN (enc l / 2 ^ (2 * c))) (1 : Int64) = 0) := by
        rw [show (1 : Int64) = lN 1 from rfl, lg0 hq (by decide)]; exact hne
      simp only [b_X4_countShown_2, if_neg hc1, es, if_neg hk, nm_, nI_1]
    · rintro _ rfl
      refine ⟨nI l.length, ?_, rfl⟩
      by_cases h24 : (24 : Int32) ≤ nI l.length
      · simp only [b_X4_countShown_2, if_pos h24]
      · have es : lN (enc l) >>> (((2 : Int32) * nI l.length).toInt64 &&& 63) = lN (enc l / 2 ^ (2 * l.length)) := pf_shr (sm64 l.length (by omega)) (by omega)
        have e4 : 2 ^ (2 * l.length) = 4 ^ l.length := by rw [Nat.pow_mul]
        have hp : 0 < 4 ^ l.length := Nat.pow_pos (by decide)
        have h1 : enc l / 4 ^ l.length = 1 := by
          have a : 1 ≤ enc l / 4 ^ l.length := (Nat.le_div_iff_mul_le hp).mpr (by omega)
          have b : enc l / 4 ^ l.length < 2 := (Nat.div_lt_iff_lt_mul hp).mpr hb.2
          omega
        have hk : lg_cmp (lN (enc l / 2 ^ (2 * l.length))) (1 : Int64) = 0 := by
          rw [e4, h1]; decide
        simp only [b_X4_countShown_2, if_neg h24, es, if_pos hk]
  obtain ⟨r, e, rfl⟩ := key
  unfold f_X4_countShown
  rw [e]; rfl
