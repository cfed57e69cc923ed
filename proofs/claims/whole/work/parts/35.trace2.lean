/-! ===== trace ===== -/
def FX (S S2 : Nat → Nat → Prop) (σ σ' : St) : Prop := (∀ k j, ¬ S k j → σ'.1 k j = σ.1 k j) ∧ (∀ k j, ¬ S2 k j → σ'.2 k j = σ.2 k j)
theorem FX.refl (S S2 : Nat → Nat → Prop) (σ : St) : FX S S2 σ σ := ⟨fun _ _ _ => rfl, fun _ _ _ => rfl⟩
theorem FX.trans {S S2 : Nat → Nat → Prop} {a b c : St} (h1 : FX S S2 a b) (h2 : FX S S2 b c) : FX S S2 a c := ⟨fun k j h => (h2.1 k j h).trans (h1.1 k j h), fun k j h => (h2.2 k j h).trans (h1.2 k j h)⟩
theorem FX.mono {S S' S2 S2' : Nat → Nat → Prop} {a b : St} (h : FX S S2 a b) (hs : ∀ k j, S k j → S' k j) (hs2 : ∀ k j, S2 k j → S2' k j) : FX S' S2' a b := ⟨fun k j hn => h.1 k j (fun q => hn (hs k j q)), fun k j hn => h.2 k j (fun q => hn (hs2 k j q))⟩
theorem FX.st {S S2 : Nat → Nat → Prop} {a b : St} {k j : Nat} (x : Int32) (h : FX S S2 a b) (hk : S k j) : FX S S2 a (stI b k j x) := ⟨fun k' j' hn => by rw [stI_ne (fun e => hn (by rw [e.1, e.2]; exact hk))]; exact h.1 k' j' hn, h.2⟩
theorem FX.stl {S S2 : Nat → Nat → Prop} {a b : St} {k j : Nat} (x : Int64) (h : FX S S2 a b) (hk : S2 k j) : FX S S2 a (stL b k j x) := ⟨h.1, fun k' j' hn => by rw [stL_ne (fun e => hn (by rw [e.1, e.2]; exact hk))]; exact h.2 k' j' hn⟩
/-- what the run of a START may change -/
def ST (pa m k j : Nat) : Prop := ((k = pa + 5 ∨ (pa + 7 ≤ k ∧ k ≤ pa + 11)) ∧ j = m) ∨ (k = pa + 6 ∧ 25 * m ≤ j ∧ j < 25 * m + 25)
def ST2 (pa m k j : Nat) : Prop := k = pa + 12 ∧ j = m
theorem PX.fx {σ σ' : St} {pa : Nat} {P : Pg} {S S2 : Nat → Nat → Prop} (h : PX σ pa P) (hf : FX S S2 σ σ') (hs : ∀ k j, S k j → k < pa ∨ pa + 4 < k ∨ (k = pa ∧ 5 ≠ j)) : PX σ' pa P := by
  have e : ∀ k j, pa < k → k ≤ pa + 4 → σ'.1 k j = σ.1 k j := fun k j h1 h2 => hf.1 k j (fun q => by have := hs k j q; omega)
  refine ⟨by rw [hf.1 pa 5 (fun q => by have := hs pa 5 q; omega)]; exact h.1, fun i hi => ?_⟩
  obtain ⟨a, b, c, d⟩ := h.2 i hi
  exact ⟨by rw [e _ _ (by omega) (by omega)]; exact a, by rw [e _ _ (by omega) (by omega)]; exact b, by rw [e _ _ (by omega) (by omega)]; exact c, by rw [e _ _ (by omega) (by omega)]; exact d⟩
theorem ST_hs {pa m : Nat} : ∀ k j, ST pa m k j → k < pa ∨ pa + 4 < k ∨ (k = pa ∧ 5 ≠ j) := by
  rintro k j (⟨h | h, _⟩ | ⟨h, _⟩) <;> omega
/-- the end of trace -/
def tl (pa : Nat) (start e x6 z3 : Int32) (s6 : St) : Option St := chk (inb start 256) (nm (stI s6 (pa + 7) start.toNatClampNeg e) fun s7 => chk (inb start 256) (nm (stI s7 (pa + 8) start.toNatClampNeg x6) fun s8 => chk (inb x6 256) (chk (inb start 256) (nm (stI s8 (pa + 9) start.toNatClampNeg (s8.1 1 x6.toNatClampNeg)) fun s9 => chk (inb start 256) (nm (stI s9 (pa + 10) start.toNatClampNeg z3) fun s10 => (f_X4_shownUnder pa start (s10.1 pa 6) s10).bind fun r3 => (f_X4_countShown r3).bind fun r4 => chk (inb start 256) (nm (stI s10 (pa + 11) start.toNatClampNeg r4) fun s11 => chk (inb start 256) (nm (stL s11 (pa + 12) start.toNatClampNeg ((r3 ||| (e.toInt64 <<< ((50 : Int32).toInt64 &&& 63))) ||| (z3.toInt64 <<< ((52 : Int32).toInt64 &&& 63)))) fun s12 => chk (inb start 256) (nm (stI s12 (pa + 5) start.toNatClampNeg (s12.1 pa 7)) fun s13 => some s13))))))))
theorem p_tl {σ : St} {pa m hu : Nat} {P : Pg} (hpa : 4 ≤ pa) (hV : VP P) (hX : PX σ pa P) (hm : m < 256) (hh : hu < 4096) (hH : σ.1 pa 6 = nI hu) (hhot : ∀ x, x < 256 → σ.1 1 x = nI (hotP x 4)) (hst : ∀ t, t ≤ stp P m 24 → σ.1 (pa + 6) (25 * m + t) = nI (if t < stp P m 24 then sq P m t else 3072 + sq P m 24 % 256)) : ∃ σ', tl pa (nI m) (nI (endv P m)) (nI (sq P m 24 % 256)) (nI (stp P m 24)) σ = some σ' ∧ TraceRow σ' pa P hu m ∧ σ'.1 (pa + 5) m = σ.1 pa 7 ∧ FX (ST pa m) (ST2 pa m) σ σ' := by
  have im : inb (nI m) 256 = true := inb_nI hm (by decide)
  have cm : (nI m).toNatClampNeg = m := nI_clamp (by omega)
  have hlast : sq P m 24 % 256 < 256 := Nat.mod_lt _ (by decide)
  have il : inb (nI (sq P m 24 % 256)) 256 = true := inb_nI hlast (by decide)
  have cl : (nI (sq P m 24 % 256)).toNatClampNeg = sq P m 24 % 256 := nI_clamp (by omega)
  have hT24 := stp_le P m 24
  have hend : endv P m ≤ 2 := by unfold endv; split; exact Nat.le_refl 2; exact Nat.le_trans (rf_le hV hm 24) (by decide)
  have h4 := shw_lt4 P hu m 24
  have hlen := shw_len P hu m 24
  have hen := enc_lt h4 hlen
  generalize hs10 : stI (stI (stI (stI σ (pa + 7) m (nI (endv P m))) (pa + 8) m (nI (sq P m 24 % 256))) (pa + 9) m (nI (hotP (sq P m 24 % 256) 4))) (pa + 10) m (nI (stp P m 24)) = s10
  have F10 : FX (ST pa m) (ST2 pa m) σ s10 := by
    rw [← hs10]
    exact ((((FX.refl _ _ σ).st _ (Or.inl ⟨by omega, rfl⟩)).st _ (Or.inl ⟨by omega, rfl⟩)).st _ (Or.inl ⟨by omega, rfl⟩)).st _ (Or.inl ⟨by omega, rfl⟩)
  have hX10 : PX s10 pa P := hX.fx F10 ST_hs
  have e6 : ∀ j, s10.1 (pa + 6) j = σ.1 (pa + 6) j := fun j => by rw [← hs10, stI_nk (by omega), stI_nk (by omega), stI_nk (by omega), stI_nk (by omega)]
  have epa : ∀ j, s10.1 pa j = σ.1 pa j := fun j => by rw [← hs10, stI_nk (by omega), stI_nk (by omega), stI_nk (by omega), stI_nk (by omega)]
  have e10 : s10.1 (pa + 10) m = nI (stp P m 24) := by rw [← hs10, stI_same]
  have su := p_shownUnder (hu := hu) hV hX10 hm hh rfl e10 (fun t ht => by rw [e6, hst t (by omega), if_pos ht])
  have cs := p_countShown h4 hlen
  have num : (lN (enc (shw P hu m 24)) ||| ((nI (endv P m)).toInt64 <<< ((50 : Int32).toInt64 &&& 63))) ||| ((nI (stp P m 24)).toInt64 <<< ((52 : Int32).toInt64 &&& 63)) = lN (cto P hu m) := by
    rw [nI_l (by omega), nI_l (by omega), L50, L52, wb_shl _ (by decide), wb_shl _ (by decide), fb_orL, fb_orL]
    congr 1
    unfold cto
    have a1 : enc (shw P hu m 24) ||| endv P m * 2 ^ 50 = enc (shw P hu m 24) + endv P m * 2 ^ 50 := by
      rw [Nat.or_comm, Nat.mul_comm, ← Nat.two_pow_add_eq_or_of_lt (by omega), Nat.add_comm]
    rw [a1, Nat.or_comm, Nat.mul_comm (stp P m 24), ← Nat.two_pow_add_eq_or_of_lt (show enc (shw P hu m 24) + endv P m * 2 ^ 50 < 2 ^ 52 by omega), Nat.add_comm, Nat.mul_comm (2 ^ 52)]
  refine ⟨stI (stL (stI s10 (pa + 11) m (nI (shw P hu m 24).length)) (pa + 12) m (lN (cto P hu m))) (pa + 5) m (σ.1 pa 7), ?_, ?_, stI_same _ _ _ _, ((F10.st _ (Or.inl ⟨by omega, rfl⟩)).stl _ ⟨rfl, rfl⟩).st _ (Or.inl ⟨by omega, rfl⟩)⟩
  · have h1 : (stI (stI σ (pa + 7) m (nI (endv P m))) (pa + 8) m (nI (sq P m 24 % 256))).1 1 (sq P m 24 % 256) = nI (hotP (sq P m 24 % 256) 4) := by rw [stI_nk (by omega), stI_nk (by omega)]; exact hhot _ hlast
    have h2 : (stL (stI s10 (pa + 11) m (nI (shw P hu m 24).length)) (pa + 12) m (lN (cto P hu m))).1 pa 7 = σ.1 pa 7 := by rw [stL_1, stI_nk (by omega)]; exact epa 7
    unfold tl
    simp only [im, chk_t, nm_, cm, il, cl, h1, hs10, epa, hH, su, Option.bind_some, cs, num, h2]
  · refine ⟨?_, ?_, ?_, ?_, ?_, ?_, ?_⟩
    · rw [stI_nk (by omega), stL_1, stI_nk (by omega), ← hs10, stI_nk (by omega), stI_nk (by omega), stI_nk (by omega), stI_same]
    · rw [stI_nk (by omega), stL_1, stI_nk (by omega), ← hs10, stI_nk (by omega), stI_nk (by omega), stI_same]
    · rw [stI_nk (by omega), stL_1, stI_nk (by omega), ← hs10, stI_nk (by omega), stI_same]
    · rw [stI_nk (by omega), stL_1, stI_nk (by omega)]; exact e10
    · rw [stI_nk (by omega), stL_1, stI_same]
    · rw [stI_2, stL_same]
    · intro t ht
      rw [stI_nk (by omega), stL_1, stI_nk (by omega), e6]; exact hst t ht
theorem n1_ : nI 1 = (1 : Int32) := rfl
theorem and4095 {n : Nat} : nI n &&& (4095 : Int32) = nI (n % 4096) := fa_mask n 12
theorem p_trace50 {σ : St} {pa m : Nat} {P : Pg} (hpa : 4 ≤ pa) (hV : VP P) (hX : PX σ pa P) (hm : m < 256) (h0 : σ.1 (pa + 6) (25 * m) = nI (sq P m 0)) : ∃ r, wh FU (b_X4_trace_50 pa (nI (25 * m))) (nI (sq P m 0), (0 : Int32), (0 : Int32), σ) = some r ∧ (r.1 = nI (sq P m 24) ∧ r.2.1 = nI (rf P m 24) ∧ r.2.2.1 = nI (stp P m 24) ∧ (∀ t, t ≤ stp P m 24 → r.2.2.2.1 (pa + 6) (25 * m + t) = nI (sq P m t)) ∧ FX (fun k j => k = pa + 6 ∧ 25 * m ≤ j ∧ j < 25 * m + 25) (fun _ _ => False) σ r.2.2.2) := by
  have h12 := hV.1
  refine wh_cnt 24 (fun t s => (s.1 = nI (sq P m t) ∧ s.2.1 = nI (rf P m t) ∧ s.2.2.1 = nI t ∧ stp P m t = t) ∧ (∀ t', t' ≤ t → s.2.2.2.1 (pa + 6) (25 * m + t') = nI (sq P m t')) ∧ FX (fun k j => k = pa + 6 ∧ 25 * m ≤ j ∧ j < 25 * m + 25) (fun _ _ => False) σ s.2.2.2) _ ?_ ?_ FU 0 _ (by decide) ⟨⟨rfl, rfl, rfl, rfl⟩, ?_, FX.refl _ _ _⟩ (by decide)
  · rintro t ⟨y1, y2, y3, s⟩ ht ⟨⟨rfl, rfl, rfl, e4⟩, e5, e6⟩
    dsimp only at e5 e6
    obtain ⟨o1, o2⟩ := sq_ok hV hm t
    have d1 := div256 (n := sq P m t) (by omega)
    have d2 := rem256 (n := sq P m t) (by omega)
    rw [d1] at d2
    have hc1 : ¬ ((24 : Int32) ≤ nI t) := nI_ge ht (by decide)
    by_cases hr : sq P m t / 256 < 12
    · left
      have hl : sq P m t / 256 < P.1 := by omega
      have hc2 : ¬ ((12 : Int32) ≤ nI (sq P m t / 256)) := nI_ge hr (by decide)
      have hXs : PX s pa P := hX.fx e6 (by rintro k j ⟨h, _⟩; omega)
      have stp_ := p_stepped hV hXs hl (show sq P m t % 256 < 256 by omega)
      obtain ⟨cl1, cl2, cl3⟩ := cod_lt hV hl (show sq P m t % 256 < 256 by omega)
      have st1 : sq P m (t + 1) = cod P (sq P m t / 256) (sq P m t % 256) % 4096 := by simp only [sq, if_pos hr]
      have rf1 : rf P m (t + 1) = cod P (sq P m t / 256) (sq P m t % 256) / 4096 := by simp only [rf, if_pos hr]
      have sp1 : stp P m (t + 1) = t + 1 := by simp only [stp, if_pos hr, e4]
      have hy : nI (25 * m) + nI (t + 1) = nI (25 * m + (t + 1)) := nI_add _ _
      have iy : inb (nI (25 * m + (t + 1))) 6400 = true := inb_nI (by omega) (by decide)
      have cy_ : (nI (25 * m + (t + 1))).toNatClampNeg = 25 * m + (t + 1) := nI_clamp (by omega)
      refine ⟨(nI (sq P m (t + 1)), nI (rf P m (t + 1)), nI (t + 1), stI s (pa + 6) (25 * m + (t + 1)) (nI (sq P m (t + 1)))), ?_, ⟨rfl, rfl, rfl, sp1⟩, ?_, e6.st _ ⟨rfl, by omega, by omega⟩⟩
      · by_cases h4 : cod P (sq P m t / 256) (sq P m t % 256) < 4096
        · have c4 : nI (cod P (sq P m t / 256) (sq P m t % 256)) < (4096 : Int32) := nI_lt h4 (by decide)
          have r0 : rf P m (t + 1) = 0 := by rw [rf1]; omega
          simp only [b_X4_trace_50, un_, if_neg hc1, nz256, chk_t, d1, if_neg hc2, d2, stp_, Option.bind_some, if_pos c4, and4095, nm_, nI_1, hy, iy, cy_, ← st1, r0, nI_0]
        · have c4 : ¬ (nI (cod P (sq P m t / 256) (sq P m t % 256)) < (4096 : Int32)) := nI_nlt (show 4096 ≤ _ by omega) (by omega)
          have r0 : rf P m (t + 1) = 1 := by rw [rf1]; omega
          simp only [b_X4_trace_50, un_, if_neg hc1, nz256, chk_t, d1, if_neg hc2, d2, stp_, Option.bind_some, if_neg c4, and4095, nm_, nI_1, hy, iy, cy_, ← st1, r0, n1_]
      · intro t' ht'
        show (stI s (pa + 6) (25 * m + (t + 1)) (nI (sq P m (t + 1)))).1 (pa + 6) (25 * m + t') = _
        rw [stI_v]
        by_cases h : t' = t + 1
        · subst h; rw [if_pos ⟨rfl, rfl⟩]
        · rw [if_neg (by omega)]; exact e5 t' (by omega)
    · right
      obtain ⟨s1_, s2_, s3_, s4_⟩ := stay (hu := 0) hr (24 - t)
      rw [show t + (24 - t) = 24 by omega] at s1_ s2_ s3_ s4_
      have o3 : sq P m t / 256 = 12 := by omega
      refine ⟨(nI (sq P m t), nI (rf P m t), nI t, s), ?_, by rw [s1_], by rw [s3_], by rw [s2_, e4], by rw [s2_, e4]; exact e5, e6⟩
      simp only [b_X4_trace_50, un_, if_neg hc1, nz256, chk_t, d1, o3]
      rfl
  · rintro ⟨y1, y2, y3, s⟩ ⟨⟨rfl, rfl, rfl, e4⟩, e5, e6⟩
    refine ⟨(nI (sq P m 24), nI (rf P m 24), nI 24, s), ?_, rfl, rfl, by rw [e4], by rw [e4]; exact e5, e6⟩
    simp only [b_X4_trace_50, un_]
    rfl
  · intro t' ht'
    have : t' = 0 := by omega
    subst this
    exact h0
theorem p_trace {σ : St} {pa m hu : Nat} {P : Pg} (hpa : 4 ≤ pa) (hV : VP P) (hX : PX σ pa P) (hm : m < 256) (hh : hu < 4096) (hH : σ.1 pa 6 = nI hu) (hhot : ∀ x, x < 256 → σ.1 1 x = nI (hotP x 4)) (hmade : σ.1 (pa + 5) m = σ.1 pa 7 → TraceRow σ pa P hu m) : ∃ σ', f_X4_trace pa (nI m) σ = some σ' ∧ TraceRow σ' pa P hu m ∧ σ'.1 (pa + 5) m = σ.1 pa 7 ∧ FX (ST pa m) (ST2 pa m) σ σ' := by
  have h12 := hV.1
  have im : inb (nI m) 256 = true := inb_nI hm (by decide)
  have cm : (nI m).toNatClampNeg = m := nI_clamp (by omega)
  have c1 : ¬ (nI m < (0 : Int32)) := nI_pos (by omega)
  have c2 : ¬ ((256 : Int32) ≤ nI m) := nI_ge hm (by decide)
  by_cases hmd : σ.1 (pa + 5) m = σ.1 pa 7
  · refine ⟨σ, ?_, hmade hmd, hmd, FX.refl _ _ _⟩
    unfold f_X4_trace
    rw [if_neg c1, if_neg c2, im, chk_t, cm, if_pos hmd]
  · have hx1 : nI m * (25 : Int32) = nI (25 * m) := by rw [L25, pk_mul, Nat.mul_comm]
    have ix : inb (nI (25 * m)) 6400 = true := inb_nI (by omega) (by decide)
    have cx : (nI (25 * m)).toNatClampNeg = 25 * m := nI_clamp (by omega)
    have sA : f_X4_stateAt pa (0 : Int32) (nI m) σ = some (nI (sq P m 0)) := by rw [show (0 : Int32) = nI 0 from rfl, p_stateAt hX.1 h12 (by decide)]; rfl
    generalize hs1 : stI σ (pa + 6) (25 * m) (nI (sq P m 0)) = s1
    have F1 : FX (ST pa m) (ST2 pa m) σ s1 := by rw [← hs1]; exact (FX.refl _ _ σ).st _ (Or.inr ⟨rfl, by omega, by omega⟩)
    have hX1 : PX s1 pa P := hX.fx F1 ST_hs
    obtain ⟨⟨z1, z2, z3, s5⟩, w1, w2, w3, w4, w5, w6⟩ := p_trace50 hpa hV hX1 hm (by rw [← hs1, stI_same])
    dsimp only at w2 w3 w4 w5 w6
    subst w2 w3 w4
    have F5 : FX (ST pa m) (ST2 pa m) σ s5 := F1.trans (w6.mono (fun k j h => Or.inr h) (fun k j h => h.elim))
    obtain ⟨o1, o2⟩ := sq_ok hV hm 24
    have d1 := div256 (n := sq P m 24) (by omega)
    have d2 := rem256 (n := sq P m 24) (by omega)
    rw [d1] at d2
    have hT24 := stp_le P m 24
    have hy : nI (25 * m) + nI (stp P m 24) = nI (25 * m + stp P m 24) := nI_add _ _
    have iy : inb (nI (25 * m + stp P m 24)) 6400 = true := inb_nI (by omega) (by decide)
    have cy_ : (nI (25 * m + stp P m 24)).toNatClampNeg = 25 * m + stp P m 24 := nI_clamp (by omega)
    have hz : (3072 : Int32) + nI (sq P m 24 % 256) = nI (3072 + sq P m 24 % 256) := by rw [L3072, nI_add]
    generalize hs6 : stI s5 (pa + 6) (25 * m + stp P m 24) (nI (3072 + sq P m 24 % 256)) = s6
    have F6 : FX (ST pa m) (ST2 pa m) σ s6 := by rw [← hs6]; exact F5.st _ (Or.inr ⟨rfl, by omega, by omega⟩)
    have hX6 : PX s6 pa P := hX.fx F6 ST_hs
    have H6 : s6.1 pa 6 = nI hu := by rw [F6.1 pa 6 (by rintro (⟨h | h, _⟩ | ⟨h, _⟩) <;> omega)]; exact hH
    have A6 : s6.1 pa 7 = σ.1 pa 7 := F6.1 pa 7 (by rintro (⟨h | h, _⟩ | ⟨h, _⟩) <;> omega)
    have hot6 : ∀ x, x < 256 → s6.1 1 x = nI (hotP x 4) := fun x hx => by rw [F6.1 1 x (by rintro (⟨h | h, _⟩ | ⟨h, _⟩) <;> omega)]; exact hhot x hx
    have st6 : ∀ t, t ≤ stp P m 24 → s6.1 (pa + 6) (25 * m + t) = nI (if t < stp P m 24 then sq P m t else 3072 + sq P m 24 % 256) := by
      intro t ht
      rw [← hs6, stI_v]
      by_cases h : t = stp P m 24
      · subst h; rw [if_pos ⟨rfl, rfl⟩, if_neg (Nat.lt_irrefl _)]
      · rw [if_neg (by omega), if_pos (by omega)]; exact w5 t ht
    obtain ⟨σ', t1, t2, t3, t4⟩ := p_tl hpa hV hX6 hm hh H6 hot6 st6
    refine ⟨σ', ?_, t2, t3.trans A6, F6.trans t4⟩
    unfold f_X4_trace
    rw [if_neg c1, if_neg c2, im, chk_t, cm, if_neg hmd]
    simp only [hx1, nm_, sA, Option.bind_some, ix, chk_t, cx, hs1, w1, un_, nz256, d1, d2, hy, iy, cy_, hz, hs6]
    by_cases hr : sq P m 24 / 256 < 12
    · have hc : ¬ ((12 : Int32) ≤ nI (sq P m 24 / 256)) := nI_ge hr (by decide)
      have he : endv P m = 2 := by unfold endv; rw [if_pos hr]
      rw [he] at t1
      simp only [tl, im, chk_t, nm_, cm] at t1
      rw [if_neg hc]
      exact t1
    · have hc : (12 : Int32) ≤ nI (sq P m 24 / 256) := by rw [show sq P m 24 / 256 = 12 by omega]; decide
      have he : endv P m = rf P m 24 := by unfold endv; rw [if_neg hr]
      have hrf := rf_le hV hm 24
      rw [he] at t1
      rw [if_pos hc]
      by_cases h0 : rf P m 24 = 0
      · rw [h0] at t1 ⊢
        simp only [tl, im, chk_t, nm_, cm] at t1
        rw [if_pos (by decide)]
        exact t1
      · have h1 : rf P m 24 = 1 := by omega
        rw [h1] at t1 ⊢
        simp only [tl, im, chk_t, nm_, cm] at t1
        rw [if_neg (by decide)]
        exact t1
