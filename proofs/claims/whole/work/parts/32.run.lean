/-! ===== what is meant: runs ===== -/
def sq (P : Pg) (m : Nat) : Nat → Nat
  | 0 => 256 * nl P 0 + m
  | t + 1 => if sq P m t / 256 < 12 then cod P (sq P m t / 256) (sq P m t % 256) % 4096 else sq P m t
def stp (P : Pg) (m : Nat) : Nat → Nat
  | 0 => 0
  | t + 1 => if sq P m t / 256 < 12 then stp P m t + 1 else stp P m t
def rf (P : Pg) (m : Nat) : Nat → Nat
  | 0 => 0
  | t + 1 => if sq P m t / 256 < 12 then cod P (sq P m t / 256) (sq P m t % 256) / 4096 else rf P m t
/-- a LINE shows -/
def shows (P : Pg) (hu l : Nat) : Prop := (P.2 l).1 = 6 ∧ hu / 2 ^ l % 2 = 0
def shw (P : Pg) (hu m : Nat) : Nat → List Nat
  | 0 => []
  | t + 1 => if sq P m t / 256 < 12 ∧ (P.2 (sq P m t / 256)).1 = 6 ∧ hu / 2 ^ (sq P m t / 256) % 2 = 0 then shw P hu m t ++ [val (sq P m t % 256) (P.2 (sq P m t / 256)).2.1] else shw P hu m t
def endv (P : Pg) (m : Nat) : Nat := if sq P m 24 / 256 < 12 then 2 else rf P m 24
theorem nl_or (P : Pg) (j : Nat) : nl P j < P.1 ∨ nl P j = 12 := by unfold nl; split <;> omega
theorem cod_form {P : Pg} (hV : VP P) {i m : Nat} (hi : i < P.1) (hm : m < 256) : ∃ l x, (l < P.1 ∨ l = 12) ∧ x < 256 ∧ (cod P i m = 256 * l + x ∨ (l = 12 ∧ cod P i m = 4096 + 256 * l + x)) := by
  obtain ⟨v1, v2, v3, v4, v5⟩ := hV.2 i hi
  have hb := val_lt m ((P.2 i).2.2.1 % 4)
  have hc := val_lt m ((P.2 i).2.2.2 % 4)
  have sv : ∀ x, x < 4 → setv m (P.2 i).2.1 x < 256 := fun x hx => setv_lt m hm _ (by omega) x hx
  have go : ∀ j x, x < 256 → ∃ l x', (l < P.1 ∨ l = 12) ∧ x' < 256 ∧ (256 * nl P j + x = 256 * l + x' ∨ (l = 12 ∧ 256 * nl P j + x = 4096 + 256 * l + x')) := fun j x hx => ⟨nl P j, x, nl_or P j, hx, Or.inl rfl⟩
  unfold cod
  split
  · rename_i a; exact go _ _ (sv _ (by have := v4 (by omega); omega))
  split
  · exact go _ _ (sv _ hb)
  split
  · exact go _ _ (sv _ (Nat.mod_lt _ (by decide)))
  split
  · exact go _ _ (sv _ (Nat.mod_lt _ (by decide)))
  split
  · split
    · exact ⟨12, m, Or.inr rfl, hm, Or.inr ⟨rfl, by omega⟩⟩
    · exact go _ _ (sv _ (Nat.lt_of_le_of_lt (Nat.mod_le _ _) hb))
  split
  · split
    · exact go _ _ hm
    · exact go _ _ hm
  split
  · exact go _ _ hm
  · exact ⟨12, m, Or.inr rfl, hm, Or.inl (by omega)⟩
theorem cod_lt {P : Pg} (hV : VP P) {i m : Nat} (hi : i < P.1) (hm : m < 256) : cod P i m < 8192 ∧ cod P i m / 256 % 16 = cod P i m % 4096 / 256 ∧ cod P i m % 256 = cod P i m % 4096 % 256 := by
  obtain ⟨l, x, h1, h2, h3⟩ := cod_form hV hi hm
  have := hV.1
  omega
theorem sq_ok {P : Pg} (hV : VP P) {m : Nat} (hm : m < 256) : ∀ t, (sq P m t / 256 < P.1 ∨ sq P m t / 256 = 12) ∧ sq P m t < 3328 := by
  have h12 := hV.1
  intro t
  induction t with
  | zero =>
    have := nl_or P 0
    simp only [sq]
    omega
  | succ t ih =>
    simp only [sq]
    split
    · rename_i h
      obtain ⟨l, x, h1, h2, h3⟩ := cod_form hV (i := sq P m t / 256) (m := sq P m t % 256) (by omega) (by omega)
      omega
    · exact ih
theorem stp_run {P : Pg} {m : Nat} : ∀ t, sq P m t / 256 < 12 → stp P m t = t := by
  intro t
  induction t with
  | zero => intro _; rfl
  | succ t ih =>
    intro h
    simp only [sq] at h
    simp only [stp]
    by_cases h2 : sq P m t / 256 < 12
    · rw [if_pos h2, ih h2]
    · rw [if_neg h2] at h; exact absurd h h2
theorem stay {P : Pg} {hu m t : Nat} (h : ¬ sq P m t / 256 < 12) : ∀ d, sq P m (t + d) = sq P m t ∧ stp P m (t + d) = stp P m t ∧ rf P m (t + d) = rf P m t ∧ shw P hu m (t + d) = shw P hu m t := by
  intro d
  induction d with
  | zero => exact ⟨rfl, rfl, rfl, rfl⟩
  | succ d ih =>
    obtain ⟨a, b, c, e⟩ := ih
    have h2 : ¬ sq P m (t + d) / 256 < 12 := by rw [a]; exact h
    refine ⟨?_, ?_, ?_, ?_⟩
    · show sq P m (t + d + 1) = _; simp only [sq, if_neg h2]; exact a
    · show stp P m (t + d + 1) = _; simp only [stp, if_neg h2]; exact b
    · show rf P m (t + d + 1) = _; simp only [rf, if_neg h2]; exact c
    · show shw P hu m (t + d + 1) = _; simp only [shw]; rw [if_neg (fun q => h2 q.1)]; exact e
theorem stp_le (P : Pg) (m : Nat) : ∀ t, stp P m t ≤ t := by
  intro t
  induction t with
  | zero => exact Nat.le_refl 0
  | succ t ih => simp only [stp]; split <;> omega
theorem shw_len (P : Pg) (hu m : Nat) : ∀ t, (shw P hu m t).length ≤ t := by
  intro t
  induction t with
  | zero => exact Nat.le_refl 0
  | succ t ih =>
    simp only [shw]
    split
    · rw [List.length_append, List.length_singleton]; omega
    · omega
theorem shw_lt4 (P : Pg) (hu m : Nat) : ∀ t, ∀ x ∈ shw P hu m t, x < 4 := by
  intro t
  induction t with
  | zero => intro x hx; cases hx
  | succ t ih =>
    intro x hx
    simp only [shw] at hx
    split at hx
    · rcases List.mem_append.mp hx with h | h
      · exact ih x h
      · rw [List.mem_singleton.mp h]; exact val_lt _ _
    · exact ih x hx
theorem rf_le {P : Pg} (hV : VP P) {m : Nat} (hm : m < 256) : ∀ t, rf P m t ≤ 1 := by
  intro t
  induction t with
  | zero => exact Nat.zero_le 1
  | succ t ih =>
    simp only [rf]
    split
    · rename_i h
      have h1 := sq_ok hV hm t
      have h12 := hV.1
      have := (cod_lt hV (i := sq P m t / 256) (m := sq P m t % 256) (by omega) (by omega)).1
      omega
    · exact ih
theorem sh32 : ∀ n, n < 32 → ((nI n &&& 31).toBitVec.smod 32).toNat = n := by decide +kernel
theorem bitI {h l : Nat} (hh : h < 2 ^ 31) (hl : l < 32) : (nI h >>> (nI l &&& 31)) &&& (1 : Int32) = nI (h / 2 ^ l % 2) := by
  rw [pk_shrN hh _ l (sh32 l hl), show (1 : Int32) = nI (2 ^ 1 - 1) from rfl, fa_mask]
theorem bit0 {h l : Nat} (hh : h < 2 ^ 31) (hl : l < 32) : ((nI h >>> (nI l &&& 31)) &&& (1 : Int32) = 0) = (h / 2 ^ l % 2 = 0) := by
  rw [bitI hh hl, L0, eq_nI (by have := Nat.mod_lt (h / 2 ^ l) (show 0 < 2 by decide); omega) (by decide)]
theorem div256 {n : Nat} (h : n < 2 ^ 31) : nI n / (256 : Int32) = nI (n / 256) := pk_div h (by decide) (by decide)
theorem rem256 {n : Nat} (h : n < 2 ^ 31) : nI n - nI n / (256 : Int32) * (256 : Int32) = nI (n % 256) := pk_rem h (by decide) (by decide)
/-! ===== the reference's runs ===== -/
def RunM (σ : St) (a : Nat) (P : Pg) (hu m : Nat) : Prop := σ.1 9 a = nI (endv P m) ∧ σ.1 10 a = nI (sq P m 24 % 256) ∧ σ.1 11 a = nI (stp P m 24) ∧ σ.1 12 a = nI (shw P hu m 24).length ∧ ∀ i, i < (shw P hu m 24).length → σ.1 13 (24 * a + i) = nI ((shw P hu m 24).getD i 0)
def SR (p a k j : Nat) : Prop := SL p k j ∨ ((k = 9 ∨ k = 10 ∨ k = 11 ∨ k = 12) ∧ j = a) ∨ (k = 13 ∧ 24 * a ≤ j ∧ j < 24 * a + 24)
theorem SR_hs {p a : Nat} : ∀ k j, SR p a k j → k = 0 ∨ 6 < k := by
  rintro k j (h | ⟨h, _⟩ | ⟨h, _⟩)
  · exact SL_hs k j h
  · omega
  · omega
theorem p_runOne {σ : St} {p a m hu : Nat} {P : Pg} (hV : VP P) (hM : PM σ p P) (hp : p < 4) (ha : a < 512) (hm : m < 256) (hh : hu < 4096) (hs : σ.1 6 p = nI hu) (hb : σ.1 7 p = 0 ∨ σ.1 7 p = 1) (hL : σ.1 7 p = 1 → Laid σ p P) : ∃ σ', f_X9_runOne (nI p) (nI m) (nI a) σ = some σ' ∧ RunM σ' a P hu m ∧ Laid σ' p P ∧ σ'.1 7 p = 1 ∧ Fr (SR p a) σ σ' := by
  have h12 := hV.1
  obtain ⟨s1, e1, L1_, i1, F1⟩ := p_lay hV hM hp hb hL
  have hM1 : PM s1 p P := hM.fr F1 SL_hs
  have F1' : Fr (SR p a) σ s1 := F1.mono (fun k j h => Or.inl h)
  have ia : inb (nI a) 512 = true := inb_nI ha (by decide)
  have ca : (nI a).toNatClampNeg = a := nI_clamp (by omega)
  have ip : inb (nI p) 4 = true := inb_nI hp (by decide)
  have cp : (nI p).toNatClampNeg = p := nI_clamp (by omega)
  have key : ∃ r, wh FU (b_X9_runOne_29 (nI p) (nI a)) (nI (nl P 0), nI m, (0 : Int32), (0 : Int32), stI s1 12 a 0) = some r ∧ (r.1 = nI (sq P m 24 / 256) ∧ r.2.1 = nI (sq P m 24 % 256) ∧ r.2.2.1 = nI (stp P m 24) ∧ r.2.2.2.1 = nI (rf P m 24) ∧ r.2.2.2.2.1 12 a = nI (shw P hu m 24).length ∧ (∀ i, i < (shw P hu m 24).length → r.2.2.2.2.1 13 (24 * a + i) = nI ((shw P hu m 24).getD i 0)) ∧ Fr (fun k j => S3 k j ∨ (k = 12 ∧ j = a) ∨ (k = 13 ∧ 24 * a ≤ j ∧ j < 24 * a + 24)) s1 r.2.2.2.2) := by
    refine wh_cnt 24 (fun t s => (s.1 = nI (sq P m t / 256) ∧ s.2.1 = nI (sq P m t % 256) ∧ s.2.2.1 = nI t ∧ s.2.2.2.1 = nI (rf P m t) ∧ stp P m t = t) ∧ s.2.2.2.2.1 12 a = nI (shw P hu m t).length ∧ (∀ i, i < (shw P hu m t).length → s.2.2.2.2.1 13 (24 * a + i) = nI ((shw P hu m t).getD i 0)) ∧ Fr (fun k j => S3 k j ∨ (k = 12 ∧ j = a) ∨ (k = 13 ∧ 24 * a ≤ j ∧ j < 24 * a + 24)) s1 s.2.2.2.2) _ ?_ ?_ FU 0 _ (by decide) ⟨⟨?_, ?_, rfl, rfl, rfl⟩, ?_, ?_, ?_⟩ (by decide)
    · rintro t ⟨y1, y2, y3, y4, s⟩ ht ⟨⟨rfl, rfl, rfl, rfl, e5⟩, e6, e7, e8⟩
      dsimp only at e6 e7 e8
      obtain ⟨o1, o2⟩ := sq_ok hV hm t
      by_cases hr : sq P m t / 256 < 12
      · left
        have hl : sq P m t / 256 < P.1 := by omega
        have hc1 : ¬ ((12 : Int32) ≤ nI (sq P m t / 256)) := nI_ge hr (by decide)
        have hc2 : ¬ ((24 : Int32) ≤ nI t) := nI_ge ht (by decide)
        have hMs : PM s p P := hM1.fr e8 (by rintro k j (⟨h, _⟩ | ⟨h, _⟩ | ⟨h, _⟩) <;> omega)
        have h6 : s.1 6 p = nI hu := by rw [e8.1 6 p (by rintro (⟨h, _⟩ | ⟨h, _⟩ | ⟨h, _⟩) <;> omega), F1.1 6 p (by rintro (⟨h, _⟩ | ⟨h, _⟩ | ⟨h, _⟩) <;> omega)]; exact hs
        have hLs : Laid s p P := fun i m' hi hm' => by rw [e8.1 8 _ (by rintro (⟨h, _⟩ | ⟨h, _⟩ | ⟨h, _⟩) <;> omega)]; exact L1_ i m' hi hm'
        obtain ⟨q1, q2, q3, q4⟩ := hMs.2 _ hl
        obtain ⟨v1, v2, v3, v4, v5⟩ := hV.2 _ hl
        have hx : (12 : Int32) * nI p + nI (sq P m t / 256) = nI (12 * p + sq P m t / 256) := by rw [L12, pk_mul, nI_add]
        have ii : inb (nI (12 * p + sq P m t / 256)) 48 = true := inb_nI (by omega) (by decide)
        have ci : (nI (12 * p + sq P m t / 256)).toNatClampNeg = 12 * p + sq P m t / 256 := nI_clamp (by omega)
        obtain ⟨cl1, cl2, cl3⟩ := cod_lt hV hl (show sq P m t % 256 < 256 by omega)
        have len := shw_len P hu m t
        have st1 : sq P m (t + 1) = cod P (sq P m t / 256) (sq P m t % 256) % 4096 := by simp only [sq, if_pos hr]
        have rf1 : rf P m (t + 1) = cod P (sq P m t / 256) (sq P m t % 256) / 4096 := by simp only [rf, if_pos hr]
        have sp1 : stp P m (t + 1) = t + 1 := by simp only [stp, if_pos hr, e5]
        have stepF : ∀ s' : St, Laid s' p P → ∃ s'', f_X9_step (nI p) (nI (sq P m t / 256)) (nI (sq P m t % 256)) s' = some s'' ∧ s''.1 0 11 = nI (rf P m (t + 1)) ∧ s''.1 0 9 = nI (sq P m (t + 1) / 256) ∧ s''.1 0 10 = nI (sq P m (t + 1) % 256) ∧ Fr S3 s' s'' := by
          intro s' hL'
          obtain ⟨s'', a1, a2, a3, a4, a5⟩ := p_stepM hp (show sq P m t / 256 < 12 from hr) (show sq P m t % 256 < 256 by omega) cl1 (hL' _ _ hl (show sq P m t % 256 < 256 by omega))
          exact ⟨s'', a1, by rw [a2, rf1], by rw [a3, st1, cl2], by rw [a4, st1, cl3], a5⟩
        by_cases hs1 : (P.2 (sq P m t / 256)).1 = 6 ∧ hu / 2 ^ (sq P m t / 256) % 2 = 0
        · have sh1 : shw P hu m (t + 1) = shw P hu m t ++ [val (sq P m t % 256) (P.2 (sq P m t / 256)).2.1] := by simp only [shw, if_pos (⟨hr, hs1⟩ : _ ∧ _)]
          have hy : (24 : Int32) * nI a + nI (shw P hu m t).length = nI (24 * a + (shw P hu m t).length) := by rw [L24, pk_mul, nI_add]
          have iy : inb (nI (24 * a + (shw P hu m t).length)) 12288 = true := inb_nI (by omega) (by decide)
          have cy_ : (nI (24 * a + (shw P hu m t).length)).toNatClampNeg = 24 * a + (shw P hu m t).length := nI_clamp (by omega)
          generalize hg : stI (stI s 13 (24 * a + (shw P hu m t).length) (nI (val (sq P m t % 256) (P.2 (sq P m t / 256)).2.1))) 12 a (nI ((shw P hu m t).length + 1)) = s7
          have hL7 : Laid s7 p P := fun i m' hi hm' => by rw [← hg, stI_nk (by decide), stI_nk (by decide)]; exact hLs i m' hi hm'
          obtain ⟨s8, a1, a2, a3, a4, a5⟩ := stepF s7 hL7
          have k12 : s8.1 12 a = nI (shw P hu m (t + 1)).length := by rw [a5.1 12 a (by rintro ⟨h, _⟩; omega), ← hg, stI_same, sh1, List.length_append]; rfl
          refine ⟨(nI (sq P m (t + 1) / 256), nI (sq P m (t + 1) % 256), nI (t + 1), nI (rf P m (t + 1)), s8), ?_, ⟨rfl, rfl, rfl, rfl, sp1⟩, k12, ?_, ?_⟩
          · have b0 : ((nI hu >>> (nI (sq P m t / 256) &&& 31)) &&& (1 : Int32)) = 0 := by rw [bit0 (by omega) (by omega)]; exact hs1.2
            have k6 : nI (P.2 (sq P m t / 256)).1 = (6 : Int32) := by rw [hs1.1]; rfl
            have e6' : (stI s 13 (24 * a + (shw P hu m t).length) (nI (val (sq P m t % 256) (P.2 (sq P m t / 256)).2.1))).1 12 a = nI (shw P hu m t).length := by rw [stI_nk (by decide)]; exact e6
            simp only [b_X9_runOne_29, un_, if_neg hc1, if_neg hc2, hx, ii, chk_t, ci, q1, q2, k6, if_true, ip, cp, h6, b0, ia, ca, e6, hy, iy, cy_, p_valueOfM (sq P m t % 256) (by omega) (P.2 (sq P m t / 256)).2.1 (by omega), Option.bind_some, nm_, e6', nI_1, hg, a1, a2, a3, a4]
          · intro i hi
            show s8.1 13 _ = _
            rw [a5.1 13 _ (by rintro ⟨h, _⟩; omega), ← hg, stI_nk (by decide), stI_v, sh1]
            rw [sh1, List.length_append] at hi
            have hi : i < (shw P hu m t).length + 1 := hi
            by_cases h : i = (shw P hu m t).length
            · subst h
              rw [if_pos ⟨rfl, rfl⟩]
              simp
            · rw [if_neg (by omega), e7 i (by omega)]
              simp only [List.getD_eq_getElem?_getD]
              rw [List.getElem?_append_left (by omega)]
          · refine (Fr.trans ?_ (a5.mono (fun k j h => Or.inl h)))
            rw [← hg]
            exact (e8.st _ (Or.inr (Or.inr ⟨rfl, by omega, by omega⟩))).st _ (Or.inr (Or.inl ⟨rfl, rfl⟩))
        · have sh1 : shw P hu m (t + 1) = shw P hu m t := by simp only [shw, if_neg (fun q : _ ∧ _ => hs1 q.2)]
          obtain ⟨s8, a1, a2, a3, a4, a5⟩ := stepF s hLs
          refine ⟨(nI (sq P m (t + 1) / 256), nI (sq P m (t + 1) % 256), nI (t + 1), nI (rf P m (t + 1)), s8), ?_, ⟨rfl, rfl, rfl, rfl, sp1⟩, ?_, ?_, e8.trans (a5.mono (fun k j h => Or.inl h))⟩
          · by_cases k6 : (P.2 (sq P m t / 256)).1 = 6
            · have b0 : ¬ (((nI hu >>> (nI (sq P m t / 256) &&& 31)) &&& (1 : Int32)) = 0) := by rw [bit0 (by omega) (by omega)]; exact fun h => hs1 ⟨k6, h⟩
              have k6' : nI (P.2 (sq P m t / 256)).1 = (6 : Int32) := by rw [k6]; rfl
              simp only [b_X9_runOne_29, un_, if_neg hc1, if_neg hc2, hx, ii, chk_t, ci, q1, k6', if_true, ip, cp, h6, if_neg b0, Option.bind_some, nm_, nI_1, a1, a2, a3, a4]
            · have k6' : ¬ (nI (P.2 (sq P m t / 256)).1 = (6 : Int32)) := by rw [L6, eq_nI (by omega) (by decide)]; exact k6
              simp only [b_X9_runOne_29, un_, if_neg hc1, if_neg hc2, hx, ii, chk_t, ci, q1, if_neg k6', Option.bind_some, nm_, nI_1, a1, a2, a3, a4]
          · show s8.1 12 a = _
            rw [a5.1 12 a (by rintro ⟨h, _⟩; omega), sh1]; exact e6
          · intro i hi
            show s8.1 13 _ = _
            rw [sh1] at hi ⊢
            rw [a5.1 13 _ (by rintro ⟨h, _⟩; omega)]; exact e7 i hi
      · right
        obtain ⟨s1_, s2_, s3_, s4_⟩ := stay (hu := hu) hr (24 - t)
        rw [show t + (24 - t) = 24 by omega] at s1_ s2_ s3_ s4_
        have o3 : sq P m t / 256 = 12 := by omega
        refine ⟨(nI (sq P m t / 256), nI (sq P m t % 256), nI t, nI (rf P m t), s), ?_, by rw [s1_], by rw [s1_], by rw [s2_, e5], by rw [s3_], by rw [s4_]; exact e6, by rw [s4_]; exact e7, e8⟩
        simp only [b_X9_runOne_29, un_, o3]
        rfl
    · rintro ⟨y1, y2, y3, y4, s⟩ ⟨⟨rfl, rfl, rfl, rfl, e5⟩, e6, e7, e8⟩
      refine ⟨(nI (sq P m 24 / 256), nI (sq P m 24 % 256), nI 24, nI (rf P m 24), s), ?_, rfl, rfl, by rw [e5], rfl, e6, e7, e8⟩
      simp only [b_X9_runOne_29, un_]
      by_cases hz : (12 : Int32) ≤ nI (sq P m 24 / 256)
      · rw [if_pos hz]
      · rw [if_neg hz, if_pos (show (24 : Int32) ≤ nI 24 by decide)]
    · show nI (nl P 0) = nI (sq P m 0 / 256)
      simp only [sq]; congr 1; omega
    · show nI m = nI (sq P m 0 % 256)
      simp only [sq]; congr 1; omega
    · show (stI s1 12 a 0).1 12 a = _
      rw [stI_same]; rfl
    · intro i hi; exact absurd hi (Nat.not_lt_zero i)
    · exact (Fr.refl _ s1).st _ (Or.inr (Or.inl ⟨rfl, rfl⟩))
  obtain ⟨⟨z1, z2, z3, z4, s9⟩, w1, w2, w3, w4, w5, w6, w7, w8⟩ := key
  dsimp only at w2 w3 w4 w5 w6 w7 w8
  have F9 : Fr (SR p a) σ s9 := F1'.trans (w8.mono (by
    rintro k j (h | h | h)
    · exact Or.inl (Or.inl h)
    · exact Or.inr (Or.inl ⟨by omega, h.2⟩)
    · exact Or.inr (Or.inr h)))
  have fin : ∀ x : Int32, x = nI (endv P m) → RunM (stI (stI (stI s9 9 a x) 10 a z2) 11 a z3) a P hu m ∧ Laid (stI (stI (stI s9 9 a x) 10 a z2) 11 a z3) p P ∧ (stI (stI (stI s9 9 a x) 10 a z2) 11 a z3).1 7 p = 1 ∧ Fr (SR p a) σ (stI (stI (stI s9 9 a x) 10 a z2) 11 a z3) := by
    intro x hx
    refine ⟨⟨?_, ?_, ?_, ?_, ?_⟩, ?_, ?_, ((F9.st _ (Or.inr (Or.inl ⟨by omega, rfl⟩))).st _ (Or.inr (Or.inl ⟨by omega, rfl⟩))).st _ (Or.inr (Or.inl ⟨by omega, rfl⟩))⟩
    · rw [stI_nk (by decide), stI_nk (by decide), stI_same]; exact hx
    · rw [stI_nk (by decide), stI_same]; exact w3
    · rw [stI_same]; exact w4
    · rw [stI_nk (by decide), stI_nk (by decide), stI_nk (by decide)]; exact w6
    · intro i hi; rw [stI_nk (by decide), stI_nk (by decide), stI_nk (by decide)]; exact w7 i hi
    · intro i m' hi hm'; rw [stI_nk (by decide), stI_nk (by decide), stI_nk (by decide), w8.1 8 _ (by rintro (⟨h, _⟩ | ⟨h, _⟩ | ⟨h, _⟩) <;> omega)]; exact L1_ i m' hi hm'
    · rw [stI_nk (by decide), stI_nk (by decide), stI_nk (by decide), w8.1 7 _ (by rintro (⟨h, _⟩ | ⟨h, _⟩ | ⟨h, _⟩) <;> omega)]; exact i1
  obtain ⟨o1, o2⟩ := sq_ok hV hm 24
  by_cases hr : sq P m 24 / 256 < 12
  · refine ⟨_, ?_, fin 2 (by unfold endv; rw [if_pos hr]; rfl)⟩
    have hc : ¬ ((12 : Int32) ≤ z1) := by rw [w2]; exact nI_ge hr (by decide)
    unfold f_X9_runOne
    rw [e1, Option.bind_some, show (0 : Int32) = nI 0 from rfl, p_held hM1.1 h12 hp (by decide), Option.bind_some, ia, chk_t, nm_, ca, show nI 0 = (0 : Int32) from rfl, w1]
    simp only [Option.bind_some, un_, if_neg hc, chk_t, nm_]
  · refine ⟨_, ?_, fin z4 (by unfold endv; rw [if_neg hr]; exact w5)⟩
    have hc : (12 : Int32) ≤ z1 := by rw [w2, show sq P m 24 / 256 = 12 by omega]; decide
    unfold f_X9_runOne
    rw [e1, Option.bind_some, show (0 : Int32) = nI 0 from rfl, p_held hM1.1 h12 hp (by decide), Option.bind_some, ia, chk_t, nm_, ca, show nI 0 = (0 : Int32) from rfl, w1]
    simp only [Option.bind_some, un_, if_pos hc, chk_t, nm_]
