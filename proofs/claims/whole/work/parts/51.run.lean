/-! ===== run ===== -/
theorem encL_div {l : List Nat} (h : ∀ x ∈ l, x < 4) (a : Nat) : encL l a / 4 ^ l.length = a := by
  obtain ⟨h1, h2⟩ := encL_bd l h a
  exact Nat.div_eq_of_lt_le (by rw [Nat.mul_comm] at h1; rw [Nat.mul_comm]; exact h1) h2
theorem encL_dig (l : List Nat) (h : ∀ x ∈ l, x < 4) (a j : Nat) (hj : j < l.length) : encL l a / 4 ^ j % 4 = l.getD (l.length - 1 - j) 0 := by
  induction l generalizing a with
  | nil => exact absurd hj (Nat.not_lt_zero j)
  | cons x l ih =>
    have hl : ∀ y ∈ l, y < 4 := fun y hy => h y (List.mem_cons_of_mem _ hy)
    have hj' : j < l.length + 1 := hj
    show encL l (4 * a + x) / 4 ^ j % 4 = (x :: l).getD (l.length + 1 - 1 - j) 0
    by_cases c : j < l.length
    · rw [ih hl _ c, show l.length + 1 - 1 - j = (l.length - 1 - j) + 1 by omega, List.getD_cons_succ]
    · have e : j = l.length := by omega
      have hx := h x (List.mem_cons_self)
      rw [e, encL_div hl, show l.length + 1 - 1 - l.length = 0 by omega, List.getD_cons_zero]
      omega
theorem encL_take (l : List Nat) (h : ∀ x ∈ l, x < 4) (a n : Nat) (hn : n ≤ l.length) : encL l a / 4 ^ (l.length - n) = encL (l.take n) a := by
  induction l generalizing a n with
  | nil =>
    have : n = 0 := by simpa using hn
    subst this
    simp [encL]
  | cons x l ih =>
    have hl : ∀ y ∈ l, y < 4 := fun y hy => h y (List.mem_cons_of_mem _ hy)
    rcases n with _ | n
    · rw [Nat.sub_zero, encL_div h, List.take_zero]; rfl
    · rw [List.take_succ_cons, show (x :: l).length - (n + 1) = l.length - n by rw [List.length_cons]; omega]
      exact ih hl _ n (by rw [List.length_cons] at hn; omega)
theorem encL_inj : ∀ (l l' : List Nat), (∀ x ∈ l, x < 4) → (∀ x ∈ l', x < 4) → l.length = l'.length → ∀ a a', encL l a = encL l' a' → a = a' ∧ l = l'
  | [], [], _, _, _, a, a', e => ⟨e, rfl⟩
  | [], y :: l', _, _, hl, _, _, _ => by simp at hl
  | x :: l, [], _, _, hl, _, _, _ => by simp at hl
  | x :: l, y :: l', h, h', hl, a, a', e => by
    obtain ⟨e1, e2⟩ := encL_inj l l' (fun z hz => h z (List.mem_cons_of_mem _ hz)) (fun z hz => h' z (List.mem_cons_of_mem _ hz)) (by simpa using hl) (4 * a + x) (4 * a' + y) e
    have hx := h x (List.mem_cons_self)
    have hy := h' y (List.mem_cons_self)
    exact ⟨by omega, by rw [e2, show x = y by omega]⟩
theorem enc_inj {l l' : List Nat} (h : ∀ x ∈ l, x < 4) (h' : ∀ x ∈ l', x < 4) (e : enc l = enc l') : l = l' := by
  have hl : l.length = l'.length := by
    obtain ⟨a1, a2⟩ := enc_bd l h
    obtain ⟨b1, b2⟩ := enc_bd l' h'
    rcases Nat.lt_trichotomy l.length l'.length with c | c | c
    · have : 4 ^ (l.length + 1) ≤ 4 ^ l'.length := Nat.pow_le_pow_right (by decide) c
      rw [Nat.pow_succ] at this; omega
    · exact c
    · have : 4 ^ (l'.length + 1) ≤ 4 ^ l.length := Nat.pow_le_pow_right (by decide) c
      rw [Nat.pow_succ] at this; omega
  exact (encL_inj l l' h h' hl 1 1 e).2
theorem endv_le {P : Pg} (hV : VP P) {m : Nat} (hm : m < 256) : endv P m ≤ 2 := by
  have := rf_le hV hm 24
  unfold endv; split <;> omega
theorem encs_lt (P : Pg) (hu m : Nat) : enc (shw P hu m 24) < 2 ^ 49 := enc_lt (shw_lt4 P hu m 24) (shw_len P hu m 24)
theorem cto_lt {P : Pg} (hV : VP P) {hu m : Nat} (hm : m < 256) : cto P hu m < 2 ^ 57 := by
  have h1 := encs_lt P hu m
  have h2 := endv_le hV hm
  have h3 := stp_le P m 24
  unfold cto; omega
theorem tI32 (n : Nat) : (lN n).toInt32 = nI n := Int64.toInt32_ofNat'
theorem pow4 (j : Nat) : 2 ^ (2 * j) = 4 ^ j := by rw [Nat.pow_mul]
theorem cto_dig {P : Pg} {hu m j : Nat} (hj : j < (shw P hu m 24).length) : cto P hu m / 4 ^ j % 4 = (shw P hu m 24).getD ((shw P hu m 24).length - 1 - j) 0 := by
  have hl := shw_len P hu m 24
  rw [← encL_dig _ (shw_lt4 P hu m 24) 1 j hj]
  show (enc (shw P hu m 24) + endv P m * 2 ^ 50 + stp P m 24 * 2 ^ 52) / 4 ^ j % 4 = enc (shw P hu m 24) / 4 ^ j % 4
  have e : endv P m * 2 ^ 50 + stp P m 24 * 2 ^ 52 = 4 ^ j * (4 * (4 ^ (24 - j) * (endv P m + 4 * stp P m 24))) := by
    have : 4 ^ j * (4 * 4 ^ (24 - j)) = 2 ^ 50 := by
      rw [← Nat.pow_succ', ← Nat.pow_add, show j + (24 - j + 1) = 25 by omega]
    rw [show 4 ^ j * (4 * (4 ^ (24 - j) * (endv P m + 4 * stp P m 24))) = 4 ^ j * (4 * 4 ^ (24 - j)) * (endv P m + 4 * stp P m 24) by simp only [Nat.mul_assoc], this]
    omega
  rw [Nat.add_assoc, e, Nat.add_mul_div_left _ _ (Nat.pow_pos (by decide)), Nat.add_mul_mod_self_left]
theorem p_shownAt {σ : St} {pa m hu i : Nat} {P : Pg} (hV : VP P) (hm : m < 256) (hi : i < 24) (h : TraceRow σ pa P hu m) : f_X4_shownAt pa (nI m) (nI i) σ = some (if i < (shw P hu m 24).length then nI ((shw P hu m 24).getD i 0) else -6) := by
  obtain ⟨_, _, _, _, h5, h6, _⟩ := h
  have hl := shw_len P hu m 24
  unfold f_X4_shownAt
  rw [inb_nI hm (by decide), chk_t, nm_, nI_clamp (by omega), h5, h6]
  by_cases c : i < (shw P hu m 24).length
  · have e : nI (shw P hu m 24).length - (1 : Int32) - nI i = nI ((shw P hu m 24).length - 1 - i) := by
      rw [show (1 : Int32) = nI 1 from rfl, pk_sub (by omega), pk_sub (by omega)]
    rw [e, if_pos (nI_pos' (by omega)), chk_t, if_pos c]
    have es : lN (cto P hu m) >>> (((2 : Int32) * nI ((shw P hu m 24).length - 1 - i)).toInt64 &&& 63) = lN (cto P hu m / 2 ^ (2 * ((shw P hu m 24).length - 1 - i))) := pf_shr (sm64 _ (by omega)) (by have := cto_lt hV (hu := hu) hm; omega)
    rw [es, tI32, and3, pow4, cto_dig (by omega), show (shw P hu m 24).length - 1 - ((shw P hu m 24).length - 1 - i) = i by omega]
  · rw [if_neg c, if_neg]
    intro q
    rw [Int32.le_iff_toInt_le, show (0 : Int32).toInt = 0 from rfl] at q
    rcases Nat.eq_zero_or_pos (shw P hu m 24).length with z | z
    · rw [z, show nI 0 - (1 : Int32) - nI i = -1 - nI i from rfl] at q
      have : ∀ i, i < 24 → ((-1 : Int32) - nI i).toInt < 0 := by decide +kernel
      have := this i hi
      omega
    · rw [show (1 : Int32) = nI 1 from rfl, pk_sub (by omega), pk_sub_toInt (by omega) (by omega)] at q
      omega
theorem c0_ : (0 : Int32).toNatClampNeg = 0 := rfl
theorem c1_ : (1 : Int32).toNatClampNeg = 1 := rfl
theorem i0_512 : inb (0 : Int32) 512 = true := by decide
theorem i1_512 : inb (1 : Int32) 512 = true := by decide
section PR5
variable (HS : HSt) (WS : WSt) (OS : OSt) (SS : SSt)
theorem ok_run : Ok_run (Rel HS WS OS SS) := by
  intro k σX σM a1 a2 a3 hk hR
  rcases rngP a1 with ⟨p, hp, rfl, pa, pb⟩ | ⟨pa, pb⟩
  rotate_left
  · exact ansE HS WS OS SS hR (r := -1) (by unfold f_X8_run; rw [pa]; rfl) (by unfold f_X9_run; rw [pb]; rfl)
  rcases rngS a2 with ⟨m, hm, rfl, ma, mb⟩ | ⟨ma, mb⟩
  rotate_left
  · refine ansE HS WS OS SS hR (r := -2) ?_ (by unfold f_X9_run; rw [pb, Option.bind_some, if_neg (by decide), mb]; rfl)
    unfold f_X8_run
    rw [pa, Option.bind_some, if_neg (by decide), ma]
    simp only [Option.bind_some, if_true]
    split
    · rfl
    · split <;> rfl
  obtain ⟨A, hV, hX, hM⟩ := hR
  obtain ⟨sX, eX, cX, tX, kX⟩ := hX.2.1.tr (m := m) hV (by omega) hX.1 hp hm
  obtain ⟨sM, eM, cM, tM, kM⟩ := hM.2.1.run (m := m) (a := 0) hV hp (by decide) hm
  have eM : f_X9_runOne (nI p) (nI m) (0 : Int32) σM = some sM := eM
  have im : inb (nI m) 256 = true := inb_nI hm (by decide)
  have cm : (nI m).toNatClampNeg = m := nI_clamp (by omega)
  obtain ⟨t7, t8, t9, t10, t11, t12, t6⟩ := tX
  obtain ⟨r9, r10, r11, r12, r13⟩ := tM
  have hl := shw_len (aP A p) (aH A p) m 24
  rcases rng a3 3 (by decide) with ⟨j, hj, rfl, ja, jb⟩ | ⟨hnj, ja, jb⟩
  · have c10 : nI j < (10 : Int32) := nI_lt (show j < 10 by omega) (by decide)
    have ja : f_X8_isWithin (nI j) (3 : Int32) = some 1 := ja
    have jb : f_X9_in (nI j).toInt64 (0 : Int64) (3 : Int64) = some 1 := jb
    have fx : ∀ r, (if nI j = (0 : Int32) then some ((sX.1 (4 + 13 * p + 7) m), sX) else if nI j = (1 : Int32) then some ((sX.1 (4 + 13 * p + 8) m), sX) else if nI j = (2 : Int32) then some ((sX.1 (4 + 13 * p + 10) m), sX) else if nI j = (3 : Int32) then some ((sX.1 (4 + 13 * p + 11) m), sX) else (f_X4_shownAt (4 + 13 * p) (nI m) (nI j - (10 : Int32)) sX).bind fun r4 => some (r4, sX)) = some (r, sX) → f_X8_run (nI p) (nI m) (nI j) σX = some (r, sX) := fun r hr => by
      unfold f_X8_run
      rw [pa, Option.bind_some, if_neg (by decide), if_pos c10, ma, Option.bind_some, if_neg (by decide), ja, Option.bind_some, if_neg (by decide), ip4 hp, chk_t, nm_, cp4 hp, eX, Option.bind_some, im, chk_t, chk_t, chk_t, chk_t, cm]
      exact hr
    have fm : ∀ r, (if nI j = (0 : Int32) then some ((sM.1 9 0), sM) else if nI j = (1 : Int32) then some ((sM.1 10 0), sM) else if nI j = (2 : Int32) then some ((sM.1 11 0), sM) else if nI j = (3 : Int32) then some ((sM.1 12 0), sM) else (if (sM.1 12 0) ≤ (nI j - (10 : Int32)) then some ((-6 : Int32), sM) else chk (inb (nI j - (10 : Int32)) 12288) (some ((sM.1 13 (nI j - (10 : Int32)).toNatClampNeg), sM)))) = some (r, sM) → f_X9_run (nI p) (nI m) (nI j) σM = some (r, sM) := fun r hr => by
      unfold f_X9_run
      rw [pb, Option.bind_some, if_neg (by decide), mb, Option.bind_some, if_neg (by decide), jb, Option.bind_some, if_neg (by decide), eM, Option.bind_some, i0_512, chk_t, chk_t, chk_t, chk_t, chk_t, c0_]
      exact hr
    have hj4 : j = 0 ∨ j = 1 ∨ j = 2 ∨ j = 3 := by omega
    rcases hj4 with rfl | rfl | rfl | rfl
    · exact ansQ (r := nI (endv (aP A p) m)) hV hX hM (fx _ (by rw [if_pos (by decide), t7])) (fm _ (by rw [if_pos (by decide), r9])) cX kX cM (kM.mono SQ_SR)
    · exact ansQ (r := nI (sq (aP A p) m 24 % 256)) hV hX hM (fx _ (by rw [if_neg (by decide), if_pos (by decide), t8])) (fm _ (by rw [if_neg (by decide), if_pos (by decide), r10])) cX kX cM (kM.mono SQ_SR)
    · exact ansQ (r := nI (stp (aP A p) m 24)) hV hX hM (fx _ (by rw [if_neg (by decide), if_neg (by decide), if_pos (by decide), t10])) (fm _ (by rw [if_neg (by decide), if_neg (by decide), if_pos (by decide), r11])) cX kX cM (kM.mono SQ_SR)
    · exact ansQ (r := nI (shw (aP A p) (aH A p) m 24).length) hV hX hM (fx _ (by rw [if_neg (by decide), if_neg (by decide), if_neg (by decide), if_pos (by decide), t11])) (fm _ (by rw [if_neg (by decide), if_neg (by decide), if_neg (by decide), if_pos (by decide), r12])) cX kX cM (kM.mono SQ_SR)
  · have ja : f_X8_isWithin a3 (3 : Int32) = some 0 := ja
    have jb : f_X9_in a3.toInt64 (0 : Int64) (3 : Int64) = some 0 := jb
    have h10 : (10 : Int32).toInt = 10 := rfl
    have h34 : (34 : Int32).toInt = 34 := rfl
    have d1 : (a3 < (10 : Int32)) ↔ a3.toInt < 10 := by rw [Int32.lt_iff_toInt_lt, h10]
    have d2 : ((34 : Int32) ≤ a3) ↔ 34 ≤ a3.toInt := by rw [Int32.le_iff_toInt_le, h34]
    have d3 : f_X9_in a3.toInt64 (10 : Int64) (33 : Int64) = some (if 10 ≤ a3.toInt ∧ a3.toInt ≤ 33 then 1 else 0) := by
      rw [in_iff, Int32.toInt_toInt64, show (10 : Int64).toInt = 10 from rfl, show (33 : Int64).toInt = 33 from rfl]
    by_cases c : 10 ≤ a3.toInt ∧ a3.toInt ≤ 33
    · rw [if_pos c] at d3
      obtain ⟨i, hi, rfl⟩ : ∃ i, i < 24 ∧ a3 = nI (10 + i) := ⟨(a3.toInt - 10).toNat, by omega, by apply Int32.toInt_inj.mp; rw [nI_toInt (by omega)]; omega⟩
      have e10 : nI (10 + i) - (10 : Int32) = nI i := by rw [L10, pk_sub (by omega), Nat.add_sub_cancel_left]
      have n0 : ¬ (nI (10 + i) = (0 : Int32)) := by rw [L0, eq_nI (by omega) (by decide)]; omega
      have n1 : ¬ (nI (10 + i) = (1 : Int32)) := by rw [L1, eq_nI (by omega) (by decide)]; omega
      have n2 : ¬ (nI (10 + i) = (2 : Int32)) := by rw [L2, eq_nI (by omega) (by decide)]; omega
      have n3 : ¬ (nI (10 + i) = (3 : Int32)) := by rw [L3, eq_nI (by omega) (by decide)]; omega
      refine ansQ (r := if i < (shw (aP A p) (aH A p) m 24).length then nI ((shw (aP A p) (aH A p) m 24).getD i 0) else -6) hV hX hM ?_ ?_ cX kX cM (kM.mono SQ_SR)
      · unfold f_X8_run
        rw [pa, Option.bind_some, if_neg (by decide), if_neg (fun q => by have := d1.mp q; omega), if_neg (fun q => by have := d2.mp q; omega), ma, Option.bind_some, if_neg (by decide), ja, Option.bind_some, if_pos rfl, ip4 hp, chk_t, nm_, cp4 hp, eX, Option.bind_some, if_neg n0, if_neg n1, if_neg n2, if_neg n3, e10, p_shownAt (hV.1 p hp).1 hm hi ⟨t7, t8, t9, t10, t11, t12, t6⟩]
        rfl
      · unfold f_X9_run
        rw [pb, Option.bind_some, if_neg (by decide), mb, Option.bind_some, if_neg (by decide), jb, Option.bind_some, if_pos rfl, d3, Option.bind_some, if_neg (by decide), eM, Option.bind_some, if_neg n0, if_neg n1, if_neg n2, if_neg n3, i0_512, chk_t, c0_, e10, r12]
        by_cases cl : i < (shw (aP A p) (aH A p) m 24).length
        · rw [if_neg (nI_ge cl (by omega)), inb_nI (show i < 12288 by omega) (by decide), chk_t, nI_clamp (by omega), if_pos cl]
          have := r13 i cl
          rw [Nat.mul_zero, Nat.zero_add] at this
          rw [this]
        · rw [if_pos (nI_le (by omega) (by omega)), if_neg cl]
    · rw [if_neg c] at d3
      refine ansE HS WS OS SS ⟨A, hV, hX, hM⟩ (r := -2) ?_ ?_
      · unfold f_X8_run
        rw [pa, Option.bind_some, if_neg (by decide)]
        by_cases cl : a3.toInt < 10
        · rw [if_pos (d1.mpr cl), ma, Option.bind_some, if_neg (by decide), ja]; rfl
        · rw [if_neg (fun q => cl (d1.mp q)), if_pos (d2.mpr (by omega)), ma, Option.bind_some, if_neg (by decide), ja]; rfl
      · unfold f_X9_run
        rw [pb, Option.bind_some, if_neg (by decide), mb, Option.bind_some, if_neg (by decide), jb, Option.bind_some, if_pos rfl, d3]; rfl
end PR5
