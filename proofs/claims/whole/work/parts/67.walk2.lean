/-! ===== walk, shape ===== -/
def WOK (P Q : Pg) (Z : WAc) : Prop := ∀ j, Z.2.1 j = 0 ∨ (Z.2.1 j = 1 ∧ (j / 13 < P.1 ∨ j / 13 = 12) ∧ (j % 13 < Q.1 ∨ j % 13 = 12))
theorem WOK.st {P Q : Pg} (hP : VP P) (hQ : VP Q) {x y : Nat} (hx : x < 256) (hy : y < 256) {Z : WAc} (h : WOK P Q Z) (t : Nat × Nat) : WOK P Q (wst P Q x y t Z) := by
  intro j
  have oP := ps_ok hP hx t.1
  have oQ := ps_ok hQ hy t.2
  have h1 := hP.1
  have h2 := hQ.1
  unfold wst stn
  dsimp only
  by_cases e : j = 13 * (ps P x t.1 / 256) + ps Q y t.2 / 256
  · rw [if_pos e]
    exact Or.inr ⟨rfl, by omega, by omega⟩
  · rw [if_neg e]; exact h j
theorem WOK.ac {P Q : Pg} (hP : VP P) (hQ : VP Q) {W : Nat → Nat → Nat} {x y : Nat} (hx : x < 256) (hy : y < 256) {Z : WAc} (h : WOK P Q Z) : ∀ k, WOK P Q (wac P Q W x y Z k) := by
  intro k
  induction k with
  | zero => exact h.st hP hQ hx hy (0, 0)
  | succ k ih =>
    rw [wac]
    split
    · exact ih
    · exact ih.st hP hQ hx hy _
theorem wal_ok {T : Tx} {P Q : Pg} (hP : VP P) (hQ : VP Q) {W : Nat → Nat → Nat} : ∀ n, n ≤ 65536 → WOK P Q (wal T P Q W n) := by
  intro n
  induction n with
  | zero => intro _ j; exact Or.inl rfl
  | succ n ih =>
    intro hn
    rw [wal]
    split
    · exact (ih (by omega)).ac hP hQ (by omega) (by omega) 48
    · exact ih (by omega)
theorem WSp_ok {T : Tx} {P Q : Pg} (hP : VP P) (hQ : VP Q) {W : Nat → Nat → Nat} : WOK P Q (WSp T P Q W) := wal_ok hP hQ BN (by rw [BN_]; omega)
def sdb (Z : WAc) (j : Nat) : Bool := decide (Z.2.1 j = 1)
def sdu (Z : WAc) (j : Nat) : Bool := decide (Z.2.1 j = 1) && decide (j / 13 ≠ j % 13)
theorem d13 {y : Nat} (hy : y < 169) : nI y / (13 : Int32) = nI (y / 13) ∧ nI y - nI y / (13 : Int32) * (13 : Int32) = nI (y % 13) := ⟨by rw [L13, pk_div (by omega) (by decide) (by decide)], by rw [L13, pk_rem (by omega) (by decide) (by decide)]⟩
theorem e13 {y : Nat} (hy : y < 169) : (nI y / (13 : Int32) = nI y - nI y / (13 : Int32) * (13 : Int32)) = (y / 13 = y % 13) := by rw [(d13 hy).2, (d13 hy).1]; exact eq_nI (by omega) (by omega)
theorem a0_ (n : Nat) : nI n + (0 : Int32) = nI n := nI_add n 0
theorem p_cP {σ : St} {P Q : Pg} {Z : WAc} (h : WX σ Z) (hZ : WOK P Q Z) : f_X7_countPlaces σ = some (nI (cnt (sdb Z) 169)) := by
  have key := wh_cnt (b := b_X7_countPlaces_4 σ) 169 (fun i y => y = (nI (cnt (sdb Z) i), nI i)) (fun r => r = nI (cnt (sdb Z) 169)) ?_ ?_ FU 0 ((0 : Int32), (0 : Int32)) (Nat.zero_le _) rfl (by rw [FU_]; omega)
  · obtain ⟨r, e, rfl⟩ := key
    unfold f_X7_countPlaces; rw [e]; rfl
  · rintro i y hi rfl
    left
    refine ⟨_, ?_, rfl⟩
    unfold b_X7_countPlaces_4
    rw [un_, if_neg (show ¬ ((169 : Int32) ≤ nI i) from nI_ge hi (by decide)), inb_nI hi (by decide), chk_t, nm_, nm_, nI_1, nI_clamp (by omega), (h.1 i hi).2]
    rcases hZ i with q | ⟨q, _⟩
    · rw [q, a0_, cnt_f (show sdb Z i = false from decide_eq_false (by rw [q]; decide))]
    · rw [q, nI_1, cnt_t (show sdb Z i = true from decide_eq_true q)]
  · rintro y rfl
    refine ⟨_, ?_, rfl⟩
    unfold b_X7_countPlaces_4
    rw [un_, if_pos (by decide)]
theorem p_cU {σ : St} {P Q : Pg} {Z : WAc} (h : WX σ Z) (hZ : WOK P Q Z) : f_X7_countUnlike σ = some (nI (cnt (sdu Z) 169)) := by
  have key := wh_cnt (b := b_X7_countUnlike_4 σ) 169 (fun i y => y = (nI (cnt (sdu Z) i), nI i)) (fun r => r = nI (cnt (sdu Z) 169)) ?_ ?_ FU 0 ((0 : Int32), (0 : Int32)) (Nat.zero_le _) rfl (by rw [FU_]; omega)
  · obtain ⟨r, e, rfl⟩ := key
    unfold f_X7_countUnlike; rw [e]; rfl
  · rintro i y hi rfl
    left
    refine ⟨_, ?_, rfl⟩
    unfold b_X7_countUnlike_4
    rw [un_, if_neg (show ¬ ((169 : Int32) ≤ nI i) from nI_ge hi (by decide)), nz13, chk_t, chk_t, inb_nI hi (by decide), chk_t, nm_, nm_, nm_, nm_, nI_1, nI_clamp (by omega), (h.1 i hi).2, a0_]
    by_cases c : i / 13 = i % 13
    · rw [if_pos (by rw [e13 hi]; exact c), cnt_f (show sdu Z i = false from by unfold sdu; rw [decide_eq_false (p := i / 13 ≠ i % 13) (fun q => q c), Bool.and_false])]
    · rw [if_neg (by rw [e13 hi]; exact c)]
      rcases hZ i with q | ⟨q, _⟩
      · rw [q, a0_, cnt_f (show sdu Z i = false from by unfold sdu; rw [decide_eq_false (p := Z.2.1 i = 1) (by rw [q]; decide)]; rfl)]
      · rw [q, nI_1, cnt_t (show sdu Z i = true from by unfold sdu; rw [decide_eq_true q, decide_eq_true c]; rfl)]
  · rintro y rfl
    refine ⟨_, ?_, rfl⟩
    unfold b_X7_countUnlike_4
    rw [un_, if_pos (by decide)]
theorem p_cM {σ : St} {P Q : Pg} {Z : WAc} (h : RW σ Z) (hZ : WOK P Q Z) (w : Int32) : wh FU (b_X9_walk_64 w σ) ((0 : Int32), (0 : Int32)) = some (if w = 0 then nI (cnt (sdb Z) 169) else nI (cnt (sdu Z) 169)) := by
  have key := wh_cnt (b := b_X9_walk_64 w σ) 169 (fun i y => y = ((if w = 0 then nI (cnt (sdb Z) i) else nI (cnt (sdu Z) i)), nI i)) (fun r => r = if w = 0 then nI (cnt (sdb Z) 169) else nI (cnt (sdu Z) 169)) ?_ ?_ FU 0 ((0 : Int32), (0 : Int32)) (Nat.zero_le _) (by show _ = ((if w = 0 then nI 0 else nI 0), nI 0); split <;> rfl) (by rw [FU_]; omega)
  · obtain ⟨r, e, rfl⟩ := key
    exact e
  · rintro i y hi rfl
    left
    refine ⟨_, ?_, rfl⟩
    unfold b_X9_walk_64
    rw [un_, if_neg (show ¬ ((169 : Int32) ≤ nI i) from nI_ge hi (by decide)), inb_nI hi (by decide), chk_t, nI_clamp (by omega), (h.1 i hi).2, nz13, chk_t, chk_t]
    rcases hZ i with q | ⟨q, _⟩
    · have b1 : sdb Z i = false := decide_eq_false (by rw [q]; decide)
      have b2 : sdu Z i = false := by unfold sdu; rw [decide_eq_false (p := Z.2.1 i = 1) (by rw [q]; decide)]; rfl
      rw [if_pos q, nm_, nm_, nI_1, cnt_f b1, cnt_f b2]
      split <;> rw [a0_]
    · have b1 : sdb Z i = true := decide_eq_true q
      rw [if_neg (by rw [q]; decide)]
      by_cases c : w = 0
      · rw [if_pos c, if_pos c, if_pos c, nm_, nm_, nI_1, nI_1, cnt_t b1]
      · rw [if_neg c, if_neg c, if_neg c]
        by_cases d : i / 13 = i % 13
        · rw [if_pos (by rw [e13 hi]; exact d), nm_, nm_, nI_1, a0_, cnt_f (show sdu Z i = false from by unfold sdu; rw [decide_eq_false (p := i / 13 ≠ i % 13) (fun q => q d), Bool.and_false])]
        · rw [if_neg (by rw [e13 hi]; exact d), nm_, nm_, nI_1, nI_1, cnt_t (show sdu Z i = true from by unfold sdu; rw [decide_eq_true q, decide_eq_true d]; rfl)]
  · rintro y rfl
    refine ⟨_, ?_, rfl⟩
    unfold b_X9_walk_64
    rw [un_, if_pos (by decide)]
section PRD
variable (HS : HSt) (OS : OSt) (SS : SSt)
theorem ok_walk : Ok_walk (Rel HS WSp OS SS) := by
  intro k σX σM a1 a2 a3 a4 hk hR
  have hR0 := hR
  obtain ⟨A, hV, hX, hM⟩ := hR
  rcases rngY hV hX hM a1 with ⟨s, hs, rfl, sa, sb⟩ | ⟨sa, sb⟩
  rotate_left
  · exact ansE HS WSp OS SS hR0 (r := -1) (by unfold f_X8_walk; rw [sa]; rfl) (by unfold f_X9_walk; rw [sb]; rfl)
  rcases rngP a2 with ⟨p, hp, rfl, pa, pb⟩ | ⟨pa, pb⟩
  rotate_left
  · exact ansE HS WSp OS SS hR0 (r := -1) (by unfold f_X8_walk; rw [sa, Option.bind_some, if_neg (by decide), pa]; rfl) (by unfold f_X9_walk; rw [sb, Option.bind_some, if_neg (by decide), pb]; rfl)
  rcases rngP a3 with ⟨q, hq, rfl, qa, qb⟩ | ⟨qa, qb⟩
  rotate_left
  · exact ansE HS WSp OS SS hR0 (r := -1) (by unfold f_X8_walk; rw [sa, Option.bind_some, if_neg (by decide), pa, Option.bind_some, if_neg (by decide), qa]; rfl) (by unfold f_X9_walk; rw [sb, Option.bind_some, if_neg (by decide), pb, Option.bind_some, if_neg (by decide), qb]; rfl)
  rcases rng a4 2 (by decide) with ⟨w, hw, rfl, wa, wb⟩ | ⟨_, wa, wb⟩
  rotate_left
  · exact ansE HS WSp OS SS hR0 (r := -2) (by unfold f_X8_walk; rw [sa, Option.bind_some, if_neg (by decide), pa, Option.bind_some, if_neg (by decide), qa, Option.bind_some, if_neg (by decide), L2, wa]; rfl) (by unfold f_X9_walk; rw [sb, Option.bind_some, if_neg (by decide), pb, Option.bind_some, if_neg (by decide), qb, Option.bind_some, if_neg (by decide), show (2 : Int64) = lN 2 from rfl, wb]; rfl)
  have wa : f_X8_isWithin (nI w) (2 : Int32) = some 1 := wa
  have wb : f_X9_in (nI w).toInt64 0 (2 : Int64) = some 1 := wb
  obtain ⟨x', eX, wX, hX'⟩ := p_makeWalk hV (by omega) hX hs hp hq
  obtain ⟨m', eM, wM, _, _, hM'⟩ := p_walkAllM hV hM hs hp hq
  have ok := WSp_ok (T := aT A s) (hV.1 p hp).1 (hV.1 q hq).1 (W := aW A)
  have cm := p_cM wM ok (nI w)
  generalize WSp (aT A s) (aP A p) (aP A q) (aW A) = Z at *
  refine ⟨if nI w = 0 then nI (cnt (sdb Z) 169) else if nI w = 1 then nI (cnt (sdu Z) 169) else Z.2.2, x', m', ?_, ?_, A, hV, hX'.mono (Nat.le_succ k), hM'.mono (Nat.le_succ k)⟩
  · unfold f_X8_walk
    rw [sa, Option.bind_some, if_neg (by decide), pa, Option.bind_some, if_neg (by decide), qa, Option.bind_some, if_neg (by decide), wa, Option.bind_some, if_neg (by decide), eX, Option.bind_some, p_cP wX ok, p_cU wX ok, wX.2]
    rcases (show w = 0 ∨ w = 1 ∨ w = 2 by omega) with rfl | rfl | rfl <;> rfl
  · unfold f_X9_walk
    rw [sb, Option.bind_some, if_neg (by decide), pb, Option.bind_some, if_neg (by decide), qb, Option.bind_some, if_neg (by decide), wb, Option.bind_some, if_neg (by decide), eM, Option.bind_some, cm, wM.2]
    rcases (show w = 0 ∨ w = 1 ∨ w = 2 by omega) with rfl | rfl | rfl <;> rfl
theorem ok_shape : Ok_shape (Rel HS WSp OS SS) := by
  intro k σX σM a1 a2 a3 a4 a5 hk hR
  have hR0 := hR
  obtain ⟨A, hV, hX, hM⟩ := hR
  rcases rngY hV hX hM a1 with ⟨s, hs, rfl, sa, sb⟩ | ⟨sa, sb⟩
  rotate_left
  · exact ansE HS WSp OS SS hR0 (r := -1) (by unfold f_X8_shape; rw [sa]; rfl) (by unfold f_X9_shape; rw [sb]; rfl)
  rcases rngP a2 with ⟨p, hp, rfl, pa, pb⟩ | ⟨pa, pb⟩
  rotate_left
  · exact ansE HS WSp OS SS hR0 (r := -1) (by unfold f_X8_shape; rw [sa, Option.bind_some, if_neg (by decide), pa]; rfl) (by unfold f_X9_shape; rw [sb, Option.bind_some, if_neg (by decide), pb]; rfl)
  rcases rngP a3 with ⟨q, hq, rfl, qa, qb⟩ | ⟨qa, qb⟩
  rotate_left
  · exact ansE HS WSp OS SS hR0 (r := -1) (by unfold f_X8_shape; rw [sa, Option.bind_some, if_neg (by decide), pa, Option.bind_some, if_neg (by decide), qa]; rfl) (by unfold f_X9_shape; rw [sb, Option.bind_some, if_neg (by decide), pb, Option.bind_some, if_neg (by decide), qb]; rfl)
  rcases rngB a4 with ⟨x, hx, rfl, xa, xb⟩ | ⟨xa, xb⟩
  rotate_left
  · exact ansE HS WSp OS SS hR0 (r := -2) (by unfold f_X8_shape; rw [sa, Option.bind_some, if_neg (by decide), pa, Option.bind_some, if_neg (by decide), qa, Option.bind_some, if_neg (by decide), xa]; rfl) (by unfold f_X9_shape f_X9_isPlace; rw [sb, Option.bind_some, if_neg (by decide), pb, Option.bind_some, if_neg (by decide), qb, Option.bind_some, if_neg (by decide), xb]; rfl)
  rcases rngB a5 with ⟨y, hy, rfl, ya, yb⟩ | ⟨ya, yb⟩
  rotate_left
  · exact ansE HS WSp OS SS hR0 (r := -2) (by unfold f_X8_shape; rw [sa, Option.bind_some, if_neg (by decide), pa, Option.bind_some, if_neg (by decide), qa, Option.bind_some, if_neg (by decide), xa, Option.bind_some, if_neg (by decide), ya]; rfl) (by unfold f_X9_shape f_X9_isPlace; rw [sb, Option.bind_some, if_neg (by decide), pb, Option.bind_some, if_neg (by decide), qb, Option.bind_some, if_neg (by decide), xb, Option.bind_some, if_neg (by decide), yb]; rfl)
  obtain ⟨x', eX, wX, hX'⟩ := p_makeWalk hV (by omega) hX hs hp hq
  obtain ⟨m', eM, wM, _, _, hM'⟩ := p_walkAllM hV hM hs hp hq
  have ea : nI x * (13 : Int32) + nI y = nI (13 * x + y) := by rw [L13, pk_mul, nI_add, Nat.mul_comm]
  have eb : (13 : Int32) * nI x + nI y = nI (13 * x + y) := by rw [L13, pk_mul, nI_add]
  have ii : inb (nI (13 * x + y)) 169 = true := inb_nI (by omega) (by decide)
  have ci : (nI (13 * x + y)).toNatClampNeg = 13 * x + y := nI_clamp (by omega)
  refine ⟨(WSp (aT A s) (aP A p) (aP A q) (aW A)).1 (13 * x + y), x', m', ?_, ?_, A, hV, hX'.mono (Nat.le_succ k), hM'.mono (Nat.le_succ k)⟩
  · unfold f_X8_shape
    rw [sa, Option.bind_some, if_neg (by decide), pa, Option.bind_some, if_neg (by decide), qa, Option.bind_some, if_neg (by decide), xa, Option.bind_some, if_neg (by decide), ya, Option.bind_some, if_neg (by decide), eX, Option.bind_some, ea, ii, chk_t, ci, (wX.1 (13 * x + y) (by omega)).1]
  · unfold f_X9_shape f_X9_isPlace
    rw [sb, Option.bind_some, if_neg (by decide), pb, Option.bind_some, if_neg (by decide), qb, Option.bind_some, if_neg (by decide), xb, Option.bind_some, if_neg (by decide), yb, Option.bind_some, if_neg (by decide), Option.bind_some, if_neg (by decide), eM, Option.bind_some, eb, ii, chk_t, ci, (wM.1 (13 * x + y) (by omega)).1]
end PRD
