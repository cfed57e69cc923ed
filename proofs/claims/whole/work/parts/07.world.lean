/-! ===== the worlds of the class (X) and of the reference (M) ===== -/
/-- the array classes: int, long, boolean, Program, Saying -/
abbrev Cy : Type := ClassId × ClassId × ClassId × ClassId × ClassId
def isP (k : Nat) : Prop := ∃ j, j < 4 ∧ k = 4 + 13 * j
def isS (k : Nat) : Prop := ∃ j, j < 7 ∧ k = 57 + 2 * j
def EnX (q : Nat → Nat) (cy : Cy) : EnT := fun k a b => match k with
  | 0 => .inr (1, [.ref (q 1), .ref (q 2)])
  | 1 => .inl (cy.1, 256, .inl a)
  | 2 => .inl (cy.1, 256, .inl a)
  | 3 => .inl (cy.2.2.2.1, 4, .inr (.inr (.inr (.inr (fun j => some (q (4 + 13 * j)))))))
  | 4 => .inr (4, [.ref (q 0), .ref (q 5), .ref (q 6), .ref (q 7), .ref (q 8), .int (a 5), .int (a 6), .int (a 7), .ref (q 9), .ref (q 10), .ref (q 11), .ref (q 12), .ref (q 13), .ref (q 14), .ref (q 15), .ref (q 16)])
  | 5 => .inl (cy.1, 12, .inl a)
  | 6 => .inl (cy.1, 12, .inl a)
  | 7 => .inl (cy.1, 12, .inl a)
  | 8 => .inl (cy.1, 12, .inl a)
  | 9 => .inl (cy.1, 256, .inl a)
  | 10 => .inl (cy.1, 6400, .inl a)
  | 11 => .inl (cy.1, 256, .inl a)
  | 12 => .inl (cy.1, 256, .inl a)
  | 13 => .inl (cy.1, 256, .inl a)
  | 14 => .inl (cy.1, 256, .inl a)
  | 15 => .inl (cy.1, 256, .inl a)
  | 16 => .inl (cy.2.1, 256, .inr (.inl b))
  | 17 => .inr (4, [.ref (q 0), .ref (q 18), .ref (q 19), .ref (q 20), .ref (q 21), .int (a 5), .int (a 6), .int (a 7), .ref (q 22), .ref (q 23), .ref (q 24), .ref (q 25), .ref (q 26), .ref (q 27), .ref (q 28), .ref (q 29)])
  | 18 => .inl (cy.1, 12, .inl a)
  | 19 => .inl (cy.1, 12, .inl a)
  | 20 => .inl (cy.1, 12, .inl a)
  | 21 => .inl (cy.1, 12, .inl a)
  | 22 => .inl (cy.1, 256, .inl a)
  | 23 => .inl (cy.1, 6400, .inl a)
  | 24 => .inl (cy.1, 256, .inl a)
  | 25 => .inl (cy.1, 256, .inl a)
  | 26 => .inl (cy.1, 256, .inl a)
  | 27 => .inl (cy.1, 256, .inl a)
  | 28 => .inl (cy.1, 256, .inl a)
  | 29 => .inl (cy.2.1, 256, .inr (.inl b))
  | 30 => .inr (4, [.ref (q 0), .ref (q 31), .ref (q 32), .ref (q 33), .ref (q 34), .int (a 5), .int (a 6), .int (a 7), .ref (q 35), .ref (q 36), .ref (q 37), .ref (q 38), .ref (q 39), .ref (q 40), .ref (q 41), .ref (q 42)])
  | 31 => .inl (cy.1, 12, .inl a)
  | 32 => .inl (cy.1, 12, .inl a)
  | 33 => .inl (cy.1, 12, .inl a)
  | 34 => .inl (cy.1, 12, .inl a)
  | 35 => .inl (cy.1, 256, .inl a)
  | 36 => .inl (cy.1, 6400, .inl a)
  | 37 => .inl (cy.1, 256, .inl a)
  | 38 => .inl (cy.1, 256, .inl a)
  | 39 => .inl (cy.1, 256, .inl a)
  | 40 => .inl (cy.1, 256, .inl a)
  | 41 => .inl (cy.1, 256, .inl a)
  | 42 => .inl (cy.2.1, 256, .inr (.inl b))
  | 43 => .inr (4, [.ref (q 0), .ref (q 44), .ref (q 45), .ref (q 46), .ref (q 47), .int (a 5), .int (a 6), .int (a 7), .ref (q 48), .ref (q 49), .ref (q 50), .ref (q 51), .ref (q 52), .ref (q 53), .ref (q 54), .ref (q 55)])
  | 44 => .inl (cy.1, 12, .inl a)
  | 45 => .inl (cy.1, 12, .inl a)
  | 46 => .inl (cy.1, 12, .inl a)
  | 47 => .inl (cy.1, 12, .inl a)
  | 48 => .inl (cy.1, 256, .inl a)
  | 49 => .inl (cy.1, 6400, .inl a)
  | 50 => .inl (cy.1, 256, .inl a)
  | 51 => .inl (cy.1, 256, .inl a)
  | 52 => .inl (cy.1, 256, .inl a)
  | 53 => .inl (cy.1, 256, .inl a)
  | 54 => .inl (cy.1, 256, .inl a)
  | 55 => .inl (cy.2.1, 256, .inr (.inl b))
  | 56 => .inl (cy.2.2.2.2, 6, .inr (.inr (.inr (.inr (fun j => some (q (57 + 2 * j)))))))
  | 57 => .inr (5, [.ref (q 58), .int (a 1), .long (b 2), .int (a 3)])
  | 58 => .inl (cy.1, 40, .inl a)
  | 59 => .inr (5, [.ref (q 60), .int (a 1), .long (b 2), .int (a 3)])
  | 60 => .inl (cy.1, 40, .inl a)
  | 61 => .inr (5, [.ref (q 62), .int (a 1), .long (b 2), .int (a 3)])
  | 62 => .inl (cy.1, 40, .inl a)
  | 63 => .inr (5, [.ref (q 64), .int (a 1), .long (b 2), .int (a 3)])
  | 64 => .inl (cy.1, 40, .inl a)
  | 65 => .inr (5, [.ref (q 66), .int (a 1), .long (b 2), .int (a 3)])
  | 66 => .inl (cy.1, 40, .inl a)
  | 67 => .inr (5, [.ref (q 68), .int (a 1), .long (b 2), .int (a 3)])
  | 68 => .inl (cy.1, 40, .inl a)
  | 69 => .inr (5, [.ref (q 70), .int (a 1), .long (b 2), .int (a 3)])
  | 70 => .inl (cy.1, 40, .inl a)
  | 71 => .inr (0, [.ref (q 0), .int (a 1), .int (a 2), .long (b 3), .long (b 4)])
  | 72 => .inr (3, [.ref (q 71), .int (a 1), .int (a 2), .int (a 3), .int (a 4), .int (a 5)])
  | 73 => .inr (6, [.ref (q 71), .ref (q 74), .ref (q 75)])
  | 74 => .inl (cy.1, 256, .inl a)
  | 75 => .inl (cy.2.1, 256, .inr (.inl b))
  | 76 => .inr (7, [.ref (q 0), .int (a 1), .ref (q 77), .ref (q 78), .ref (q 79), .ref (q 80), .int (a 6), .ref (q 81), .ref (q 82), .int (a 9), .ref (q 83)])
  | 77 => .inl (cy.1, 169, .inl a)
  | 78 => .inl (cy.1, 169, .inl a)
  | 79 => .inl (cy.1, 169, .inl a)
  | 80 => .inl (cy.1, 169, .inl a)
  | 81 => .inl (cy.1, 256, .inl a)
  | 82 => .inl (cy.1, 256, .inl a)
  | 83 => .inl (cy.1, 13, .inl a)
  | 84 => .inr (2, [.int (a 0), .ref (q 85), .int (a 2), .ref (q 86)])
  | 85 => .inl (cy.1, 43264, .inl a)
  | 86 => .inl (cy.2.1, 676, .inr (.inl b))
  | 87 => .inr (8, [.ref (q 3), .ref (q 56), .int (a 2), .ref (q 69), .ref (q 71), .ref (q 72), .ref (q 73), .ref (q 76), .ref (q 84)])
  | _ => .inl (cy.1, 0, .inl a)
def EnM (q : Nat → Nat) (cy : Cy) : EnT := fun k a b => match k with
  | 0 => .inr (9, [.ref (q 1), .ref (q 2), .ref (q 3), .ref (q 4), .ref (q 5), .ref (q 6), .ref (q 7), .int (a 7), .int (a 8), .int (a 9), .int (a 10), .int (a 11), .ref (q 8), .ref (q 9), .ref (q 10), .ref (q 11), .ref (q 12), .ref (q 13), .ref (q 14), .ref (q 15), .int (a 20), .int (a 21), .int (a 22), .int (a 23), .int (a 24), .int (a 25), .int (a 26), .int (a 27), .int (a 28), .int (a 29), .int (a 30), .int (a 31), .int (a 32), .ref (q 16), .ref (q 17), .ref (q 18), .ref (q 19), .int (a 37), .ref (q 20), .int (a 39), .int (a 40), .int (a 41), .int (a 42), .int (a 43), .ref (q 21), .ref (q 22), .int (a 46)])
  | 1 => .inl (cy.1, 48, .inl a)
  | 2 => .inl (cy.1, 48, .inl a)
  | 3 => .inl (cy.1, 48, .inl a)
  | 4 => .inl (cy.1, 48, .inl a)
  | 5 => .inl (cy.1, 4, .inl a)
  | 6 => .inl (cy.1, 4, .inl a)
  | 7 => .inl (cy.2.2.1, 4, .inl a)
  | 8 => .inl (cy.1, 12288, .inl a)
  | 9 => .inl (cy.1, 512, .inl a)
  | 10 => .inl (cy.1, 512, .inl a)
  | 11 => .inl (cy.1, 512, .inl a)
  | 12 => .inl (cy.1, 512, .inl a)
  | 13 => .inl (cy.1, 12288, .inl a)
  | 14 => .inl (cy.1, 280, .inl a)
  | 15 => .inl (cy.1, 7, .inl a)
  | 16 => .inl (cy.1, 144, .inl a)
  | 17 => .inl (cy.1, 169, .inl a)
  | 18 => .inl (cy.1, 169, .inl a)
  | 19 => .inl (cy.2.2.1, 169, .inl a)
  | 20 => .inl (cy.1, 65536, .inl a)
  | 21 => .inl (cy.2.2.1, 43264, .inl a)
  | 22 => .inl (cy.1, 43264, .inl a)
  | _ => .inl (cy.1, 0, .inl a)
abbrev vX (D : va_G) (cy : Cy) (q : Nat → Nat) : Vw := (D, [(cy.1, .int), (cy.2.1, .long), (cy.2.2.1, .boolean), (cy.2.2.2.1, .object RX4), (cy.2.2.2.2, .object RX5)], q, 88, EnX q cy)
abbrev vM (D : va_G) (cy : Cy) (q : Nat → Nat) : Vw := (D, [(cy.1, .int), (cy.2.1, .long), (cy.2.2.1, .boolean), (cy.2.2.2.1, .object RX4), (cy.2.2.2.2, .object RX5)], q, 23, EnM q cy)
theorem isP.lt {k : Nat} (h : isP k) : k + 12 < 88 := by obtain ⟨j, hj, rfl⟩ := h; omega
theorem isS.lt {k : Nat} (h : isS k) : k + 1 < 88 := by obtain ⟨j, hj, rfl⟩ := h; omega
theorem isP_4 {k : Nat} (h : ∃ j, j < 4 ∧ k = 4 + 13 * j) : isP k := h
theorem isS_6 {k : Nat} (h : ∃ j, j < 6 ∧ k = 57 + 2 * j) : isS k := by obtain ⟨j, hj, e⟩ := h; exact ⟨j, by omega, e⟩
theorem isS_69 : isS 69 := ⟨6, by decide, rfl⟩
section WL
variable {D : va_G} {cy : Cy} {q : Nat → Nat}
theorem eX_4 {k : Nat} (h : isP k) (a : Nat → Int32) (b : Nat → Int64) : EnX q cy k a b = .inr (4, [.ref (q 0), .ref (q (k + 1)), .ref (q (k + 2)), .ref (q (k + 3)), .ref (q (k + 4)), .int (a 5), .int (a 6), .int (a 7), .ref (q (k + 5)), .ref (q (k + 6)), .ref (q (k + 7)), .ref (q (k + 8)), .ref (q (k + 9)), .ref (q (k + 10)), .ref (q (k + 11)), .ref (q (k + 12))]) := by
  obtain ⟨j, hj, rfl⟩ := h
  match j, hj with
  | 0, _ => rfl
  | 1, _ => rfl
  | 2, _ => rfl
  | 3, _ => rfl
theorem eX_5 {k : Nat} (h : isS k) (a : Nat → Int32) (b : Nat → Int64) : EnX q cy k a b = .inr (5, [.ref (q (k + 1)), .int (a 1), .long (b 2), .int (a 3)]) := by
  obtain ⟨j, hj, rfl⟩ := h
  match j, hj with
  | 0, _ => rfl
  | 1, _ => rfl
  | 2, _ => rfl
  | 3, _ => rfl
  | 4, _ => rfl
  | 5, _ => rfl
  | 6, _ => rfl
theorem eX_1 (a : Nat → Int32) (b : Nat → Int64) : EnX q cy 0 a b = .inr (1, [.ref (q 1), .ref (q 2)]) := rfl
theorem eX_0 (a : Nat → Int32) (b : Nat → Int64) : EnX q cy 71 a b = .inr (0, [.ref (q 0), .int (a 1), .int (a 2), .long (b 3), .long (b 4)]) := rfl
theorem eX_3 (a : Nat → Int32) (b : Nat → Int64) : EnX q cy 72 a b = .inr (3, [.ref (q 71), .int (a 1), .int (a 2), .int (a 3), .int (a 4), .int (a 5)]) := rfl
theorem eX_6 (a : Nat → Int32) (b : Nat → Int64) : EnX q cy 73 a b = .inr (6, [.ref (q 71), .ref (q 74), .ref (q 75)]) := rfl
theorem eX_7 (a : Nat → Int32) (b : Nat → Int64) : EnX q cy 76 a b = .inr (7, [.ref (q 0), .int (a 1), .ref (q 77), .ref (q 78), .ref (q 79), .ref (q 80), .int (a 6), .ref (q 81), .ref (q 82), .int (a 9), .ref (q 83)]) := rfl
theorem eX_2 (a : Nat → Int32) (b : Nat → Int64) : EnX q cy 84 a b = .inr (2, [.int (a 0), .ref (q 85), .int (a 2), .ref (q 86)]) := rfl
theorem eX_8 (a : Nat → Int32) (b : Nat → Int64) : EnX q cy 87 a b = .inr (8, [.ref (q 3), .ref (q 56), .int (a 2), .ref (q 69), .ref (q 71), .ref (q 72), .ref (q 73), .ref (q 76), .ref (q 84)]) := rfl
theorem eM_9 (a : Nat → Int32) (b : Nat → Int64) : EnM q cy 0 a b = .inr (9, [.ref (q 1), .ref (q 2), .ref (q 3), .ref (q 4), .ref (q 5), .ref (q 6), .ref (q 7), .int (a 7), .int (a 8), .int (a 9), .int (a 10), .int (a 11), .ref (q 8), .ref (q 9), .ref (q 10), .ref (q 11), .ref (q 12), .ref (q 13), .ref (q 14), .ref (q 15), .int (a 20), .int (a 21), .int (a 22), .int (a 23), .int (a 24), .int (a 25), .int (a 26), .int (a 27), .int (a 28), .int (a 29), .int (a 30), .int (a 31), .int (a 32), .ref (q 16), .ref (q 17), .ref (q 18), .ref (q 19), .int (a 37), .ref (q 20), .int (a 39), .int (a 40), .int (a 41), .int (a 42), .int (a 43), .ref (q 21), .ref (q 22), .int (a 46)]) := rfl
theorem aX_4_act {k : Nat} (h : isP k) : IA (vX D cy q) (k + 1) 12 := ⟨by have := h.lt; show k + 1 < 88; omega, 0, cy.1, rfl, fun a b => by
  obtain ⟨j, hj, rfl⟩ := h
  match j, hj with
  | 0, _ => rfl
  | 1, _ => rfl
  | 2, _ => rfl
  | 3, _ => rfl⟩
theorem aX_4_a {k : Nat} (h : isP k) : IA (vX D cy q) (k + 2) 12 := ⟨by have := h.lt; show k + 2 < 88; omega, 0, cy.1, rfl, fun a b => by
  obtain ⟨j, hj, rfl⟩ := h
  match j, hj with
  | 0, _ => rfl
  | 1, _ => rfl
  | 2, _ => rfl
  | 3, _ => rfl⟩
theorem aX_4_b {k : Nat} (h : isP k) : IA (vX D cy q) (k + 3) 12 := ⟨by have := h.lt; show k + 3 < 88; omega, 0, cy.1, rfl, fun a b => by
  obtain ⟨j, hj, rfl⟩ := h
  match j, hj with
  | 0, _ => rfl
  | 1, _ => rfl
  | 2, _ => rfl
  | 3, _ => rfl⟩
theorem aX_4_c {k : Nat} (h : isP k) : IA (vX D cy q) (k + 4) 12 := ⟨by have := h.lt; show k + 4 < 88; omega, 0, cy.1, rfl, fun a b => by
  obtain ⟨j, hj, rfl⟩ := h
  match j, hj with
  | 0, _ => rfl
  | 1, _ => rfl
  | 2, _ => rfl
  | 3, _ => rfl⟩
theorem aX_4_madeAt {k : Nat} (h : isP k) : IA (vX D cy q) (k + 5) 256 := ⟨by have := h.lt; show k + 5 < 88; omega, 0, cy.1, rfl, fun a b => by
  obtain ⟨j, hj, rfl⟩ := h
  match j, hj with
  | 0, _ => rfl
  | 1, _ => rfl
  | 2, _ => rfl
  | 3, _ => rfl⟩
theorem aX_4_states {k : Nat} (h : isP k) : IA (vX D cy q) (k + 6) 6400 := ⟨by have := h.lt; show k + 6 < 88; omega, 0, cy.1, rfl, fun a b => by
  obtain ⟨j, hj, rfl⟩ := h
  match j, hj with
  | 0, _ => rfl
  | 1, _ => rfl
  | 2, _ => rfl
  | 3, _ => rfl⟩
theorem aX_4_endOf {k : Nat} (h : isP k) : IA (vX D cy q) (k + 7) 256 := ⟨by have := h.lt; show k + 7 < 88; omega, 0, cy.1, rfl, fun a b => by
  obtain ⟨j, hj, rfl⟩ := h
  match j, hj with
  | 0, _ => rfl
  | 1, _ => rfl
  | 2, _ => rfl
  | 3, _ => rfl⟩
theorem aX_4_lastOf {k : Nat} (h : isP k) : IA (vX D cy q) (k + 8) 256 := ⟨by have := h.lt; show k + 8 < 88; omega, 0, cy.1, rfl, fun a b => by
  obtain ⟨j, hj, rfl⟩ := h
  match j, hj with
  | 0, _ => rfl
  | 1, _ => rfl
  | 2, _ => rfl
  | 3, _ => rfl⟩
theorem aX_4_hotOf {k : Nat} (h : isP k) : IA (vX D cy q) (k + 9) 256 := ⟨by have := h.lt; show k + 9 < 88; omega, 0, cy.1, rfl, fun a b => by
  obtain ⟨j, hj, rfl⟩ := h
  match j, hj with
  | 0, _ => rfl
  | 1, _ => rfl
  | 2, _ => rfl
  | 3, _ => rfl⟩
theorem aX_4_stepsOf {k : Nat} (h : isP k) : IA (vX D cy q) (k + 10) 256 := ⟨by have := h.lt; show k + 10 < 88; omega, 0, cy.1, rfl, fun a b => by
  obtain ⟨j, hj, rfl⟩ := h
  match j, hj with
  | 0, _ => rfl
  | 1, _ => rfl
  | 2, _ => rfl
  | 3, _ => rfl⟩
theorem aX_4_showedOf {k : Nat} (h : isP k) : IA (vX D cy q) (k + 11) 256 := ⟨by have := h.lt; show k + 11 < 88; omega, 0, cy.1, rfl, fun a b => by
  obtain ⟨j, hj, rfl⟩ := h
  match j, hj with
  | 0, _ => rfl
  | 1, _ => rfl
  | 2, _ => rfl
  | 3, _ => rfl⟩
theorem aX_4_comesTo {k : Nat} (h : isP k) : LA (vX D cy q) (k + 12) 256 := ⟨by have := h.lt; show k + 12 < 88; omega, 1, cy.2.1, rfl, fun a b => by
  obtain ⟨j, hj, rfl⟩ := h
  match j, hj with
  | 0, _ => rfl
  | 1, _ => rfl
  | 2, _ => rfl
  | 3, _ => rfl⟩
theorem aX_5_signs {k : Nat} (h : isS k) : IA (vX D cy q) (k + 1) 40 := ⟨h.lt, 0, cy.1, rfl, fun a b => by
  obtain ⟨j, hj, rfl⟩ := h
  match j, hj with
  | 0, _ => rfl
  | 1, _ => rfl
  | 2, _ => rfl
  | 3, _ => rfl
  | 4, _ => rfl
  | 5, _ => rfl
  | 6, _ => rfl⟩
theorem aX_1_hot : IA (vX D cy q) 1 256 := ⟨Nat.le_of_ble_eq_true rfl, 0, cy.1, rfl, fun _ _ => rfl⟩
theorem aX_1_lanes : IA (vX D cy q) 2 256 := ⟨Nat.le_of_ble_eq_true rfl, 0, cy.1, rfl, fun _ _ => rfl⟩
theorem aX_6_group : IA (vX D cy q) 74 256 := ⟨Nat.le_of_ble_eq_true rfl, 0, cy.1, rfl, fun _ _ => rfl⟩
theorem aX_6_shown : LA (vX D cy q) 75 256 := ⟨Nat.le_of_ble_eq_true rfl, 1, cy.2.1, rfl, fun _ _ => rfl⟩
theorem aX_7_waits : IA (vX D cy q) 77 169 := ⟨Nat.le_of_ble_eq_true rfl, 0, cy.1, rfl, fun _ _ => rfl⟩
theorem aX_7_toldShapes : IA (vX D cy q) 78 169 := ⟨Nat.le_of_ble_eq_true rfl, 0, cy.1, rfl, fun _ _ => rfl⟩
theorem aX_7_shapes : IA (vX D cy q) 79 169 := ⟨Nat.le_of_ble_eq_true rfl, 0, cy.1, rfl, fun _ _ => rfl⟩
theorem aX_7_stood : IA (vX D cy q) 80 169 := ⟨Nat.le_of_ble_eq_true rfl, 0, cy.1, rfl, fun _ _ => rfl⟩
theorem aX_7_firstMoved : IA (vX D cy q) 81 256 := ⟨Nat.le_of_ble_eq_true rfl, 0, cy.1, rfl, fun _ _ => rfl⟩
theorem aX_7_secondMoved : IA (vX D cy q) 82 256 := ⟨Nat.le_of_ble_eq_true rfl, 0, cy.1, rfl, fun _ _ => rfl⟩
theorem aX_7_deniedNext : IA (vX D cy q) 83 13 := ⟨Nat.le_of_ble_eq_true rfl, 0, cy.1, rfl, fun _ _ => rfl⟩
theorem aX_2_queue : IA (vX D cy q) 85 43264 := ⟨Nat.le_of_ble_eq_true rfl, 0, cy.1, rfl, fun _ _ => rfl⟩
theorem aX_2_seen : LA (vX D cy q) 86 676 := ⟨Nat.le_of_ble_eq_true rfl, 1, cy.2.1, rfl, fun _ _ => rfl⟩
theorem aM_acts : IA (vM D cy q) 1 48 := ⟨Nat.le_of_ble_eq_true rfl, 0, cy.1, rfl, fun _ _ => rfl⟩
theorem aM_firsts : IA (vM D cy q) 2 48 := ⟨Nat.le_of_ble_eq_true rfl, 0, cy.1, rfl, fun _ _ => rfl⟩
theorem aM_seconds : IA (vM D cy q) 3 48 := ⟨Nat.le_of_ble_eq_true rfl, 0, cy.1, rfl, fun _ _ => rfl⟩
theorem aM_thirds : IA (vM D cy q) 4 48 := ⟨Nat.le_of_ble_eq_true rfl, 0, cy.1, rfl, fun _ _ => rfl⟩
theorem aM_lineMany : IA (vM D cy q) 5 4 := ⟨Nat.le_of_ble_eq_true rfl, 0, cy.1, rfl, fun _ _ => rfl⟩
theorem aM_silence : IA (vM D cy q) 6 4 := ⟨Nat.le_of_ble_eq_true rfl, 0, cy.1, rfl, fun _ _ => rfl⟩
theorem aM_isLaid : ZA (vM D cy q) 7 4 := ⟨Nat.le_of_ble_eq_true rfl, 2, cy.2.2.1, rfl, fun _ _ => rfl⟩
theorem aM_after : IA (vM D cy q) 8 12288 := ⟨Nat.le_of_ble_eq_true rfl, 0, cy.1, rfl, fun _ _ => rfl⟩
theorem aM_endOf : IA (vM D cy q) 9 512 := ⟨Nat.le_of_ble_eq_true rfl, 0, cy.1, rfl, fun _ _ => rfl⟩
theorem aM_memoryOf : IA (vM D cy q) 10 512 := ⟨Nat.le_of_ble_eq_true rfl, 0, cy.1, rfl, fun _ _ => rfl⟩
theorem aM_stepsOf : IA (vM D cy q) 11 512 := ⟨Nat.le_of_ble_eq_true rfl, 0, cy.1, rfl, fun _ _ => rfl⟩
theorem aM_shownMany : IA (vM D cy q) 12 512 := ⟨Nat.le_of_ble_eq_true rfl, 0, cy.1, rfl, fun _ _ => rfl⟩
theorem aM_shown : IA (vM D cy q) 13 12288 := ⟨Nat.le_of_ble_eq_true rfl, 0, cy.1, rfl, fun _ _ => rfl⟩
theorem aM_signs : IA (vM D cy q) 14 280 := ⟨Nat.le_of_ble_eq_true rfl, 0, cy.1, rfl, fun _ _ => rfl⟩
theorem aM_signMany : IA (vM D cy q) 15 7 := ⟨Nat.le_of_ble_eq_true rfl, 0, cy.1, rfl, fun _ _ => rfl⟩
theorem aM_waits : IA (vM D cy q) 16 144 := ⟨Nat.le_of_ble_eq_true rfl, 0, cy.1, rfl, fun _ _ => rfl⟩
theorem aM_toldShape : IA (vM D cy q) 17 169 := ⟨Nat.le_of_ble_eq_true rfl, 0, cy.1, rfl, fun _ _ => rfl⟩
theorem aM_shapes : IA (vM D cy q) 18 169 := ⟨Nat.le_of_ble_eq_true rfl, 0, cy.1, rfl, fun _ _ => rfl⟩
theorem aM_isStood : ZA (vM D cy q) 19 169 := ⟨Nat.le_of_ble_eq_true rfl, 2, cy.2.2.1, rfl, fun _ _ => rfl⟩
theorem aM_says : IA (vM D cy q) 20 65536 := ⟨Nat.le_of_ble_eq_true rfl, 0, cy.1, rfl, fun _ _ => rfl⟩
theorem aM_wasThere : ZA (vM D cy q) 21 43264 := ⟨Nat.le_of_ble_eq_true rfl, 2, cy.2.2.1, rfl, fun _ _ => rfl⟩
theorem aM_waiting : IA (vM D cy q) 22 43264 := ⟨Nat.le_of_ble_eq_true rfl, 0, cy.1, rfl, fun _ _ => rfl⟩
end WL
