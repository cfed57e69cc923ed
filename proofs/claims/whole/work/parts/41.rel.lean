/-! ===== the relation of the class's state and the reference's ===== -/
abbrev Tx : Type := Nat × (Nat → Nat)
/-- PROGRAMS, SILENT LINES, how many SAYINGS, texts (6: the signs), WAITS, TOLD SHAPES -/
abbrev Ab : Type := (Nat → Pg) × (Nat → Nat) × Nat × (Nat → Tx) × (Nat → Nat → Nat) × (Nat → Nat)
abbrev aP (A : Ab) : Nat → Pg := A.1
abbrev aH (A : Ab) : Nat → Nat := A.2.1
abbrev aN (A : Ab) : Nat := A.2.2.1
abbrev aT (A : Ab) : Nat → Tx := A.2.2.2.1
abbrev aW (A : Ab) : Nat → Nat → Nat := A.2.2.2.2.1
abbrev aS (A : Ab) : Nat → Nat := A.2.2.2.2.2
/-- the specs of what is kept: pairs, walks, orders, so -/
abbrev HSt : Type := Tx → Pg → Nat → Pg → Nat → Int32 × Int32 × Int32 × Int32
abbrev WSt : Type := Tx → Pg → Pg → (Nat → Nat → Nat) → (Nat → Int32) × (Nat → Int32) × Int32
abbrev OSt : Type := Pg → Pg → Nat → Nat → Bool
abbrev SSt : Type := Tx → Pg → Nat → Int32
-- texts: the grammar, as both sides walk it
def isLet (c : Nat) : Prop := 97 ≤ c ∧ c ≤ 100
/-- what is due behind a sign (4: it can not stand there) -/
def due (s c : Nat) (bh : Bool) : Nat :=
  if s = 0 then (if 97 ≤ c ∧ c ≤ 100 then 1 else if bh = true ∧ (c = 101 ∨ c = 111 ∨ c = 116) then 3 else 4)
  else if s = 1 then (if c = 61 ∨ c = 60 ∨ c = 62 ∨ c = 35 then 2 else 4)
  else if s = 2 then (if 97 ≤ c ∧ c ≤ 100 then 3 else 4)
  else if c = 38 ∨ (c = 58 ∧ bh = false) then 0 else 4
/-- the state ahead of sign i: what is due, and whether the : was -/
def gs (T : Tx) : Nat → Nat × Bool
  | 0 => (0, false)
  | i + 1 => (due (gs T i).1 (T.2 i) (gs T i).2, (gs T i).2 || decide (T.2 i = 58))
/-- a text without a FAULT -/
def okT (T : Tx) : Prop := (∀ i, i < T.1 → (gs T (i + 1)).1 ≠ 4) ∧ (gs T T.1).1 = 3 ∧ (gs T T.1).2 = true
def alk (c : Nat) : Nat := if c = 101 then 3 * 2 ^ 50 else if c = 111 then 2 ^ 50 - 1 else if c = 116 then 31 * 2 ^ 52 else 0
/-- the last : of the first n signs, and the parts that must be alike -/
def col (T : Tx) : Nat → Nat
  | 0 => 0
  | i + 1 => if T.2 i = 58 then i else col T i
def alkT (T : Tx) : Nat → Nat
  | 0 => 0
  | i + 1 => alkT T i ||| alk (T.2 i)
def VA (A : Ab) : Prop := (∀ p, p < 4 → VP (aP A p) ∧ aH A p < 4096) ∧ aN A ≤ 6 ∧ (∀ s, (s < aN A ∨ s = 6) → (aT A s).1 ≤ 40 ∧ ∀ i, i < (aT A s).1 → 33 ≤ (aT A s).2 i ∧ (aT A s).2 i ≤ 126) ∧ (∀ s, s < aN A → okT (aT A s)) ∧ (∀ a b, a < 12 → b < 12 → aW A a b ≤ 2) ∧ (∀ j, j < 169 → aS A j < 4096)
-- the class
def CX1 (σ : St) : Prop := ∀ m, m < 256 → σ.1 1 m = nI (hotP m 4) ∧ σ.1 2 m = nI (lanP m 4)
def CXp (k : Nat) (σ : St) (pa : Nat) (P : Pg) (hu : Nat) : Prop := PX σ pa P ∧ σ.1 pa 6 = nI hu ∧ ∃ g, 1 ≤ g ∧ g ≤ k + 1 ∧ σ.1 pa 7 = nI g ∧ ∀ m, m < 256 → ∃ a, a ≤ g ∧ σ.1 (pa + 5) m = nI a ∧ (a = g → TraceRow σ pa P hu m)
def CX2 (k : Nat) (A : Ab) (σ : St) : Prop := ∀ p, p < 4 → CXp k σ (4 + 13 * p) (aP A p) (aH A p)
def CXt (σ : St) (sa : Nat) (T : Tx) : Prop := σ.1 sa 1 = nI T.1 ∧ ∀ i, i < T.1 → σ.1 (sa + 1) i = nI (T.2 i)
def CX3 (A : Ab) (σ : St) : Prop := σ.1 87 2 = nI (aN A) ∧ (∀ s, (s < aN A ∨ s = 6) → CXt σ (57 + 2 * s) (aT A s)) ∧ ∀ s, s < aN A → σ.1 (57 + 2 * s) 3 = nI (col (aT A s) (aT A s).1) ∧ σ.2 (57 + 2 * s) 2 = lN (alkT (aT A s) (aT A s).1)
def CX4 (A : Ab) (σ : St) : Prop := (∀ a b, a < 12 → b < 12 → σ.1 77 (13 * a + b) = nI (aW A a b)) ∧ (∀ a, a < 12 → σ.1 77 (13 * a + 12) = 1) ∧ (∀ b, b < 12 → σ.1 77 (156 + b) = 2)
def CX5 (A : Ab) (σ : St) : Prop := ∀ j, j < 169 → σ.1 78 j = nI (aS A j)
def CX6 (HS : HSt) (A : Ab) (σ : St) : Prop := σ.1 72 1 = -6 ∨ ∃ s p q, s < aN A ∧ p < 4 ∧ q < 4 ∧ σ.1 72 1 = nI (16 * s + 4 * p + q) ∧ HS (aT A s) (aP A p) (aH A p) (aP A q) (aH A q) = (σ.1 72 2, σ.1 72 3, σ.1 72 4, σ.1 72 5)
def CX7 (WS : WSt) (A : Ab) (σ : St) : Prop := σ.1 76 1 = -6 ∨ ∃ s p q, s < aN A ∧ p < 4 ∧ q < 4 ∧ σ.1 76 1 = nI (16 * s + 4 * p + q) ∧ (∀ j, j < 169 → σ.1 79 j = (WS (aT A s) (aP A p) (aP A q) (aW A)).1 j ∧ σ.1 80 j = (WS (aT A s) (aP A p) (aP A q) (aW A)).2.1 j) ∧ σ.1 76 6 = (WS (aT A s) (aP A p) (aP A q) (aW A)).2.2
/-- a bit of the row of reached points -/
def sbit (σ : St) (x : Nat) : Bool := (σ.2 86 (x / 64)).toBitVec.getLsbD (x % 64)
def CX8 (OS : OSt) (A : Ab) (σ : St) : Prop := σ.1 84 0 = -6 ∨ ∃ m p q, m < 256 ∧ p < 4 ∧ q < 4 ∧ σ.1 84 0 = nI (16 * m + 4 * p + q) ∧ ∀ x, x < 256 → sbit σ (43008 + x) = OS (aP A p) (aP A q) m x
def CXa (HS : HSt) (WS : WSt) (OS : OSt) (k : Nat) (A : Ab) (σ : St) : Prop := CX1 σ ∧ CX2 k A σ ∧ CX3 A σ ∧ CX4 A σ ∧ CX5 A σ ∧ CX6 HS A σ ∧ CX7 WS A σ ∧ CX8 OS A σ
-- the reference
def CM1 (σ : St) : Prop := ∀ x y, x < 256 → y < 256 → σ.1 20 (256 * x + y) = nI (saysP x y 4)
def CM2 (A : Ab) (σ : St) : Prop := ∀ p, p < 4 → PM σ p (aP A p) ∧ σ.1 6 p = nI (aH A p) ∧ (σ.1 7 p = 0 ∨ σ.1 7 p = 1) ∧ (σ.1 7 p = 1 → Laid σ p (aP A p))
def CMt (σ : St) (s : Nat) (T : Tx) : Prop := σ.1 15 s = nI T.1 ∧ ∀ i, i < T.1 → σ.1 14 (40 * s + i) = nI (T.2 i)
def CM3 (A : Ab) (σ : St) : Prop := σ.1 0 20 = nI (aN A) ∧ ∀ s, (s < aN A ∨ s = 6) → CMt σ s (aT A s)
def CM4 (A : Ab) (σ : St) : Prop := ∀ a b, a < 12 → b < 12 → σ.1 16 (12 * a + b) = nI (aW A a b)
def CM5 (A : Ab) (σ : St) : Prop := ∀ j, j < 169 → σ.1 17 j = nI (aS A j)
def CMv (k : Nat) (σ : St) : Prop := (∃ a, a ≤ k ∧ σ.1 0 7 = nI a ∧ (σ.1 0 22 = -6 ∨ ∃ b, b ≤ a ∧ σ.1 0 22 = nI b) ∧ (σ.1 0 42 = -6 ∨ ∃ b, b ≤ a ∧ σ.1 0 42 = nI b)) ∧ ∃ a, a ≤ k ∧ σ.1 0 8 = nI a ∧ (σ.1 0 40 = -6 ∨ ∃ b, b ≤ a ∧ σ.1 0 40 = nI b)
def CM6 (HS : HSt) (A : Ab) (σ : St) : Prop := σ.1 0 22 = σ.1 0 7 → ∃ s p q, s < aN A ∧ p < 4 ∧ q < 4 ∧ σ.1 0 21 = nI (16 * s + 4 * p + q) ∧ HS (aT A s) (aP A p) (aH A p) (aP A q) (aH A q) = (σ.1 0 23, σ.1 0 24, σ.1 0 25, σ.1 0 26)
def CM7 (WS : WSt) (A : Ab) (σ : St) : Prop := σ.1 0 40 = σ.1 0 8 → ∃ s p q, s < aN A ∧ p < 4 ∧ q < 4 ∧ σ.1 0 39 = nI (16 * s + 4 * p + q) ∧ (σ.1 7 p = 1 ∧ σ.1 7 q = 1) ∧ (∀ j, j < 169 → σ.1 18 j = (WS (aT A s) (aP A p) (aP A q) (aW A)).1 j ∧ σ.1 19 j = (WS (aT A s) (aP A p) (aP A q) (aW A)).2.1 j) ∧ σ.1 0 37 = (WS (aT A s) (aP A p) (aP A q) (aW A)).2.2
def CM8 (SS : SSt) (A : Ab) (σ : St) : Prop := σ.1 0 42 = σ.1 0 7 → ∃ s p, s < aN A ∧ p < 4 ∧ σ.1 0 41 = nI (4 * s + p) ∧ σ.1 0 43 = SS (aT A s) (aP A p) (aH A p)
def CMa (HS : HSt) (WS : WSt) (SS : SSt) (k : Nat) (A : Ab) (σ : St) : Prop := CM1 σ ∧ CM2 A σ ∧ CM3 A σ ∧ CM4 A σ ∧ CM5 A σ ∧ CMv k σ ∧ CM6 HS A σ ∧ CM7 WS A σ ∧ CM8 SS A σ
def Rel (HS : HSt) (WS : WSt) (OS : OSt) (SS : SSt) (k : Nat) (σX σM : St) : Prop := ∃ A, VA A ∧ CXa HS WS OS k A σX ∧ CMa HS WS SS k A σM
/-- the rows of these cells are the same -/
def Ag (S : Nat → Prop) (σ σ' : St) : Prop := ∀ k, S k → σ'.1 k = σ.1 k ∧ σ'.2 k = σ.2 k
theorem Ag.i_ {S : Nat → Prop} {σ σ' : St} {k j : Nat} {x : Int32} (h : Ag S σ σ') (hk : ¬ S k) : Ag S σ (stI σ' k j x) := fun i hi => by
  have hne : i ≠ k := fun e => by subst e; exact hk hi
  exact ⟨by rw [stI_nk hne]; exact (h i hi).1, (h i hi).2⟩
theorem Ag.l_ {S : Nat → Prop} {σ σ' : St} {k j : Nat} {x : Int64} (h : Ag S σ σ') (hk : ¬ S k) : Ag S σ (stL σ' k j x) := fun i hi => by
  have hne : i ≠ k := fun e => by subst e; exact hk hi
  exact ⟨(h i hi).1, by rw [stL_nk hne]; exact (h i hi).2⟩
theorem Ag.r_ {S : Nat → Prop} {σ σ' : St} {k : Nat} {f : Nat → Int32} (h : Ag S σ σ') (hk : ¬ S k) : Ag S σ (stR σ' k f) := fun i hi => by
  have hne : i ≠ k := fun e => by subst e; exact hk hi
  exact ⟨by rw [stR_v, if_neg hne]; exact (h i hi).1, (h i hi).2⟩
theorem Ag.refl (S : Nat → Prop) (σ : St) : Ag S σ σ := fun _ _ => ⟨rfl, rfl⟩
theorem Ag.trans {S : Nat → Prop} {a b c : St} (h1 : Ag S a b) (h2 : Ag S b c) : Ag S a c := fun k hk => ⟨(h2 k hk).1.trans (h1 k hk).1, (h2 k hk).2.trans (h1 k hk).2⟩
theorem Ag.mono {S S' : Nat → Prop} {a b : St} (h : Ag S a b) (hs : ∀ k, S' k → S k) : Ag S' a b := fun k hk => h k (hs k hk)
theorem CX1.ag {σ σ' : St} (h : CX1 σ) (ha : Ag (fun k => k = 1 ∨ k = 2) σ σ') : CX1 σ' := fun m hm => by rw [(ha 1 (Or.inl rfl)).1, (ha 2 (Or.inr rfl)).1]; exact h m hm
theorem PX.ag {σ σ' : St} {pa : Nat} {P : Pg} (h : PX σ pa P) (ha : Ag (fun k => pa ≤ k ∧ k ≤ pa + 12) σ σ') : PX σ' pa P := by
  unfold PX
  rw [(ha pa (by omega)).1, (ha (pa + 1) (by omega)).1, (ha (pa + 2) (by omega)).1, (ha (pa + 3) (by omega)).1, (ha (pa + 4) (by omega)).1]
  exact h
theorem TraceRow.ag {σ σ' : St} {pa hu m : Nat} {P : Pg} (h : TraceRow σ pa P hu m) (ha : Ag (fun k => pa ≤ k ∧ k ≤ pa + 12) σ σ') : TraceRow σ' pa P hu m := by
  unfold TraceRow
  rw [(ha (pa + 6) (by omega)).1, (ha (pa + 7) (by omega)).1, (ha (pa + 8) (by omega)).1, (ha (pa + 9) (by omega)).1, (ha (pa + 10) (by omega)).1, (ha (pa + 11) (by omega)).1, (ha (pa + 12) (by omega)).2]
  exact h
theorem CXp.ag {k : Nat} {σ σ' : St} {pa hu : Nat} {P : Pg} (h : CXp k σ pa P hu) (ha : Ag (fun k => pa ≤ k ∧ k ≤ pa + 12) σ σ') : CXp k σ' pa P hu := by
  obtain ⟨h1, h2, g, h3, h4, h5, h6⟩ := h
  refine ⟨h1.ag ha, by rw [(ha pa (by omega)).1]; exact h2, g, h3, h4, by rw [(ha pa (by omega)).1]; exact h5, fun m hm => ?_⟩
  obtain ⟨a, b, c, d⟩ := h6 m hm
  exact ⟨a, b, by rw [(ha (pa + 5) (by omega)).1]; exact c, fun e => (d e).ag ha⟩
theorem CXp.mono {k k' : Nat} {σ : St} {pa hu : Nat} {P : Pg} (h : CXp k σ pa P hu) (hk : k ≤ k') : CXp k' σ pa P hu := by
  obtain ⟨h1, h2, g, h3, h4, h5⟩ := h
  exact ⟨h1, h2, g, h3, by omega, h5⟩
theorem CX2.ag {k : Nat} {A : Ab} {σ σ' : St} (h : CX2 k A σ) (ha : Ag (fun k => 4 ≤ k ∧ k < 56) σ σ') : CX2 k A σ' := fun p hp => (h p hp).ag (ha.mono (fun k hk => by omega))
theorem CX2.mono {k k' : Nat} {A : Ab} {σ : St} (h : CX2 k A σ) (hk : k ≤ k') : CX2 k' A σ := fun p hp => (h p hp).mono hk
theorem CX3.ag {A : Ab} {σ σ' : St} (hn : aN A ≤ 6) (h : CX3 A σ) (ha : Ag (fun k => (57 ≤ k ∧ k ≤ 70) ∨ k = 87) σ σ') : CX3 A σ' := by
  obtain ⟨h1, h2, h3⟩ := h
  refine ⟨by rw [(ha 87 (Or.inr rfl)).1]; exact h1, fun s hs => ?_, fun s hs => ?_⟩
  · obtain ⟨a, b⟩ := h2 s hs
    exact ⟨by rw [(ha (57 + 2 * s) (by omega)).1]; exact a, fun i hi => by rw [(ha (57 + 2 * s + 1) (by omega)).1]; exact b i hi⟩
  · rw [(ha (57 + 2 * s) (by omega)).1, (ha (57 + 2 * s) (by omega)).2]; exact h3 s hs
theorem CX4.ag {A : Ab} {σ σ' : St} (h : CX4 A σ) (ha : Ag (fun k => k = 77) σ σ') : CX4 A σ' := by
  unfold CX4; rw [(ha 77 rfl).1]; exact h
theorem CX5.ag {A : Ab} {σ σ' : St} (h : CX5 A σ) (ha : Ag (fun k => k = 78) σ σ') : CX5 A σ' := by
  unfold CX5; rw [(ha 78 rfl).1]; exact h
theorem CX6.ag {HS : HSt} {A : Ab} {σ σ' : St} (h : CX6 HS A σ) (ha : Ag (fun k => k = 72) σ σ') : CX6 HS A σ' := by
  unfold CX6; rw [(ha 72 rfl).1]; exact h
theorem CX7.ag {WS : WSt} {A : Ab} {σ σ' : St} (h : CX7 WS A σ) (ha : Ag (fun k => k = 76 ∨ k = 79 ∨ k = 80) σ σ') : CX7 WS A σ' := by
  unfold CX7; rw [(ha 76 (by omega)).1, (ha 79 (by omega)).1, (ha 80 (by omega)).1]; exact h
theorem CX8.ag {OS : OSt} {A : Ab} {σ σ' : St} (h : CX8 OS A σ) (ha : Ag (fun k => k = 84 ∨ k = 86) σ σ') : CX8 OS A σ' := by
  unfold CX8 sbit; rw [(ha 84 (by omega)).1, (ha 86 (by omega)).2]; exact h
