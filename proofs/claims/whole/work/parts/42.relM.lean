/-! ===== the relation: the reference's half under changes; small calls ===== -/
theorem CM1.ag {σ σ' : St} (h : CM1 σ) (ha : Ag (fun k => k = 20) σ σ') : CM1 σ' := by unfold CM1; rw [(ha 20 rfl).1]; exact h
theorem PM.ag {σ σ' : St} {p : Nat} {P : Pg} (h : PM σ p P) (ha : Ag (fun k => 1 ≤ k ∧ k ≤ 5) σ σ') : PM σ' p P := by
  unfold PM; rw [(ha 1 (by omega)).1, (ha 2 (by omega)).1, (ha 3 (by omega)).1, (ha 4 (by omega)).1, (ha 5 (by omega)).1]; exact h
theorem CM2.ag {A : Ab} {σ σ' : St} (h : CM2 A σ) (ha : Ag (fun k => 1 ≤ k ∧ k ≤ 8) σ σ') : CM2 A σ' := by
  intro p hp
  obtain ⟨h1, h2, h3, h4⟩ := h p hp
  refine ⟨h1.ag (ha.mono (fun k hk => by omega)), ?_, ?_, ?_⟩
  · rw [(ha 6 (by omega)).1]; exact h2
  · rw [(ha 7 (by omega)).1]; exact h3
  · unfold Laid; rw [(ha 7 (by omega)).1, (ha 8 (by omega)).1]; exact h4
theorem CM3.ag {A : Ab} {σ σ' : St} (h : CM3 A σ) (ha : Ag (fun k => k = 14 ∨ k = 15) σ σ') (h0 : σ'.1 0 20 = σ.1 0 20) : CM3 A σ' := by
  unfold CM3 CMt; rw [h0, (ha 14 (by omega)).1, (ha 15 (by omega)).1]; exact h
theorem CM4.ag {A : Ab} {σ σ' : St} (h : CM4 A σ) (ha : Ag (fun k => k = 16) σ σ') : CM4 A σ' := by unfold CM4; rw [(ha 16 rfl).1]; exact h
theorem CM5.ag {A : Ab} {σ σ' : St} (h : CM5 A σ) (ha : Ag (fun k => k = 17) σ σ') : CM5 A σ' := by unfold CM5; rw [(ha 17 rfl).1]; exact h
theorem CMv.mono {k k' : Nat} {σ : St} (h : CMv k σ) (hk : k ≤ k') : CMv k' σ := by
  obtain ⟨⟨a, h1, h2⟩, b, h3, h4⟩ := h
  exact ⟨⟨a, by omega, h2⟩, b, by omega, h4⟩
theorem CXa.mono {HS : HSt} {WS : WSt} {OS : OSt} {k k' : Nat} {A : Ab} {σ : St} (h : CXa HS WS OS k A σ) (hk : k ≤ k') : CXa HS WS OS k' A σ := ⟨h.1, h.2.1.mono hk, h.2.2⟩
theorem CMa.mono {HS : HSt} {WS : WSt} {SS : SSt} {k k' : Nat} {A : Ab} {σ : St} (h : CMa HS WS SS k A σ) (hk : k ≤ k') : CMa HS WS SS k' A σ := ⟨h.1, h.2.1, h.2.2.1, h.2.2.2.1, h.2.2.2.2.1, h.2.2.2.2.2.1.mono hk, h.2.2.2.2.2.2⟩
theorem Rel.mono {HS : HSt} {WS : WSt} {OS : OSt} {SS : SSt} {k k' : Nat} {σX σM : St} (h : Rel HS WS OS SS k σX σM) (hk : k ≤ k') : Rel HS WS OS SS k' σX σM := by
  obtain ⟨A, h1, h2, h3⟩ := h
  exact ⟨A, h1, h2.mono hk, h3.mono hk⟩
section SM
variable (HS : HSt) (WS : WSt) (OS : OSt) (SS : SSt)
/-- an answer that changes nothing -/
theorem ansE {fX fM : St → Option (Int32 × St)} {k : Nat} {σX σM : St} {r : Int32} (hR : Rel HS WS OS SS k σX σM) (h1 : fX σX = some (r, σX)) (h2 : fM σM = some (r, σM)) : AnsE fX fM (Rel HS WS OS SS) k σX σM := ⟨r, σX, σM, h1, h2, hR.mono (Nat.le_succ k)⟩
theorem ok_tell : Ok_tell (Rel HS WS OS SS) := by
  intro k σX σM a1 a2 a3 hk hR
  have hR0 := hR
  rcases rng a1 12 (by decide) with ⟨x, hx, rfl, xa, xb⟩ | ⟨_, xa, xb⟩
  rotate_left
  · exact ansE HS WS OS SS hR0 (r := -2) (by unfold f_X8_tell; rw [L12, xa]; rfl) (by unfold f_X9_tell f_X9_isPlace; rw [show (12 : Int64) = lN 12 from rfl, xb]; rfl)
  rcases rng a2 12 (by decide) with ⟨y, hy, rfl, ya, yb⟩ | ⟨_, ya, yb⟩
  rotate_left
  · exact ansE HS WS OS SS hR0 (r := -2) (by unfold f_X8_tell; rw [L12, xa, Option.bind_some, if_neg (by decide), ya]; rfl) (by unfold f_X9_tell f_X9_isPlace; rw [show (12 : Int64) = lN 12 from rfl, xb, Option.bind_some, if_neg (by decide), yb]; rfl)
  rcases rng a3 4095 (by decide) with ⟨b, hb, rfl, ba, bb⟩ | ⟨_, ba, bb⟩
  rotate_left
  · exact ansE HS WS OS SS hR0 (r := -2) (by unfold f_X8_tell; rw [L12, L4095, xa, Option.bind_some, if_neg (by decide), ya, Option.bind_some, if_neg (by decide), ba]; rfl) (by unfold f_X9_tell f_X9_isPlace; rw [show (12 : Int64) = lN 12 from rfl, show (4095 : Int64) = lN 4095 from rfl, xb, Option.bind_some, if_neg (by decide), yb, Option.bind_some, if_neg (by decide), Option.bind_some, if_neg (by decide), bb]; rfl)
  obtain ⟨A, hV, ⟨x1, x2, x3, x4, x5, x6, x7, x8⟩, m1, m2, m3, m4, m5, mv, m6, m7, m8⟩ := hR
  have ea : nI x * (13 : Int32) + nI y = nI (13 * x + y) := by rw [L13, pk_mul, nI_add, Nat.mul_comm]
  have eb : (13 : Int32) * nI x + nI y = nI (13 * x + y) := by rw [L13, pk_mul, nI_add]
  have ii : inb (nI (13 * x + y)) 169 = true := inb_nI (by omega) (by decide)
  have ci : (nI (13 * x + y)).toNatClampNeg = 13 * x + y := nI_clamp (by omega)
  refine ⟨nI (aS A (13 * x + y)), stI σX 78 (13 * x + y) (nI b), stI σM 17 (13 * x + y) (nI b), ?_, ?_, (aP A, aH A, aN A, aT A, aW A, fun j => if j = 13 * x + y then b else aS A j), ?_, ?_, ?_⟩
  · unfold f_X8_tell
    rw [L12, L4095, xa, Option.bind_some, if_neg (by decide), ya, Option.bind_some, if_neg (by decide), ba, Option.bind_some, if_neg (by decide)]
    simp only [ea, nm_, ii, chk_t, ci, x5 (13 * x + y) (by omega)]
  · unfold f_X9_tell f_X9_isPlace
    rw [show (12 : Int64) = lN 12 from rfl, show (4095 : Int64) = lN 4095 from rfl, xb, Option.bind_some, if_neg (by decide), yb, Option.bind_some, if_neg (by decide), Option.bind_some, if_neg (by decide), bb, Option.bind_some, if_neg (by decide)]
    simp only [eb, nm_, ii, chk_t, ci, m5 (13 * x + y) (by omega)]
  · obtain ⟨v1, v2, v3, v4, v5, v6⟩ := hV
    exact ⟨v1, v2, v3, v4, v5, fun j hj => by show (if j = 13 * x + y then b else aS A j) < 4096; split; omega; exact v6 j hj⟩
  · have ag : Ag (fun k => k ≠ 78) σX (stI σX 78 (13 * x + y) (nI b)) := (Ag.refl _ _).i_ (fun h => h rfl)
    refine ⟨x1.ag (ag.mono (by omega)), (x2.ag (ag.mono (by omega))).mono (Nat.le_succ k), x3.ag hV.2.1 (ag.mono (by omega)), x4.ag (ag.mono (by omega)), ?_, x6.ag (ag.mono (by omega)), x7.ag (ag.mono (by omega)), x8.ag (ag.mono (by omega))⟩
    intro j hj
    show (stI σX 78 (13 * x + y) (nI b)).1 78 j = nI (if j = 13 * x + y then b else aS A j)
    rw [stI_v]
    by_cases h : j = 13 * x + y
    · rw [if_pos ⟨rfl, h⟩, if_pos h]
    · rw [if_neg (fun q => h q.2), if_neg h]; exact x5 j hj
  · have ag : Ag (fun k => k ≠ 17) σM (stI σM 17 (13 * x + y) (nI b)) := (Ag.refl _ _).i_ (fun h => h rfl)
    have e0 : ∀ j, (stI σM 17 (13 * x + y) (nI b)).1 0 j = σM.1 0 j := fun j => by rw [stI_nk (by decide)]
    refine ⟨m1.ag (ag.mono (by omega)), m2.ag (ag.mono (by omega)), m3.ag (ag.mono (by omega)) (e0 20), m4.ag (ag.mono (by omega)), ?_, ?_, ?_, ?_, ?_⟩
    · intro j hj
      show (stI σM 17 (13 * x + y) (nI b)).1 17 j = nI (if j = 13 * x + y then b else aS A j)
      rw [stI_v]
      by_cases h : j = 13 * x + y
      · rw [if_pos ⟨rfl, h⟩, if_pos h]
      · rw [if_neg (fun q => h q.2), if_neg h]; exact m5 j hj
    · have := mv.mono (Nat.le_succ k); unfold CMv; simp only [e0]; exact this
    · unfold CM6; simp only [e0]; exact m6
    · unfold CM7; simp only [e0, stI_nk (show 18 ≠ 17 by decide), stI_nk (show 19 ≠ 17 by decide), stI_nk (show 7 ≠ 17 by decide)]; exact m7
    · unfold CM8; simp only [e0]; exact m8
end SM
