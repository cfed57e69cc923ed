/-! ===== the state, the world of a state, the judgement of a port ===== -/
abbrev St : Type := (Nat → Nat → Int32) × (Nat → Nat → Int64)
abbrev EnT : Type := Nat → (Nat → Int32) → (Nat → Int64) → va_E
/-- D, array classes, addresses, number of cells, contents -/
abbrev Vw : Type := va_G × List (ClassId × FieldType) × (Nat → Nat) × Nat × EnT
abbrev vq (v : Vw) : Nat → Nat := v.2.2.1
abbrev vN (v : Vw) : Nat := v.2.2.2.1
abbrev vE (v : Vw) : EnT := v.2.2.2.2
def stI (σ : St) (k j : Nat) (x : Int32) : St := (va_up σ.1 k (upd (σ.1 k) j x), σ.2)
def stL (σ : St) (k j : Nat) (x : Int64) : St := (σ.1, va_up σ.2 k (vp_updL (σ.2 k) j x))
def stR (σ : St) (k : Nat) (f : Nat → Int32) : St := (va_up σ.1 k f, σ.2)
def wd (v : Vw) (σ : St) : va_W := (List.range (vN v)).map fun k => (vq v k, vE v k (σ.1 k) (σ.2 k))
theorem wd_at (v : Vw) (σ : St) {k : Nat} (hk : k < vN v) : (wd v σ)[k]? = some (vq v k, vE v k (σ.1 k) (σ.2 k)) := by
  simp [wd, hk]
theorem wd_ato {v : Vw} {σ : St} {k : Nat} {q : Nat × va_E} (h : (wd v σ)[k]? = some q) : k < vN v ∧ q = (vq v k, vE v k (σ.1 k) (σ.2 k)) := by
  have hk : k < vN v := by
    rcases Nat.lt_or_ge k (vN v) with h1 | h1
    · exact h1
    · rw [List.getElem?_eq_none (by simp [wd]; exact h1)] at h; cases h
  rw [wd_at v σ hk] at h
  exact ⟨hk, (Option.some.inj h).symm⟩
theorem wd_len (v : Vw) (σ : St) : (wd v σ).length = vN v := by simp [wd]
theorem wd_set {v : Vw} {σ σ' : St} {k : Nat} (hk : k < vN v) {en : va_E} (he : en = vE v k (σ'.1 k) (σ'.2 k)) (h : ∀ j, j ≠ k → σ'.1 j = σ.1 j ∧ σ'.2 j = σ.2 j) : (wd v σ).set k (vq v k, en) = wd v σ' := by
  apply List.ext_getElem?
  intro i
  rcases Nat.lt_or_ge i (vN v) with hi | hi
  · by_cases e : i = k
    · subst e
      rw [wd_at v σ' hi, List.getElem?_set_self (by rw [wd_len]; exact hi), he]
    · rw [List.getElem?_set_ne (fun h => e h.symm), wd_at v σ hi, wd_at v σ' hi, (h i e).1, (h i e).2]
  · rw [List.getElem?_eq_none (by rw [List.length_set, wd_len]; exact hi), List.getElem?_eq_none (by rw [wd_len]; exact hi)]
def Aq (v : Vw) (sz : Nat) : Nat → Prop := fun a => (∃ k, k < vN v ∧ a = vq v k) ∨ sz ≤ a
def Dq (v : Vw) : Prop := ∀ i j, i < vN v → j < vN v → vq v i = vq v j → i = j
theorem wd_D {v : Vw} (h : Dq v) {A : Nat → Prop} (hA : ∀ k, k < vN v → A (vq v k)) (σ : St) : va_D A (wd v σ) := by
  refine ⟨fun i j p q hi hj e => ?_, fun k q hk => ?_⟩
  · obtain ⟨h1, rfl⟩ := wd_ato hi
    obtain ⟨h2, rfl⟩ := wd_ato hj
    exact h i j h1 h2 e
  · obtain ⟨h1, rfl⟩ := wd_ato hk
    exact hA k h1
theorem wd_Dq {v : Vw} (h : Dq v) (sz : Nat) (σ : St) : va_D (Aq v sz) (wd v σ) := wd_D h (fun k hk => Or.inl ⟨k, hk, rfl⟩) σ
/-- the five words of nest mates -/
def Nst (U : State) : Prop := va_Nw (.methodLinkNest RX1 18 yX8_valueOf RX8) U ∧ va_Nw (.methodLinkNest RX4 63 yX8_valueOf RX8) U ∧ va_Nw (.methodLinkNest RX4 67 yX8_withValue RX8) U ∧ va_Nw (.methodLinkNest RX5 56 yX8_valueOf RX8) U ∧ va_Nw (.methodLinkNest RX2 33 yX4_stateAt RX8) U
def Kx (v : Vw) (U : State) : Prop := va_K v.1 vwCl v.2.1 U ∧ Nst U
theorem Kx.warm {v : Vw} {s U : State} (hW : s.WarmedH U.vm) (h : Kx v s) : Kx v U := ⟨va_K.moved hW.alike h.1, va_Nw.warmM hW h.2.1, va_Nw.warmM hW h.2.2.1, va_Nw.warmM hW h.2.2.2.1, va_Nw.warmM hW h.2.2.2.2.1, va_Nw.warmM hW h.2.2.2.2.2⟩
theorem Kx.same {v : Vw} {u U : State} (e : u.vm = U.vm) (h : Kx v u) : Kx v U := ⟨va_K.moved (by rw [e]; exact Vm.Alike.refl U.vm) h.1, va_Nw.same rfl e h.2.1, va_Nw.same rfl e h.2.2.1, va_Nw.same rfl e h.2.2.2.1, va_Nw.same rfl e h.2.2.2.2.1, va_Nw.same rfl e h.2.2.2.2.2⟩
/-- the good words of the tables -/
def WSl : List Cond := lw_tbl.filter goodWord
theorem WSl_good : GoodIn WSl WSl := fun _ h => ⟨h, good_of_word (List.mem_filter.mp h).2⟩
theorem WSl_cons {w : Cond} (h : w ∈ WSl) : GoodIn WSl (w :: WSl) := fun _ h1 => (List.mem_cons.mp h1).elim (fun e => e ▸ WSl_good _ h) (WSl_good _)
theorem inG {w : Cond} (h : w ∈ lw_tbl) (g : goodWord w = true) : w ∈ WSl := List.mem_filter.mpr ⟨h, g⟩
theorem in_t1 {w : Cond} (h : w ∈ tables_1_1) : w ∈ lw_tbl := List.mem_append_right _ (List.mem_append_left _ h)
theorem in_t2 {w : Cond} (h : w ∈ tables_1_2) : w ∈ lw_tbl := List.mem_append_right _ (List.mem_append_right _ (List.mem_append_left _ h))
theorem in_t3 {w : Cond} (h : w ∈ tables_1_3) : w ∈ lw_tbl := List.mem_append_right _ (List.mem_append_right _ (List.mem_append_right _ (List.mem_append_left _ h)))
theorem in_t4 {w : Cond} (h : w ∈ tables_1_4) : w ∈ lw_tbl := List.mem_append_right _ (List.mem_append_right _ (List.mem_append_right _ (List.mem_append_right _ (List.mem_append_left _ h))))
theorem in_t5 {w : Cond} (h : w ∈ tables_1_5) : w ∈ lw_tbl := List.mem_append_right _ (List.mem_append_right _ (List.mem_append_right _ (List.mem_append_right _ (List.mem_append_right _ h))))
theorem in_s1 {y : MethodName} {n : Nat} (h : (y, n) ∈ lw_privs_1) : Cond.selects y.cls y y ∈ lw_tbl := List.mem_append_left _ (List.mem_map.mpr ⟨(y, n), List.mem_append_left _ h, rfl⟩)
theorem in_s2 {y : MethodName} {n : Nat} (h : (y, n) ∈ lw_privs_2) : Cond.selects y.cls y y ∈ lw_tbl := List.mem_append_left _ (List.mem_map.mpr ⟨(y, n), List.mem_append_right _ (List.mem_append_left _ h), rfl⟩)
theorem in_s3 {y : MethodName} {n : Nat} (h : (y, n) ∈ lw_privs_3) : Cond.selects y.cls y y ∈ lw_tbl := List.mem_append_left _ (List.mem_map.mpr ⟨(y, n), List.mem_append_right _ (List.mem_append_right _ h), rfl⟩)
