/-! ===== System.arraycopy of forty ints; the loops' fuel ===== -/
def FU : Nat := 65536
def CpyW (own : String) (idx : Nat) : Prop := Cond.methodLink own idx arraycopyName ∈ WSl ∧ Cond.native arraycopyName ∈ WSl ∧ Cond.static arraycopyName ∈ WSl ∧ Cond.initialized "java/lang/System" ∈ WSl
theorem km_cpy : CpyW RX5 46 := ⟨inG (in_t2 (List.mem_of_getElem? (i := 170) rfl)) rfl, inG (in_t2 (List.mem_of_getElem? (i := 172) rfl)) rfl, inG (in_t2 (List.mem_of_getElem? (i := 171) rfl)) rfl, inG (in_t1 (List.mem_of_getElem? (i := 12) rfl)) rfl⟩
theorem g_acopy {X Res : Type} {v : Vw} {cc : ByteArray} {nL : Nat} {own : String} {rt : Option FieldType} {l : Launch} {R : Room} {z : Nat × Nat} {fin : Res → Option Value × St} {K : X → Option Res} {σ : St} {pc : Nat} {lv : List (Nat × Value)} {st : List Value} {k1 k2 idx : Nat} {kk : St → Option X} (h1 : IA v k1 40) (h2 : IA v k2 40) (hw : CpyW own idx) (hR : 1 ≤ R.frames ∧ (st.map fun v => v.category).sum + 18 ≤ R.locals) (d : decode cc pc = .ok (.invokestatic idx, 3)) (h : ∀ σ1, GK v cc nL own rt l R z fin (kk σ1) K σ1 (pc + 3) lv st) : GK v cc nL own rt l R z fin (nm (stR σ k2 (va_cpy (σ.1 k1) (σ.1 k2) 0 0 40)) kk) K σ pc lv (.int 40 :: .int 0 :: .ref (vq v k2) :: .int 0 :: .ref (vq v k1) :: st) := by
  obtain ⟨hk1, t1, c1, ht1, hE1⟩ := h1
  obtain ⟨hk2, t2, c2, ht2, hE2⟩ := h2
  intro res hr p e s m args below meth c H locs ls C hP hS hv
  refine va_copyi C.1 C.2.1 (C.2.2.1.trans hv.1.symm) C.2.2.2.1 (C.2.2.2.2.1 _ hw.1) (C.2.2.2.2.1 _ hw.2.1) (C.2.2.2.2.1 _ hw.2.2.1) (C.2.2.2.2.1 _ hw.2.2.2) C.2.2.2.2.2.1.1 hP (wd_Dq C.2.2.2.2.2.2.2.2.1 _ σ) hS k1 k2 t1 t2 (ty := .int) (by rw [wd_at v σ hk1, hE1]) (by rw [wd_at v σ hk2, hE2]) ht1 ht2 rfl (by decide) (by decide) (by decide) (by decide) (by decide) (fun i _ => rfl) hR.1 hR.2 d ?_
  intro H1 locs1 hP1 _ hS1
  refine h (stR σ k2 (va_cpy (σ.1 k1) (σ.1 k2) 0 0 40)) res hr p e s m args below meth c H1 locs1 ls C ?_ hS1 hv
  rw [wd_set (σ' := stR σ k2 (va_cpy (σ.1 k1) (σ.1 k2) 0 0 40)) hk2 (by rw [hE2]; simp [stR, va_up]) (fun i hi => by simp [stR, va_up, hi])] at hP1
  exact hP1
/-! ===== Math ===== -/
def mmin (x y : Int32) : Int32 := if y < x then y else x
def mmax (x y : Int32) : Int32 := if x < y then y else x
def mabs (x : Int32) : Int32 := if 0 ≤ x then x else 0 - x
theorem kw_math : Cond.initialized "java/lang/Math" ∈ WSl := inG (in_t1 (List.mem_of_getElem? (i := 13) rfl)) rfl
theorem kw_min : Cond.static Lib.Math.min.name ∈ WSl ∧ Cond.code Lib.Math.min.name Lib.Math.min.code 2 (some .int) ∈ WSl := ⟨inG (in_t3 (List.mem_of_getElem? (i := 1) rfl)) rfl, inG (in_t3 (List.mem_of_getElem? (i := 2) (by decide +kernel))) rfl⟩
theorem kw_max : Cond.static Lib.Math.max.name ∈ WSl ∧ Cond.code Lib.Math.max.name Lib.Math.max.code 2 (some .int) ∈ WSl := ⟨inG (in_t3 (List.mem_of_getElem? (i := 34) rfl)) rfl, inG (in_t3 (List.mem_of_getElem? (i := 35) (by decide +kernel))) rfl⟩
theorem kw_abs : Cond.static Lib.Math.abs.name ∈ WSl ∧ Cond.code Lib.Math.abs.name Lib.Math.abs.code 1 (some .int) ∈ WSl := ⟨inG (in_t3 (List.mem_of_getElem? (i := 150) rfl)) rfl, inG (in_t3 (List.mem_of_getElem? (i := 151) (by decide +kernel))) rfl⟩
section MA
variable {X Res : Type} {v : Vw} {cc : ByteArray} {nL : Nat} {own : String} {rt : Option FieldType} {l : Launch} {R : Room} {z : Nat × Nat} {fin : Res → Option Value × St} {o : Option X} {K : X → Option Res} {σ : St} {pc idx : Nat} {lv : List (Nat × Value)} {st : List Value}
theorem g_mmin {x y : Int32} (hlk : Cond.methodLink own idx Lib.Math.min.name ∈ WSl) (hR : 1 ≤ R.frames ∧ (st.map fun v => v.category).sum + 13 ≤ R.locals) (d : decode cc pc = .ok (.invokestatic idx, 3)) (h : GK v cc nL own rt l R z fin o K σ (pc + 3) lv (.int (mmin x y) :: st)) : GK v cc nL own rt l R z fin o K σ pc lv (.int y :: .int x :: st) :=
  fun res hr p e s m args below meth c H locs ls C hP hS hv => va_mmin C.1 C.2.1 (C.2.2.1.trans hv.1.symm) C.2.2.2.1 (C.2.2.2.2.1 _ hlk) (C.2.2.2.2.1 _ kw_min.1) (C.2.2.2.2.1 _ kw_math) (C.2.2.2.2.1 _ kw_min.2) hR.1 hR.2 C.2.2.2.2.2.2.2.2.2.1 C.2.2.2.2.2.2.2.2.2.2 d (h res hr p e s m args below meth c H locs ls C hP hS hv)
theorem g_mmax {x y : Int32} (hlk : Cond.methodLink own idx Lib.Math.max.name ∈ WSl) (hR : 1 ≤ R.frames ∧ (st.map fun v => v.category).sum + 13 ≤ R.locals) (d : decode cc pc = .ok (.invokestatic idx, 3)) (h : GK v cc nL own rt l R z fin o K σ (pc + 3) lv (.int (mmax x y) :: st)) : GK v cc nL own rt l R z fin o K σ pc lv (.int y :: .int x :: st) :=
  fun res hr p e s m args below meth c H locs ls C hP hS hv => va_mmax C.1 C.2.1 (C.2.2.1.trans hv.1.symm) C.2.2.2.1 (C.2.2.2.2.1 _ hlk) (C.2.2.2.2.1 _ kw_max.1) (C.2.2.2.2.1 _ kw_math) (C.2.2.2.2.1 _ kw_max.2) hR.1 hR.2 C.2.2.2.2.2.2.2.2.2.1 C.2.2.2.2.2.2.2.2.2.2 d (h res hr p e s m args below meth c H locs ls C hP hS hv)
theorem g_mabs {x : Int32} (hlk : Cond.methodLink own idx Lib.Math.abs.name ∈ WSl) (hR : 1 ≤ R.frames ∧ (st.map fun v => v.category).sum + 13 ≤ R.locals) (d : decode cc pc = .ok (.invokestatic idx, 3)) (h : GK v cc nL own rt l R z fin o K σ (pc + 3) lv (.int (mabs x) :: st)) : GK v cc nL own rt l R z fin o K σ pc lv (.int x :: st) :=
  fun res hr p e s m args below meth c H locs ls C hP hS hv => va_mabs C.1 C.2.1 (C.2.2.1.trans hv.1.symm) C.2.2.2.1 (C.2.2.2.2.1 _ hlk) (C.2.2.2.2.1 _ kw_abs.1) (C.2.2.2.2.1 _ kw_math) (C.2.2.2.2.1 _ kw_abs.2) hR.1 hR.2 C.2.2.2.2.2.2.2.2.2.1 C.2.2.2.2.2.2.2.2.2.2 d (h res hr p e s m args below meth c H locs ls C hP hS hv)
end MA
