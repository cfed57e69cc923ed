/-! ===== constructors: worlds that grow ===== -/
abbrev TY (cy : Cy) : List (ClassId × FieldType) := [(cy.1, .int), (cy.2.1, .long), (cy.2.2.1, .boolean), (cy.2.2.2.1, .object RX4), (cy.2.2.2.2, .object RX5)]
def Ka (D : va_G) (cy : Cy) (U : State) : Prop := va_K D vwCl (TY cy) U ∧ Nst U ∧ va_AO RX4 U ∧ va_AO RX5 U
theorem Ka.warm {D : va_G} {cy : Cy} {s U : State} (hW : s.WarmedH U.vm) (h : Ka D cy s) : Ka D cy U := ⟨va_K.moved hW.alike h.1, ⟨va_Nw.warmM hW h.2.1.1, va_Nw.warmM hW h.2.1.2.1, va_Nw.warmM hW h.2.1.2.2.1, va_Nw.warmM hW h.2.1.2.2.2.1, va_Nw.warmM hW h.2.1.2.2.2.2⟩, h.2.2.1.moved hW.alike, h.2.2.2.moved hW.alike⟩
theorem Ka.same {D : va_G} {cy : Cy} {u U : State} (e : u.vm = U.vm) (h : Ka D cy u) : Ka D cy U := ⟨va_K.moved (by rw [e]; exact Vm.Alike.refl U.vm) h.1, ⟨va_Nw.same rfl e h.2.1.1, va_Nw.same rfl e h.2.1.2.1, va_Nw.same rfl e h.2.1.2.2.1, va_Nw.same rfl e h.2.1.2.2.2.1, va_Nw.same rfl e h.2.1.2.2.2.2⟩, h.2.2.1.moved (by rw [e]; exact Vm.Alike.refl U.vm), h.2.2.2.moved (by rw [e]; exact Vm.Alike.refl U.vm)⟩
theorem Ka.Kx {D : va_G} {cy : Cy} {U : State} (h : Ka D cy U) {v : Vw} (h1 : v.1 = D) (h2 : v.2.1 = TY cy) : Kx v U := ⟨by rw [h1, h2]; exact h.1, h.2.1⟩
def QA (D : va_G) (ws0 : va_W) (Q : va_W → Prop) (sz : Nat) : Array Value → State → Outcome → State → Prop := fun _ st oc t => oc = .returned none ∧ (∃ ws1, Q ws1 ∧ va_P D vwCl ws1 t.heap ∧ va_D (va_A ws0 sz) ws1) ∧ va_F (va_A ws0 sz) st t
def CA (D : va_G) (cy : Cy) (cc : ByteArray) (nL : Nat) (own : String) (p : Program) (s : State) (m : MethodId) (args : Array Value) (meth : Method) (c : Code) : Prop :=
  p.tables.exec = Jvm.exec ∧ c.code = cc ∧ c.maxLocals = nL ∧ s.vm.findClass own = some m.cls ∧ (∀ w ∈ WSl, w.before args s = true) ∧ Ka D cy s ∧ meth.locks = false ∧ meth.sig.returnType = none ∧ meth.name = "<init>"
def GA (D : va_G) (cy : Cy) (cc : ByteArray) (nL : Nat) (own : String) (l : Launch) (R : Room) (ws0 : va_W) (Q : va_W → Prop) (ws : va_W) (nc ns : Nat) (pc : Nat) (lv : List (Nat × Value)) (st : List Value) : Prop :=
  ∀ (p : Program) (e : Env) (s : State) (m : MethodId) (args : Array Value) (below : List Frame) (meth : Method) (c : Code) (H : Heap) (locs : List Loc) (ls : Array Slot),
    CA D cy cc nL own p s m args meth c → va_P D vwCl ws H → va_D (va_A ws0 s.heap.size) ws → va_S (va_A ws0 s.heap.size) s.heap H locs → lv_has ls nL lv →
    W p l e R s m args below meth c H locs nc ns (MQ below (QA D ws0 Q s.heap.size) args s R.cells R.slots (va_A ws0 s.heap.size)) (F0 m pc ls st)
def MetA (D : va_G) (cy : Cy) (l : Launch) (y : MethodName) (cc : ByteArray) (nL : Nat) (rm : Room) (av : List Value) (ws0 : va_W) (Q : va_W → Prop) : Prop :=
  ∀ sz, Met l y (Cond.code y cc nL none :: WSl) rm (va_Pc av (fun U => U.heap.size = sz ∧ va_P D vwCl ws0 U.heap ∧ Ka D cy U ∧ va_D (fun _ => True) ws0)) (QA D ws0 Q sz) rm.cells rm.slots (va_A ws0 sz)
theorem MetA.of {D : va_G} {cy : Cy} {l : Launch} {y : MethodName} {cc : ByteArray} {nL : Nat} {rm : Room} {av : List Value} {ws0 : va_W} {Q : va_W → Prop} {lv : List (Nat × Value)} (hy : plainName y.cls = true) (hi : y.name = "<init>") (hn : (lg_sl av).length ≤ nL) (hlv : lv_args 0 av = lv) (G : GA D cy cc nL y.cls l rm ws0 Q ws0 0 0 0 lv []) : MetA D cy l y cc nL rm av ws0 Q := by
  intro sz
  refine Met.ofW (cc := cc) (maxL := nL) (ret := none) hy rfl ?_
  intro p e s m args below meth c s₁ B hml hv
  obtain ⟨rfl, hsz, hP, hK, hD⟩ := hv
  subst hsz
  have hts := atoms_spec (ws := Cond.code y cc nL none :: WSl) B.pre
  have hl := lv_entry av (n := nL) hn
  rw [hlv] at hl
  rw [lg_entry_eq]
  exact G p e s m _ below meth c s.heap [] _ ⟨B.exec, B.bytes, hml, findClass_of_methodNamed B.named, fun w h => hts w (List.mem_cons_of_mem _ h), hK, B.notSynchronized, B.returns, (name_of_methodNamed B.named B.method).1.trans hi⟩ hP hD.self va_S.rf hl
section HA
variable {D : va_G} {cy : Cy} {cc : ByteArray} {nL : Nat} {own : String} {l : Launch} {R : Room} {ws0 : va_W} {Q : va_W → Prop} {ws ws' : va_W} {nc ns pc : Nat} {lv lv' : List (Nat × Value)} {st : List Value}
theorem h_eq (hw : ws = ws') (h : GA D cy cc nL own l R ws0 Q ws' nc ns pc lv st) : GA D cy cc nL own l R ws0 Q ws nc ns pc lv st := by rw [hw]; exact h
theorem va_at_mem {A : Nat → Prop} {D : va_G} {cl : List vw_C} {ws : va_W} {H : Heap} : va_P D cl ws H ↔ ∀ x ∈ ws, va_at D cl x H := ⟨fun h x hx => by
    obtain ⟨k, hk⟩ := List.mem_iff_getElem?.mp hx
    exact h k x hk, fun h k x hk => h x (List.mem_of_getElem? hk)⟩
theorem va_D_iff {A : Nat → Prop} {ws : va_W} : va_D A ws ↔ (ws.map Prod.fst).Nodup ∧ ∀ x ∈ ws, A x.1 := by
  constructor
  · intro h
    refine ⟨?_, fun x hx => ?_⟩
    · refine List.pairwise_iff_getElem.mpr (fun i j hi hj hij => ?_)
      rw [List.length_map] at hi hj
      simp only [List.getElem_map]
      intro e
      have := h.1 i j _ _ (List.getElem?_eq_getElem hi) (List.getElem?_eq_getElem hj) e
      omega
    · obtain ⟨k, hk⟩ := List.mem_iff_getElem?.mp hx
      exact h.2 k x hk
  · intro h
    refine ⟨fun i j x y hx hy e => ?_, fun k x hk => h.2 x (List.mem_of_getElem? hk)⟩
    have h1 := List.pairwise_iff_getElem.mp h.1
    obtain ⟨hi, ei⟩ := List.getElem?_eq_some_iff.mp hx
    obtain ⟨hj, ej⟩ := List.getElem?_eq_some_iff.mp hy
    rcases Nat.lt_trichotomy i j with q | q | q
    · exact absurd (by rw [List.getElem_map, List.getElem_map, ei, ej]; exact e) (h1 i j (by rw [List.length_map]; exact hi) (by rw [List.length_map]; exact hj) q)
    · exact q
    · exact absurd (by rw [List.getElem_map, List.getElem_map, ei, ej]; exact e.symm) (h1 j i (by rw [List.length_map]; exact hj) (by rw [List.length_map]; exact hi) q)
theorem h_perm (hw : ws.Perm ws') (h : GA D cy cc nL own l R ws0 Q ws' nc ns pc lv st) : GA D cy cc nL own l R ws0 Q ws nc ns pc lv st :=
  fun p e s m args below meth c H locs ls C hP hD hS hv => h p e s m args below meth c H locs ls C (fun k x hk => va_at_mem (A := fun _ => True) |>.mp hP x (hw.mem_iff.mpr (List.mem_of_getElem? hk))) (va_D_iff.mpr ⟨(hw.map Prod.fst).nodup_iff.mp (va_D_iff.mp hD).1, fun x hx => (va_D_iff.mp hD).2 x (hw.mem_iff.mpr hx)⟩) hS hv
theorem h_sub (ks : List Nat) (hl : lv_pick lv ks = lv') (h : GA D cy cc nL own l R ws0 Q ws nc ns pc lv' st) : GA D cy cc nL own l R ws0 Q ws nc ns pc lv st :=
  fun p e s m args below meth c H locs ls C hP hD hS hv => h p e s m args below meth c H locs ls C hP hD hS (lv_sub hv ks hl)
theorem h_iconst {n : Int} (w : Int32) (d : decode cc pc = .ok (.iconst n, 1)) (hw : Int32.ofInt n = w) (h : GA D cy cc nL own l R ws0 Q ws nc ns (pc + 1) lv (.int w :: st)) : GA D cy cc nL own l R ws0 Q ws nc ns pc lv st := fun p e s m args below meth c H locs ls C hP hD hS hv => lv_iconst C.1 C.2.1 d hw (h p e s m args below meth c H locs ls C hP hD hS hv)
theorem h_bipush {n : Int} (w : Int32) (d : decode cc pc = .ok (.bipush n, 2)) (hw : (Int8.ofInt n).toInt32 = w) (h : GA D cy cc nL own l R ws0 Q ws nc ns (pc + 2) lv (.int w :: st)) : GA D cy cc nL own l R ws0 Q ws nc ns pc lv st := fun p e s m args below meth c H locs ls C hP hD hS hv => lv_bipush C.1 C.2.1 d hw (h p e s m args below meth c H locs ls C hP hD hS hv)
theorem h_sipush {n : Int} (w : Int32) (d : decode cc pc = .ok (.sipush n, 3)) (hw : (Int16.ofInt n).toInt32 = w) (h : GA D cy cc nL own l R ws0 Q ws nc ns (pc + 3) lv (.int w :: st)) : GA D cy cc nL own l R ws0 Q ws nc ns pc lv st := fun p e s m args below meth c H locs ls C hP hD hS hv => lv_sipush C.1 C.2.1 d hw (h p e s m args below meth c H locs ls C hP hD hS hv)
theorem h_lconst {n : Fin 2} (w : Int64) (d : decode cc pc = .ok (.lconst n, 1)) (hw : Int64.ofNat (n : Nat) = w) (h : GA D cy cc nL own l R ws0 Q ws nc ns (pc + 1) lv (.long w :: st)) : GA D cy cc nL own l R ws0 Q ws nc ns pc lv st := fun p e s m args below meth c H locs ls C hP hD hS hv => lv_lconst C.1 C.2.1 d hw (h p e s m args below meth c H locs ls C hP hD hS hv)
theorem h_ldc {i : Nat} {w : Int32} (d : decode cc pc = .ok (.ldc i, 2)) (hw : Cond.constant own i w ∈ WSl) (h : GA D cy cc nL own l R ws0 Q ws nc ns (pc + 2) lv (.int w :: st)) : GA D cy cc nL own l R ws0 Q ws nc ns pc lv st := fun p e s m args below meth c H locs ls C hP hD hS hv => lv_ldc C.1 C.2.1 C.2.2.2.1 (C.2.2.2.2.1 _ hw) d (h p e s m args below meth c H locs ls C hP hD hS hv)
theorem h_aload_n {k : Fin 4} (j : Nat) {i : Nat} {x : Nat} (d : decode cc pc = .ok (.aload_n k, 1)) (hi : (k : Nat) = i) (hj : lv[j]? = some (i, .ref x)) (h : GA D cy cc nL own l R ws0 Q ws nc ns (pc + 1) lv (.ref x :: st)) : GA D cy cc nL own l R ws0 Q ws nc ns pc lv st := fun p e s m args below meth c H locs ls C hP hD hS hv => lv_aload_n C.1 C.2.1 d hi (lv_at hv j hj) (h p e s m args below meth c H locs ls C hP hD hS hv)
theorem h_iload_n {k : Fin 4} (j : Nat) {i : Nat} {x : Int32} (d : decode cc pc = .ok (.iload_n k, 1)) (hi : (k : Nat) = i) (hj : lv[j]? = some (i, .int x)) (h : GA D cy cc nL own l R ws0 Q ws nc ns (pc + 1) lv (.int x :: st)) : GA D cy cc nL own l R ws0 Q ws nc ns pc lv st := fun p e s m args below meth c H locs ls C hP hD hS hv => lv_iload_n C.1 C.2.1 d hi (lv_at hv j hj) (h p e s m args below meth c H locs ls C hP hD hS hv)
theorem h_istore_n {k : Fin 4} {i : Nat} {x : Int32} (d : decode cc pc = .ok (.istore_n k, 1)) (hi : (k : Nat) = i) (hn : i < nL) (hl : (i, Value.int x) :: lv.filter (fun q => !(q.1 == i) && !(q.1 + 1 == i && q.2.category == 2)) = lv') (h : GA D cy cc nL own l R ws0 Q ws nc ns (pc + 1) lv' st) : GA D cy cc nL own l R ws0 Q ws nc ns pc lv (.int x :: st) :=
  fun p e s m args below meth c H locs ls C hP hD hS hv => lv_istore_n C.1 C.2.1 d hi hv hn hl (fun ls' hv' => h p e s m args below meth c H locs ls' C hP hD hS hv')
theorem h_astore_n {k : Fin 4} {i : Nat} {x : Nat} (d : decode cc pc = .ok (.astore_n k, 1)) (hi : (k : Nat) = i) (hn : i < nL) (hl : (i, Value.ref x) :: lv.filter (fun q => !(q.1 == i) && !(q.1 + 1 == i && q.2.category == 2)) = lv') (h : GA D cy cc nL own l R ws0 Q ws nc ns (pc + 1) lv' st) : GA D cy cc nL own l R ws0 Q ws nc ns pc lv (.ref x :: st) :=
  fun p e s m args below meth c H locs ls C hP hD hS hv => lv_astore_n C.1 C.2.1 d hi hv hn hl (fun ls' hv' => h p e s m args below meth c H locs ls' C hP hD hS hv')
theorem h_iinc {i j : Nat} {n : Int} {x : Int32} (w : Int32) (d : decode cc pc = .ok (.iinc i n, 3)) (hj : lv[j]? = some (i, .int x)) (hw : x + Int32.ofInt n = w) (hn : i < nL) (hl : (i, Value.int w) :: lv.filter (fun q => !(q.1 == i) && !(q.1 + 1 == i && q.2.category == 2)) = lv') (h : GA D cy cc nL own l R ws0 Q ws nc ns (pc + 3) lv' st) : GA D cy cc nL own l R ws0 Q ws nc ns pc lv st :=
  fun p e s m args below meth c H locs ls C hP hD hS hv => lv_iinc C.1 C.2.1 d hv hj hw hn hl (fun ls' hv' => h p e s m args below meth c H locs ls' C hP hD hS hv')
theorem h_dup {a : Value} (d : decode cc pc = .ok (.dup, 1)) (ha : a.category = 1) (h : GA D cy cc nL own l R ws0 Q ws nc ns (pc + 1) lv (a :: a :: st)) : GA D cy cc nL own l R ws0 Q ws nc ns pc lv (a :: st) := fun p e s m args below meth c H locs ls C hP hD hS hv => lv_dup C.1 C.2.1 d ha (h p e s m args below meth c H locs ls C hP hD hS hv)
theorem h_goto {off : Int} (tgt : Nat) (d : decode cc pc = .ok (.goto off, 3)) (ht : (pc : Int) + off = (tgt : Int)) (h : GA D cy cc nL own l R ws0 Q ws nc ns tgt lv st) : GA D cy cc nL own l R ws0 Q ws nc ns pc lv st := fun p e s m args below meth c H locs ls C hP hD hS hv => lv_goto C.1 C.2.1 d ht (h p e s m args below meth c H locs ls C hP hD hS hv)
theorem h_ge_y {x y : Int32} {off : Int} (tgt : Nat) (hx : y ≤ x) (d : decode cc pc = .ok (.if_icmp .ge off, 3)) (ht : (pc : Int) + off = (tgt : Int)) (h : GA D cy cc nL own l R ws0 Q ws nc ns tgt lv st) : GA D cy cc nL own l R ws0 Q ws nc ns pc lv (.int y :: .int x :: st) := fun p e s m args below meth c H locs ls C hP hD hS hv => lv_icmp_ge C.1 C.2.1 d ht (fun _ => h p e s m args below meth c H locs ls C hP hD hS hv) (fun c1 => absurd hx c1)
theorem h_ge_n {x y : Int32} {off : Int} (tgt : Nat) (hx : ¬ y ≤ x) (d : decode cc pc = .ok (.if_icmp .ge off, 3)) (ht : (pc : Int) + off = (tgt : Int)) (h : GA D cy cc nL own l R ws0 Q ws nc ns (pc + 3) lv st) : GA D cy cc nL own l R ws0 Q ws nc ns pc lv (.int y :: .int x :: st) := fun p e s m args below meth c H locs ls C hP hD hS hv => lv_icmp_ge C.1 C.2.1 d ht (fun c1 => absurd c1 hx) (fun _ => h p e s m args below meth c H locs ls C hP hD hS hv)
theorem h_obj {idx : Nat} {a : Nat} (hlk : Cond.methodLink own idx objectInit ∈ WSl) (hR : 1 ≤ R.frames ∧ (st.map fun v => v.category).sum + 12 ≤ R.locals) (d : decode cc pc = .ok (.invokespecial idx, 3)) (h : GA D cy cc nL own l R ws0 Q ws nc ns (pc + 3) lv st) : GA D cy cc nL own l R ws0 Q ws nc ns pc lv (.ref a :: st) :=
  fun p e s m args below meth c H locs ls C hP hD hS hv => W.objInit C.1 C.2.1 C.2.2.2.1 (C.2.2.2.2.1 _ hlk) (C.2.2.2.2.1 _ (inG (in_t1 (List.mem_of_getElem? (i := 21) rfl)) rfl)) (C.2.2.2.2.1 _ (inG (in_t1 (List.mem_of_getElem? (i := 22) (by decide +kernel))) rfl)) rfl (by rw [C.2.2.1]; exact hv.1) rfl d hR.1 (by show 2 * 0 + _ + 12 ≤ _; omega) (h p e s m args below meth c H locs ls C hP hD hS hv)
theorem va_A_ge {ws0 : va_W} {sz q : Nat} (h : sz ≤ q) : va_A ws0 sz q := Or.inr h
theorem h_new {C0 : String} {T : u_T} {N ci idx : Nat} (fs : List Value) (hin : ∀ w ∈ u_ws C0 T N, w ∈ WSl) (ty : Nat → FieldType) (hty : ∀ k, k < N → parseFieldDescriptor (T k).2.2.1 = some (ty k)) (hcl : Cond.classLink own idx C0 ∈ WSl) (hinst : Cond.instantiable C0 N ∈ WSl) (hini : Cond.initialized C0 ∈ WSl) (hc : vwCl[ci]? = some (C0, T, N)) (hfs : ∀ j, j < N → defaultValue (ty j) = vp_V fs j) (hcells : nc + 1 ≤ R.cells) (hslots : ns + N ≤ R.slots) (d : decode cc pc = .ok (.new idx, 3)) (h : ∀ q : Nat, GA D cy cc nL own l R ws0 Q (ws ++ [(q, .inr (ci, fs))]) (nc + 1) (ns + N) (pc + 3) lv (.ref q :: st)) : GA D cy cc nL own l R ws0 Q ws nc ns pc lv st :=
  fun p e s m args below meth c H locs ls C hP hD hS hv => va_new C.1 C.2.1 C.2.2.2.2.1 hin ty hty C.2.2.2.1 (C.2.2.2.2.1 _ hcl) (C.2.2.2.2.1 _ hinst) (C.2.2.2.2.1 _ hini) C.2.2.2.2.2.1.1 hP hD hS (fun q hq => va_A_ge hq) hc hfs hcells hslots d (fun q H1 hP1 hD1 hS1 => h q p e s m args below meth c H1 locs ls C hP1 hD1 hS1 hv)
theorem h_newa {atype : ArrayType} {ty : FieldType} {n : Int32} {N : Nat} (t0 : Nat) {cA : ClassId} (a0 : vp_A) (harr : Cond.arrayClass (newarray.typeOf atype) ∈ WSl) (hty : newarray.typeOf atype = ty) (ht : (TY cy)[t0]? = some (cA, ty)) (hpr : ∀ U c, va_RA U c ty → U.vm.findClass ("[" ++ ty.toString) = some c) (ha : ∀ cA : ClassId, vp_cell cA a0 = arrV cA N (fun _ => defaultValue ty)) (hn : ¬ n < 0) (hN : n.toNatClampNeg = N) (hbytes : N * componentBytes ty ≤ 536870912) (hcells : nc + 1 ≤ R.cells) (hslots : ns + N ≤ R.slots) (d : decode cc pc = .ok (.newarray atype, 2)) (h : ∀ q : Nat, GA D cy cc nL own l R ws0 Q (ws ++ [(q, .inl (cA, a0))]) (nc + 1) (ns + N) (pc + 2) lv (.ref q :: st)) : GA D cy cc nL own l R ws0 Q ws nc ns pc lv (.int n :: st) :=
  fun p e s m args below meth c H locs ls C hP hD hS hv => va_newa C.1 C.2.1 (C.2.2.2.2.1 _ harr) hty C.2.2.2.2.2.1.1 hP hD hS (fun q hq => va_A_ge hq) ha hn hN hbytes hcells hslots d (fun q cB H1 hK1 hP1 hD1 hS1 => by
    have e1 := hpr s cB (hK1.2 (TY cy).length (cB, ty) (by simp)).2
    have e2 := hpr s cA (C.2.2.2.2.2.1.1.2 t0 (cA, ty) ht).2
    have e3 : cB = cA := Option.some.inj (e1.symm.trans e2)
    subst e3
    exact h q p e s m args below meth c H1 locs ls C hP1 hD1 hS1 hv)
theorem h_newq {C0 : String} {n : Int32} {N idx : Nat} (t0 : Nat) {cA : ClassId} (hcl : Cond.classLink own idx C0 ∈ WSl) (hover : ∀ U, Ka D cy U → va_AO C0 U) (ht : (TY cy)[t0]? = some (cA, .object C0)) (hn : ¬ n < 0) (hN : n.toNatClampNeg = N) (hbytes : N * 4 ≤ 536870912) (hcells : nc + 1 ≤ R.cells) (hslots : ns + N ≤ R.slots) (d : decode cc pc = .ok (.anewarray idx, 3)) (h : ∀ q : Nat, GA D cy cc nL own l R ws0 Q (ws ++ [(q, .inl (cA, N, .inr (.inr (.inr (.inr (fun _ => none))))))]) (nc + 1) (ns + N) (pc + 3) lv (.ref q :: st)) : GA D cy cc nL own l R ws0 Q ws nc ns pc lv (.int n :: st) :=
  fun p e s m args below meth c H locs ls C hP hD hS hv => va_newq C.1 C.2.1 C.2.2.2.1 (C.2.2.2.2.1 _ hcl) (hover s C.2.2.2.2.2.1) C.2.2.2.2.2.1.1 hP hD hS (fun q hq => va_A_ge hq) hn hN hbytes hcells hslots d (fun q cB H1 hK1 hP1 hD1 hS1 => by
    obtain ⟨_, _, _, _, _, e1⟩ := (hK1.2 (TY cy).length (cB, .object C0) (by simp)).2
    obtain ⟨_, _, _, _, _, e2⟩ := (C.2.2.2.2.2.1.1.2 t0 (cA, .object C0) ht).2
    have e3 : cB = cA := Option.some.inj (e1.symm.trans e2)
    subst e3
    exact h q p e s m args below meth c H1 locs ls C hP1 hD1 hS1 hv)
theorem h_put {C0 : String} {T : u_T} {n ci idx a : Nat} (q0 j : Nat) {fs : List Value} {x : Value} {ty : FieldType} (he : ws[q0]? = some (a, .inr (ci, fs))) (hc : vwCl[ci]? = some (C0, T, n)) (hin : ∀ w ∈ u_ws C0 T n, w ∈ WSl) (ty0 : Nat → FieldType) (hty : ∀ k, k < n → parseFieldDescriptor (T k).2.2.1 = some (ty0 k)) (hnm : ∀ a, a < n → ∀ b, b < n → a ≠ b → (T a).2.1 ≠ (T b).2.1) (hj : j < n) (hlink : Cond.fieldLink own idx (T j).1 (T j).2.1 (T j).2.2.1 ∈ WSl) (hfin : (T j).2.2.2 = false ∨ (T j).1 = own) (hd : parseFieldDescriptor (T j).2.2.1 = some ty) (hn : narrow ty x = x) (hfit : fits ty x = true) (hl : j < fs.length) (hw : ws.set q0 (a, .inr (ci, fs.set j x)) = ws') (d : decode cc pc = .ok (.putfield idx, 3)) (h : GA D cy cc nL own l R ws0 Q ws' nc ns (pc + 3) lv st) : GA D cy cc nL own l R ws0 Q ws nc ns pc lv (x :: .ref a :: st) := by
  subst hw
  intro p e s m args below meth c H locs ls C hP hD hS hv
  cases hf : (T j).2.2.2 with
  | false => exact va_put C.1 C.2.1 C.2.2.2.2.1 hin ty0 hty hnm C.2.2.2.1 C.2.2.2.2.2.1.1 hP hD hS q0 he hc j hj (C.2.2.2.2.1 _ hlink) (fun _ h9 => h9) hf hd hn hfit hl d (fun H1 locs1 hP1 hD1 hS1 => h p e s m args below meth c H1 locs1 ls C hP1 hD1 hS1 hv)
  | true => exact va_putF C.1 C.2.1 C.2.2.2.2.1 hin ty0 hty hnm C.2.2.2.1 C.2.2.2.2.2.1.1 hP hD hS q0 he hc j hj (C.2.2.2.2.1 _ hlink) (fun _ h9 => h9) hf C.2.2.2.2.2.2.2.2 (hfin.resolve_left (by rw [hf]; decide)) hd hn hfit hl d (fun H1 locs1 hP1 hD1 hS1 => h p e s m args below meth c H1 locs1 ls C hP1 hD1 hS1 hv)
theorem h_get {C0 : String} {T : u_T} {n ci idx a : Nat} (q0 j : Nat) {fs : List Value} {x : Value} (he : ws[q0]? = some (a, .inr (ci, fs))) (hc : vwCl[ci]? = some (C0, T, n)) (hin : ∀ w ∈ u_ws C0 T n, w ∈ WSl) (hj : j < n) (hlink : Cond.fieldLink own idx (T j).1 (T j).2.1 (T j).2.2.1 ∈ WSl) (hx : fs[j]? = some x) (d : decode cc pc = .ok (.getfield idx, 3)) (h : GA D cy cc nL own l R ws0 Q ws nc ns (pc + 3) lv (x :: st)) : GA D cy cc nL own l R ws0 Q ws nc ns pc lv (.ref a :: st) :=
  fun p e s m args below meth c H locs ls C hP hD hS hv => va_get C.1 C.2.1 C.2.2.2.2.1 hin C.2.2.2.1 C.2.2.2.2.2.1.1 hP q0 he hc j hj (C.2.2.2.2.1 _ hlink) (fun _ h9 => h9) hx d (h p e s m args below meth c H locs ls C hP hD hS hv)
theorem h_aast {cA : ClassId} {r : vw_C} {n x a : Nat} {vs : List Value} {f : Nat → Option Nat} {i : Int32} (q0 t0 qk ci : Nat) (ha : ws[q0]? = some (a, .inl (cA, n, .inr (.inr (.inr (.inr f)))))) (ht : (TY cy)[t0]? = some (cA, .object r.1)) (hx : ws[qk]? = some (x, .inr (ci, vs))) (hc : vwCl[ci]? = some r) (hin : vp_in i n) (hw : ws.set q0 (a, .inl (cA, n, .inr (.inr (.inr (.inr (va_up f i.toNatClampNeg (some x))))))) = ws') (d : decode cc pc = .ok (.aastore, 1)) (h : GA D cy cc nL own l R ws0 Q ws' nc ns (pc + 1) lv st) : GA D cy cc nL own l R ws0 Q ws nc ns pc lv (.ref x :: .int i :: .ref a :: st) := by
  subst hw
  exact fun p e s m args below meth c H locs ls C hP hD hS hv => va_astq C.1 C.2.1 C.2.2.2.2.2.1.1 hP hD hS q0 t0 qk ci ha ht hx hc hin d (fun H1 locs1 hP1 hD1 hS1 => h p e s m args below meth c H1 locs1 ls C hP1 hD1 hS1 hv)
theorem join_app {A0 : Nat → Prop} {wr wc w1 : va_W} {H H1 : Heap} (hP : va_P D vwCl (wr ++ wc) H) (hD : va_D A0 (wr ++ wc)) (hk : ∀ q : Nat, q < H.size → ¬ va_A wc H.size q → H1[q]? = H[q]?) (hF : ∀ q, va_A wc H.size q → A0 q) (hP1 : va_P D vwCl w1 H1) (hD1 : va_D (va_A wc H.size) w1) : va_P D vwCl (wr ++ w1) H1 ∧ va_D A0 (wr ++ w1) := by
  have apart : ∀ (k : Nat) (q : Nat × va_E), wr[k]? = some q → q.1 < H.size ∧ ¬ va_A wc H.size q.1 := by
    intro k q hq
    have hkl : k < wr.length := (List.getElem?_eq_some_iff.mp hq).1
    have h2 : (wr ++ wc)[k]? = some q := by rw [List.getElem?_append_left hkl]; exact hq
    have hl := (hP k q h2).lt
    refine ⟨hl, fun h => ?_⟩
    rcases h with ⟨k2, e, h⟩ | h
    · have h4 : (wr ++ wc)[wr.length + k2]? = some (q.1, e) := by rw [List.getElem?_append_right (by omega), Nat.add_sub_cancel_left]; exact h
      have hij := hD.1 k (wr.length + k2) q (q.1, e) h2 h4 rfl
      omega
    · omega
  refine ⟨va_P.app (fun k q hq => ?_) hP1, va_D.app ⟨fun i j x y hx hy e => ?_, fun k q hq => ?_⟩ (hD1.weaken (fun k q _ h => hF q.1 h)) (fun i j x y hx hy hxy => ?_)⟩
  · have hkl : k < wr.length := (List.getElem?_eq_some_iff.mp hq).1
    obtain ⟨g1, g2⟩ := apart k q hq
    exact (hP k q (by rw [List.getElem?_append_left hkl]; exact hq)).kept (hk q.1 g1 g2)
  · have hi : i < wr.length := (List.getElem?_eq_some_iff.mp hx).1
    have hj : j < wr.length := (List.getElem?_eq_some_iff.mp hy).1
    exact hD.1 i j x y (by rw [List.getElem?_append_left hi]; exact hx) (by rw [List.getElem?_append_left hj]; exact hy) e
  · have hkl : k < wr.length := (List.getElem?_eq_some_iff.mp hq).1
    exact hD.2 k q (by rw [List.getElem?_append_left hkl]; exact hq)
  · exact (apart i x hx).2 (by rw [hxy]; exact hD1.2 j y hy)
theorem free_app {A0 : Nat → Prop} {wr wc : va_W} {H0 H : Heap} {locs : List Loc} (hD : va_D A0 (wr ++ wc)) (hS : va_S A0 H0 H locs) (hA : ∀ q, H0.size ≤ q → A0 q) : ∀ q, va_A wc H.size q → A0 q := by
  intro q h
  rcases h with ⟨k, e, h⟩ | h
  · exact hD.2 (wr.length + k) (q, e) (by rw [List.getElem?_append_right (by omega), Nat.add_sub_cancel_left]; exact h)
  · exact hA q (Nat.le_trans hS.1 h)
/-- a constructor's call, its object's cell at the end of the world -/
theorem h_init {y : MethodName} {cc1 : ByteArray} {nL1 n idx q : Nat} {rm : Room} {As rest : List Value} {wr wc : va_W} {Qc : va_W → Prop} (hM : MetA D cy l y cc1 nL1 rm (.ref q :: As) wc Qc) (hw : Cond.instanceMethod y ∈ WSl ∧ Cond.initialized y.cls ∈ WSl ∧ Cond.code y cc1 nL1 none ∈ WSl ∧ y.name = "<init>") (hd : y.cls ≠ "java/lang/invoke/MethodHandle" ∧ y.cls ≠ "java/lang/invoke/VarHandle" ∧ (parseMethodDescriptor y.desc).map (fun d => d.parameters.length) = some n) (hlk : Cond.methodLink own idx y ∈ WSl) (hR : rm.frames + 1 ≤ R.frames ∧ 8 + (nL1 + 11) + rm.locals ≤ R.locals) (hf : nc + rm.cells ≤ R.cells ∧ ns + rm.slots ≤ R.slots) (d : decode cc pc = .ok (.invokespecial idx, 3)) (hn : As.length = n) (hws : ws = wr ++ wc) (hst : st = As.reverse ++ .ref q :: rest) (hr : (rest.map fun v => v.category).sum ≤ 8) (h : ∀ w1, Qc w1 → GA D cy cc nL own l R ws0 Q (wr ++ w1) (nc + rm.cells) (ns + rm.slots) (pc + 3) lv rest) : GA D cy cc nL own l R ws0 Q ws nc ns pc lv st := by
  subst hws hst
  intro p e s m args below meth c H locs ls C hP hD hS hv
  have hFc := free_app hD hS (fun q hq => va_A_ge hq)
  have hPc : va_P D vwCl wc H := fun k x hk => hP (wr.length + k) x (by rw [List.getElem?_append_right (by omega), Nat.add_sub_cancel_left]; exact hk)
  have hDc : va_D (va_A ws0 s.heap.size) wc := ⟨fun i j x y hx hy e => by
    have := hD.1 (wr.length + i) (wr.length + j) x y (by rw [List.getElem?_append_right (by omega), Nat.add_sub_cancel_left]; exact hx) (by rw [List.getElem?_append_right (by omega), Nat.add_sub_cancel_left]; exact hy) e
    omega, fun k x hk => hD.2 (wr.length + k) x (by rw [List.getElem?_append_right (by omega), Nat.add_sub_cancel_left]; exact hk)⟩
  have hrun := va_runI (e := e) (below := below) (meth := meth) (locs := locs) (cells := nc) (slots := ns) (g := F0 m pc ls (As.reverse ++ .ref q :: rest)) (As := As) (rest := rest) (n := n) ⟨C.1, C.2.1, C.2.2.1, C.2.2.2.1, C.2.2.2.2.1⟩ (hM H.size) ⟨callB_of n C.2.2.2.2.1 (WSl_cons hw.2.2.1) rfl rfl rfl (C.2.2.2.2.1 _ hw.2.1) (C.2.2.2.2.1 _ hlk) hd hR, hw.2.2.2, C.2.2.2.2.1 _ hw.1⟩ ⟨fun a U g mk q => by
      obtain ⟨q0, q1, qP, qK, qD⟩ := q
      exact ⟨q0, q1, qP, Ka.same (u := U) (U := U.calling g mk a) rfl qK, qD⟩, fun U hU hW => ⟨rfl, by rw [hU], by rw [hU]; exact hPc, Ka.warm hW C.2.2.2.2.2.1, hDc.weaken (fun _ _ _ _ => trivial)⟩⟩ rfl hn hv.1 rfl (lv_room hr) d hf
  intro T hT X
  obtain ⟨w, st₀, t, T', L, h0, X', hL, e1, e2, ⟨hw2, ⟨w1, hQ1, hP1, hD1⟩, hz, hk⟩, stp⟩ := hrun T hT X
  have hw3 : w = none := by injection hw2
  subst hw3
  rw [h0] at hz hk
  have hk2 : ∀ q : Nat, q < H.size → ¬ va_A wc H.size q → T'.heap[q]? = H[q]? := fun q h1 h2 => by rw [e1]; exact hk q h1 h2
  obtain ⟨hPj, hDj⟩ := join_app hP hD hk2 hFc (by rw [e1]; exact hP1) hD1
  have hS1 : va_S (va_A ws0 s.heap.size) s.heap T'.heap (locs ++ L) := ⟨Nat.le_trans hS.1 (by rw [e1]; exact hz), fun q h1 h2 => by rw [hk2 q (Nat.lt_of_lt_of_le h1 hS.1) (fun z => h2 (hFc q z))]; exact hS.2.1 q h1 h2, fun q hq => by
    rcases List.mem_append.mp hq with h3 | h3
    · exact hS.2.2 q h3
    · exact hFc _ (hL q h3)⟩
  obtain ⟨t2, a1, b1⟩ := h w1 hQ1 p e s m args below meth c T'.heap (locs ++ L) ls C hPj hDj hS1 hv T' rfl X'
  exact ⟨t2, stp t2 a1, b1⟩
theorem h_ret (hf : nc ≤ R.cells ∧ ns ≤ R.slots) (hQ : Q ws) (d : decode cc pc = .ok (.return_, 1)) : GA D cy cc nL own l R ws0 Q ws nc ns pc lv [] :=
  fun p e s m args below meth c H locs ls C hP hD hS hv => W.widen hf.1 hf.2 (W.vret C.1 C.2.1 C.2.2.2.2.2.2.2.1 (fun t ht hW => ⟨rfl, ⟨ws, hQ, by rw [ht]; exact hP, hD⟩, hS.F ht⟩) hS.2.2 d C.2.2.2.2.2.2.1)
/-- on into a port, over a view of the whole world -/
theorem h_gk {Res : Type} {fin : Res → Option Value × St} {o : Option Res} {res : Res} {σ σ' : St} (v : Vw) (hv1 : v.1 = D) (hv2 : v.2.1 = TY cy) (hw : ws = wd v σ) (h0 : ∀ (k : Nat) (x : Nat × va_E), ws0[k]? = some x → ∃ i, i < vN v ∧ x.1 = vq v i) (hf : nc ≤ R.cells ∧ ns ≤ R.slots) (ho : o = some res) (hfin : fin res = (none, σ')) (hQ : Q (wd v σ')) (h : GK v cc nL own none l R (R.cells, R.slots) fin o some σ pc lv st) : GA D cy cc nL own l R ws0 Q ws nc ns pc lv st := by
  subst hw
  intro p e s m args below meth c H locs ls C hP hD hS hv
  have hDq : Dq v := fun i j hi hj e => hD.1 i j _ _ (wd_at v σ hi) (wd_at v σ hj) e
  have hA : va_A ws0 s.heap.size = Aq v s.heap.size := by
    funext a
    apply propext
    constructor
    · rintro (⟨k, e, hk⟩ | ha)
      · obtain ⟨i, hi, e1⟩ := h0 k _ hk
        exact Or.inl ⟨i, hi, e1⟩
      · exact Or.inr ha
    · rintro (⟨k, hk, rfl⟩ | ha)
      · exact hD.2 k _ (wd_at v σ hk)
      · exact Or.inr ha
  rw [hA] at hS ⊢
  refine W.widen hf.1 hf.2 ?_
  have K := h res (by rw [ho]; rfl) p e s m args below meth c H locs ls ⟨C.1, C.2.1, C.2.2.1, C.2.2.2.1, C.2.2.2.2.1, C.2.2.2.2.2.1.Kx hv1 hv2, C.2.2.2.2.2.2.1, C.2.2.2.2.2.2.2.1, hDq, Nat.le_refl _, Nat.le_refl _⟩ (by rw [hv1]; exact hP) hS hv
  intro T hT X
  obtain ⟨t, a1, oc, b1, b2, ⟨b3, b4, b5⟩, b6⟩ := K T hT X
  rw [hfin] at b3 b4
  exact ⟨t, a1, oc, b1, b2, ⟨b3, ⟨wd v σ', hQ, by rw [← hv1]; exact b4, by rw [hA]; exact wd_Dq hDq _ σ'⟩, by rw [hA]; exact b5⟩, b6⟩
end HA
