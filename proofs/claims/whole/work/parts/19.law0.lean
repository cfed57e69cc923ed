/-! THE CLAIM OUT OF ONE WALK OF THE LAW'S BODY. Your part is whole_start (and what it stands on); all else here is the same for every law, but numbers. -/
def R_law : String := "TwinRunsLaw"
def lw_P (b : Addr) (xs : List Int32) (args : Array Value) (s : State) : Prop := args = #[.ref b] ∧ s.IntsAt b xs ∧ xs.length ≤ 3584 ∧ (Jvm.Cond.and given_1 narrow_1).before args s = true
def lw_Q (_ : Array Value) (s : State) (o : Outcome) (t : State) : Prop := o = .returned (some (.int 1)) ∧ Framed s o t [] 600000 7302250
def lw_Z (below : List Frame) (a : Array Value) (s : State) : State → Prop := fun t => ∃ o, t.status = .running ∧ Ended t below o ∧ lw_Q a s o t
/-- the law's own end, with 1 on the stack, nothing written that was there before, its room as the claim has it -/
theorem lw_ret {p : Program} {l : Launch} {e : Env} {s : State} {m : MethodId} {below : List Frame} {meth : Method} {c : Code} {b : Nat} (hx : p.tables.exec = Jvm.exec) (hb : c.code = code) (hr : meth.sig.returnType = ret) (hlocks : meth.locks = false) {pc : Nat} {H : Heap} {ls : Array Slot} (hdg : decode code pc = .ok (.ireturn, 1)) : W p l e room_1 s m #[Value.ref b] below meth c H [] 600000 7302250 (lw_Z below #[Value.ref b] s) (F0 m pc ls [.int 1]) := by
  intro T hT X
  obtain ⟨fs, hret, hrun, hended, hW, hframe⟩ := X.leave (v := some (.int 1)) (hlocks := hlocks) (fun h => by rw [hr] at h; cases h)
  have hmeth' : T.vm.method? m = some meth := X.method'
  refine ⟨T.setFrames fs, ?_, .returned (some (.int 1)), hrun, hended, rfl, ⟨_, rfl⟩, hW, hframe⟩
  jvm_step X.here [X.here.top, hx, hb, hdg, hmeth', hr, ret, narrow_b1]
  (try refine ⟨rfl, ?_⟩); (try refine ⟨rfl, ?_⟩)
  first | (intro acts; rw [hret _ acts rfl rfl rfl]) | rw [hret _ _ rfl rfl rfl]
  exact Steps.refl _
/-- what holds at the law's entry: the machine, the code, the tables' words (any of lw_tbl by 'hts w (by decide +kernel)'), the script of L ints xs at the cell b, what the Statement gives of the start (any of its parts by flat_of_before) -/
def lw_At (p : Program) (s : State) (m : MethodId) (meth : Method) (c : Code) (b L : Nat) (xs : Nat → Int32) : Prop :=
  p.tables.exec = Jvm.exec ∧ c.code = code ∧ meth.sig.returnType = ret ∧ c.maxLocals = 4 ∧ s.vm.findClass R_law = some m.cls ∧ (∀ w ∈ lw_tbl, w.before #[Value.ref b] s = true) ∧ va_X b L xs s s.heap ∧ b < s.heap.size ∧ meth.locks = false ∧ (Jvm.Cond.and given_1 narrow_1).before #[Value.ref b] s = true
/-! ===== the law's judgement ===== -/
theorem WSl_tbl {args : Array Value} {s : State} (h : ∀ w ∈ lw_tbl, w.before args s = true) : ∀ w ∈ WSl, w.before args s = true := fun w hw => h w (List.mem_filter.mp hw).1
def GL (l : Launch) (D : va_G) (cy : Cy) (b L : Nat) (xs : Nat → Int32) (ws : va_W) (nc ns pc : Nat) (lv : List (Nat × Value)) (st : List Value) : Prop :=
  ∀ (p : Program) (e : Env) (s : State) (m : MethodId) (below : List Frame) (meth : Method) (c : Code) (H : Heap) (locs : List Loc) (ls : Array Slot), lw_At p s m meth c b L xs → Ka D cy s → va_P D vwCl ws H → va_D (fun q : Nat => s.heap.size ≤ q) ws → va_S (fun q : Nat => s.heap.size ≤ q) s.heap H locs → lv_has ls 4 lv →
    W p l e room_1 s m #[Value.ref b] below meth c H locs nc ns (lw_Z below #[Value.ref b] s) (F0 m pc ls st)
section LA_
variable {l : Launch} {D : va_G} {cy : Cy} {b L : Nat} {xs : Nat → Int32} {ws ws' : va_W} {nc ns pc : Nat} {lv lv' : List (Nat × Value)} {st : List Value}
theorem e_eq (hw : ws = ws') (h : GL l D cy b L xs ws' nc ns pc lv st) : GL l D cy b L xs ws nc ns pc lv st := by rw [hw]; exact h
theorem e_perm (hw : ws.Perm ws') (h : GL l D cy b L xs ws' nc ns pc lv st) : GL l D cy b L xs ws nc ns pc lv st :=
  fun p e s m below meth c H locs ls C0 hK hP hD hS hv => h p e s m below meth c H locs ls C0 hK (fun k x hk => va_at_mem (A := fun _ => True) |>.mp hP x (hw.mem_iff.mpr (List.mem_of_getElem? hk))) (va_D_iff.mpr ⟨(hw.map Prod.fst).nodup_iff.mp (va_D_iff.mp hD).1, fun x hx => (va_D_iff.mp hD).2 x (hw.mem_iff.mpr hx)⟩) hS hv
theorem e_sub (ks : List Nat) (hl : lv_pick lv ks = lv') (h : GL l D cy b L xs ws nc ns pc lv' st) : GL l D cy b L xs ws nc ns pc lv st := fun p e s m below meth c H locs ls C0 hK hP hD hS hv => h p e s m below meth c H locs ls C0 hK hP hD hS (lv_sub hv ks hl)
theorem e_iconst {n : Int} (w : Int32) (d : decode cL_law pc = .ok (.iconst n, 1)) (hw : Int32.ofInt n = w) (h : GL l D cy b L xs ws nc ns (pc + 1) lv (.int w :: st)) : GL l D cy b L xs ws nc ns pc lv st := fun p e s m below meth c H locs ls C0 hK hP hD hS hv => lv_iconst C0.1 C0.2.1 d hw (h p e s m below meth c H locs ls C0 hK hP hD hS hv)
theorem e_bipush {n : Int} (w : Int32) (d : decode cL_law pc = .ok (.bipush n, 2)) (hw : (Int8.ofInt n).toInt32 = w) (h : GL l D cy b L xs ws nc ns (pc + 2) lv (.int w :: st)) : GL l D cy b L xs ws nc ns pc lv st := fun p e s m below meth c H locs ls C0 hK hP hD hS hv => lv_bipush C0.1 C0.2.1 d hw (h p e s m below meth c H locs ls C0 hK hP hD hS hv)
theorem e_aload_n {k : Fin 4} (j : Nat) {i x : Nat} (d : decode cL_law pc = .ok (.aload_n k, 1)) (hi : (k : Nat) = i) (hj : lv[j]? = some (i, .ref x)) (h : GL l D cy b L xs ws nc ns (pc + 1) lv (.ref x :: st)) : GL l D cy b L xs ws nc ns pc lv st := fun p e s m below meth c H locs ls C0 hK hP hD hS hv => lv_aload_n C0.1 C0.2.1 d hi (lv_at hv j hj) (h p e s m below meth c H locs ls C0 hK hP hD hS hv)
theorem e_iload_n {k : Fin 4} (j : Nat) {i : Nat} {x : Int32} (d : decode cL_law pc = .ok (.iload_n k, 1)) (hi : (k : Nat) = i) (hj : lv[j]? = some (i, .int x)) (h : GL l D cy b L xs ws nc ns (pc + 1) lv (.int x :: st)) : GL l D cy b L xs ws nc ns pc lv st := fun p e s m below meth c H locs ls C0 hK hP hD hS hv => lv_iload_n C0.1 C0.2.1 d hi (lv_at hv j hj) (h p e s m below meth c H locs ls C0 hK hP hD hS hv)
theorem e_istore_n {k : Fin 4} {i : Nat} {x : Int32} (d : decode cL_law pc = .ok (.istore_n k, 1)) (hi : (k : Nat) = i) (hn : i < 4) (hl : (i, Value.int x) :: lv.filter (fun q => !(q.1 == i) && !(q.1 + 1 == i && q.2.category == 2)) = lv') (h : GL l D cy b L xs ws nc ns (pc + 1) lv' st) : GL l D cy b L xs ws nc ns pc lv (.int x :: st) :=
  fun p e s m below meth c H locs ls C0 hK hP hD hS hv => lv_istore_n C0.1 C0.2.1 d hi hv hn hl (fun ls' hv' => h p e s m below meth c H locs ls' C0 hK hP hD hS hv')
theorem e_astore_n {k : Fin 4} {i x : Nat} (d : decode cL_law pc = .ok (.astore_n k, 1)) (hi : (k : Nat) = i) (hn : i < 4) (hl : (i, Value.ref x) :: lv.filter (fun q => !(q.1 == i) && !(q.1 + 1 == i && q.2.category == 2)) = lv') (h : GL l D cy b L xs ws nc ns (pc + 1) lv' st) : GL l D cy b L xs ws nc ns pc lv (.ref x :: st) :=
  fun p e s m below meth c H locs ls C0 hK hP hD hS hv => lv_astore_n C0.1 C0.2.1 d hi hv hn hl (fun ls' hv' => h p e s m below meth c H locs ls' C0 hK hP hD hS hv')
theorem e_iinc {i j : Nat} {n : Int} {x : Int32} (w : Int32) (d : decode cL_law pc = .ok (.iinc i n, 3)) (hj : lv[j]? = some (i, .int x)) (hw : x + Int32.ofInt n = w) (hn : i < 4) (hl : (i, Value.int w) :: lv.filter (fun q => !(q.1 == i) && !(q.1 + 1 == i && q.2.category == 2)) = lv') (h : GL l D cy b L xs ws nc ns (pc + 3) lv' st) : GL l D cy b L xs ws nc ns pc lv st :=
  fun p e s m below meth c H locs ls C0 hK hP hD hS hv => lv_iinc C0.1 C0.2.1 d hv hj hw hn hl (fun ls' hv' => h p e s m below meth c H locs ls' C0 hK hP hD hS hv')
theorem e_dup {a : Value} (d : decode cL_law pc = .ok (.dup, 1)) (ha : a.category = 1) (h : GL l D cy b L xs ws nc ns (pc + 1) lv (a :: a :: st)) : GL l D cy b L xs ws nc ns pc lv (a :: st) := fun p e s m below meth c H locs ls C0 hK hP hD hS hv => lv_dup C0.1 C0.2.1 d ha (h p e s m below meth c H locs ls C0 hK hP hD hS hv)
theorem e_iadd {x y : Int32} (w : Int32) (hw : x + y = w) (d : decode cL_law pc = .ok (.iadd, 1)) (h : GL l D cy b L xs ws nc ns (pc + 1) lv (.int w :: st)) : GL l D cy b L xs ws nc ns pc lv (.int y :: .int x :: st) := by
  subst hw
  exact fun p e s m below meth c H locs ls C0 hK hP hD hS hv => lv_iadd C0.1 C0.2.1 d (h p e s m below meth c H locs ls C0 hK hP hD hS hv)
theorem e_isub {x y : Int32} (d : decode cL_law pc = .ok (.isub, 1)) (h : GL l D cy b L xs ws nc ns (pc + 1) lv (.int (x - y) :: st)) : GL l D cy b L xs ws nc ns pc lv (.int y :: .int x :: st) := fun p e s m below meth c H locs ls C0 hK hP hD hS hv => lv_isub C0.1 C0.2.1 d (h p e s m below meth c H locs ls C0 hK hP hD hS hv)
theorem e_iand {x y : Int32} (d : decode cL_law pc = .ok (.iand, 1)) (h : GL l D cy b L xs ws nc ns (pc + 1) lv (.int (x &&& y) :: st)) : GL l D cy b L xs ws nc ns pc lv (.int y :: .int x :: st) := fun p e s m below meth c H locs ls C0 hK hP hD hS hv => lv_iand C0.1 C0.2.1 d (h p e s m below meth c H locs ls C0 hK hP hD hS hv)
theorem e_goto {off : Int} (tgt : Nat) (d : decode cL_law pc = .ok (.goto off, 3)) (ht : (pc : Int) + off = (tgt : Int)) (h : GL l D cy b L xs ws nc ns tgt lv st) : GL l D cy b L xs ws nc ns pc lv st := fun p e s m below meth c H locs ls C0 hK hP hD hS hv => lv_goto C0.1 C0.2.1 d ht (h p e s m below meth c H locs ls C0 hK hP hD hS hv)
theorem e_gt {x y : Int32} {off : Int} (tgt : Nat) (d : decode cL_law pc = .ok (.if_icmp .gt off, 3)) (ht : (pc : Int) + off = (tgt : Int)) (h1 : y < x → GL l D cy b L xs ws nc ns tgt lv st) (h2 : ¬ y < x → GL l D cy b L xs ws nc ns (pc + 3) lv st) : GL l D cy b L xs ws nc ns pc lv (.int y :: .int x :: st) :=
  fun p e s m below meth c H locs ls C0 hK hP hD hS hv => lv_icmp_gt C0.1 C0.2.1 d ht (fun c1 => h1 c1 p e s m below meth c H locs ls C0 hK hP hD hS hv) (fun c1 => h2 c1 p e s m below meth c H locs ls C0 hK hP hD hS hv)
theorem e_eq_y {x : Int32} {off : Int} (tgt : Nat) (d : decode cL_law pc = .ok (.if_icmp .eq off, 3)) (ht : (pc : Int) + off = (tgt : Int)) (h : GL l D cy b L xs ws nc ns tgt lv st) : GL l D cy b L xs ws nc ns pc lv (.int x :: .int x :: st) :=
  fun p e s m below meth c H locs ls C0 hK hP hD hS hv => lv_icmp_eq C0.1 C0.2.1 d ht (fun _ => h p e s m below meth c H locs ls C0 hK hP hD hS hv) (fun c1 => absurd rfl c1)
theorem e_tbl {dflt lo hi : Int} {offs : Array Int} {len : Nat} {x : Int32} {off : Int} (zi : Int) (tgt : Nat) (d : decode cL_law pc = .ok (.tableswitch dflt lo hi offs, len)) (hz : x.toInt = zi) (h1 : ¬ zi < lo) (h2 : ¬ hi < zi) (ho : offs[(zi - lo).toNat]? = some off) (ht : (pc : Int) + off = (tgt : Int)) (h : GL l D cy b L xs ws nc ns tgt lv st) : GL l D cy b L xs ws nc ns pc lv (.int x :: st) :=
  fun p e s m below meth c H locs ls C0 hK hP hD hS hv => lv_tableIn C0.1 C0.2.1 d (by rw [hz]; exact h1) (by rw [hz]; exact h2) (by rw [hz]; exact ho) ht (h p e s m below meth c H locs ls C0 hK hP hD hS hv)
theorem e_tblOut {dflt lo hi : Int} {offs : Array Int} {len : Nat} {x : Int32} (tgt : Nat) (d : decode cL_law pc = .ok (.tableswitch dflt lo hi offs, len)) (hz : x.toInt < lo ∨ hi < x.toInt) (ht : (pc : Int) + dflt = (tgt : Int)) (h : GL l D cy b L xs ws nc ns tgt lv st) : GL l D cy b L xs ws nc ns pc lv (.int x :: st) :=
  fun p e s m below meth c H locs ls C0 hK hP hD hS hv => lv_tableOut C0.1 C0.2.1 d hz ht (h p e s m below meth c H locs ls C0 hK hP hD hS hv)
theorem e_bA {s : State} (h : b < s.heap.size) : ¬ (fun q : Nat => s.heap.size ≤ q) b := Nat.not_le.mpr h
theorem e_sld {i : Int32} {j : Nat} (hj : i = nI j) (hin : j < L) (hL : L ≤ 3584) (d : decode cL_law pc = .ok (.iaload, 1)) (h : GL l D cy b L xs ws nc ns (pc + 1) lv (.int (xs j) :: st)) : GL l D cy b L xs ws nc ns pc lv (.int i :: .ref b :: st) := by
  subst hj
  intro p e s m below meth c H locs ls C0 hK hP hD hS hv
  have h1 := h p e s m below meth c H locs ls C0 hK hP hD hS hv
  rw [← nI_clamp (show j < 2 ^ 31 by omega)] at h1
  exact va_sld C0.1 C0.2.1 C0.2.2.2.2.2.2.1 C0.2.2.2.2.2.2.2.1 (e_bA C0.2.2.2.2.2.2.2.1) hS (vp_in_nI hin (by omega)) d h1
theorem e_slen (d : decode cL_law pc = .ok (.arraylength, 1)) (h : GL l D cy b L xs ws nc ns (pc + 1) lv (.int (nI L) :: st)) : GL l D cy b L xs ws nc ns pc lv (.ref b :: st) :=
  fun p e s m below meth c H locs ls C0 hK hP hD hS hv => va_slen C0.1 C0.2.1 C0.2.2.2.2.2.2.1 C0.2.2.2.2.2.2.2.1 (e_bA C0.2.2.2.2.2.2.2.1) hS d (h p e s m below meth c H locs ls C0 hK hP hD hS hv)
theorem e_new {C1 : String} {T : u_T} {N ci idx : Nat} (fs : List Value) (hin : ∀ w ∈ u_ws C1 T N, w ∈ WSl) (ty : Nat → FieldType) (hty : ∀ k, k < N → parseFieldDescriptor (T k).2.2.1 = some (ty k)) (hcl : Cond.classLink RL idx C1 ∈ WSl) (hinst : Cond.instantiable C1 N ∈ WSl) (hini : Cond.initialized C1 ∈ WSl) (hc : vwCl[ci]? = some (C1, T, N)) (hfs : ∀ j, j < N → defaultValue (ty j) = vp_V fs j) (hcells : nc + 1 ≤ room_1.cells) (hslots : ns + N ≤ room_1.slots) (d : decode cL_law pc = .ok (.new idx, 3)) (h : ∀ q : Nat, GL l D cy b L xs (ws ++ [(q, .inr (ci, fs))]) (nc + 1) (ns + N) (pc + 3) lv (.ref q :: st)) : GL l D cy b L xs ws nc ns pc lv st :=
  fun p e s m below meth c H locs ls C0 hK hP hD hS hv => va_new C0.1 C0.2.1 (WSl_tbl C0.2.2.2.2.2.1) hin ty hty C0.2.2.2.2.1 (WSl_tbl C0.2.2.2.2.2.1 _ hcl) (WSl_tbl C0.2.2.2.2.2.1 _ hinst) (WSl_tbl C0.2.2.2.2.2.1 _ hini) hK.1 hP hD hS (fun q hq => hq) hc hfs hcells hslots d (fun q H1 hP1 hD1 hS1 => h q p e s m below meth c H1 locs ls C0 hK hP1 hD1 hS1 hv)
theorem e_init {y : MethodName} {cc1 : ByteArray} {nL1 n idx q : Nat} {rm : Room} {As rest : List Value} {wr wc : va_W} {Qc : va_W → Prop} (hM : MetA D cy l y cc1 nL1 rm (.ref q :: As) wc Qc) (hw : Cond.instanceMethod y ∈ WSl ∧ Cond.initialized y.cls ∈ WSl ∧ Cond.code y cc1 nL1 none ∈ WSl ∧ y.name = "<init>") (hd : y.cls ≠ "java/lang/invoke/MethodHandle" ∧ y.cls ≠ "java/lang/invoke/VarHandle" ∧ (parseMethodDescriptor y.desc).map (fun d => d.parameters.length) = some n) (hlk : Cond.methodLink RL idx y ∈ WSl) (hR : rm.frames + 1 ≤ room_1.frames ∧ 8 + (nL1 + 11) + rm.locals ≤ room_1.locals) (hf : nc + rm.cells ≤ room_1.cells ∧ ns + rm.slots ≤ room_1.slots) (d : decode cL_law pc = .ok (.invokespecial idx, 3)) (hn : As.length = n) (hws : ws = wr ++ wc) (hst : st = As.reverse ++ .ref q :: rest) (hr : (rest.map fun v => v.category).sum ≤ 8) (h : ∀ w1, Qc w1 → GL l D cy b L xs (wr ++ w1) (nc + rm.cells) (ns + rm.slots) (pc + 3) lv rest) : GL l D cy b L xs ws nc ns pc lv st := by
  subst hws hst
  intro p e s m below meth c H locs ls C0 hK hP hD hS hv
  have hts := WSl_tbl C0.2.2.2.2.2.1
  have hFc := free_app hD hS (fun q hq => hq)
  have hPc : va_P D vwCl wc H := fun k x hk => hP (wr.length + k) x (by rw [List.getElem?_append_right (by omega), Nat.add_sub_cancel_left]; exact hk)
  have hDc : va_D (fun q : Nat => s.heap.size ≤ q) wc := ⟨fun i j x y hx hy e => by
    have := hD.1 (wr.length + i) (wr.length + j) x y (by rw [List.getElem?_append_right (by omega), Nat.add_sub_cancel_left]; exact hx) (by rw [List.getElem?_append_right (by omega), Nat.add_sub_cancel_left]; exact hy) e
    omega, fun k x hk => hD.2 (wr.length + k) x (by rw [List.getElem?_append_right (by omega), Nat.add_sub_cancel_left]; exact hk)⟩
  have hrun := va_runI (e := e) (below := below) (meth := meth) (locs := locs) (cells := nc) (slots := ns) (g := F0 m pc ls (As.reverse ++ .ref q :: rest)) (As := As) (rest := rest) (n := n) ⟨C0.1, C0.2.1, C0.2.2.2.1, C0.2.2.2.2.1, hts⟩ (hM H.size) ⟨callB_of n hts (WSl_cons hw.2.2.1) rfl rfl rfl (hts _ hw.2.1) (hts _ hlk) hd hR, hw.2.2.2, hts _ hw.1⟩ ⟨fun a U g mk q => by
      obtain ⟨q0, q1, qP, qK, qD⟩ := q
      exact ⟨q0, q1, qP, Ka.same (u := U) (U := U.calling g mk a) rfl qK, qD⟩, fun U hU hW => ⟨rfl, by rw [hU], by rw [hU]; exact hPc, Ka.warm hW hK, hDc.weaken (fun _ _ _ _ => trivial)⟩⟩ rfl hn hv.1 rfl (lv_room hr) d hf
  intro T hT X
  obtain ⟨w, st₀, t, T', L', h0, X', hL, e1, e2, ⟨hw2, ⟨w1, hQ1, hP1, hD1⟩, hz, hk⟩, stp⟩ := hrun T hT X
  have hw3 : w = none := by injection hw2
  subst hw3
  rw [h0] at hz hk
  have hk2 : ∀ q : Nat, q < H.size → ¬ va_A wc H.size q → T'.heap[q]? = H[q]? := fun q h1 h2 => by rw [e1]; exact hk q h1 h2
  obtain ⟨hPj, hDj⟩ := join_app hP hD hk2 hFc (by rw [e1]; exact hP1) hD1
  have hS1 : va_S (fun q : Nat => s.heap.size ≤ q) s.heap T'.heap (locs ++ L') := ⟨Nat.le_trans hS.1 (by rw [e1]; exact hz), fun q h1 h2 => by rw [hk2 q (Nat.lt_of_lt_of_le h1 hS.1) (fun z => h2 (hFc q z))]; exact hS.2.1 q h1 h2, fun q hq => by
    rcases List.mem_append.mp hq with h3 | h3
    · exact hS.2.2 q h3
    · exact hFc _ (hL q h3)⟩
  obtain ⟨t2, a1, b1⟩ := h w1 hQ1 p e s m below meth c T'.heap (locs ++ L') ls C0 hK hPj hDj hS1 hv T' rfl X'
  exact ⟨t2, stp t2 a1, b1⟩
theorem Aq_eq (v : Vw) (σ : St) (sz : Nat) : va_A (wd v σ) sz = Aq v sz := by
  funext a
  apply propext
  constructor
  · rintro (⟨k, e, hk⟩ | ha)
    · obtain ⟨h1, h2⟩ := wd_ato hk
      exact Or.inl ⟨k, h1, congrArg Prod.fst h2⟩
    · exact Or.inr ha
  · rintro (⟨k, hk, rfl⟩ | ha)
    · exact Or.inl ⟨k, _, wd_at v σ hk⟩
    · exact Or.inr ha
theorem e_call {y : MethodName} {cc1 : ByteArray} {nL1 n idx k ci N0 : Nat} {rt1 : Option FieldType} {rm : Room} {C1 : String} {T : u_T} {fs As rest : List Value} {wr : va_W} {v : Vw} {σ σ' : St} {r : Int32} (hv1 : v.1 = D) (hv2 : v.2.1 = TY cy) (hM : MetX v l y cc1 nL1 rt1 rm (.ref (vq v k) :: As) σ (some (.int r), σ')) (cw : CalV y C1 cc1 nL1 rt1 n) (hlk : Cond.methodLink RL idx y ∈ WSl) (hR : RmOk room_1 rm nL1) (hk : k < vN v) (hE : vE v k (σ.1 k) (σ.2 k) = .inr (ci, fs)) (hc : vwCl[ci]? = some (C1, T, N0)) (d : decode cL_law pc = .ok (.invokevirtual idx, 3)) (hn : As.length = n) (hst : st = As.reverse ++ .ref (vq v k) :: rest) (hr : (rest.map fun v => v.category).sum ≤ 8) (hf : nc ≤ room_1.cells ∧ ns ≤ room_1.slots) (h : GL l D cy b L xs (wr ++ wd v σ') nc ns (pc + 3) lv (.int r :: rest)) : GL l D cy b L xs (wr ++ wd v σ) nc ns pc lv st := by
  subst hst
  intro p e s m below meth c H locs ls C0 hK hP hD hS hv
  have hts := WSl_tbl C0.2.2.2.2.2.1
  have hFc := free_app hD hS (fun q hq => hq)
  have hPc : va_P D vwCl (wd v σ) H := fun k x hk => hP (wr.length + k) x (by rw [List.getElem?_append_right (by omega), Nat.add_sub_cancel_left]; exact hk)
  have hDq : Dq v := fun i j hi hj e => by
    have := hD.1 (wr.length + i) (wr.length + j) (vq v i, _) (vq v j, _) (by rw [List.getElem?_append_right (by omega), Nat.add_sub_cancel_left]; exact wd_at v σ hi) (by rw [List.getElem?_append_right (by omega), Nat.add_sub_cancel_left]; exact wd_at v σ hj) e
    omega
  have hKx : Kx v s := hK.Kx hv1 hv2
  have hrun := va_runV (e := e) (below := below) (meth := meth) (locs := locs) (cells := nc) (slots := ns) (g := F0 m pc ls (As.reverse ++ .ref (vq v k) :: rest)) (As := As) (rest := rest) (n := n) ⟨C0.1, C0.2.1, C0.2.2.2.1, C0.2.2.2.2.1, hts⟩ (hM H.size) (cwV n hts (by
    intro w hw
    simp only [wsV, List.cons_append, List.nil_append, List.mem_cons] at hw
    rcases hw with rfl | rfl | rfl | rfl | rfl | hw
    · exact WSl_good _ hlk
    · exact WSl_good _ cw.1
    · exact WSl_good _ cw.2.1
    · exact WSl_good _ cw.2.2.1
    · exact WSl_good _ cw.2.2.2.1
    · exact WSl_good _ hw) rfl hR.1 hR.2.1 cw.2.2.2.2 hR.2.2) ⟨g_blind, va_recv hK.1 hPc (q0 := k) hc (by rw [wd_at v σ hk, hE]), fun U hU hW => ⟨rfl, by rw [hU], by rw [hU, hv1]; exact hPc, Kx.warm hW hKx, hDq⟩⟩ rfl hn hv.1 rfl (lv_room hr) d hf
  intro T hT X
  obtain ⟨w, st₀, t, T', L', h0, X', hL, e1, e2, ⟨hw2, hP1, hz, hk3⟩, stp⟩ := hrun T hT X
  have hw3 : w = some (.int r) := by injection hw2
  subst hw3
  rw [h0] at hz hk3
  have hFq : ∀ q, Aq v H.size q → s.heap.size ≤ q := fun q hq => hFc q (by rw [Aq_eq]; exact hq)
  have hk2 : ∀ q : Nat, q < H.size → ¬ va_A (wd v σ) H.size q → T'.heap[q]? = H[q]? := fun q h1 h2 => by rw [e1]; exact hk3 q h1 (by rw [← Aq_eq v σ]; exact h2)
  obtain ⟨hPj, hDj⟩ := join_app hP hD hk2 hFc (w1 := wd v σ') (by rw [e1, ← hv1]; exact hP1) (by rw [Aq_eq]; exact wd_Dq hDq _ σ')
  have hS1 : va_S (fun q : Nat => s.heap.size ≤ q) s.heap T'.heap (locs ++ L') := ⟨Nat.le_trans hS.1 (by rw [e1]; exact hz), fun q h1 h2 => by rw [hk2 q (Nat.lt_of_lt_of_le h1 hS.1) (fun z => h2 (hFc q z))]; exact hS.2.1 q h1 h2, fun q hq => by
    rcases List.mem_append.mp hq with h3 | h3
    · exact hS.2.2 q h3
    · exact hFq _ (hL q h3)⟩
  obtain ⟨t2, a1, b1⟩ := h p e s m below meth c T'.heap (locs ++ L') ls C0 hK hPj hDj hS1 hv T' rfl X'
  exact ⟨t2, stp t2 a1, b1⟩
theorem e_ret (hf : nc ≤ 600000 ∧ ns ≤ 7302250) (d : decode cL_law pc = .ok (.ireturn, 1)) : GL l D cy b L xs ws nc ns pc lv [.int 1] :=
  fun p e s m below meth c H locs ls C0 hK hP hD hS hv => va_forget (fun q hq => hS.2.2 q hq) (W.widen hf.1 hf.2 (lw_ret C0.1 C0.2.1 C0.2.2.1 C0.2.2.2.2.2.2.2.2.1 d))
end LA_
