/-! ===== the judgement, and a row an instruction ===== -/
def chk {X : Type} (b : Bool) (o : Option X) : Option X := match b with
  | true => o
  | false => none
def inb (i : Int32) (n : Nat) : Bool := decide (¬ (i < 0 ∨ n ≤ i.toNatClampNeg))
def isb (x : Int32) : Bool := decide (x = 0 ∨ x = 1)
def nz (x : Int32) : Bool := decide (¬ x = 0)
def nm {A X : Type} (a : A) (k : A → Option X) : Option X := k a
def un {A B X : Type} (g : A → B → Option X) (p : A × B) : Option X := g p.1 p.2
/-- a loop: inl goes on, inr leaves -/
def wh {S R : Type} : Nat → (S → Option (S ⊕ R)) → S → Option R
  | 0, _, _ => none
  | n + 1, b, s => (b s).bind (fun x => match x with
    | .inl s' => wh n b s'
    | .inr r => some r)
theorem inb_of {i : Int32} {n : Nat} (h : inb i n = true) : vp_in i n := of_decide_eq_true (p := ¬ (i < 0 ∨ n ≤ i.toNatClampNeg)) h
theorem nz_of {x : Int32} (h : nz x = true) : ¬ x = 0 := of_decide_eq_true h
def Cx (v : Vw) (cc : ByteArray) (nL : Nat) (own : String) (rt : Option FieldType) (R : Room) (z : Nat × Nat) (p : Program) (s : State) (m : MethodId) (args : Array Value) (meth : Method) (c : Code) : Prop :=
  p.tables.exec = Jvm.exec ∧ c.code = cc ∧ c.maxLocals = nL ∧ s.vm.findClass own = some m.cls ∧ (∀ w ∈ WSl, w.before args s = true) ∧ Kx v s ∧ meth.locks = false ∧ meth.sig.returnType = rt ∧ Dq v ∧ z.1 ≤ R.cells ∧ z.2 ≤ R.slots
/-- the end of a method: its answer, its world, nothing else changed -/
def Qx (v : Vw) (sz : Nat) (w : Option Value × St) : Array Value → State → Outcome → State → Prop := fun _ st oc t => oc = .returned w.1 ∧ va_P v.1 vwCl (wd v w.2) t.heap ∧ va_F (Aq v sz) st t
/-- from the frame at pc, with the world of σ, the machine comes to the end that the port's answer names, if it has one -/
def GK {X Res : Type} (v : Vw) (cc : ByteArray) (nL : Nat) (own : String) (rt : Option FieldType) (l : Launch) (R : Room) (z : Nat × Nat) (fin : Res → Option Value × St) (o : Option X) (K : X → Option Res) (σ : St) (pc : Nat) (lv : List (Nat × Value)) (st : List Value) : Prop :=
  ∀ res : Res, o.bind K = some res → ∀ (p : Program) (e : Env) (s : State) (m : MethodId) (args : Array Value) (below : List Frame) (meth : Method) (c : Code) (H : Heap) (locs : List Loc) (ls : Array Slot),
    Cx v cc nL own rt R z p s m args meth c → va_P v.1 vwCl (wd v σ) H → va_S (Aq v s.heap.size) s.heap H locs → lv_has ls nL lv →
    W p l e R s m args below meth c H locs z.1 z.2 (MQ below (Qx v s.heap.size (fin res)) args s z.1 z.2 (Aq v s.heap.size)) (F0 m pc ls st)
section RW
variable {X Res : Type} {v : Vw} {cc : ByteArray} {nL : Nat} {own : String} {rt : Option FieldType} {l : Launch} {R : Room} {z : Nat × Nat} {fin : Res → Option Value × St} {o : Option X} {K : X → Option Res} {σ : St} {pc : Nat} {lv lv' : List (Nat × Value)} {st : List Value} {A B : Option X}
-- what a port does without an instruction
theorem g_nm {T : Type} {a : T} {k : T → Option X} (h : GK v cc nL own rt l R z fin (k a) K σ pc lv st) : GK v cc nL own rt l R z fin (nm a k) K σ pc lv st := h
theorem g_nmi {a : Int32} {k : Int32 → Option X} (h : ∀ x : Int32, GK v cc nL own rt l R z fin (k x) K σ pc lv (.int x :: st)) : GK v cc nL own rt l R z fin (nm a k) K σ pc lv (.int a :: st) := h a
theorem g_nml {a : Int64} {k : Int64 → Option X} (h : ∀ x : Int64, GK v cc nL own rt l R z fin (k x) K σ pc lv (.long x :: st)) : GK v cc nL own rt l R z fin (nm a k) K σ pc lv (.long a :: st) := h a
theorem g_if {c : Prop} [Decidable c] (h1 : c → GK v cc nL own rt l R z fin A K σ pc lv st) (h2 : ¬ c → GK v cc nL own rt l R z fin B K σ pc lv st) : GK v cc nL own rt l R z fin (if c then A else B) K σ pc lv st := by
  by_cases h : c
  · rw [if_pos h]; exact h1 h
  · rw [if_neg h]; exact h2 h
theorem g_chk {b : Bool} (h : b = true → GK v cc nL own rt l R z fin o K σ pc lv st) : GK v cc nL own rt l R z fin (chk b o) K σ pc lv st := by
  cases b
  · intro res hr; cases hr
  · exact h rfl
theorem g_bind {Y : Type} {o1 : Option Y} {k : Y → Option X} (h : GK v cc nL own rt l R z fin o1 (fun y => (k y).bind K) σ pc lv st) : GK v cc nL own rt l R z fin (o1.bind k) K σ pc lv st := by
  intro res hr
  exact h res (by rw [Option.bind_assoc] at hr; exact hr)
/-- fewer locals -/
theorem g_sub (ks : List Nat) (hl : lv_pick lv ks = lv') (h : GK v cc nL own rt l R z fin o K σ pc lv' st) : GK v cc nL own rt l R z fin o K σ pc lv st :=
  fun res hr p e s m args below meth c H locs ls C hP hS hv => h res hr p e s m args below meth c H locs ls C hP hS (lv_sub hv ks hl)
/-- a loop by its port -/
theorem g_wh {S Y : Type} {b : S → Option (S ⊕ Y)} {k : Y → Option X} (sg : S → St) (lf : S → List (Nat × Value)) {pc : Nat} {n : Nat} {s0 : S}
    (hb : ∀ (K2 : S ⊕ Y → Option Res), (∀ r, K2 (.inr r) = (k r).bind K) → (∀ s, GK v cc nL own rt l R z fin (some (.inl s)) K2 (sg s) pc (lf s) []) → ∀ s, GK v cc nL own rt l R z fin (b s) K2 (sg s) pc (lf s) []) : GK v cc nL own rt l R z fin ((wh n b s0).bind k) K (sg s0) pc (lf s0) [] := by
  induction n generalizing s0 with
  | zero => intro res hr; cases hr
  | succ n ih =>
    have h2 : ((wh (n + 1) b s0).bind k).bind K = (b s0).bind (fun x => match x with
      | .inl s' => ((wh n b s').bind k).bind K
      | .inr r => (k r).bind K) := by
      show (((b s0).bind _).bind k).bind K = _
      rw [Option.bind_assoc, Option.bind_assoc]
      congr 1
      funext x
      cases x with
      | inl s' => exact (Option.bind_assoc _ _ _).symm
      | inr r => rfl
    intro res hr
    rw [h2] at hr
    exact hb _ (fun r => rfl) (fun s => by intro res2 hr2; exact ih res2 hr2) s0 res hr
-- constants
theorem g_iconst {n : Int} (w : Int32) (d : decode cc pc = .ok (.iconst n, 1)) (hw : Int32.ofInt n = w) (h : GK v cc nL own rt l R z fin o K σ (pc + 1) lv (.int w :: st)) : GK v cc nL own rt l R z fin o K σ pc lv st :=
  fun res hr p e s m args below meth c H locs ls C hP hS hv => lv_iconst C.1 C.2.1 d hw (h res hr p e s m args below meth c H locs ls C hP hS hv)
theorem g_bipush {n : Int} (w : Int32) (d : decode cc pc = .ok (.bipush n, 2)) (hw : (Int8.ofInt n).toInt32 = w) (h : GK v cc nL own rt l R z fin o K σ (pc + 2) lv (.int w :: st)) : GK v cc nL own rt l R z fin o K σ pc lv st :=
  fun res hr p e s m args below meth c H locs ls C hP hS hv => lv_bipush C.1 C.2.1 d hw (h res hr p e s m args below meth c H locs ls C hP hS hv)
theorem g_sipush {n : Int} (w : Int32) (d : decode cc pc = .ok (.sipush n, 3)) (hw : (Int16.ofInt n).toInt32 = w) (h : GK v cc nL own rt l R z fin o K σ (pc + 3) lv (.int w :: st)) : GK v cc nL own rt l R z fin o K σ pc lv st :=
  fun res hr p e s m args below meth c H locs ls C hP hS hv => lv_sipush C.1 C.2.1 d hw (h res hr p e s m args below meth c H locs ls C hP hS hv)
theorem g_lconst {n : Fin 2} (w : Int64) (d : decode cc pc = .ok (.lconst n, 1)) (hw : Int64.ofNat (n : Nat) = w) (h : GK v cc nL own rt l R z fin o K σ (pc + 1) lv (.long w :: st)) : GK v cc nL own rt l R z fin o K σ pc lv st :=
  fun res hr p e s m args below meth c H locs ls C hP hS hv => lv_lconst C.1 C.2.1 d hw (h res hr p e s m args below meth c H locs ls C hP hS hv)
theorem g_ldc {i : Nat} {w : Int32} (d : decode cc pc = .ok (.ldc i, 2)) (hw : Cond.constant own i w ∈ WSl) (h : GK v cc nL own rt l R z fin o K σ (pc + 2) lv (.int w :: st)) : GK v cc nL own rt l R z fin o K σ pc lv st :=
  fun res hr p e s m args below meth c H locs ls C hP hS hv => lv_ldc C.1 C.2.1 C.2.2.2.1 (C.2.2.2.2.1 _ hw) d (h res hr p e s m args below meth c H locs ls C hP hS hv)
theorem g_ldcw {i : Nat} {w : Int32} (d : decode cc pc = .ok (.ldc_w i, 3)) (hw : Cond.constant own i w ∈ WSl) (h : GK v cc nL own rt l R z fin o K σ (pc + 3) lv (.int w :: st)) : GK v cc nL own rt l R z fin o K σ pc lv st :=
  fun res hr p e s m args below meth c H locs ls C hP hS hv => lv_ldcw C.1 C.2.1 C.2.2.2.1 (C.2.2.2.2.1 _ hw) d (h res hr p e s m args below meth c H locs ls C hP hS hv)
theorem g_ldc2 {i : Nat} {w : Int64} (d : decode cc pc = .ok (.ldc2_w i, 3)) (hw : Cond.constantLong own i w ∈ WSl) (h : GK v cc nL own rt l R z fin o K σ (pc + 3) lv (.long w :: st)) : GK v cc nL own rt l R z fin o K σ pc lv st :=
  fun res hr p e s m args below meth c H locs ls C hP hS hv => lv_ldc2 C.1 C.2.1 C.2.2.2.1 (C.2.2.2.2.1 _ hw) d (h res hr p e s m args below meth c H locs ls C hP hS hv)
-- locals
theorem g_iload_n {k : Fin 4} (j : Nat) {i : Nat} {x : Int32} (d : decode cc pc = .ok (.iload_n k, 1)) (hi : (k : Nat) = i) (hj : lv[j]? = some (i, .int x)) (h : GK v cc nL own rt l R z fin o K σ (pc + 1) lv (.int x :: st)) : GK v cc nL own rt l R z fin o K σ pc lv st :=
  fun res hr p e s m args below meth c H locs ls C hP hS hv => lv_iload_n C.1 C.2.1 d hi (lv_at hv j hj) (h res hr p e s m args below meth c H locs ls C hP hS hv)
theorem g_iload (j : Nat) {i : Nat} {x : Int32} (d : decode cc pc = .ok (.iload i, 2)) (hj : lv[j]? = some (i, .int x)) (h : GK v cc nL own rt l R z fin o K σ (pc + 2) lv (.int x :: st)) : GK v cc nL own rt l R z fin o K σ pc lv st :=
  fun res hr p e s m args below meth c H locs ls C hP hS hv => lv_iload C.1 C.2.1 d (lv_at hv j hj) (h res hr p e s m args below meth c H locs ls C hP hS hv)
theorem g_lload_n {k : Fin 4} (j : Nat) {i : Nat} {x : Int64} (d : decode cc pc = .ok (.lload_n k, 1)) (hi : (k : Nat) = i) (hj : lv[j]? = some (i, .long x)) (h : GK v cc nL own rt l R z fin o K σ (pc + 1) lv (.long x :: st)) : GK v cc nL own rt l R z fin o K σ pc lv st :=
  fun res hr p e s m args below meth c H locs ls C hP hS hv => lv_lload_n C.1 C.2.1 d hi (lv_at hv j hj) (h res hr p e s m args below meth c H locs ls C hP hS hv)
theorem g_lload (j : Nat) {i : Nat} {x : Int64} (d : decode cc pc = .ok (.lload i, 2)) (hj : lv[j]? = some (i, .long x)) (h : GK v cc nL own rt l R z fin o K σ (pc + 2) lv (.long x :: st)) : GK v cc nL own rt l R z fin o K σ pc lv st :=
  fun res hr p e s m args below meth c H locs ls C hP hS hv => lv_lload C.1 C.2.1 d (lv_at hv j hj) (h res hr p e s m args below meth c H locs ls C hP hS hv)
theorem g_aload_n {k : Fin 4} (j : Nat) {i : Nat} {x : Nat} (d : decode cc pc = .ok (.aload_n k, 1)) (hi : (k : Nat) = i) (hj : lv[j]? = some (i, .ref x)) (h : GK v cc nL own rt l R z fin o K σ (pc + 1) lv (.ref x :: st)) : GK v cc nL own rt l R z fin o K σ pc lv st :=
  fun res hr p e s m args below meth c H locs ls C hP hS hv => lv_aload_n C.1 C.2.1 d hi (lv_at hv j hj) (h res hr p e s m args below meth c H locs ls C hP hS hv)
theorem g_aload (j : Nat) {i : Nat} {x : Nat} (d : decode cc pc = .ok (.aload i, 2)) (hj : lv[j]? = some (i, .ref x)) (h : GK v cc nL own rt l R z fin o K σ (pc + 2) lv (.ref x :: st)) : GK v cc nL own rt l R z fin o K σ pc lv st :=
  fun res hr p e s m args below meth c H locs ls C hP hS hv => lv_aload C.1 C.2.1 d (lv_at hv j hj) (h res hr p e s m args below meth c H locs ls C hP hS hv)
theorem g_istore_n {k : Fin 4} {i : Nat} {x : Int32} (d : decode cc pc = .ok (.istore_n k, 1)) (hi : (k : Nat) = i) (hn : i < nL) (hl : (i, Value.int x) :: lv.filter (fun q => !(q.1 == i) && !(q.1 + 1 == i && q.2.category == 2)) = lv') (h : GK v cc nL own rt l R z fin o K σ (pc + 1) lv' st) : GK v cc nL own rt l R z fin o K σ pc lv (.int x :: st) :=
  fun res hr p e s m args below meth c H locs ls C hP hS hv => lv_istore_n C.1 C.2.1 d hi hv hn hl (fun ls' hv' => h res hr p e s m args below meth c H locs ls' C hP hS hv')
theorem g_istore {i : Nat} {x : Int32} (d : decode cc pc = .ok (.istore i, 2)) (hn : i < nL) (hl : (i, Value.int x) :: lv.filter (fun q => !(q.1 == i) && !(q.1 + 1 == i && q.2.category == 2)) = lv') (h : GK v cc nL own rt l R z fin o K σ (pc + 2) lv' st) : GK v cc nL own rt l R z fin o K σ pc lv (.int x :: st) :=
  fun res hr p e s m args below meth c H locs ls C hP hS hv => lv_istore C.1 C.2.1 d hv hn hl (fun ls' hv' => h res hr p e s m args below meth c H locs ls' C hP hS hv')
theorem g_astore_n {k : Fin 4} {i : Nat} {x : Nat} (d : decode cc pc = .ok (.astore_n k, 1)) (hi : (k : Nat) = i) (hn : i < nL) (hl : (i, Value.ref x) :: lv.filter (fun q => !(q.1 == i) && !(q.1 + 1 == i && q.2.category == 2)) = lv') (h : GK v cc nL own rt l R z fin o K σ (pc + 1) lv' st) : GK v cc nL own rt l R z fin o K σ pc lv (.ref x :: st) :=
  fun res hr p e s m args below meth c H locs ls C hP hS hv => lv_astore_n C.1 C.2.1 d hi hv hn hl (fun ls' hv' => h res hr p e s m args below meth c H locs ls' C hP hS hv')
theorem g_astore {i : Nat} {x : Nat} (d : decode cc pc = .ok (.astore i, 2)) (hn : i < nL) (hl : (i, Value.ref x) :: lv.filter (fun q => !(q.1 == i) && !(q.1 + 1 == i && q.2.category == 2)) = lv') (h : GK v cc nL own rt l R z fin o K σ (pc + 2) lv' st) : GK v cc nL own rt l R z fin o K σ pc lv (.ref x :: st) :=
  fun res hr p e s m args below meth c H locs ls C hP hS hv => lv_astore C.1 C.2.1 d hv hn hl (fun ls' hv' => h res hr p e s m args below meth c H locs ls' C hP hS hv')
theorem g_lstore_n {k : Fin 4} {i : Nat} {x : Int64} (d : decode cc pc = .ok (.lstore_n k, 1)) (hi : (k : Nat) = i) (hn : i + 1 < nL) (hl : (i, Value.long x) :: lv.filter (fun q => !(q.1 == i) && (!(q.1 == i + 1) && !(q.1 + 1 == i && q.2.category == 2))) = lv') (h : GK v cc nL own rt l R z fin o K σ (pc + 1) lv' st) : GK v cc nL own rt l R z fin o K σ pc lv (.long x :: st) :=
  fun res hr p e s m args below meth c H locs ls C hP hS hv => lv_lstore_n C.1 C.2.1 d hi hv hn hl (fun ls' hv' => h res hr p e s m args below meth c H locs ls' C hP hS hv')
theorem g_lstore {i : Nat} {x : Int64} (d : decode cc pc = .ok (.lstore i, 2)) (hn : i + 1 < nL) (hl : (i, Value.long x) :: lv.filter (fun q => !(q.1 == i) && (!(q.1 == i + 1) && !(q.1 + 1 == i && q.2.category == 2))) = lv') (h : GK v cc nL own rt l R z fin o K σ (pc + 2) lv' st) : GK v cc nL own rt l R z fin o K σ pc lv (.long x :: st) :=
  fun res hr p e s m args below meth c H locs ls C hP hS hv => lv_lstore C.1 C.2.1 d hv hn hl (fun ls' hv' => h res hr p e s m args below meth c H locs ls' C hP hS hv')
theorem g_iinc {i j : Nat} {n : Int} {x : Int32} (w : Int32) (d : decode cc pc = .ok (.iinc i n, 3)) (hj : lv[j]? = some (i, .int x)) (hw : Int32.ofInt n = w) (hn : i < nL) {k : Int32 → Option X} {lf : Int32 → List (Nat × Value)} (hl : ∀ y, (i, Value.int y) :: lv.filter (fun q => !(q.1 == i) && !(q.1 + 1 == i && q.2.category == 2)) = lf y) (h : ∀ y : Int32, GK v cc nL own rt l R z fin (k y) K σ (pc + 3) (lf y) st) : GK v cc nL own rt l R z fin (nm (x + w) k) K σ pc lv st :=
  fun res hr p e s m args below meth c H locs ls C hP hS hv => lv_iinc C.1 C.2.1 d hv hj (by rw [hw]) hn (hl (x + w)) (fun ls' hv' => h (x + w) res hr p e s m args below meth c H locs ls' C hP hS hv')
-- arithmetic
theorem g_iadd {x y : Int32} (d : decode cc pc = .ok (.iadd, 1)) (h : GK v cc nL own rt l R z fin o K σ (pc + 1) lv (.int (x + y) :: st)) : GK v cc nL own rt l R z fin o K σ pc lv (.int y :: .int x :: st) :=
  fun res hr p e s m args below meth c H locs ls C hP hS hv => lv_iadd C.1 C.2.1 d (h res hr p e s m args below meth c H locs ls C hP hS hv)
theorem g_isub {x y : Int32} (d : decode cc pc = .ok (.isub, 1)) (h : GK v cc nL own rt l R z fin o K σ (pc + 1) lv (.int (x - y) :: st)) : GK v cc nL own rt l R z fin o K σ pc lv (.int y :: .int x :: st) :=
  fun res hr p e s m args below meth c H locs ls C hP hS hv => lv_isub C.1 C.2.1 d (h res hr p e s m args below meth c H locs ls C hP hS hv)
theorem g_imul {x y : Int32} (d : decode cc pc = .ok (.imul, 1)) (h : GK v cc nL own rt l R z fin o K σ (pc + 1) lv (.int (x * y) :: st)) : GK v cc nL own rt l R z fin o K σ pc lv (.int y :: .int x :: st) :=
  fun res hr p e s m args below meth c H locs ls C hP hS hv => lv_imul C.1 C.2.1 d (h res hr p e s m args below meth c H locs ls C hP hS hv)
theorem g_iand {x y : Int32} (d : decode cc pc = .ok (.iand, 1)) (h : GK v cc nL own rt l R z fin o K σ (pc + 1) lv (.int (x &&& y) :: st)) : GK v cc nL own rt l R z fin o K σ pc lv (.int y :: .int x :: st) :=
  fun res hr p e s m args below meth c H locs ls C hP hS hv => lv_iand C.1 C.2.1 d (h res hr p e s m args below meth c H locs ls C hP hS hv)
theorem g_ior {x y : Int32} (d : decode cc pc = .ok (.ior, 1)) (h : GK v cc nL own rt l R z fin o K σ (pc + 1) lv (.int (x ||| y) :: st)) : GK v cc nL own rt l R z fin o K σ pc lv (.int y :: .int x :: st) :=
  fun res hr p e s m args below meth c H locs ls C hP hS hv => lv_ior C.1 C.2.1 d (h res hr p e s m args below meth c H locs ls C hP hS hv)
theorem g_ixor {x y : Int32} (d : decode cc pc = .ok (.ixor, 1)) (h : GK v cc nL own rt l R z fin o K σ (pc + 1) lv (.int (x ^^^ y) :: st)) : GK v cc nL own rt l R z fin o K σ pc lv (.int y :: .int x :: st) :=
  fun res hr p e s m args below meth c H locs ls C hP hS hv => lv_ixor C.1 C.2.1 d (h res hr p e s m args below meth c H locs ls C hP hS hv)
theorem g_ishl {x y : Int32} (d : decode cc pc = .ok (.ishl, 1)) (h : GK v cc nL own rt l R z fin o K σ (pc + 1) lv (.int (x <<< (y &&& 31)) :: st)) : GK v cc nL own rt l R z fin o K σ pc lv (.int y :: .int x :: st) :=
  fun res hr p e s m args below meth c H locs ls C hP hS hv => lv_ishl C.1 C.2.1 d (h res hr p e s m args below meth c H locs ls C hP hS hv)
theorem g_ishr {x y : Int32} (d : decode cc pc = .ok (.ishr, 1)) (h : GK v cc nL own rt l R z fin o K σ (pc + 1) lv (.int (x >>> (y &&& 31)) :: st)) : GK v cc nL own rt l R z fin o K σ pc lv (.int y :: .int x :: st) :=
  fun res hr p e s m args below meth c H locs ls C hP hS hv => lv_ishr C.1 C.2.1 d (h res hr p e s m args below meth c H locs ls C hP hS hv)
theorem g_iushr {x y : Int32} (d : decode cc pc = .ok (.iushr, 1)) (h : GK v cc nL own rt l R z fin o K σ (pc + 1) lv (.int ((x.toUInt32 >>> (y.toUInt32 &&& Int32.toUInt32 31)).toInt32) :: st)) : GK v cc nL own rt l R z fin o K σ pc lv (.int y :: .int x :: st) :=
  fun res hr p e s m args below meth c H locs ls C hP hS hv => lv_iushr C.1 C.2.1 d rfl (h res hr p e s m args below meth c H locs ls C hP hS hv)
theorem g_ineg {x : Int32} (d : decode cc pc = .ok (.ineg, 1)) (h : GK v cc nL own rt l R z fin o K σ (pc + 1) lv (.int (-x) :: st)) : GK v cc nL own rt l R z fin o K σ pc lv (.int x :: st) :=
  fun res hr p e s m args below meth c H locs ls C hP hS hv => lv_ineg C.1 C.2.1 d (h res hr p e s m args below meth c H locs ls C hP hS hv)
theorem g_i2l {x : Int32} (d : decode cc pc = .ok (.i2l, 1)) (h : GK v cc nL own rt l R z fin o K σ (pc + 1) lv (.long x.toInt64 :: st)) : GK v cc nL own rt l R z fin o K σ pc lv (.int x :: st) :=
  fun res hr p e s m args below meth c H locs ls C hP hS hv => lv_i2l C.1 C.2.1 d rfl (h res hr p e s m args below meth c H locs ls C hP hS hv)
theorem g_l2i {x : Int64} (d : decode cc pc = .ok (.l2i, 1)) (h : GK v cc nL own rt l R z fin o K σ (pc + 1) lv (.int x.toInt32 :: st)) : GK v cc nL own rt l R z fin o K σ pc lv (.long x :: st) :=
  fun res hr p e s m args below meth c H locs ls C hP hS hv => lv_l2i C.1 C.2.1 d rfl (h res hr p e s m args below meth c H locs ls C hP hS hv)
theorem g_land {x y : Int64} (d : decode cc pc = .ok (.land, 1)) (h : GK v cc nL own rt l R z fin o K σ (pc + 1) lv (.long (x &&& y) :: st)) : GK v cc nL own rt l R z fin o K σ pc lv (.long y :: .long x :: st) :=
  fun res hr p e s m args below meth c H locs ls C hP hS hv => lv_land C.1 C.2.1 d (h res hr p e s m args below meth c H locs ls C hP hS hv)
theorem g_lor {x y : Int64} (d : decode cc pc = .ok (.lor, 1)) (h : GK v cc nL own rt l R z fin o K σ (pc + 1) lv (.long (x ||| y) :: st)) : GK v cc nL own rt l R z fin o K σ pc lv (.long y :: .long x :: st) :=
  fun res hr p e s m args below meth c H locs ls C hP hS hv => lv_lor C.1 C.2.1 d (h res hr p e s m args below meth c H locs ls C hP hS hv)
theorem g_lxor {x y : Int64} (d : decode cc pc = .ok (.lxor, 1)) (h : GK v cc nL own rt l R z fin o K σ (pc + 1) lv (.long (x ^^^ y) :: st)) : GK v cc nL own rt l R z fin o K σ pc lv (.long y :: .long x :: st) :=
  fun res hr p e s m args below meth c H locs ls C hP hS hv => lv_lxor C.1 C.2.1 d (h res hr p e s m args below meth c H locs ls C hP hS hv)
theorem g_lshl {x : Int64} {y : Int32} (d : decode cc pc = .ok (.lshl, 1)) (h : GK v cc nL own rt l R z fin o K σ (pc + 1) lv (.long (x <<< (y.toInt64 &&& 63)) :: st)) : GK v cc nL own rt l R z fin o K σ pc lv (.int y :: .long x :: st) :=
  fun res hr p e s m args below meth c H locs ls C hP hS hv => lv_lshl C.1 C.2.1 d rfl (h res hr p e s m args below meth c H locs ls C hP hS hv)
theorem g_lshr {x : Int64} {y : Int32} (d : decode cc pc = .ok (.lshr, 1)) (h : GK v cc nL own rt l R z fin o K σ (pc + 1) lv (.long (x >>> (y.toInt64 &&& 63)) :: st)) : GK v cc nL own rt l R z fin o K σ pc lv (.int y :: .long x :: st) :=
  fun res hr p e s m args below meth c H locs ls C hP hS hv => lv_lshr C.1 C.2.1 d rfl (h res hr p e s m args below meth c H locs ls C hP hS hv)
theorem g_lcmp {x y : Int64} (d : decode cc pc = .ok (.lcmp, 1)) (h : GK v cc nL own rt l R z fin o K σ (pc + 1) lv (.int (lg_cmp x y) :: st)) : GK v cc nL own rt l R z fin o K σ pc lv (.long y :: .long x :: st) :=
  fun res hr p e s m args below meth c H locs ls C hP hS hv => W.lcmp C.1 C.2.1 d (h res hr p e s m args below meth c H locs ls C hP hS hv)
theorem g_idiv {x y : Int32} (d : decode cc pc = .ok (.idiv, 1)) (h : GK v cc nL own rt l R z fin o K σ (pc + 1) lv (.int (x / y) :: st)) : GK v cc nL own rt l R z fin (chk (nz y) o) K σ pc lv (.int y :: .int x :: st) :=
  g_chk fun hz res hr p e s m args below meth c H locs ls C hP hS hv => lv_idiv C.1 C.2.1 d (nz_of hz) (h res hr p e s m args below meth c H locs ls C hP hS hv)
theorem g_irem {x y : Int32} (d : decode cc pc = .ok (.irem, 1)) (h : GK v cc nL own rt l R z fin o K σ (pc + 1) lv (.int (x - x / y * y) :: st)) : GK v cc nL own rt l R z fin (chk (nz y) o) K σ pc lv (.int y :: .int x :: st) :=
  g_chk fun hz res hr p e s m args below meth c H locs ls C hP hS hv => lv_irem C.1 C.2.1 d (nz_of hz) (h res hr p e s m args below meth c H locs ls C hP hS hv)
theorem g_dup {a : Value} (d : decode cc pc = .ok (.dup, 1)) (ha : a.category = 1) (h : GK v cc nL own rt l R z fin o K σ (pc + 1) lv (a :: a :: st)) : GK v cc nL own rt l R z fin o K σ pc lv (a :: st) :=
  fun res hr p e s m args below meth c H locs ls C hP hS hv => lv_dup C.1 C.2.1 d ha (h res hr p e s m args below meth c H locs ls C hP hS hv)
theorem g_dup_x1 {a b : Value} (d : decode cc pc = .ok (.dup_x1, 1)) (ha : a.category = 1) (hb : b.category = 1) (h : GK v cc nL own rt l R z fin o K σ (pc + 1) lv (a :: b :: a :: st)) : GK v cc nL own rt l R z fin o K σ pc lv (a :: b :: st) :=
  fun res hr p e s m args below meth c H locs ls C hP hS hv => lv_dup_x1 C.1 C.2.1 d ha hb (h res hr p e s m args below meth c H locs ls C hP hS hv)
theorem g_dup2 {a b : Value} (d : decode cc pc = .ok (.dup2, 1)) (ha : a.category = 1) (hb : b.category = 1) (h : GK v cc nL own rt l R z fin o K σ (pc + 1) lv (a :: b :: a :: b :: st)) : GK v cc nL own rt l R z fin o K σ pc lv (a :: b :: st) :=
  fun res hr p e s m args below meth c H locs ls C hP hS hv => lv_dup2_11 C.1 C.2.1 d ha hb (h res hr p e s m args below meth c H locs ls C hP hS hv)
-- branches
theorem g_goto {off : Int} (tgt : Nat) (d : decode cc pc = .ok (.goto off, 3)) (ht : (pc : Int) + off = (tgt : Int)) (h : GK v cc nL own rt l R z fin o K σ tgt lv st) : GK v cc nL own rt l R z fin o K σ pc lv st :=
  fun res hr p e s m args below meth c H locs ls C hP hS hv => lv_goto C.1 C.2.1 d ht (h res hr p e s m args below meth c H locs ls C hP hS hv)
theorem g_icmp_eq {x y : Int32} {off : Int} (tgt : Nat) (d : decode cc pc = .ok (.if_icmp .eq off, 3)) (ht : (pc : Int) + off = (tgt : Int)) (h1 : GK v cc nL own rt l R z fin A K σ tgt lv st) (h2 : GK v cc nL own rt l R z fin B K σ (pc + 3) lv st) : GK v cc nL own rt l R z fin (if x = y then A else B) K σ pc lv (.int y :: .int x :: st) :=
  fun res hr p e s m args below meth c H locs ls C hP hS hv => lv_icmp_eq C.1 C.2.1 d ht (fun c1 => h1 res (by rw [if_pos c1] at hr; exact hr) p e s m args below meth c H locs ls C hP hS hv) (fun c1 => h2 res (by rw [if_neg c1] at hr; exact hr) p e s m args below meth c H locs ls C hP hS hv)
theorem g_icmp_ne {x y : Int32} {off : Int} (tgt : Nat) (d : decode cc pc = .ok (.if_icmp .ne off, 3)) (ht : (pc : Int) + off = (tgt : Int)) (h1 : GK v cc nL own rt l R z fin A K σ tgt lv st) (h2 : GK v cc nL own rt l R z fin B K σ (pc + 3) lv st) : GK v cc nL own rt l R z fin (if x = y then B else A) K σ pc lv (.int y :: .int x :: st) :=
  fun res hr p e s m args below meth c H locs ls C hP hS hv => lv_icmp_ne C.1 C.2.1 d ht (fun c1 => h1 res (by rw [if_neg c1] at hr; exact hr) p e s m args below meth c H locs ls C hP hS hv) (fun c1 => h2 res (by rw [if_pos c1] at hr; exact hr) p e s m args below meth c H locs ls C hP hS hv)
theorem g_icmp_lt {x y : Int32} {off : Int} (tgt : Nat) (d : decode cc pc = .ok (.if_icmp .lt off, 3)) (ht : (pc : Int) + off = (tgt : Int)) (h1 : GK v cc nL own rt l R z fin A K σ tgt lv st) (h2 : GK v cc nL own rt l R z fin B K σ (pc + 3) lv st) : GK v cc nL own rt l R z fin (if x < y then A else B) K σ pc lv (.int y :: .int x :: st) :=
  fun res hr p e s m args below meth c H locs ls C hP hS hv => lv_icmp_lt C.1 C.2.1 d ht (fun c1 => h1 res (by rw [if_pos c1] at hr; exact hr) p e s m args below meth c H locs ls C hP hS hv) (fun c1 => h2 res (by rw [if_neg c1] at hr; exact hr) p e s m args below meth c H locs ls C hP hS hv)
theorem g_icmp_ge {x y : Int32} {off : Int} (tgt : Nat) (d : decode cc pc = .ok (.if_icmp .ge off, 3)) (ht : (pc : Int) + off = (tgt : Int)) (h1 : GK v cc nL own rt l R z fin A K σ tgt lv st) (h2 : GK v cc nL own rt l R z fin B K σ (pc + 3) lv st) : GK v cc nL own rt l R z fin (if y ≤ x then A else B) K σ pc lv (.int y :: .int x :: st) :=
  fun res hr p e s m args below meth c H locs ls C hP hS hv => lv_icmp_ge C.1 C.2.1 d ht (fun c1 => h1 res (by rw [if_pos c1] at hr; exact hr) p e s m args below meth c H locs ls C hP hS hv) (fun c1 => h2 res (by rw [if_neg c1] at hr; exact hr) p e s m args below meth c H locs ls C hP hS hv)
theorem g_icmp_gt {x y : Int32} {off : Int} (tgt : Nat) (d : decode cc pc = .ok (.if_icmp .gt off, 3)) (ht : (pc : Int) + off = (tgt : Int)) (h1 : GK v cc nL own rt l R z fin A K σ tgt lv st) (h2 : GK v cc nL own rt l R z fin B K σ (pc + 3) lv st) : GK v cc nL own rt l R z fin (if y < x then A else B) K σ pc lv (.int y :: .int x :: st) :=
  fun res hr p e s m args below meth c H locs ls C hP hS hv => lv_icmp_gt C.1 C.2.1 d ht (fun c1 => h1 res (by rw [if_pos c1] at hr; exact hr) p e s m args below meth c H locs ls C hP hS hv) (fun c1 => h2 res (by rw [if_neg c1] at hr; exact hr) p e s m args below meth c H locs ls C hP hS hv)
theorem g_icmp_le {x y : Int32} {off : Int} (tgt : Nat) (d : decode cc pc = .ok (.if_icmp .le off, 3)) (ht : (pc : Int) + off = (tgt : Int)) (h1 : GK v cc nL own rt l R z fin A K σ tgt lv st) (h2 : GK v cc nL own rt l R z fin B K σ (pc + 3) lv st) : GK v cc nL own rt l R z fin (if x ≤ y then A else B) K σ pc lv (.int y :: .int x :: st) :=
  fun res hr p e s m args below meth c H locs ls C hP hS hv => lv_icmp_le C.1 C.2.1 d ht (fun c1 => h1 res (by rw [if_pos c1] at hr; exact hr) p e s m args below meth c H locs ls C hP hS hv) (fun c1 => h2 res (by rw [if_neg c1] at hr; exact hr) p e s m args below meth c H locs ls C hP hS hv)
theorem g_if_eq {x : Int32} {off : Int} (tgt : Nat) (d : decode cc pc = .ok (.ifCond .eq off, 3)) (ht : (pc : Int) + off = (tgt : Int)) (h1 : GK v cc nL own rt l R z fin A K σ tgt lv st) (h2 : GK v cc nL own rt l R z fin B K σ (pc + 3) lv st) : GK v cc nL own rt l R z fin (if x = 0 then A else B) K σ pc lv (.int x :: st) :=
  fun res hr p e s m args below meth c H locs ls C hP hS hv => lv_if_eq C.1 C.2.1 d ht (fun c1 => h1 res (by rw [if_pos c1] at hr; exact hr) p e s m args below meth c H locs ls C hP hS hv) (fun c1 => h2 res (by rw [if_neg c1] at hr; exact hr) p e s m args below meth c H locs ls C hP hS hv)
theorem g_if_ne {x : Int32} {off : Int} (tgt : Nat) (d : decode cc pc = .ok (.ifCond .ne off, 3)) (ht : (pc : Int) + off = (tgt : Int)) (h1 : GK v cc nL own rt l R z fin A K σ tgt lv st) (h2 : GK v cc nL own rt l R z fin B K σ (pc + 3) lv st) : GK v cc nL own rt l R z fin (if x = 0 then B else A) K σ pc lv (.int x :: st) :=
  fun res hr p e s m args below meth c H locs ls C hP hS hv => lv_if_ne C.1 C.2.1 d ht (fun c1 => h1 res (by rw [if_neg c1] at hr; exact hr) p e s m args below meth c H locs ls C hP hS hv) (fun c1 => h2 res (by rw [if_pos c1] at hr; exact hr) p e s m args below meth c H locs ls C hP hS hv)
theorem g_if_lt {x : Int32} {off : Int} (tgt : Nat) (d : decode cc pc = .ok (.ifCond .lt off, 3)) (ht : (pc : Int) + off = (tgt : Int)) (h1 : GK v cc nL own rt l R z fin A K σ tgt lv st) (h2 : GK v cc nL own rt l R z fin B K σ (pc + 3) lv st) : GK v cc nL own rt l R z fin (if x < 0 then A else B) K σ pc lv (.int x :: st) :=
  fun res hr p e s m args below meth c H locs ls C hP hS hv => lv_if_lt C.1 C.2.1 d ht (fun c1 => h1 res (by rw [if_pos c1] at hr; exact hr) p e s m args below meth c H locs ls C hP hS hv) (fun c1 => h2 res (by rw [if_neg c1] at hr; exact hr) p e s m args below meth c H locs ls C hP hS hv)
theorem g_if_ge {x : Int32} {off : Int} (tgt : Nat) (d : decode cc pc = .ok (.ifCond .ge off, 3)) (ht : (pc : Int) + off = (tgt : Int)) (h1 : GK v cc nL own rt l R z fin A K σ tgt lv st) (h2 : GK v cc nL own rt l R z fin B K σ (pc + 3) lv st) : GK v cc nL own rt l R z fin (if 0 ≤ x then A else B) K σ pc lv (.int x :: st) :=
  fun res hr p e s m args below meth c H locs ls C hP hS hv => lv_if_ge C.1 C.2.1 d ht (fun c1 => h1 res (by rw [if_pos c1] at hr; exact hr) p e s m args below meth c H locs ls C hP hS hv) (fun c1 => h2 res (by rw [if_neg c1] at hr; exact hr) p e s m args below meth c H locs ls C hP hS hv)
theorem g_if_gt {x : Int32} {off : Int} (tgt : Nat) (d : decode cc pc = .ok (.ifCond .gt off, 3)) (ht : (pc : Int) + off = (tgt : Int)) (h1 : GK v cc nL own rt l R z fin A K σ tgt lv st) (h2 : GK v cc nL own rt l R z fin B K σ (pc + 3) lv st) : GK v cc nL own rt l R z fin (if 0 < x then A else B) K σ pc lv (.int x :: st) :=
  fun res hr p e s m args below meth c H locs ls C hP hS hv => lv_if_gt C.1 C.2.1 d ht (fun c1 => h1 res (by rw [if_pos c1] at hr; exact hr) p e s m args below meth c H locs ls C hP hS hv) (fun c1 => h2 res (by rw [if_neg c1] at hr; exact hr) p e s m args below meth c H locs ls C hP hS hv)
theorem g_if_le {x : Int32} {off : Int} (tgt : Nat) (d : decode cc pc = .ok (.ifCond .le off, 3)) (ht : (pc : Int) + off = (tgt : Int)) (h1 : GK v cc nL own rt l R z fin A K σ tgt lv st) (h2 : GK v cc nL own rt l R z fin B K σ (pc + 3) lv st) : GK v cc nL own rt l R z fin (if x ≤ 0 then A else B) K σ pc lv (.int x :: st) :=
  fun res hr p e s m args below meth c H locs ls C hP hS hv => lv_if_le C.1 C.2.1 d ht (fun c1 => h1 res (by rw [if_pos c1] at hr; exact hr) p e s m args below meth c H locs ls C hP hS hv) (fun c1 => h2 res (by rw [if_neg c1] at hr; exact hr) p e s m args below meth c H locs ls C hP hS hv)
theorem i32_ne (z : Int) {x c : Int32} (hz : c.toInt = z) (h : ¬ x = c) : ¬ x.toInt = z := fun e => h (Int32.toInt_inj.mp (e.trans hz.symm))
theorem i32_eq (z : Int) {x c : Int32} (hz : c.toInt = z) (h : x = c) : x.toInt = z := by rw [h]; exact hz
theorem g_tbl {dflt lo hi : Int} {offs : Array Int} {len : Nat} {x : Int32} {off : Int} (zi : Int) (tgt : Nat) (d : decode cc pc = .ok (.tableswitch dflt lo hi offs, len)) (hz : x.toInt = zi) (h1 : ¬ zi < lo) (h2 : ¬ hi < zi) (ho : offs[(zi - lo).toNat]? = some off) (ht : (pc : Int) + off = (tgt : Int)) (h : GK v cc nL own rt l R z fin o K σ tgt lv st) : GK v cc nL own rt l R z fin o K σ pc lv (.int x :: st) :=
  fun res hr p e s m args below meth c H locs ls C hP hS hv => lv_tableIn C.1 C.2.1 d (by rw [hz]; exact h1) (by rw [hz]; exact h2) (by rw [hz]; exact ho) ht (h res hr p e s m args below meth c H locs ls C hP hS hv)
theorem g_tblOut {dflt lo hi : Int} {offs : Array Int} {len : Nat} {x : Int32} (tgt : Nat) (d : decode cc pc = .ok (.tableswitch dflt lo hi offs, len)) (hz : x.toInt < lo ∨ hi < x.toInt) (ht : (pc : Int) + dflt = (tgt : Int)) (h : GK v cc nL own rt l R z fin o K σ tgt lv st) : GK v cc nL own rt l R z fin o K σ pc lv (.int x :: st) :=
  fun res hr p e s m args below meth c H locs ls C hP hS hv => lv_tableOut C.1 C.2.1 d hz ht (h res hr p e s m args below meth c H locs ls C hP hS hv)
theorem g_lku {dflt : Int} {ps : Array (Int × Int)} {len : Nat} {x : Int32} {off : Int} (tgt : Nat) (d : decode cc pc = .ok (.lookupswitch dflt ps, len)) (hp : (ps.toList.zip (ps.toList.drop 1)).all (fun (a, next) => a.1 < next.1) = true) (ho : Op.lookupswitch.offset ps.toList dflt x.toInt = off) (ht : (pc : Int) + off = (tgt : Int)) (h : GK v cc nL own rt l R z fin o K σ tgt lv st) : GK v cc nL own rt l R z fin o K σ pc lv (.int x :: st) :=
  fun res hr p e s m args below meth c H locs ls C hP hS hv => lv_lookup C.1 C.2.1 d hp ho ht (h res hr p e s m args below meth c H locs ls C hP hS hv)
-- ends
theorem g_end {zz : X} {H : Heap} {res : Res} {p : Program} {s : State} {m : MethodId} {args : Array Value} {meth : Method} {c : Code} {locs : List Loc} {w : Option Value} (hk : ∀ res, K zz = some res → fin res = (w, σ)) (hr : (some zz).bind K = some res) (_ : Cx v cc nL own rt R z p s m args meth c) (hP : va_P v.1 vwCl (wd v σ) H) (hS : va_S (Aq v s.heap.size) s.heap H locs) : ∀ t : State, t.heap = H → s.WarmedH t.vm → Qx v s.heap.size (fin res) args s (.returned w) t := by
  intro t ht _
  rw [hk res hr]
  exact ⟨rfl, by rw [ht]; exact hP, hS.F ht⟩
theorem g_iret {x : Int32} {zz : X} (hk : ∀ res, K zz = some res → fin res = (some (.int x), σ)) (hrt : rt = some .int) (d : decode cc pc = .ok (.ireturn, 1)) : GK v cc nL own rt l R z fin (some zz) K σ pc lv [.int x] :=
  fun res hr p e s m args below meth c H locs ls C hP hS hv => W.iret C.1 C.2.1 (C.2.2.2.2.2.2.2.1.trans hrt) (g_end hk hr C hP hS) hS.2.2 d C.2.2.2.2.2.2.1
theorem isb_nar {x : Int32} (h : isb x = true) : narrow .boolean (.int x) = .int x := by
  rcases of_decide_eq_true h with rfl | rfl <;> rfl
theorem g_zret {x : Int32} {zz : X} (hx : isb x = true) (hk : ∀ res, K zz = some res → fin res = (some (.int x), σ)) (hrt : rt = some .boolean) (d : decode cc pc = .ok (.ireturn, 1)) : GK v cc nL own rt l R z fin (some zz) K σ pc lv [.int x] :=
  fun res hr p e s m args below meth c H locs ls C hP hS hv => W.zret C.1 C.2.1 (C.2.2.2.2.2.2.2.1.trans hrt) (isb_nar hx) (g_end hk hr C hP hS) hS.2.2 d C.2.2.2.2.2.2.1
theorem g_lret {x : Int64} {zz : X} (hk : ∀ res, K zz = some res → fin res = (some (.long x), σ)) (hrt : rt = some .long) (d : decode cc pc = .ok (.lreturn, 1)) : GK v cc nL own rt l R z fin (some zz) K σ pc lv [.long x] :=
  fun res hr p e s m args below meth c H locs ls C hP hS hv => W.lret C.1 C.2.1 (C.2.2.2.2.2.2.2.1.trans hrt) (g_end hk hr C hP hS) hS.2.2 d C.2.2.2.2.2.2.1
theorem g_vret {zz : X} (hk : ∀ res, K zz = some res → fin res = (none, σ)) (hrt : rt = none) (d : decode cc pc = .ok (.return_, 1)) : GK v cc nL own rt l R z fin (some zz) K σ pc lv [] :=
  fun res hr p e s m args below meth c H locs ls C hP hS hv => W.vret C.1 C.2.1 (C.2.2.2.2.2.2.2.1.trans hrt) (g_end hk hr C hP hS) hS.2.2 d C.2.2.2.2.2.2.1
/-- out of a loop -/
theorem g_exit {S Y : Type} {K2 : S ⊕ Y → Option Res} {k : Y → Option X} {r : Y} (hK : ∀ r, K2 (.inr r) = (k r).bind K) (h : GK v cc nL own rt l R z fin (k r) K σ pc lv st) : GK v cc nL own rt l R z fin (some (.inr r : S ⊕ Y)) K2 σ pc lv st :=
  fun res hr => h res (by rw [← hK]; exact hr)
-- fields
theorem g_get {C0 : String} {T : u_T} {n ci idx k : Nat} (j : Nat) {fs : List Value} {a : Value} (hk : k < vN v) (hE : vE v k (σ.1 k) (σ.2 k) = .inr (ci, fs)) (hc : vwCl[ci]? = some (C0, T, n)) (hin : ∀ w ∈ u_ws C0 T n, w ∈ WSl) (hj : j < n) (hlink : Cond.fieldLink own idx (T j).1 (T j).2.1 (T j).2.2.1 ∈ WSl) (ha : fs[j]? = some a) (d : decode cc pc = .ok (.getfield idx, 3)) (h : GK v cc nL own rt l R z fin o K σ (pc + 3) lv (a :: st)) : GK v cc nL own rt l R z fin o K σ pc lv (.ref (vq v k) :: st) :=
  fun res hr p e s m args below meth c H locs ls C hP hS hv => va_get C.1 C.2.1 C.2.2.2.2.1 hin C.2.2.2.1 C.2.2.2.2.2.1.1 hP k (by rw [wd_at v σ hk, hE]) hc j hj (C.2.2.2.2.1 _ hlink) (fun _ h9 => h9) ha d (h res hr p e s m args below meth c H locs ls C hP hS hv)
theorem g_puti {C0 : String} {T : u_T} {n ci idx k : Nat} (j : Nat) {fs : List Value} {x : Int32} {kk : St → Option X} (hk : k < vN v) (hE : vE v k (σ.1 k) (σ.2 k) = .inr (ci, fs)) (hE' : vE v k (upd (σ.1 k) j x) (σ.2 k) = .inr (ci, fs.set j (.int x))) (hc : vwCl[ci]? = some (C0, T, n)) (hin : ∀ w ∈ u_ws C0 T n, w ∈ WSl) (ty0 : Nat → FieldType) (hty : ∀ k, k < n → parseFieldDescriptor (T k).2.2.1 = some (ty0 k)) (hnm : ∀ a, a < n → ∀ b, b < n → a ≠ b → (T a).2.1 ≠ (T b).2.1) (hj : j < n) (hlink : Cond.fieldLink own idx (T j).1 (T j).2.1 (T j).2.2.1 ∈ WSl) (hfin : (T j).2.2.2 = false) (hd : parseFieldDescriptor (T j).2.2.1 = some .int) (hl : j < fs.length) (d : decode cc pc = .ok (.putfield idx, 3)) (h : ∀ σ1, GK v cc nL own rt l R z fin (kk σ1) K σ1 (pc + 3) lv st) : GK v cc nL own rt l R z fin (nm (stI σ k j x) kk) K σ pc lv (.int x :: .ref (vq v k) :: st) :=
  fun res hr p e s m args below meth c H locs ls C hP hS hv => va_put C.1 C.2.1 C.2.2.2.2.1 hin ty0 hty hnm C.2.2.2.1 C.2.2.2.2.2.1.1 hP (wd_Dq C.2.2.2.2.2.2.2.2.1 _ σ) hS k (by rw [wd_at v σ hk, hE]) hc j hj (C.2.2.2.2.1 _ hlink) (fun _ h9 => h9) hfin hd rfl rfl hl d (fun H1 locs1 hP1 _ hS1 => h (stI σ k j x) res hr p e s m args below meth c H1 locs1 ls C (by rw [wd_set (σ' := stI σ k j x) hk (by rw [← hE']; simp [stI, va_up]) (fun i hi => by simp [stI, va_up, hi])] at hP1; exact hP1) hS1 hv)
theorem g_putl {C0 : String} {T : u_T} {n ci idx k : Nat} (j : Nat) {fs : List Value} {x : Int64} {kk : St → Option X} (hk : k < vN v) (hE : vE v k (σ.1 k) (σ.2 k) = .inr (ci, fs)) (hE' : vE v k (σ.1 k) (vp_updL (σ.2 k) j x) = .inr (ci, fs.set j (.long x))) (hc : vwCl[ci]? = some (C0, T, n)) (hin : ∀ w ∈ u_ws C0 T n, w ∈ WSl) (ty0 : Nat → FieldType) (hty : ∀ k, k < n → parseFieldDescriptor (T k).2.2.1 = some (ty0 k)) (hnm : ∀ a, a < n → ∀ b, b < n → a ≠ b → (T a).2.1 ≠ (T b).2.1) (hj : j < n) (hlink : Cond.fieldLink own idx (T j).1 (T j).2.1 (T j).2.2.1 ∈ WSl) (hfin : (T j).2.2.2 = false) (hd : parseFieldDescriptor (T j).2.2.1 = some .long) (hl : j < fs.length) (d : decode cc pc = .ok (.putfield idx, 3)) (h : ∀ σ1, GK v cc nL own rt l R z fin (kk σ1) K σ1 (pc + 3) lv st) : GK v cc nL own rt l R z fin (nm (stL σ k j x) kk) K σ pc lv (.long x :: .ref (vq v k) :: st) :=
  fun res hr p e s m args below meth c H locs ls C hP hS hv => va_put C.1 C.2.1 C.2.2.2.2.1 hin ty0 hty hnm C.2.2.2.1 C.2.2.2.2.2.1.1 hP (wd_Dq C.2.2.2.2.2.2.2.2.1 _ σ) hS k (by rw [wd_at v σ hk, hE]) hc j hj (C.2.2.2.2.1 _ hlink) (fun _ h9 => h9) hfin hd rfl rfl hl d (fun H1 locs1 hP1 _ hS1 => h (stL σ k j x) res hr p e s m args below meth c H1 locs1 ls C (by rw [wd_set (σ' := stL σ k j x) hk (by rw [← hE']; simp [stL, va_up]) (fun i hi => by simp [stL, va_up, hi])] at hP1; exact hP1) hS1 hv)
-- arrays
theorem g_iald {k t0 n : Nat} {cA : ClassId} {i : Int32} (hk : k < vN v) (hE : vE v k (σ.1 k) (σ.2 k) = .inl (cA, n, .inl (σ.1 k))) (ht : v.2.1[t0]? = some (cA, .int)) (d : decode cc pc = .ok (.iaload, 1)) (h : GK v cc nL own rt l R z fin o K σ (pc + 1) lv (.int (σ.1 k i.toNatClampNeg) :: st)) : GK v cc nL own rt l R z fin (chk (inb i n) o) K σ pc lv (.int i :: .ref (vq v k) :: st) :=
  g_chk fun hb res hr p e s m args below meth c H locs ls C hP hS hv => va_iald C.1 C.2.1 C.2.2.2.2.2.1.1 hP k t0 (by rw [wd_at v σ hk, hE]) ht (inb_of hb) d (h res hr p e s m args below meth c H locs ls C hP hS hv)
theorem g_zald {k t0 n : Nat} {cA : ClassId} {i : Int32} (hk : k < vN v) (hE : vE v k (σ.1 k) (σ.2 k) = .inl (cA, n, .inl (σ.1 k))) (ht : v.2.1[t0]? = some (cA, .boolean)) (d : decode cc pc = .ok (.baload, 1)) (h : GK v cc nL own rt l R z fin o K σ (pc + 1) lv (.int (σ.1 k i.toNatClampNeg) :: st)) : GK v cc nL own rt l R z fin (chk (inb i n) o) K σ pc lv (.int i :: .ref (vq v k) :: st) :=
  g_chk fun hb res hr p e s m args below meth c H locs ls C hP hS hv => va_zald C.1 C.2.1 C.2.2.2.2.2.1.1 hP k t0 (by rw [wd_at v σ hk, hE]) ht (inb_of hb) d (h res hr p e s m args below meth c H locs ls C hP hS hv)
theorem g_lald {k t0 n : Nat} {cA : ClassId} {i : Int32} (hk : k < vN v) (hE : vE v k (σ.1 k) (σ.2 k) = .inl (cA, n, .inr (.inl (σ.2 k)))) (ht : v.2.1[t0]? = some (cA, .long)) (d : decode cc pc = .ok (.laload, 1)) (h : GK v cc nL own rt l R z fin o K σ (pc + 1) lv (.long (σ.2 k i.toNatClampNeg) :: st)) : GK v cc nL own rt l R z fin (chk (inb i n) o) K σ pc lv (.int i :: .ref (vq v k) :: st) :=
  g_chk fun hb res hr p e s m args below meth c H locs ls C hP hS hv => va_lald C.1 C.2.1 C.2.2.2.2.2.1.1 hP k t0 (by rw [wd_at v σ hk, hE]) ht (inb_of hb) d (h res hr p e s m args below meth c H locs ls C hP hS hv)
theorem g_aald {k t0 n : Nat} {cA : ClassId} {C0 : String} {f : Nat → Option Nat} {i : Int32} {kk : Nat → Option X} (g : Nat → Nat) (hk : k < vN v) (hE : vE v k (σ.1 k) (σ.2 k) = .inl (cA, n, .inr (.inr (.inr (.inr f))))) (hf : ∀ j, f j = some (vq v (g j))) (ht : v.2.1[t0]? = some (cA, .object C0)) (d : decode cc pc = .ok (.aaload, 1)) (h : ∀ pa, (∃ j, j < n ∧ pa = g j) → GK v cc nL own rt l R z fin (kk pa) K σ (pc + 1) lv (.ref (vq v pa) :: st)) : GK v cc nL own rt l R z fin (chk (inb i n) (nm (g i.toNatClampNeg) kk)) K σ pc lv (.int i :: .ref (vq v k) :: st) :=
  g_chk fun hb res hr p e s m args below meth c H locs ls C hP hS hv => va_aldq C.1 C.2.1 C.2.2.2.2.2.1.1 hP k t0 (by rw [wd_at v σ hk, hE]) ht (inb_of hb) d (by rw [hf]; exact h (g i.toNatClampNeg) ⟨i.toNatClampNeg, Nat.not_le.mp fun q => inb_of hb (Or.inr q), rfl⟩ res hr p e s m args below meth c H locs ls C hP hS hv)
theorem g_alen {k t0 : Nat} {cA : ClassId} {x : vp_A} {ty : FieldType} {w : Int32} (hk : k < vN v) (hE : vE v k (σ.1 k) (σ.2 k) = .inl (cA, x)) (ht : v.2.1[t0]? = some (cA, ty)) (hw : Int32.ofNat x.1 = w) (d : decode cc pc = .ok (.arraylength, 1)) (h : GK v cc nL own rt l R z fin o K σ (pc + 1) lv (.int w :: st)) : GK v cc nL own rt l R z fin o K σ pc lv (.ref (vq v k) :: st) :=
  fun res hr p e s m args below meth c H locs ls C hP hS hv => va_alen C.1 C.2.1 C.2.2.2.2.2.1.1 hP k t0 (by rw [wd_at v σ hk, hE]) ht hw d (h res hr p e s m args below meth c H locs ls C hP hS hv)
theorem g_iast {k t0 n : Nat} {cA : ClassId} {i x : Int32} {kk : St → Option X} (hk : k < vN v) (hE : ∀ a b, vE v k a b = .inl (cA, n, .inl a)) (ht : v.2.1[t0]? = some (cA, .int)) (d : decode cc pc = .ok (.iastore, 1)) (h : ∀ σ1, GK v cc nL own rt l R z fin (kk σ1) K σ1 (pc + 1) lv st) : GK v cc nL own rt l R z fin (chk (inb i n) (nm (stI σ k i.toNatClampNeg x) kk)) K σ pc lv (.int x :: .int i :: .ref (vq v k) :: st) :=
  g_chk fun hb res hr p e s m args below meth c H locs ls C hP hS hv => va_iast C.1 C.2.1 C.2.2.2.2.2.1.1 hP (wd_Dq C.2.2.2.2.2.2.2.2.1 _ σ) hS k t0 (by rw [wd_at v σ hk, hE]) ht (inb_of hb) d (fun H1 locs1 hP1 _ hS1 => h (stI σ k i.toNatClampNeg x) res hr p e s m args below meth c H1 locs1 ls C (by rw [wd_set (σ' := stI σ k i.toNatClampNeg x) hk (by rw [hE]; simp [stI, va_up]) (fun i hi => by simp [stI, va_up, hi])] at hP1; exact hP1) hS1 hv)
theorem g_zast {k t0 n : Nat} {cA : ClassId} {i x : Int32} {kk : St → Option X} (hx : vp_nar .boolean x = x) (hk : k < vN v) (hE : ∀ a b, vE v k a b = .inl (cA, n, .inl a)) (ht : v.2.1[t0]? = some (cA, .boolean)) (d : decode cc pc = .ok (.bastore, 1)) (h : ∀ σ1, GK v cc nL own rt l R z fin (kk σ1) K σ1 (pc + 1) lv st) : GK v cc nL own rt l R z fin (chk (inb i n) (nm (stI σ k i.toNatClampNeg x) kk)) K σ pc lv (.int x :: .int i :: .ref (vq v k) :: st) :=
  g_chk fun hb res hr p e s m args below meth c H locs ls C hP hS hv => va_zast C.1 C.2.1 C.2.2.2.2.2.1.1 hP (wd_Dq C.2.2.2.2.2.2.2.2.1 _ σ) hS k t0 (by rw [wd_at v σ hk, hE]) ht (inb_of hb) d (fun H1 locs1 hP1 _ hS1 => h (stI σ k i.toNatClampNeg x) res hr p e s m args below meth c H1 locs1 ls C (by rw [hx, wd_set (σ' := stI σ k i.toNatClampNeg x) hk (by rw [hE]; simp [stI, va_up]) (fun i hi => by simp [stI, va_up, hi])] at hP1; exact hP1) hS1 hv)
theorem g_last {k t0 n : Nat} {cA : ClassId} {i : Int32} {x : Int64} {kk : St → Option X} (hk : k < vN v) (hE : ∀ a b, vE v k a b = .inl (cA, n, .inr (.inl b))) (ht : v.2.1[t0]? = some (cA, .long)) (d : decode cc pc = .ok (.lastore, 1)) (h : ∀ σ1, GK v cc nL own rt l R z fin (kk σ1) K σ1 (pc + 1) lv st) : GK v cc nL own rt l R z fin (chk (inb i n) (nm (stL σ k i.toNatClampNeg x) kk)) K σ pc lv (.long x :: .int i :: .ref (vq v k) :: st) :=
  g_chk fun hb res hr p e s m args below meth c H locs ls C hP hS hv => va_last C.1 C.2.1 C.2.2.2.2.2.1.1 hP (wd_Dq C.2.2.2.2.2.2.2.2.1 _ σ) hS k t0 (by rw [wd_at v σ hk, hE]) ht (inb_of hb) d (fun H1 locs1 hP1 _ hS1 => h (stL σ k i.toNatClampNeg x) res hr p e s m args below meth c H1 locs1 ls C (by rw [wd_set (σ' := stL σ k i.toNatClampNeg x) hk (by rw [hE]; simp [stL, va_up]) (fun i hi => by simp [stL, va_up, hi])] at hP1; exact hP1) hS1 hv)
end RW
