/-! ===== loops of constructors, as ports ===== -/
def EnF (q : Nat → Nat) (cy : Cy) : EnT := fun k a _ => match k with
  | 0 => .inr (1, [.ref (q 1), .ref (q 2)])
  | _ => .inl (cy.1, 256, .inl a)
abbrev vF (D : va_G) (cy : Cy) (q : Nat → Nat) : Vw := (D, TY cy, q, 3, EnF q cy)
def EnK (f : Nat) (q : Nat → Nat) (cy : Cy) : EnT := fun k a _ => match k with
  | 0 => .inr (7, [.ref f, .int (a 1), .ref (q 1), .ref (q 2), .ref (q 3), .ref (q 4), .int (a 6), .ref (q 5), .ref (q 6), .int (a 9), .ref (q 7)])
  | 1 => .inl (cy.1, 169, .inl a)
  | 2 => .inl (cy.1, 169, .inl a)
  | 3 => .inl (cy.1, 169, .inl a)
  | 4 => .inl (cy.1, 169, .inl a)
  | 5 => .inl (cy.1, 256, .inl a)
  | 6 => .inl (cy.1, 256, .inl a)
  | 7 => .inl (cy.1, 13, .inl a)
  | _ => .inl (cy.1, 0, .inl a)
abbrev vK (D : va_G) (cy : Cy) (q : Nat → Nat) (f : Nat) : Vw := (D, TY cy, q, 8, EnK f q cy)
section IR
variable {X Res : Type} {D : va_G} {cy : Cy} {q : Nat → Nat} {f : Nat} {cc : ByteArray} {nL : Nat} {own : String} {rt : Option FieldType} {l : Launch} {R : Room} {z : Nat × Nat} {fin : Res → Option Value × St} {o : Option X} {K : X → Option Res} {σ : St} {pc idx : Nat} {lv : List (Nat × Value)} {st : List Value}
theorem aF_hot : IA (vF D cy q) 1 256 := ⟨Nat.le_of_ble_eq_true rfl, 0, cy.1, rfl, fun _ _ => rfl⟩
theorem gF_hot (hl : Cond.fieldLink own idx "TwinRuns$Forms" "hot" "[I" ∈ WSl) (d : decode cc pc = .ok (.getfield idx, 3)) (h : GK (vF D cy q) cc nL own rt l R z fin o K σ (pc + 3) lv (.ref (q 1) :: st)) : GK (vF D cy q) cc nL own rt l R z fin o K σ pc lv (.ref (q 0) :: st) :=
  g_get (v := vF D cy q) (k := 0) (C0 := RX1) (T := TX1) (n := 2) (ci := 1) (fs := [.ref (q 1), .ref (q 2)]) 0 (Nat.le_of_ble_eq_true rfl) rfl rfl inX1 (by decide) hl rfl d h
theorem aF_lanes : IA (vF D cy q) 2 256 := ⟨Nat.le_of_ble_eq_true rfl, 0, cy.1, rfl, fun _ _ => rfl⟩
theorem gF_lanes (hl : Cond.fieldLink own idx "TwinRuns$Forms" "lanes" "[I" ∈ WSl) (d : decode cc pc = .ok (.getfield idx, 3)) (h : GK (vF D cy q) cc nL own rt l R z fin o K σ (pc + 3) lv (.ref (q 2) :: st)) : GK (vF D cy q) cc nL own rt l R z fin o K σ pc lv (.ref (q 0) :: st) :=
  g_get (v := vF D cy q) (k := 0) (C0 := RX1) (T := TX1) (n := 2) (ci := 1) (fs := [.ref (q 1), .ref (q 2)]) 1 (Nat.le_of_ble_eq_true rfl) rfl rfl inX1 (by decide) hl rfl d h
theorem aK_waits : IA (vK D cy q f) 1 169 := ⟨Nat.le_of_ble_eq_true rfl, 0, cy.1, rfl, fun _ _ => rfl⟩
theorem gK_waits (hl : Cond.fieldLink own idx "TwinRuns$Walker" "waits" "[I" ∈ WSl) (d : decode cc pc = .ok (.getfield idx, 3)) (h : GK (vK D cy q f) cc nL own rt l R z fin o K σ (pc + 3) lv (.ref (q 1) :: st)) : GK (vK D cy q f) cc nL own rt l R z fin o K σ pc lv (.ref (q 0) :: st) :=
  g_get (v := vK D cy q f) (k := 0) (C0 := RX7) (T := TX7) (n := 11) (ci := 7) (fs := [.ref f, .int (σ.1 0 1), .ref (q 1), .ref (q 2), .ref (q 3), .ref (q 4), .int (σ.1 0 6), .ref (q 5), .ref (q 6), .int (σ.1 0 9), .ref (q 7)]) 2 (Nat.le_of_ble_eq_true rfl) rfl rfl inX7 (by decide) hl rfl d h
theorem aK_toldShapes : IA (vK D cy q f) 2 169 := ⟨Nat.le_of_ble_eq_true rfl, 0, cy.1, rfl, fun _ _ => rfl⟩
theorem gK_toldShapes (hl : Cond.fieldLink own idx "TwinRuns$Walker" "toldShapes" "[I" ∈ WSl) (d : decode cc pc = .ok (.getfield idx, 3)) (h : GK (vK D cy q f) cc nL own rt l R z fin o K σ (pc + 3) lv (.ref (q 2) :: st)) : GK (vK D cy q f) cc nL own rt l R z fin o K σ pc lv (.ref (q 0) :: st) :=
  g_get (v := vK D cy q f) (k := 0) (C0 := RX7) (T := TX7) (n := 11) (ci := 7) (fs := [.ref f, .int (σ.1 0 1), .ref (q 1), .ref (q 2), .ref (q 3), .ref (q 4), .int (σ.1 0 6), .ref (q 5), .ref (q 6), .int (σ.1 0 9), .ref (q 7)]) 3 (Nat.le_of_ble_eq_true rfl) rfl rfl inX7 (by decide) hl rfl d h
end IR
abbrev rm_X1_init : Room := { frames := 1, cells := 2, slots := 512, locals := 21 }
abbrev rm_X7_init : Room := { frames := 1, cells := 7, slots := 1201, locals := 23 }
abbrev rm_X9_init : Room := { frames := 2, cells := 22, slots := 179830, locals := 46 }
def b_X1_init_33 (y1 : Int32) : (Int32 × St) → Option ((Int32 × St) ⊕ (St)) := un fun y2 s2 => (if (4 : Int32) ≤ y2 then some (.inr s2) else (f_X8_valueOf y1 y2).bind fun r1 => chk (inb y1 256) (chk (inb y1 256) (nm (stI s2 1 y1.toNatClampNeg ((s2.1 1 y1.toNatClampNeg) ||| ((1 : Int32) <<< ((((4 : Int32) * y2) + r1) &&& 31)))) fun s3 => chk (inb y1 256) (chk (inb y1 256) (nm (stI s3 2 y1.toNatClampNeg ((s3.1 2 y1.toNatClampNeg) ||| (r1 <<< (((3 : Int32) * y2) &&& 31)))) fun s4 => nm (y2 + (1 : Int32)) fun x1 => some (.inl (x1, s4)))))))
def b_X1_init_24 : (Int32 × St) → Option ((Int32 × St) ⊕ (St)) := un fun y1 s1 => (if (256 : Int32) ≤ y1 then some (.inr s1) else (wh FU (b_X1_init_33 y1) ((0 : Int32), s1)).bind (fun s5 => nm (y1 + (1 : Int32)) fun x2 => some (.inl (x2, s5))))
def f_X1_initL (σ : St) : Option St := (wh FU b_X1_init_24 ((0 : Int32), σ)).bind (fun s6 => some s6)
set_option maxHeartbeats 4000000 in
set_option maxRecDepth 20000 in
theorem k_X1_init (l : Launch) (D : va_G) (cy : Cy) (q : Nat → Nat) (σ : St) (z : Nat × Nat) : GK (vF D cy q) cX1_init 4 RX1 none l rm_X1_init z (fun r => (none, r)) (f_X1_initL σ) some σ 22 [(0, .ref (q 0))] [] := by
  let fin_ : St → Option Value × St := fun r => (none, r)
  have hro : ∀ (z : St) (res : St), some z = some res → fin_ res = fin_ z := fun z res h => by cases h; rfl
  unfold f_X1_initL
  refine g_iconst (pc := 22) (0) dX1_init_22 (by decide) ?_
  refine g_istore_n (pc := 23) (lv' := [(1, .int (0 : Int32)), (0, .ref (q 0))]) dX1_init_23 rfl (Nat.le_of_ble_eq_true rfl) rfl ?_
  refine g_sub [1, 0] rfl ?_
  refine g_wh2 (pc := 24) (s0 := ((0 : Int32), σ)) (fun (w_ : Int32 × St) => w_.2) (fun (w_ : Int32 × St) => [(0, .ref (q 0)), (1, .int w_.1)]) (fun (w_ : St) => w_) (fun (w_ : St) => []) 86 ?_ ?_
  · rintro s6
    try dsimp only [un, Sum.elim_inl]
    exact g_vret (pc := 86) (hro _) rfl dX1_init_86
  · intro K24 hx24 ih24
    rintro ⟨y1, s1⟩
    try dsimp only [b_X1_init_24, un]
    refine g_iload_n (pc := 24) 1 dX1_init_24 rfl rfl ?_
    refine g_sipush (pc := 25) (256) dX1_init_25 (by decide) ?_
    refine g_icmp_ge (pc := 28) 86 dX1_init_28 (by decide) ?_ ?_
    · exact g_sub [] rfl (hx24 s1)
    · refine g_iconst (pc := 31) (0) dX1_init_31 (by decide) ?_
      refine g_istore_n (pc := 32) (lv' := [(2, .int (0 : Int32)), (0, .ref (q 0)), (1, .int y1)]) dX1_init_32 rfl (Nat.le_of_ble_eq_true rfl) rfl ?_
      refine g_sub [1, 2, 0] rfl ?_
      refine g_wh2 (pc := 33) (s0 := ((0 : Int32), s1)) (fun (w_ : Int32 × St) => w_.2) (fun (w_ : Int32 × St) => [(0, .ref (q 0)), (1, .int y1), (2, .int w_.1)]) (fun (w_ : St) => w_) (fun (w_ : St) => [(0, .ref (q 0)), (1, .int y1)]) 80 ?_ ?_
      · rintro s5
        try dsimp only [un, Sum.elim_inl]
        refine g_iinc (pc := 80) (j := 1) (1) (lf := fun x2 => [(1, .int x2), (0, .ref (q 0))]) dX1_init_80 rfl (by decide) (Nat.le_of_ble_eq_true rfl) (fun _ => rfl) (fun x2 => ?_)
        refine g_goto (pc := 83) 24 dX1_init_83 (by decide) ?_
        exact g_sub [1, 0] rfl (ih24 (x2, s5))
      · intro K33 hx33 ih33
        rintro ⟨y2, s2⟩
        try dsimp only [b_X1_init_33, un]
        refine g_iload_n (pc := 33) 2 dX1_init_33 rfl rfl ?_
        refine g_iconst (pc := 34) (4) dX1_init_34 (by decide) ?_
        refine g_icmp_ge (pc := 35) 80 dX1_init_35 (by decide) ?_ ?_
        · exact g_sub [0, 1] rfl (hx33 s2)
        · refine g_iload_n (pc := 38) 1 dX1_init_38 rfl rfl ?_
          refine g_iload_n (pc := 39) 2 dX1_init_39 rfl rfl ?_
          refine gSN_i (pc := 40) [.int y1, .int y2] [] (m_X8_valueOf l (vF D cy q) s2 y1 y2) cw_X8_valueOf (fun _ h => h.1) ⟨rfl, rfl, by decide, by decide⟩ dX1_init_40 rfl rfl (Nat.le_of_ble_eq_true rfl) (fun r1 => ?_)
          refine g_istore_n (pc := 43) (lv' := [(3, .int r1), (0, .ref (q 0)), (1, .int y1), (2, .int y2)]) dX1_init_43 rfl (Nat.le_of_ble_eq_true rfl) rfl ?_
          refine g_aload_n (pc := 44) 1 dX1_init_44 rfl rfl ?_
          refine gF_hot (pc := 45) kf_X1_9 dX1_init_45 ?_
          refine g_iload_n (pc := 48) 2 dX1_init_48 rfl rfl ?_
          refine g_dup2 (pc := 49) dX1_init_49 rfl rfl ?_
          refine a_ild (pc := 50) aF_hot dX1_init_50 ?_
          refine g_iconst (pc := 51) (1) dX1_init_51 (by decide) ?_
          refine g_iconst (pc := 52) (4) dX1_init_52 (by decide) ?_
          refine g_iload_n (pc := 53) 3 dX1_init_53 rfl rfl ?_
          refine g_imul (pc := 54) dX1_init_54 ?_
          refine g_iload_n (pc := 55) 0 dX1_init_55 rfl rfl ?_
          refine g_iadd (pc := 56) dX1_init_56 ?_
          refine g_ishl (pc := 57) dX1_init_57 ?_
          refine g_ior (pc := 58) dX1_init_58 ?_
          refine a_ist (pc := 59) aF_hot dX1_init_59 (fun s3 => ?_)
          refine g_aload_n (pc := 60) 1 dX1_init_60 rfl rfl ?_
          refine gF_lanes (pc := 61) kf_X1_15 dX1_init_61 ?_
          refine g_iload_n (pc := 64) 2 dX1_init_64 rfl rfl ?_
          refine g_dup2 (pc := 65) dX1_init_65 rfl rfl ?_
          refine a_ild (pc := 66) aF_lanes dX1_init_66 ?_
          refine g_iload_n (pc := 67) 0 dX1_init_67 rfl rfl ?_
          refine g_iconst (pc := 68) (3) dX1_init_68 (by decide) ?_
          refine g_iload_n (pc := 69) 3 dX1_init_69 rfl rfl ?_
          refine g_imul (pc := 70) dX1_init_70 ?_
          refine g_ishl (pc := 71) dX1_init_71 ?_
          refine g_ior (pc := 72) dX1_init_72 ?_
          refine a_ist (pc := 73) aF_lanes dX1_init_73 (fun s4 => ?_)
          refine g_iinc (pc := 74) (j := 3) (1) (lf := fun x1 => [(2, .int x1), (3, .int r1), (0, .ref (q 0)), (1, .int y1)]) dX1_init_74 rfl (by decide) (Nat.le_of_ble_eq_true rfl) (fun _ => rfl) (fun x1 => ?_)
          refine g_goto (pc := 77) 33 dX1_init_77 (by decide) ?_
          exact g_sub [2, 3, 0] rfl (ih33 (x1, s4))
def b_X7_init_99 : (Int32 × St) → Option ((Int32 × St) ⊕ (St)) := un fun y1 s2 => (if (12 : Int32) ≤ y1 then some (.inr s2) else chk (inb ((y1 * (13 : Int32)) + (12 : Int32)) 169) (nm (stI s2 1 ((y1 * (13 : Int32)) + (12 : Int32)).toNatClampNeg (1 : Int32)) fun s3 => chk (inb ((156 : Int32) + y1) 169) (nm (stI s3 1 ((156 : Int32) + y1).toNatClampNeg (2 : Int32)) fun s4 => nm (y1 + (1 : Int32)) fun x1 => some (.inl (x1, s4)))))
def f_X7_initL (σ : St) : Option St := (f_J7_fill_53178 2 169 (4095 : Int32) σ).bind fun s1 => (wh FU b_X7_init_99 ((0 : Int32), s1)).bind (fun s5 => some s5)
set_option maxHeartbeats 4000000 in
set_option maxRecDepth 20000 in
theorem k_X7_init (l : Launch) (D : va_G) (cy : Cy) (q : Nat → Nat) (f : Nat) (σ : St) (z : Nat × Nat) : GK (vK D cy q f) cX7_init 3 RX7 none l rm_X7_init z (fun r => (none, r)) (f_X7_initL σ) some σ 87 [(0, .ref (q 0))] [] := by
  let fin_ : St → Option Value × St := fun r => (none, r)
  have hro : ∀ (z : St) (res : St), some z = some res → fin_ res = fin_ z := fun z res h => by cases h; rfl
  unfold f_X7_initL
  refine g_aload_n (pc := 87) 0 dX7_init_87 rfl rfl ?_
  refine gK_toldShapes (pc := 88) kf_X7_23 dX7_init_88 ?_
  refine g_sipush (pc := 91) (4095) dX7_init_91 (by decide) ?_
  refine gS_v (pc := 94) [.ref (q 2), .int (4095 : Int32)] [] (m_J7_fill_53178 l (vK D cy q f) σ 2 169 (4095 : Int32) aK_toldShapes) cw_J7_fill_53178 km_X7_47 ⟨rfl, rfl, by decide, by decide⟩ dX7_init_94 rfl rfl (Nat.le_of_ble_eq_true rfl) (fun s1 => ?_)
  refine g_iconst (pc := 97) (0) dX7_init_97 (by decide) ?_
  refine g_istore_n (pc := 98) (lv' := [(2, .int (0 : Int32)), (0, .ref (q 0))]) dX7_init_98 rfl (Nat.le_of_ble_eq_true rfl) rfl ?_
  refine g_sub [1, 0] rfl ?_
  refine g_wh2 (pc := 99) (s0 := ((0 : Int32), s1)) (fun (w_ : Int32 × St) => w_.2) (fun (w_ : Int32 × St) => [(0, .ref (q 0)), (2, .int w_.1)]) (fun (w_ : St) => w_) (fun (w_ : St) => []) 135 ?_ ?_
  · rintro s5
    try dsimp only [un, Sum.elim_inl]
    exact g_vret (pc := 135) (hro _) rfl dX7_init_135
  · intro K99 hx99 ih99
    rintro ⟨y1, s2⟩
    try dsimp only [b_X7_init_99, un]
    refine g_iload_n (pc := 99) 1 dX7_init_99 rfl rfl ?_
    refine g_bipush (pc := 100) (12) dX7_init_100 (by decide) ?_
    refine g_icmp_ge (pc := 102) 135 dX7_init_102 (by decide) ?_ ?_
    · exact g_sub [] rfl (hx99 s2)
    · refine g_aload_n (pc := 105) 0 dX7_init_105 rfl rfl ?_
      refine gK_waits (pc := 106) kf_X7_19 dX7_init_106 ?_
      refine g_iload_n (pc := 109) 1 dX7_init_109 rfl rfl ?_
      refine g_bipush (pc := 110) (13) dX7_init_110 (by decide) ?_
      refine g_imul (pc := 112) dX7_init_112 ?_
      refine g_bipush (pc := 113) (12) dX7_init_113 (by decide) ?_
      refine g_iadd (pc := 115) dX7_init_115 ?_
      refine g_iconst (pc := 116) (1) dX7_init_116 (by decide) ?_
      refine a_ist (pc := 117) aK_waits dX7_init_117 (fun s3 => ?_)
      refine g_aload_n (pc := 118) 0 dX7_init_118 rfl rfl ?_
      refine gK_waits (pc := 119) kf_X7_19 dX7_init_119 ?_
      refine g_sipush (pc := 122) (156) dX7_init_122 (by decide) ?_
      refine g_iload_n (pc := 125) 1 dX7_init_125 rfl rfl ?_
      refine g_iadd (pc := 126) dX7_init_126 ?_
      refine g_iconst (pc := 127) (2) dX7_init_127 (by decide) ?_
      refine a_ist (pc := 128) aK_waits dX7_init_128 (fun s4 => ?_)
      refine g_iinc (pc := 129) (j := 1) (1) (lf := fun x1 => [(2, .int x1), (0, .ref (q 0))]) dX7_init_129 rfl (by decide) (Nat.le_of_ble_eq_true rfl) (fun _ => rfl) (fun x1 => ?_)
      refine g_goto (pc := 132) 99 dX7_init_132 (by decide) ?_
      exact g_sub [1, 0] rfl (ih99 (x1, s4))
def b_X9_init_208 : (Int32 × St) → Option ((Int32 × St) ⊕ (St)) := un fun y1 s1 => (if (169 : Int32) ≤ y1 then some (.inr s1) else chk (inb y1 169) (nm (stI s1 17 y1.toNatClampNeg (4095 : Int32)) fun s2 => nm (y1 + (1 : Int32)) fun x1 => some (.inl (x1, s2))))
def b_X9_init_241 (y2 : Int32) : (Int32 × St) → Option ((Int32 × St) ⊕ (St)) := un fun y3 s5 => (if (256 : Int32) ≤ y3 then some (.inr s5) else (f_X9_saysOf y2 y3).bind fun r1 => chk (inb (((256 : Int32) * y2) + y3) 65536) (nm (stI s5 20 (((256 : Int32) * y2) + y3).toNatClampNeg r1) fun s6 => nm (y3 + (1 : Int32)) fun x2 => some (.inl (x2, s6))))
def b_X9_init_232 : (Int32 × St) → Option ((Int32 × St) ⊕ (St)) := un fun y2 s4 => (if (256 : Int32) ≤ y2 then some (.inr s4) else (wh FU (b_X9_init_241 y2) ((0 : Int32), s4)).bind (fun s7 => nm (y2 + (1 : Int32)) fun x3 => some (.inl (x3, s7))))
def f_X9_initL (σ : St) : Option St := (wh FU b_X9_init_208 ((0 : Int32), σ)).bind (fun s3 => (wh FU b_X9_init_232 ((0 : Int32), s3)).bind (fun s8 => some s8))
set_option maxHeartbeats 4000000 in
set_option maxRecDepth 20000 in
theorem k_X9_init (l : Launch) (D : va_G) (cy : Cy) (q : Nat → Nat) (σ : St) (z : Nat × Nat) : GK (vM D cy q) cX9_init 3 RX9 none l rm_X9_init z (fun r => (none, r)) (f_X9_initL σ) some σ 206 [(0, .ref (q 0))] [] := by
  let fin_ : St → Option Value × St := fun r => (none, r)
  have hro : ∀ (z : St) (res : St), some z = some res → fin_ res = fin_ z := fun z res h => by cases h; rfl
  unfold f_X9_initL
  refine g_iconst (pc := 206) (0) dX9_init_206 (by decide) ?_
  refine g_istore_n (pc := 207) (lv' := [(1, .int (0 : Int32)), (0, .ref (q 0))]) dX9_init_207 rfl (Nat.le_of_ble_eq_true rfl) rfl ?_
  refine g_sub [1, 0] rfl ?_
  refine g_wh2 (pc := 208) (s0 := ((0 : Int32), σ)) (fun (w_ : Int32 × St) => w_.2) (fun (w_ : Int32 × St) => [(0, .ref (q 0)), (1, .int w_.1)]) (fun (w_ : St) => w_) (fun (w_ : St) => [(0, .ref (q 0))]) 230 ?_ ?_
  · rintro s3
    try dsimp only [un, Sum.elim_inl]
    refine g_iconst (pc := 230) (0) dX9_init_230 (by decide) ?_
    refine g_istore_n (pc := 231) (lv' := [(1, .int (0 : Int32)), (0, .ref (q 0))]) dX9_init_231 rfl (Nat.le_of_ble_eq_true rfl) rfl ?_
    refine g_sub [1, 0] rfl ?_
    refine g_wh2 (pc := 232) (s0 := ((0 : Int32), s3)) (fun (w_ : Int32 × St) => w_.2) (fun (w_ : Int32 × St) => [(0, .ref (q 0)), (1, .int w_.1)]) (fun (w_ : St) => w_) (fun (w_ : St) => []) 277 ?_ ?_
    · rintro s8
      try dsimp only [un, Sum.elim_inl]
      exact g_vret (pc := 277) (hro _) rfl dX9_init_277
    · intro K232 hx232 ih232
      rintro ⟨y2, s4⟩
      try dsimp only [b_X9_init_232, un]
      refine g_iload_n (pc := 232) 1 dX9_init_232 rfl rfl ?_
      refine g_sipush (pc := 233) (256) dX9_init_233 (by decide) ?_
      refine g_icmp_ge (pc := 236) 277 dX9_init_236 (by decide) ?_ ?_
      · exact g_sub [] rfl (hx232 s4)
      · refine g_iconst (pc := 239) (0) dX9_init_239 (by decide) ?_
        refine g_istore_n (pc := 240) (lv' := [(2, .int (0 : Int32)), (0, .ref (q 0)), (1, .int y2)]) dX9_init_240 rfl (Nat.le_of_ble_eq_true rfl) rfl ?_
        refine g_sub [1, 2, 0] rfl ?_
        refine g_wh2 (pc := 241) (s0 := ((0 : Int32), s4)) (fun (w_ : Int32 × St) => w_.2) (fun (w_ : Int32 × St) => [(0, .ref (q 0)), (1, .int y2), (2, .int w_.1)]) (fun (w_ : St) => w_) (fun (w_ : St) => [(0, .ref (q 0)), (1, .int y2)]) 271 ?_ ?_
        · rintro s7
          try dsimp only [un, Sum.elim_inl]
          refine g_iinc (pc := 271) (j := 1) (1) (lf := fun x3 => [(1, .int x3), (0, .ref (q 0))]) dX9_init_271 rfl (by decide) (Nat.le_of_ble_eq_true rfl) (fun _ => rfl) (fun x3 => ?_)
          refine g_goto (pc := 274) 232 dX9_init_274 (by decide) ?_
          exact g_sub [1, 0] rfl (ih232 (x3, s7))
        · intro K241 hx241 ih241
          rintro ⟨y3, s5⟩
          try dsimp only [b_X9_init_241, un]
          refine g_iload_n (pc := 241) 2 dX9_init_241 rfl rfl ?_
          refine g_sipush (pc := 242) (256) dX9_init_242 (by decide) ?_
          refine g_icmp_ge (pc := 245) 271 dX9_init_245 (by decide) ?_ ?_
          · exact g_sub [0, 1] rfl (hx241 s5)
          · refine g_aload_n (pc := 248) 0 dX9_init_248 rfl rfl ?_
            refine gf_9_says (pc := 249) kf_X9_73 dX9_init_249 ?_
            refine g_sipush (pc := 252) (256) dX9_init_252 (by decide) ?_
            refine g_iload_n (pc := 255) 1 dX9_init_255 rfl rfl ?_
            refine g_imul (pc := 256) dX9_init_256 ?_
            refine g_iload_n (pc := 257) 2 dX9_init_257 rfl rfl ?_
            refine g_iadd (pc := 258) dX9_init_258 ?_
            refine g_iload_n (pc := 259) 1 dX9_init_259 rfl rfl ?_
            refine g_iload_n (pc := 260) 2 dX9_init_260 rfl rfl ?_
            refine gS_i (pc := 261) [.int y2, .int y3] [.int (((256 : Int32) * y2) + y3), .ref (q 20)] (m_X9_saysOf l (vM D cy q) s5 y2 y3) cw_X9_saysOf km_X9_89 ⟨rfl, rfl, by decide, by decide⟩ dX9_init_261 rfl rfl (Nat.le_of_ble_eq_true rfl) (fun r1 => ?_)
            refine a_ist (pc := 264) aM_says dX9_init_264 (fun s6 => ?_)
            refine g_iinc (pc := 265) (j := 2) (1) (lf := fun x2 => [(2, .int x2), (0, .ref (q 0)), (1, .int y2)]) dX9_init_265 rfl (by decide) (Nat.le_of_ble_eq_true rfl) (fun _ => rfl) (fun x2 => ?_)
            refine g_goto (pc := 268) 241 dX9_init_268 (by decide) ?_
            exact g_sub [1, 2, 0] rfl (ih241 (x2, s6))
  · intro K208 hx208 ih208
    rintro ⟨y1, s1⟩
    try dsimp only [b_X9_init_208, un]
    refine g_iload_n (pc := 208) 1 dX9_init_208 rfl rfl ?_
    refine g_sipush (pc := 209) (169) dX9_init_209 (by decide) ?_
    refine g_icmp_ge (pc := 212) 230 dX9_init_212 (by decide) ?_ ?_
    · exact g_sub [0] rfl (hx208 s1)
    · refine g_aload_n (pc := 215) 0 dX9_init_215 rfl rfl ?_
      refine gf_9_toldShape (pc := 216) kf_X9_63 dX9_init_216 ?_
      refine g_iload_n (pc := 219) 1 dX9_init_219 rfl rfl ?_
      refine g_sipush (pc := 220) (4095) dX9_init_220 (by decide) ?_
      refine a_ist (pc := 223) aM_toldShape dX9_init_223 (fun s2 => ?_)
      refine g_iinc (pc := 224) (j := 1) (1) (lf := fun x1 => [(1, .int x1), (0, .ref (q 0))]) dX9_init_224 rfl (by decide) (Nat.le_of_ble_eq_true rfl) (fun _ => rfl) (fun x1 => ?_)
      refine g_goto (pc := 227) 208 dX9_init_227 (by decide) ?_
      exact g_sub [1, 0] rfl (ih208 (x1, s2))
