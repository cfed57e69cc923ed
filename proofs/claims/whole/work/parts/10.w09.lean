def b_X9_layTable_23 (p : Int32) (y1 : Int32) : (Int32 × St) → Option ((Int32 × St) ⊕ (St)) := un fun y2 s2 => (if (256 : Int32) ≤ y2 then some (.inr s2) else (f_X9_work p y1 y2 s2).bind fun s3 => chk (inb (((256 : Int32) * (((12 : Int32) * p) + y1)) + y2) 12288) (nm (stI s3 8 (((256 : Int32) * (((12 : Int32) * p) + y1)) + y2).toNatClampNeg ((((256 : Int32) * (s3.1 0 9)) + (s3.1 0 10)) + ((4096 : Int32) * (s3.1 0 11)))) fun s4 => nm (y2 + (1 : Int32)) fun x1 => some (.inl (x1, s4))))
def b_X9_layTable_2 (p : Int32) : (Int32 × St) → Option ((Int32 × St) ⊕ (St)) := un fun y1 s1 => chk (inb p 4) ((if (s1.1 5 p.toNatClampNeg) ≤ y1 then some (.inr s1) else chk (inb p 4) ((if (s1.1 7 p.toNatClampNeg) = (0 : Int32) then (wh FU (b_X9_layTable_23 p y1) ((0 : Int32), s1)).bind (fun s5 => nm (y1 + (1 : Int32)) fun x2 => some (.inl (x2, s5))) else some (.inr s1)))))
def f_X9_layTable (p : Int32) (σ : St) : Option (St) := (wh FU (b_X9_layTable_2 p) ((0 : Int32), σ)).bind (fun s6 => chk (inb p 4) (nm (stI s6 7 p.toNatClampNeg (1 : Int32)) fun s7 => some s7))
abbrev rm_X9_layTable : Room := { frames := 2, cells := 0, slots := 0, locals := 49 }
set_option maxHeartbeats 4000000 in
set_option maxRecDepth 20000 in
theorem m_X9_layTable (l : Launch) (D : va_G) (cy : Cy) (q : Nat → Nat) (σ : St) (p : Int32)  : ∀ res, f_X9_layTable p σ = some res → MetX (vM D cy q) l yX9_layTable cX9_layTable 4 none rm_X9_layTable [.ref (q 0), .int p] σ (none, res) := by
  let fin_ : St → Option Value × St := fun r => (none, r)
  have hro : ∀ (z : St) (res : St), some z = some res → fin_ res = fin_ z := fun z res h => by cases h; rfl
  refine MetX.of1 (fin := fin_) (lv := [(0, .ref (q 0)), (1, .int p)]) (by decide) (Nat.le_of_ble_eq_true rfl) rfl ?_
  unfold f_X9_layTable
  refine g_iconst (pc := 0) (0) dX9_layTable_0 (by decide) ?_
  refine g_istore_n (pc := 1) (lv' := [(2, .int (0 : Int32)), (0, .ref (q 0)), (1, .int p)]) dX9_layTable_1 rfl (Nat.le_of_ble_eq_true rfl) rfl ?_
  refine g_sub [1, 2, 0] rfl ?_
  refine g_wh2 (pc := 2) (s0 := ((0 : Int32), σ)) (fun (w_ : Int32 × St) => w_.2) (fun (w_ : Int32 × St) => [(0, .ref (q 0)), (1, .int p), (2, .int w_.1)]) (fun (w_ : St) => w_) (fun (w_ : St) => [(0, .ref (q 0)), (1, .int p)]) 88 ?_ ?_
  · rintro s6
    try dsimp only [un, Sum.elim_inl]
    refine g_aload_n (pc := 88) 0 dX9_layTable_88 rfl rfl ?_
    refine gf_9_isLaid (pc := 89) kf_X9_28 dX9_layTable_89 ?_
    refine g_iload_n (pc := 92) 1 dX9_layTable_92 rfl rfl ?_
    refine g_iconst (pc := 93) (1) dX9_layTable_93 (by decide) ?_
    refine a_zst (pc := 94) aM_isLaid (by decide) dX9_layTable_94 (fun s7 => ?_)
    exact g_vret (pc := 95) (hro _) rfl dX9_layTable_95
  · intro K2 hx2 ih2
    rintro ⟨y1, s1⟩
    try dsimp only [b_X9_layTable_2, un]
    refine g_iload_n (pc := 2) 2 dX9_layTable_2 rfl rfl ?_
    refine g_aload_n (pc := 3) 0 dX9_layTable_3 rfl rfl ?_
    refine gf_9_lineMany (pc := 4) kf_X9_22 dX9_layTable_4 ?_
    refine g_iload_n (pc := 7) 1 dX9_layTable_7 rfl rfl ?_
    refine a_ild (pc := 8) aM_lineMany dX9_layTable_8 ?_
    refine g_icmp_ge (pc := 9) 88 dX9_layTable_9 (by decide) ?_ ?_
    · exact g_sub [0, 1] rfl (hx2 s1)
    · refine g_aload_n (pc := 12) 0 dX9_layTable_12 rfl rfl ?_
      refine gf_9_isLaid (pc := 13) kf_X9_28 dX9_layTable_13 ?_
      refine g_iload_n (pc := 16) 1 dX9_layTable_16 rfl rfl ?_
      refine a_zld (pc := 17) aM_isLaid dX9_layTable_17 ?_
      refine g_if_ne (pc := 18) 88 dX9_layTable_18 (by decide) ?_ ?_
      · exact g_sub [0, 1] rfl (hx2 s1)
      · refine g_iconst (pc := 21) (0) dX9_layTable_21 (by decide) ?_
        refine g_istore_n (pc := 22) (lv' := [(3, .int (0 : Int32)), (0, .ref (q 0)), (1, .int p), (2, .int y1)]) dX9_layTable_22 rfl (Nat.le_of_ble_eq_true rfl) rfl ?_
        refine g_sub [1, 2, 3, 0] rfl ?_
        refine g_wh2 (pc := 23) (s0 := ((0 : Int32), s1)) (fun (w_ : Int32 × St) => w_.2) (fun (w_ : Int32 × St) => [(0, .ref (q 0)), (1, .int p), (2, .int y1), (3, .int w_.1)]) (fun (w_ : St) => w_) (fun (w_ : St) => [(0, .ref (q 0)), (1, .int p), (2, .int y1)]) 82 ?_ ?_
        · rintro s5
          try dsimp only [un, Sum.elim_inl]
          refine g_iinc (pc := 82) (j := 2) (1) (lf := fun x2 => [(2, .int x2), (0, .ref (q 0)), (1, .int p)]) dX9_layTable_82 rfl (by decide) (Nat.le_of_ble_eq_true rfl) (fun _ => rfl) (fun x2 => ?_)
          refine g_goto (pc := 85) 2 dX9_layTable_85 (by decide) ?_
          exact g_sub [1, 2, 0] rfl (ih2 (x2, s5))
        · intro K23 hx23 ih23
          rintro ⟨y2, s2⟩
          try dsimp only [b_X9_layTable_23, un]
          refine g_iload_n (pc := 23) 3 dX9_layTable_23 rfl rfl ?_
          refine g_sipush (pc := 24) (256) dX9_layTable_24 (by decide) ?_
          refine g_icmp_ge (pc := 27) 82 dX9_layTable_27 (by decide) ?_ ?_
          · exact g_sub [0, 1, 2] rfl (hx23 s2)
          · refine g_aload_n (pc := 30) 0 dX9_layTable_30 rfl rfl ?_
            refine g_iload_n (pc := 31) 1 dX9_layTable_31 rfl rfl ?_
            refine g_iload_n (pc := 32) 2 dX9_layTable_32 rfl rfl ?_
            refine g_iload_n (pc := 33) 3 dX9_layTable_33 rfl rfl ?_
            refine gV_v (pc := 34) [.int p, .int y1, .int y2] [] (m_X9_work l D cy q s2 p y1 y2) cw_X9_work km_X9_147 ⟨rfl, rfl, by decide, by decide⟩ (Nat.le_of_ble_eq_true rfl) (eM_9 (cy := cy) (s2.1 0) (s2.2 0)) rfl dX9_layTable_34 rfl rfl (Nat.le_of_ble_eq_true rfl) (fun s3 => ?_)
            refine g_aload_n (pc := 37) 0 dX9_layTable_37 rfl rfl ?_
            refine gf_9_after (pc := 38) kf_X9_32 dX9_layTable_38 ?_
            refine g_sipush (pc := 41) (256) dX9_layTable_41 (by decide) ?_
            refine g_bipush (pc := 44) (12) dX9_layTable_44 (by decide) ?_
            refine g_iload_n (pc := 46) 1 dX9_layTable_46 rfl rfl ?_
            refine g_imul (pc := 47) dX9_layTable_47 ?_
            refine g_iload_n (pc := 48) 2 dX9_layTable_48 rfl rfl ?_
            refine g_iadd (pc := 49) dX9_layTable_49 ?_
            refine g_imul (pc := 50) dX9_layTable_50 ?_
            refine g_iload_n (pc := 51) 3 dX9_layTable_51 rfl rfl ?_
            refine g_iadd (pc := 52) dX9_layTable_52 ?_
            refine g_sipush (pc := 53) (256) dX9_layTable_53 (by decide) ?_
            refine g_aload_n (pc := 56) 0 dX9_layTable_56 rfl rfl ?_
            refine gf_9_nextLine (pc := 57) kf_X9_137 dX9_layTable_57 ?_
            refine g_imul (pc := 60) dX9_layTable_60 ?_
            refine g_aload_n (pc := 61) 0 dX9_layTable_61 rfl rfl ?_
            refine gf_9_nextMemory (pc := 62) kf_X9_131 dX9_layTable_62 ?_
            refine g_iadd (pc := 65) dX9_layTable_65 ?_
            refine g_sipush (pc := 66) (4096) dX9_layTable_66 (by decide) ?_
            refine g_aload_n (pc := 69) 0 dX9_layTable_69 rfl rfl ?_
            refine gf_9_endIs (pc := 70) kf_X9_140 dX9_layTable_70 ?_
            refine g_imul (pc := 73) dX9_layTable_73 ?_
            refine g_iadd (pc := 74) dX9_layTable_74 ?_
            refine a_ist (pc := 75) aM_after dX9_layTable_75 (fun s4 => ?_)
            refine g_iinc (pc := 76) (j := 3) (1) (lf := fun x1 => [(3, .int x1), (0, .ref (q 0)), (1, .int p), (2, .int y1)]) dX9_layTable_76 rfl (by decide) (Nat.le_of_ble_eq_true rfl) (fun _ => rfl) (fun x1 => ?_)
            refine g_goto (pc := 79) 23 dX9_layTable_79 (by decide) ?_
            exact g_sub [1, 2, 3, 0] rfl (ih23 (x1, s4))
def f_X9_step (p : Int32) (line : Int32) (memory : Int32) (σ : St) : Option (St) := chk (inb (((256 : Int32) * (((12 : Int32) * p) + line)) + memory) 12288) (nm (σ.1 8 (((256 : Int32) * (((12 : Int32) * p) + line)) + memory).toNatClampNeg) fun x1 => nm (stI σ 0 11 (x1 >>> ((12 : Int32) &&& 31))) fun s1 => nm (stI s1 0 9 ((x1 >>> ((8 : Int32) &&& 31)) &&& (15 : Int32))) fun s2 => nm (stI s2 0 10 (x1 &&& (255 : Int32))) fun s3 => some s3)
abbrev rm_X9_step : Room := { frames := 0, cells := 0, slots := 0, locals := 0 }
set_option maxHeartbeats 4000000 in
set_option maxRecDepth 20000 in
theorem m_X9_step (l : Launch) (D : va_G) (cy : Cy) (q : Nat → Nat) (σ : St) (p : Int32) (line : Int32) (memory : Int32)  : ∀ res, f_X9_step p line memory σ = some res → MetX (vM D cy q) l yX9_step cX9_step 5 none rm_X9_step [.ref (q 0), .int p, .int line, .int memory] σ (none, res) := by
  let fin_ : St → Option Value × St := fun r => (none, r)
  have hro : ∀ (z : St) (res : St), some z = some res → fin_ res = fin_ z := fun z res h => by cases h; rfl
  refine MetX.of1 (fin := fin_) (lv := [(0, .ref (q 0)), (1, .int p), (2, .int line), (3, .int memory)]) (by decide) (Nat.le_of_ble_eq_true rfl) rfl ?_
  unfold f_X9_step
  refine g_aload_n (pc := 0) 0 dX9_step_0 rfl rfl ?_
  refine gf_9_after (pc := 1) kf_X9_32 dX9_step_1 ?_
  refine g_sipush (pc := 4) (256) dX9_step_4 (by decide) ?_
  refine g_bipush (pc := 7) (12) dX9_step_7 (by decide) ?_
  refine g_iload_n (pc := 9) 1 dX9_step_9 rfl rfl ?_
  refine g_imul (pc := 10) dX9_step_10 ?_
  refine g_iload_n (pc := 11) 2 dX9_step_11 rfl rfl ?_
  refine g_iadd (pc := 12) dX9_step_12 ?_
  refine g_imul (pc := 13) dX9_step_13 ?_
  refine g_iload_n (pc := 14) 3 dX9_step_14 rfl rfl ?_
  refine g_iadd (pc := 15) dX9_step_15 ?_
  refine a_ild (pc := 16) aM_after dX9_step_16 ?_
  refine g_nmi (fun x1 => ?_)
  refine g_istore (pc := 17) (lv' := [(4, .int x1), (0, .ref (q 0)), (1, .int p), (2, .int line), (3, .int memory)]) dX9_step_17 (Nat.le_of_ble_eq_true rfl) rfl ?_
  refine g_aload_n (pc := 19) 1 dX9_step_19 rfl rfl ?_
  refine g_iload (pc := 20) 0 dX9_step_20 rfl ?_
  refine g_bipush (pc := 22) (12) dX9_step_22 (by decide) ?_
  refine g_ishr (pc := 24) dX9_step_24 ?_
  refine gp_9_endIs (pc := 25) kf_X9_140 dX9_step_25 (fun s1 => ?_)
  refine g_aload_n (pc := 28) 1 dX9_step_28 rfl rfl ?_
  refine g_iload (pc := 29) 0 dX9_step_29 rfl ?_
  refine g_bipush (pc := 31) (8) dX9_step_31 (by decide) ?_
  refine g_ishr (pc := 33) dX9_step_33 ?_
  refine g_bipush (pc := 34) (15) dX9_step_34 (by decide) ?_
  refine g_iand (pc := 36) dX9_step_36 ?_
  refine gp_9_nextLine (pc := 37) kf_X9_137 dX9_step_37 (fun s2 => ?_)
  refine g_aload_n (pc := 40) 1 dX9_step_40 rfl rfl ?_
  refine g_iload (pc := 41) 0 dX9_step_41 rfl ?_
  refine g_sipush (pc := 43) (255) dX9_step_43 (by decide) ?_
  refine g_iand (pc := 46) dX9_step_46 ?_
  refine gp_9_nextMemory (pc := 47) kf_X9_131 dX9_step_47 (fun s3 => ?_)
  exact g_vret (pc := 50) (hro _) rfl dX9_step_50
def b_X9_runOne_29 (p : Int32) (at_ : Int32) : (Int32 × Int32 × Int32 × Int32 × St) → Option ((Int32 × Int32 × Int32 × Int32 × St) ⊕ (Int32 × Int32 × Int32 × Int32 × St)) := un fun y1 => un fun y2 => un fun y3 => un fun y4 s3 => (if (12 : Int32) ≤ y1 then some (.inr (y1, y2, y3, y4, s3)) else (if (24 : Int32) ≤ y3 then some (.inr (y1, y2, y3, y4, s3)) else chk (inb (((12 : Int32) * p) + y1) 48) ((if (s3.1 1 (((12 : Int32) * p) + y1).toNatClampNeg) = (6 : Int32) then chk (inb p 4) ((if (((s3.1 6 p.toNatClampNeg) >>> (y1 &&& 31)) &&& (1 : Int32)) = (0 : Int32) then chk (inb at_ 512) (chk (inb (((12 : Int32) * p) + y1) 48) ((f_X9_valueOf y2 (s3.1 2 (((12 : Int32) * p) + y1).toNatClampNeg)).bind fun r2 => chk (inb (((24 : Int32) * at_) + (s3.1 12 at_.toNatClampNeg)) 12288) (nm (stI s3 13 (((24 : Int32) * at_) + (s3.1 12 at_.toNatClampNeg)).toNatClampNeg r2) fun s6 => chk (inb at_ 512) (chk (inb at_ 512) (nm (stI s6 12 at_.toNatClampNeg ((s6.1 12 at_.toNatClampNeg) + (1 : Int32))) fun s7 => (f_X9_step p y1 y2 s7).bind fun s8 => nm (s8.1 0 11) fun x9 => nm (s8.1 0 9) fun x10 => nm (s8.1 0 10) fun x11 => nm (y3 + (1 : Int32)) fun x12 => some (.inl (x10, x11, x12, x9, s8))))))) else (f_X9_step p y1 y2 s3).bind fun s5 => nm (s5.1 0 11) fun x5 => nm (s5.1 0 9) fun x6 => nm (s5.1 0 10) fun x7 => nm (y3 + (1 : Int32)) fun x8 => some (.inl (x6, x7, x8, x5, s5)))) else (f_X9_step p y1 y2 s3).bind fun s4 => nm (s4.1 0 11) fun x1 => nm (s4.1 0 9) fun x2 => nm (s4.1 0 10) fun x3 => nm (y3 + (1 : Int32)) fun x4 => some (.inl (x2, x3, x4, x1, s4))))))
def f_X9_runOne (p : Int32) (start : Int32) (at_ : Int32) (σ : St) : Option (St) := (f_X9_layTable p σ).bind fun s1 => (f_X9_held p (0 : Int32) s1).bind fun r1 => chk (inb at_ 512) (nm (stI s1 12 at_.toNatClampNeg (0 : Int32)) fun s2 => (wh FU (b_X9_runOne_29 p at_) (r1, start, (0 : Int32), (0 : Int32), s2)).bind (un fun z1 => un fun z2 => un fun z3 => un fun z4 s9 => (if (12 : Int32) ≤ z1 then chk (inb at_ 512) (nm (stI s9 9 at_.toNatClampNeg z4) fun s10 => chk (inb at_ 512) (nm (stI s10 10 at_.toNatClampNeg z2) fun s11 => chk (inb at_ 512) (nm (stI s11 11 at_.toNatClampNeg z3) fun s12 => some s12))) else chk (inb at_ 512) (nm (stI s9 9 at_.toNatClampNeg (2 : Int32)) fun s13 => chk (inb at_ 512) (nm (stI s13 10 at_.toNatClampNeg z2) fun s14 => chk (inb at_ 512) (nm (stI s14 11 at_.toNatClampNeg z3) fun s15 => some s15))))))
abbrev rm_X9_runOne : Room := { frames := 3, cells := 0, slots := 0, locals := 72 }
set_option maxHeartbeats 4000000 in
set_option maxRecDepth 20000 in
theorem m_X9_runOne (l : Launch) (D : va_G) (cy : Cy) (q : Nat → Nat) (σ : St) (p : Int32) (start : Int32) (at_ : Int32)  : ∀ res, f_X9_runOne p start at_ σ = some res → MetX (vM D cy q) l yX9_runOne cX9_runOne 8 none rm_X9_runOne [.ref (q 0), .int p, .int start, .int at_] σ (none, res) := by
  let fin_ : St → Option Value × St := fun r => (none, r)
  have hro : ∀ (z : St) (res : St), some z = some res → fin_ res = fin_ z := fun z res h => by cases h; rfl
  refine MetX.of1 (fin := fin_) (lv := [(0, .ref (q 0)), (1, .int p), (2, .int start), (3, .int at_)]) (by decide) (Nat.le_of_ble_eq_true rfl) rfl ?_
  unfold f_X9_runOne
  refine g_aload_n (pc := 0) 0 dX9_runOne_0 rfl rfl ?_
  refine g_iload_n (pc := 1) 1 dX9_runOne_1 rfl rfl ?_
  refine gV_v (pc := 2) [.int p] [] (m_X9_layTable l D cy q σ p) cw_X9_layTable km_X9_151 ⟨rfl, rfl, by decide, by decide⟩ (Nat.le_of_ble_eq_true rfl) (eM_9 (cy := cy) (σ.1 0) (σ.2 0)) rfl dX9_runOne_2 rfl rfl (Nat.le_of_ble_eq_true rfl) (fun s1 => ?_)
  refine g_aload_n (pc := 5) 0 dX9_runOne_5 rfl rfl ?_
  refine g_iload_n (pc := 6) 1 dX9_runOne_6 rfl rfl ?_
  refine g_iconst (pc := 7) (0) dX9_runOne_7 (by decide) ?_
  refine gV_i (pc := 8) [.int p, .int (0 : Int32)] [] (m_X9_held l D cy q s1 p (0 : Int32)) cw_X9_held km_X9_134 ⟨rfl, rfl, by decide, by decide⟩ (Nat.le_of_ble_eq_true rfl) (eM_9 (cy := cy) (s1.1 0) (s1.2 0)) rfl dX9_runOne_8 rfl rfl (Nat.le_of_ble_eq_true rfl) (fun r1 => ?_)
  refine g_istore (pc := 11) (lv' := [(4, .int r1), (0, .ref (q 0)), (1, .int p), (2, .int start), (3, .int at_)]) dX9_runOne_11 (Nat.le_of_ble_eq_true rfl) rfl ?_
  refine g_iload_n (pc := 13) 3 dX9_runOne_13 rfl rfl ?_
  refine g_istore (pc := 14) (lv' := [(5, .int start), (4, .int r1), (0, .ref (q 0)), (1, .int p), (2, .int start), (3, .int at_)]) dX9_runOne_14 (Nat.le_of_ble_eq_true rfl) rfl ?_
  refine g_iconst (pc := 16) (0) dX9_runOne_16 (by decide) ?_
  refine g_istore (pc := 17) (lv' := [(6, .int (0 : Int32)), (5, .int start), (4, .int r1), (0, .ref (q 0)), (1, .int p), (2, .int start), (3, .int at_)]) dX9_runOne_17 (Nat.le_of_ble_eq_true rfl) rfl ?_
  refine g_iconst (pc := 19) (0) dX9_runOne_19 (by decide) ?_
  refine g_istore (pc := 20) (lv' := [(7, .int (0 : Int32)), (6, .int (0 : Int32)), (5, .int start), (4, .int r1), (0, .ref (q 0)), (1, .int p), (2, .int start), (3, .int at_)]) dX9_runOne_20 (Nat.le_of_ble_eq_true rfl) rfl ?_
  refine g_aload_n (pc := 22) 4 dX9_runOne_22 rfl rfl ?_
  refine gf_9_shownMany (pc := 23) kf_X9_44 dX9_runOne_23 ?_
  refine g_iload_n (pc := 26) 7 dX9_runOne_26 rfl rfl ?_
  refine g_iconst (pc := 27) (0) dX9_runOne_27 (by decide) ?_
  refine a_ist (pc := 28) aM_shownMany dX9_runOne_28 (fun s2 => ?_)
  refine g_sub [4, 5, 7, 3, 2, 1, 0] rfl ?_
  refine g_wh2 (pc := 29) (s0 := (r1, start, (0 : Int32), (0 : Int32), s2)) (fun (w_ : Int32 × Int32 × Int32 × Int32 × St) => w_.2.2.2.2) (fun (w_ : Int32 × Int32 × Int32 × Int32 × St) => [(0, .ref (q 0)), (1, .int p), (3, .int at_), (4, .int w_.1), (5, .int w_.2.1), (6, .int w_.2.2.1), (7, .int w_.2.2.2.1)]) (fun (w_ : Int32 × Int32 × Int32 × Int32 × St) => w_.2.2.2.2) (fun (w_ : Int32 × Int32 × Int32 × Int32 × St) => [(0, .ref (q 0)), (3, .int at_), (4, .int w_.1), (5, .int w_.2.1), (6, .int w_.2.2.1), (7, .int w_.2.2.2.1)]) 150 ?_ ?_
  · rintro ⟨z1, z2, z3, z4, s9⟩
    try dsimp only [un, Sum.elim_inl]
    refine g_aload_n (pc := 150) 0 dX9_runOne_150 rfl rfl ?_
    refine gf_9_endOf (pc := 151) kf_X9_35 dX9_runOne_151 ?_
    refine g_iload_n (pc := 154) 1 dX9_runOne_154 rfl rfl ?_
    refine g_iload (pc := 155) 2 dX9_runOne_155 rfl ?_
    refine g_bipush (pc := 157) (12) dX9_runOne_157 (by decide) ?_
    refine g_icmp_ge (pc := 159) 166 dX9_runOne_159 (by decide) ?_ ?_
    · refine g_iload (pc := 166) 5 dX9_runOne_166 rfl ?_
      refine a_ist (pc := 168) aM_endOf dX9_runOne_168 (fun s10 => ?_)
      refine g_aload_n (pc := 169) 0 dX9_runOne_169 rfl rfl ?_
      refine gf_9_memoryOf (pc := 170) kf_X9_38 dX9_runOne_170 ?_
      refine g_iload_n (pc := 173) 1 dX9_runOne_173 rfl rfl ?_
      refine g_iload (pc := 174) 3 dX9_runOne_174 rfl ?_
      refine a_ist (pc := 176) aM_memoryOf dX9_runOne_176 (fun s11 => ?_)
      refine g_aload_n (pc := 177) 0 dX9_runOne_177 rfl rfl ?_
      refine gf_9_stepsOf (pc := 178) kf_X9_41 dX9_runOne_178 ?_
      refine g_iload_n (pc := 181) 1 dX9_runOne_181 rfl rfl ?_
      refine g_iload (pc := 182) 4 dX9_runOne_182 rfl ?_
      refine a_ist (pc := 184) aM_stepsOf dX9_runOne_184 (fun s12 => ?_)
      exact g_vret (pc := 185) (hro _) rfl dX9_runOne_185
    · refine g_iconst (pc := 162) (2) dX9_runOne_162 (by decide) ?_
      refine g_goto (pc := 163) 168 dX9_runOne_163 (by decide) ?_
      refine a_ist (pc := 168) aM_endOf dX9_runOne_168 (fun s13 => ?_)
      refine g_aload_n (pc := 169) 0 dX9_runOne_169 rfl rfl ?_
      refine gf_9_memoryOf (pc := 170) kf_X9_38 dX9_runOne_170 ?_
      refine g_iload_n (pc := 173) 1 dX9_runOne_173 rfl rfl ?_
      refine g_iload (pc := 174) 3 dX9_runOne_174 rfl ?_
      refine a_ist (pc := 176) aM_memoryOf dX9_runOne_176 (fun s14 => ?_)
      refine g_aload_n (pc := 177) 0 dX9_runOne_177 rfl rfl ?_
      refine gf_9_stepsOf (pc := 178) kf_X9_41 dX9_runOne_178 ?_
      refine g_iload_n (pc := 181) 1 dX9_runOne_181 rfl rfl ?_
      refine g_iload (pc := 182) 4 dX9_runOne_182 rfl ?_
      refine a_ist (pc := 184) aM_stepsOf dX9_runOne_184 (fun s15 => ?_)
      exact g_vret (pc := 185) (hro _) rfl dX9_runOne_185
  · intro K29 hx29 ih29
    rintro ⟨y1, y2, y3, y4, s3⟩
    try dsimp only [b_X9_runOne_29, un]
    refine g_iload (pc := 29) 3 dX9_runOne_29 rfl ?_
    refine g_bipush (pc := 31) (12) dX9_runOne_31 (by decide) ?_
    refine g_icmp_ge (pc := 33) 150 dX9_runOne_33 (by decide) ?_ ?_
    · exact g_sub [0, 2, 3, 4, 5, 6] rfl (hx29 (y1, y2, y3, y4, s3))
    · refine g_iload (pc := 36) 5 dX9_runOne_36 rfl ?_
      refine g_bipush (pc := 38) (24) dX9_runOne_38 (by decide) ?_
      refine g_icmp_ge (pc := 40) 150 dX9_runOne_40 (by decide) ?_ ?_
      · exact g_sub [0, 2, 3, 4, 5, 6] rfl (hx29 (y1, y2, y3, y4, s3))
      · refine g_aload_n (pc := 43) 0 dX9_runOne_43 rfl rfl ?_
        refine gf_9_acts (pc := 44) kf_X9_7 dX9_runOne_44 ?_
        refine g_bipush (pc := 47) (12) dX9_runOne_47 (by decide) ?_
        refine g_iload_n (pc := 49) 1 dX9_runOne_49 rfl rfl ?_
        refine g_imul (pc := 50) dX9_runOne_50 ?_
        refine g_iload (pc := 51) 3 dX9_runOne_51 rfl ?_
        refine g_iadd (pc := 53) dX9_runOne_53 ?_
        refine a_ild (pc := 54) aM_acts dX9_runOne_54 ?_
        refine g_bipush (pc := 55) (6) dX9_runOne_55 (by decide) ?_
        refine g_icmp_ne (pc := 57) 117 dX9_runOne_57 (by decide) ?_ ?_
        · refine g_aload_n (pc := 117) 0 dX9_runOne_117 rfl rfl ?_
          refine g_iload_n (pc := 118) 1 dX9_runOne_118 rfl rfl ?_
          refine g_iload (pc := 119) 3 dX9_runOne_119 rfl ?_
          refine g_iload (pc := 121) 4 dX9_runOne_121 rfl ?_
          refine gV_v (pc := 123) [.int p, .int y1, .int y2] [] (m_X9_step l D cy q s3 p y1 y2) cw_X9_step km_X9_154 ⟨rfl, rfl, by decide, by decide⟩ (Nat.le_of_ble_eq_true rfl) (eM_9 (cy := cy) (s3.1 0) (s3.2 0)) rfl dX9_runOne_123 rfl rfl (Nat.le_of_ble_eq_true rfl) (fun s4 => ?_)
          refine g_aload_n (pc := 126) 0 dX9_runOne_126 rfl rfl ?_
          refine gf_9_endIs (pc := 127) kf_X9_140 dX9_runOne_127 ?_
          refine g_nmi (fun x1 => ?_)
          refine g_istore (pc := 130) (lv' := [(7, .int x1), (0, .ref (q 0)), (1, .int p), (3, .int at_), (4, .int y1), (5, .int y2), (6, .int y3)]) dX9_runOne_130 (Nat.le_of_ble_eq_true rfl) rfl ?_
          refine g_aload_n (pc := 132) 1 dX9_runOne_132 rfl rfl ?_
          refine gf_9_nextLine (pc := 133) kf_X9_137 dX9_runOne_133 ?_
          refine g_nmi (fun x2 => ?_)
          refine g_istore (pc := 136) (lv' := [(4, .int x2), (7, .int x1), (0, .ref (q 0)), (1, .int p), (3, .int at_), (5, .int y2), (6, .int y3)]) dX9_runOne_136 (Nat.le_of_ble_eq_true rfl) rfl ?_
          refine g_aload_n (pc := 138) 2 dX9_runOne_138 rfl rfl ?_
          refine gf_9_nextMemory (pc := 139) kf_X9_131 dX9_runOne_139 ?_
          refine g_nmi (fun x3 => ?_)
          refine g_istore (pc := 142) (lv' := [(5, .int x3), (4, .int x2), (7, .int x1), (0, .ref (q 0)), (1, .int p), (3, .int at_), (6, .int y3)]) dX9_runOne_142 (Nat.le_of_ble_eq_true rfl) rfl ?_
          refine g_iinc (pc := 144) (j := 6) (1) (lf := fun x4 => [(6, .int x4), (5, .int x3), (4, .int x2), (7, .int x1), (0, .ref (q 0)), (1, .int p), (3, .int at_)]) dX9_runOne_144 rfl (by decide) (Nat.le_of_ble_eq_true rfl) (fun _ => rfl) (fun x4 => ?_)
          refine g_goto (pc := 147) 29 dX9_runOne_147 (by decide) ?_
          exact g_sub [4, 5, 6, 2, 1, 0, 3] rfl (ih29 (x2, x3, x4, x1, s4))
        · refine g_aload_n (pc := 60) 0 dX9_runOne_60 rfl rfl ?_
          refine gf_9_silence (pc := 61) kf_X9_25 dX9_runOne_61 ?_
          refine g_iload_n (pc := 64) 1 dX9_runOne_64 rfl rfl ?_
          refine a_ild (pc := 65) aM_silence dX9_runOne_65 ?_
          refine g_iload (pc := 66) 3 dX9_runOne_66 rfl ?_
          refine g_ishr (pc := 68) dX9_runOne_68 ?_
          refine g_iconst (pc := 69) (1) dX9_runOne_69 (by decide) ?_
          refine g_iand (pc := 70) dX9_runOne_70 ?_
          refine g_if_ne (pc := 71) 117 dX9_runOne_71 (by decide) ?_ ?_
          · refine g_aload_n (pc := 117) 0 dX9_runOne_117 rfl rfl ?_
            refine g_iload_n (pc := 118) 1 dX9_runOne_118 rfl rfl ?_
            refine g_iload (pc := 119) 3 dX9_runOne_119 rfl ?_
            refine g_iload (pc := 121) 4 dX9_runOne_121 rfl ?_
            refine gV_v (pc := 123) [.int p, .int y1, .int y2] [] (m_X9_step l D cy q s3 p y1 y2) cw_X9_step km_X9_154 ⟨rfl, rfl, by decide, by decide⟩ (Nat.le_of_ble_eq_true rfl) (eM_9 (cy := cy) (s3.1 0) (s3.2 0)) rfl dX9_runOne_123 rfl rfl (Nat.le_of_ble_eq_true rfl) (fun s5 => ?_)
            refine g_aload_n (pc := 126) 0 dX9_runOne_126 rfl rfl ?_
            refine gf_9_endIs (pc := 127) kf_X9_140 dX9_runOne_127 ?_
            refine g_nmi (fun x5 => ?_)
            refine g_istore (pc := 130) (lv' := [(7, .int x5), (0, .ref (q 0)), (1, .int p), (3, .int at_), (4, .int y1), (5, .int y2), (6, .int y3)]) dX9_runOne_130 (Nat.le_of_ble_eq_true rfl) rfl ?_
            refine g_aload_n (pc := 132) 1 dX9_runOne_132 rfl rfl ?_
            refine gf_9_nextLine (pc := 133) kf_X9_137 dX9_runOne_133 ?_
            refine g_nmi (fun x6 => ?_)
            refine g_istore (pc := 136) (lv' := [(4, .int x6), (7, .int x5), (0, .ref (q 0)), (1, .int p), (3, .int at_), (5, .int y2), (6, .int y3)]) dX9_runOne_136 (Nat.le_of_ble_eq_true rfl) rfl ?_
            refine g_aload_n (pc := 138) 2 dX9_runOne_138 rfl rfl ?_
            refine gf_9_nextMemory (pc := 139) kf_X9_131 dX9_runOne_139 ?_
            refine g_nmi (fun x7 => ?_)
            refine g_istore (pc := 142) (lv' := [(5, .int x7), (4, .int x6), (7, .int x5), (0, .ref (q 0)), (1, .int p), (3, .int at_), (6, .int y3)]) dX9_runOne_142 (Nat.le_of_ble_eq_true rfl) rfl ?_
            refine g_iinc (pc := 144) (j := 6) (1) (lf := fun x8 => [(6, .int x8), (5, .int x7), (4, .int x6), (7, .int x5), (0, .ref (q 0)), (1, .int p), (3, .int at_)]) dX9_runOne_144 rfl (by decide) (Nat.le_of_ble_eq_true rfl) (fun _ => rfl) (fun x8 => ?_)
            refine g_goto (pc := 147) 29 dX9_runOne_147 (by decide) ?_
            exact g_sub [4, 5, 6, 2, 1, 0, 3] rfl (ih29 (x6, x7, x8, x5, s5))
          · refine g_aload_n (pc := 74) 0 dX9_runOne_74 rfl rfl ?_
            refine gf_9_shown (pc := 75) kf_X9_47 dX9_runOne_75 ?_
            refine g_bipush (pc := 78) (24) dX9_runOne_78 (by decide) ?_
            refine g_iload_n (pc := 80) 2 dX9_runOne_80 rfl rfl ?_
            refine g_imul (pc := 81) dX9_runOne_81 ?_
            refine g_aload_n (pc := 82) 0 dX9_runOne_82 rfl rfl ?_
            refine gf_9_shownMany (pc := 83) kf_X9_44 dX9_runOne_83 ?_
            refine g_iload_n (pc := 86) 2 dX9_runOne_86 rfl rfl ?_
            refine a_ild (pc := 87) aM_shownMany dX9_runOne_87 ?_
            refine g_iadd (pc := 88) dX9_runOne_88 ?_
            refine g_iload (pc := 89) 4 dX9_runOne_89 rfl ?_
            refine g_aload_n (pc := 91) 0 dX9_runOne_91 rfl rfl ?_
            refine gf_9_firsts (pc := 92) kf_X9_13 dX9_runOne_92 ?_
            refine g_bipush (pc := 95) (12) dX9_runOne_95 (by decide) ?_
            refine g_iload_n (pc := 97) 1 dX9_runOne_97 rfl rfl ?_
            refine g_imul (pc := 98) dX9_runOne_98 ?_
            refine g_iload (pc := 99) 3 dX9_runOne_99 rfl ?_
            refine g_iadd (pc := 101) dX9_runOne_101 ?_
            refine a_ild (pc := 102) aM_firsts dX9_runOne_102 ?_
            refine gS_i (pc := 103) [.int y2, .int (s3.1 2 (((12 : Int32) * p) + y1).toNatClampNeg)] [.int (((24 : Int32) * at_) + (s3.1 12 at_.toNatClampNeg)), .ref (q 13)] (m_X9_valueOf l (vM D cy q) s3 y2 (s3.1 2 (((12 : Int32) * p) + y1).toNatClampNeg)) cw_X9_valueOf km_X9_128 ⟨rfl, rfl, by decide, by decide⟩ dX9_runOne_103 rfl rfl (Nat.le_of_ble_eq_true rfl) (fun r2 => ?_)
            refine a_ist (pc := 106) aM_shown dX9_runOne_106 (fun s6 => ?_)
            refine g_aload_n (pc := 107) 0 dX9_runOne_107 rfl rfl ?_
            refine gf_9_shownMany (pc := 108) kf_X9_44 dX9_runOne_108 ?_
            refine g_iload_n (pc := 111) 2 dX9_runOne_111 rfl rfl ?_
            refine g_dup2 (pc := 112) dX9_runOne_112 rfl rfl ?_
            refine a_ild (pc := 113) aM_shownMany dX9_runOne_113 ?_
            refine g_iconst (pc := 114) (1) dX9_runOne_114 (by decide) ?_
            refine g_iadd (pc := 115) dX9_runOne_115 ?_
            refine a_ist (pc := 116) aM_shownMany dX9_runOne_116 (fun s7 => ?_)
            refine g_aload_n (pc := 117) 0 dX9_runOne_117 rfl rfl ?_
            refine g_iload_n (pc := 118) 1 dX9_runOne_118 rfl rfl ?_
            refine g_iload (pc := 119) 3 dX9_runOne_119 rfl ?_
            refine g_iload (pc := 121) 4 dX9_runOne_121 rfl ?_
            refine gV_v (pc := 123) [.int p, .int y1, .int y2] [] (m_X9_step l D cy q s7 p y1 y2) cw_X9_step km_X9_154 ⟨rfl, rfl, by decide, by decide⟩ (Nat.le_of_ble_eq_true rfl) (eM_9 (cy := cy) (s7.1 0) (s7.2 0)) rfl dX9_runOne_123 rfl rfl (Nat.le_of_ble_eq_true rfl) (fun s8 => ?_)
            refine g_aload_n (pc := 126) 0 dX9_runOne_126 rfl rfl ?_
            refine gf_9_endIs (pc := 127) kf_X9_140 dX9_runOne_127 ?_
            refine g_nmi (fun x9 => ?_)
            refine g_istore (pc := 130) (lv' := [(7, .int x9), (0, .ref (q 0)), (1, .int p), (3, .int at_), (4, .int y1), (5, .int y2), (6, .int y3)]) dX9_runOne_130 (Nat.le_of_ble_eq_true rfl) rfl ?_
            refine g_aload_n (pc := 132) 1 dX9_runOne_132 rfl rfl ?_
            refine gf_9_nextLine (pc := 133) kf_X9_137 dX9_runOne_133 ?_
            refine g_nmi (fun x10 => ?_)
            refine g_istore (pc := 136) (lv' := [(4, .int x10), (7, .int x9), (0, .ref (q 0)), (1, .int p), (3, .int at_), (5, .int y2), (6, .int y3)]) dX9_runOne_136 (Nat.le_of_ble_eq_true rfl) rfl ?_
            refine g_aload_n (pc := 138) 2 dX9_runOne_138 rfl rfl ?_
            refine gf_9_nextMemory (pc := 139) kf_X9_131 dX9_runOne_139 ?_
            refine g_nmi (fun x11 => ?_)
            refine g_istore (pc := 142) (lv' := [(5, .int x11), (4, .int x10), (7, .int x9), (0, .ref (q 0)), (1, .int p), (3, .int at_), (6, .int y3)]) dX9_runOne_142 (Nat.le_of_ble_eq_true rfl) rfl ?_
            refine g_iinc (pc := 144) (j := 6) (1) (lf := fun x12 => [(6, .int x12), (5, .int x11), (4, .int x10), (7, .int x9), (0, .ref (q 0)), (1, .int p), (3, .int at_)]) dX9_runOne_144 rfl (by decide) (Nat.le_of_ble_eq_true rfl) (fun _ => rfl) (fun x12 => ?_)
            refine g_goto (pc := 147) 29 dX9_runOne_147 (by decide) ?_
            exact g_sub [4, 5, 6, 2, 1, 0, 3] rfl (ih29 (x10, x11, x12, x9, s8))
def b_X9_runAll_2 (p : Int32) (q_ : Int32) : (Int32 × St) → Option ((Int32 × St) ⊕ (St)) := un fun y1 s1 => (if (256 : Int32) ≤ y1 then some (.inr s1) else (f_X9_runOne p y1 y1 s1).bind fun s2 => (f_X9_runOne q_ y1 ((256 : Int32) + y1) s2).bind fun s3 => nm (y1 + (1 : Int32)) fun x1 => some (.inl (x1, s3)))
def f_X9_runAll (p : Int32) (q_ : Int32) (σ : St) : Option (St) := (wh FU (b_X9_runAll_2 p q_) ((0 : Int32), σ)).bind (fun s4 => some s4)
abbrev rm_X9_runAll : Room := { frames := 4, cells := 0, slots := 0, locals := 99 }
set_option maxHeartbeats 4000000 in
set_option maxRecDepth 20000 in
theorem m_X9_runAll (l : Launch) (D : va_G) (cy : Cy) (q : Nat → Nat) (σ : St) (p : Int32) (q_ : Int32)  : ∀ res, f_X9_runAll p q_ σ = some res → MetX (vM D cy q) l yX9_runAll cX9_runAll 4 none rm_X9_runAll [.ref (q 0), .int p, .int q_] σ (none, res) := by
  let fin_ : St → Option Value × St := fun r => (none, r)
  have hro : ∀ (z : St) (res : St), some z = some res → fin_ res = fin_ z := fun z res h => by cases h; rfl
  refine MetX.of1 (fin := fin_) (lv := [(0, .ref (q 0)), (1, .int p), (2, .int q_)]) (by decide) (Nat.le_of_ble_eq_true rfl) rfl ?_
  unfold f_X9_runAll
  refine g_iconst (pc := 0) (0) dX9_runAll_0 (by decide) ?_
  refine g_istore_n (pc := 1) (lv' := [(3, .int (0 : Int32)), (0, .ref (q 0)), (1, .int p), (2, .int q_)]) dX9_runAll_1 rfl (Nat.le_of_ble_eq_true rfl) rfl ?_
  refine g_sub [1, 2, 3, 0] rfl ?_
  refine g_wh2 (pc := 2) (s0 := ((0 : Int32), σ)) (fun (w_ : Int32 × St) => w_.2) (fun (w_ : Int32 × St) => [(0, .ref (q 0)), (1, .int p), (2, .int q_), (3, .int w_.1)]) (fun (w_ : St) => w_) (fun (w_ : St) => []) 33 ?_ ?_
  · rintro s4
    try dsimp only [un, Sum.elim_inl]
    exact g_vret (pc := 33) (hro _) rfl dX9_runAll_33
  · intro K2 hx2 ih2
    rintro ⟨y1, s1⟩
    try dsimp only [b_X9_runAll_2, un]
    refine g_iload_n (pc := 2) 3 dX9_runAll_2 rfl rfl ?_
    refine g_sipush (pc := 3) (256) dX9_runAll_3 (by decide) ?_
    refine g_icmp_ge (pc := 6) 33 dX9_runAll_6 (by decide) ?_ ?_
    · exact g_sub [] rfl (hx2 s1)
    · refine g_aload_n (pc := 9) 0 dX9_runAll_9 rfl rfl ?_
      refine g_iload_n (pc := 10) 1 dX9_runAll_10 rfl rfl ?_
      refine g_iload_n (pc := 11) 3 dX9_runAll_11 rfl rfl ?_
      refine g_iload_n (pc := 12) 3 dX9_runAll_12 rfl rfl ?_
      refine gV_v (pc := 13) [.int p, .int y1, .int y1] [] (m_X9_runOne l D cy q s1 p y1 y1) cw_X9_runOne km_X9_157 ⟨rfl, rfl, by decide, by decide⟩ (Nat.le_of_ble_eq_true rfl) (eM_9 (cy := cy) (s1.1 0) (s1.2 0)) rfl dX9_runAll_13 rfl rfl (Nat.le_of_ble_eq_true rfl) (fun s2 => ?_)
      refine g_aload_n (pc := 16) 0 dX9_runAll_16 rfl rfl ?_
      refine g_iload_n (pc := 17) 2 dX9_runAll_17 rfl rfl ?_
      refine g_iload_n (pc := 18) 3 dX9_runAll_18 rfl rfl ?_
      refine g_sipush (pc := 19) (256) dX9_runAll_19 (by decide) ?_
      refine g_iload_n (pc := 22) 3 dX9_runAll_22 rfl rfl ?_
      refine g_iadd (pc := 23) dX9_runAll_23 ?_
      refine gV_v (pc := 24) [.int q_, .int y1, .int ((256 : Int32) + y1)] [] (m_X9_runOne l D cy q s2 q_ y1 ((256 : Int32) + y1)) cw_X9_runOne km_X9_157 ⟨rfl, rfl, by decide, by decide⟩ (Nat.le_of_ble_eq_true rfl) (eM_9 (cy := cy) (s2.1 0) (s2.2 0)) rfl dX9_runAll_24 rfl rfl (Nat.le_of_ble_eq_true rfl) (fun s3 => ?_)
      refine g_iinc (pc := 27) (j := 3) (1) (lf := fun x1 => [(3, .int x1), (0, .ref (q 0)), (1, .int p), (2, .int q_)]) dX9_runAll_27 rfl (by decide) (Nat.le_of_ble_eq_true rfl) (fun _ => rfl) (fun x1 => ?_)
      refine g_goto (pc := 30) 2 dX9_runAll_30 (by decide) ?_
      exact g_sub [1, 2, 3, 0] rfl (ih2 (x1, s3))
def f_X9_isStart (s : Int32) : Option (Int32) := (f_X9_in s.toInt64 (0 : Int64) (255 : Int64)).bind fun r1 => chk (isb r1) (some r1)
abbrev rm_X9_isStart : Room := { frames := 1, cells := 0, slots := 0, locals := 25 }
set_option maxHeartbeats 4000000 in
set_option maxRecDepth 20000 in
theorem m_X9_isStart (l : Launch) (D : va_G) (cy : Cy) (q : Nat → Nat) (σ : St) (s : Int32)  : ∀ res, f_X9_isStart s = some res → MetX (vM D cy q) l yX9_isStart cX9_isStart 1 (some .boolean) rm_X9_isStart [.int s] σ (some (.int res), σ) := by
  let fin_ : Int32 → Option Value × St := fun r => (some (.int r), σ)
  have hro : ∀ (z : Int32) (res : Int32), some z = some res → fin_ res = fin_ z := fun z res h => by cases h; rfl
  refine MetX.of1 (fin := fin_) (lv := [(0, .int s)]) (by decide) (Nat.le_of_ble_eq_true rfl) rfl ?_
  unfold f_X9_isStart
  refine g_iload_n (pc := 0) 0 dX9_isStart_0 rfl rfl ?_
  refine g_i2l (pc := 1) dX9_isStart_1 ?_
  refine g_lconst (pc := 2) (0) dX9_isStart_2 (by decide) ?_
  refine g_ldc2 (pc := 3) dX9_isStart_3 kl_X9_160 ?_
  refine gS_i (pc := 6) [.long s.toInt64, .long (0 : Int64), .long (255 : Int64)] [] (m_X9_in l D cy q σ s.toInt64 (0 : Int64) (255 : Int64)) cw_X9_in km_X9_101 ⟨rfl, rfl, by decide, by decide⟩ dX9_isStart_6 rfl rfl (Nat.le_of_ble_eq_true rfl) (fun r1 => ?_)
  exact g_chk fun hb => g_zret (pc := 9) hb (hro _) rfl dX9_isStart_9
def f_X9_run (program : Int32) (start : Int32) (what : Int32) (σ : St) : Option (Int32 × St) := (f_X9_isProgram program).bind fun r1 => (if r1 = (0 : Int32) then some ((-1 : Int32), σ) else (f_X9_isStart start).bind fun r2 => (if r2 = (0 : Int32) then some ((-2 : Int32), σ) else (f_X9_in what.toInt64 (0 : Int64) (3 : Int64)).bind fun r3 => (if r3 = (0 : Int32) then (f_X9_in what.toInt64 (10 : Int64) (33 : Int64)).bind fun r4 => (if r4 = (0 : Int32) then some ((-2 : Int32), σ) else (f_X9_runOne program start (0 : Int32) σ).bind fun s2 => (if what = (0 : Int32) then chk (inb (0 : Int32) 512) (some ((s2.1 9 (0 : Int32).toNatClampNeg), s2)) else (if what = (1 : Int32) then chk (inb (0 : Int32) 512) (some ((s2.1 10 (0 : Int32).toNatClampNeg), s2)) else (if what = (2 : Int32) then chk (inb (0 : Int32) 512) (some ((s2.1 11 (0 : Int32).toNatClampNeg), s2)) else (if what = (3 : Int32) then chk (inb (0 : Int32) 512) (some ((s2.1 12 (0 : Int32).toNatClampNeg), s2)) else chk (inb (0 : Int32) 512) ((if (s2.1 12 (0 : Int32).toNatClampNeg) ≤ (what - (10 : Int32)) then some ((-6 : Int32), s2) else chk (inb (what - (10 : Int32)) 12288) (some ((s2.1 13 (what - (10 : Int32)).toNatClampNeg), s2))))))))) else (f_X9_runOne program start (0 : Int32) σ).bind fun s1 => (if what = (0 : Int32) then chk (inb (0 : Int32) 512) (some ((s1.1 9 (0 : Int32).toNatClampNeg), s1)) else (if what = (1 : Int32) then chk (inb (0 : Int32) 512) (some ((s1.1 10 (0 : Int32).toNatClampNeg), s1)) else (if what = (2 : Int32) then chk (inb (0 : Int32) 512) (some ((s1.1 11 (0 : Int32).toNatClampNeg), s1)) else (if what = (3 : Int32) then chk (inb (0 : Int32) 512) (some ((s1.1 12 (0 : Int32).toNatClampNeg), s1)) else chk (inb (0 : Int32) 512) ((if (s1.1 12 (0 : Int32).toNatClampNeg) ≤ (what - (10 : Int32)) then some ((-6 : Int32), s1) else chk (inb (what - (10 : Int32)) 12288) (some ((s1.1 13 (what - (10 : Int32)).toNatClampNeg), s1)))))))))))
abbrev rm_X9_run : Room := { frames := 4, cells := 0, slots := 0, locals := 99 }
set_option maxHeartbeats 4000000 in
set_option maxRecDepth 20000 in
theorem m_X9_run (l : Launch) (D : va_G) (cy : Cy) (q : Nat → Nat) (σ : St) (program : Int32) (start : Int32) (what : Int32)  : ∀ res, f_X9_run program start what σ = some res → MetX (vM D cy q) l yX9_run cX9_run 4 (some .int) rm_X9_run [.ref (q 0), .int program, .int start, .int what] σ (some (.int res.1), res.2) := by
  let fin_ : (Int32 × St) → Option Value × St := fun r => (some (.int r.1), r.2)
  have hro : ∀ (z : Int32 × St) (res : Int32 × St), some z = some res → fin_ res = fin_ z := fun z res h => by cases h; rfl
  refine MetX.of1 (fin := fin_) (lv := [(0, .ref (q 0)), (1, .int program), (2, .int start), (3, .int what)]) (by decide) (Nat.le_of_ble_eq_true rfl) rfl ?_
  unfold f_X9_run
  refine g_iload_n (pc := 0) 1 dX9_run_0 rfl rfl ?_
  refine gS_i (pc := 1) [.int program] [] (m_X9_isProgram l D cy q σ program) cw_X9_isProgram km_X9_111 ⟨rfl, rfl, by decide, by decide⟩ dX9_run_1 rfl rfl (Nat.le_of_ble_eq_true rfl) (fun r1 => ?_)
  refine g_if_ne (pc := 4) 9 dX9_run_4 (by decide) ?_ ?_
  · refine g_iload_n (pc := 9) 2 dX9_run_9 rfl rfl ?_
    refine gS_i (pc := 10) [.int start] [] (m_X9_isStart l D cy q σ start) cw_X9_isStart km_X9_162 ⟨rfl, rfl, by decide, by decide⟩ dX9_run_10 rfl rfl (Nat.le_of_ble_eq_true rfl) (fun r2 => ?_)
    refine g_if_eq (pc := 13) 42 dX9_run_13 (by decide) ?_ ?_
    · refine g_bipush (pc := 42) (-2) dX9_run_42 (by decide) ?_
      exact g_iret (pc := 44) (hro _) rfl dX9_run_44
    · refine g_iload_n (pc := 16) 3 dX9_run_16 rfl rfl ?_
      refine g_i2l (pc := 17) dX9_run_17 ?_
      refine g_lconst (pc := 18) (0) dX9_run_18 (by decide) ?_
      refine g_ldc2 (pc := 19) dX9_run_19 kl_X9_99 ?_
      refine gS_i (pc := 22) [.long what.toInt64, .long (0 : Int64), .long (3 : Int64)] [] (m_X9_in l D cy q σ what.toInt64 (0 : Int64) (3 : Int64)) cw_X9_in km_X9_101 ⟨rfl, rfl, by decide, by decide⟩ dX9_run_22 rfl rfl (Nat.le_of_ble_eq_true rfl) (fun r3 => ?_)
      refine g_if_ne (pc := 25) 45 dX9_run_25 (by decide) ?_ ?_
      · refine g_aload_n (pc := 45) 0 dX9_run_45 rfl rfl ?_
        refine g_iload_n (pc := 46) 1 dX9_run_46 rfl rfl ?_
        refine g_iload_n (pc := 47) 2 dX9_run_47 rfl rfl ?_
        refine g_iconst (pc := 48) (0) dX9_run_48 (by decide) ?_
        refine gV_v (pc := 49) [.int program, .int start, .int (0 : Int32)] [] (m_X9_runOne l D cy q σ program start (0 : Int32)) cw_X9_runOne km_X9_157 ⟨rfl, rfl, by decide, by decide⟩ (Nat.le_of_ble_eq_true rfl) (eM_9 (cy := cy) (σ.1 0) (σ.2 0)) rfl dX9_run_49 rfl rfl (Nat.le_of_ble_eq_true rfl) (fun s1 => ?_)
        refine g_iload_n (pc := 52) 3 dX9_run_52 rfl rfl ?_
        refine g_if (fun c53_0 => ?_) (fun n53_0 => ?_)
        · refine g_tbl (pc := 53) (0) 84 dX9_run_53 (i32_eq (0) rfl c53_0) (by decide) (by decide) rfl (by decide) ?_
          refine g_aload_n (pc := 84) 0 dX9_run_84 rfl rfl ?_
          refine gf_9_endOf (pc := 85) kf_X9_35 dX9_run_85 ?_
          refine g_iconst (pc := 88) (0) dX9_run_88 (by decide) ?_
          refine a_ild (pc := 89) aM_endOf dX9_run_89 ?_
          exact g_iret (pc := 90) (hro _) rfl dX9_run_90
        · refine g_if (fun c53_1 => ?_) (fun n53_1 => ?_)
          · refine g_tbl (pc := 53) (1) 91 dX9_run_53 (i32_eq (1) rfl c53_1) (by decide) (by decide) rfl (by decide) ?_
            refine g_aload_n (pc := 91) 0 dX9_run_91 rfl rfl ?_
            refine gf_9_memoryOf (pc := 92) kf_X9_38 dX9_run_92 ?_
            refine g_iconst (pc := 95) (0) dX9_run_95 (by decide) ?_
            refine a_ild (pc := 96) aM_memoryOf dX9_run_96 ?_
            exact g_iret (pc := 97) (hro _) rfl dX9_run_97
          · refine g_if (fun c53_2 => ?_) (fun n53_2 => ?_)
            · refine g_tbl (pc := 53) (2) 98 dX9_run_53 (i32_eq (2) rfl c53_2) (by decide) (by decide) rfl (by decide) ?_
              refine g_aload_n (pc := 98) 0 dX9_run_98 rfl rfl ?_
              refine gf_9_stepsOf (pc := 99) kf_X9_41 dX9_run_99 ?_
              refine g_iconst (pc := 102) (0) dX9_run_102 (by decide) ?_
              refine a_ild (pc := 103) aM_stepsOf dX9_run_103 ?_
              exact g_iret (pc := 104) (hro _) rfl dX9_run_104
            · refine g_if (fun c53_3 => ?_) (fun n53_3 => ?_)
              · refine g_tbl (pc := 53) (3) 105 dX9_run_53 (i32_eq (3) rfl c53_3) (by decide) (by decide) rfl (by decide) ?_
                refine g_aload_n (pc := 105) 0 dX9_run_105 rfl rfl ?_
                refine gf_9_shownMany (pc := 106) kf_X9_44 dX9_run_106 ?_
                refine g_iconst (pc := 109) (0) dX9_run_109 (by decide) ?_
                refine a_ild (pc := 110) aM_shownMany dX9_run_110 ?_
                exact g_iret (pc := 111) (hro _) rfl dX9_run_111
              · refine g_tblOut (pc := 53) 112 dX9_run_53 (by have e0 := i32_ne (0) rfl n53_0; have e1 := i32_ne (1) rfl n53_1; have e2 := i32_ne (2) rfl n53_2; have e3 := i32_ne (3) rfl n53_3; omega) (by decide) ?_
                refine g_iload_n (pc := 112) 3 dX9_run_112 rfl rfl ?_
                refine g_bipush (pc := 113) (10) dX9_run_113 (by decide) ?_
                refine g_isub (pc := 115) dX9_run_115 ?_
                refine g_aload_n (pc := 116) 0 dX9_run_116 rfl rfl ?_
                refine gf_9_shownMany (pc := 117) kf_X9_44 dX9_run_117 ?_
                refine g_iconst (pc := 120) (0) dX9_run_120 (by decide) ?_
                refine a_ild (pc := 121) aM_shownMany dX9_run_121 ?_
                refine g_icmp_ge (pc := 122) 137 dX9_run_122 (by decide) ?_ ?_
                · refine g_bipush (pc := 137) (-6) dX9_run_137 (by decide) ?_
                  exact g_iret (pc := 139) (hro _) rfl dX9_run_139
                · refine g_aload_n (pc := 125) 0 dX9_run_125 rfl rfl ?_
                  refine gf_9_shown (pc := 126) kf_X9_47 dX9_run_126 ?_
                  refine g_iload_n (pc := 129) 3 dX9_run_129 rfl rfl ?_
                  refine g_bipush (pc := 130) (10) dX9_run_130 (by decide) ?_
                  refine g_isub (pc := 132) dX9_run_132 ?_
                  refine a_ild (pc := 133) aM_shown dX9_run_133 ?_
                  refine g_goto (pc := 134) 139 dX9_run_134 (by decide) ?_
                  exact g_iret (pc := 139) (hro _) rfl dX9_run_139
      · refine g_iload_n (pc := 28) 3 dX9_run_28 rfl rfl ?_
        refine g_i2l (pc := 29) dX9_run_29 ?_
        refine g_ldc2 (pc := 30) dX9_run_30 kl_X9_165 ?_
        refine g_ldc2 (pc := 33) dX9_run_33 kl_X9_167 ?_
        refine gS_i (pc := 36) [.long what.toInt64, .long (10 : Int64), .long (33 : Int64)] [] (m_X9_in l D cy q σ what.toInt64 (10 : Int64) (33 : Int64)) cw_X9_in km_X9_101 ⟨rfl, rfl, by decide, by decide⟩ dX9_run_36 rfl rfl (Nat.le_of_ble_eq_true rfl) (fun r4 => ?_)
        refine g_if_ne (pc := 39) 45 dX9_run_39 (by decide) ?_ ?_
        · refine g_aload_n (pc := 45) 0 dX9_run_45 rfl rfl ?_
          refine g_iload_n (pc := 46) 1 dX9_run_46 rfl rfl ?_
          refine g_iload_n (pc := 47) 2 dX9_run_47 rfl rfl ?_
          refine g_iconst (pc := 48) (0) dX9_run_48 (by decide) ?_
          refine gV_v (pc := 49) [.int program, .int start, .int (0 : Int32)] [] (m_X9_runOne l D cy q σ program start (0 : Int32)) cw_X9_runOne km_X9_157 ⟨rfl, rfl, by decide, by decide⟩ (Nat.le_of_ble_eq_true rfl) (eM_9 (cy := cy) (σ.1 0) (σ.2 0)) rfl dX9_run_49 rfl rfl (Nat.le_of_ble_eq_true rfl) (fun s2 => ?_)
          refine g_iload_n (pc := 52) 3 dX9_run_52 rfl rfl ?_
          refine g_if (fun c53_0 => ?_) (fun n53_0 => ?_)
          · refine g_tbl (pc := 53) (0) 84 dX9_run_53 (i32_eq (0) rfl c53_0) (by decide) (by decide) rfl (by decide) ?_
            refine g_aload_n (pc := 84) 0 dX9_run_84 rfl rfl ?_
            refine gf_9_endOf (pc := 85) kf_X9_35 dX9_run_85 ?_
            refine g_iconst (pc := 88) (0) dX9_run_88 (by decide) ?_
            refine a_ild (pc := 89) aM_endOf dX9_run_89 ?_
            exact g_iret (pc := 90) (hro _) rfl dX9_run_90
          · refine g_if (fun c53_1 => ?_) (fun n53_1 => ?_)
            · refine g_tbl (pc := 53) (1) 91 dX9_run_53 (i32_eq (1) rfl c53_1) (by decide) (by decide) rfl (by decide) ?_
              refine g_aload_n (pc := 91) 0 dX9_run_91 rfl rfl ?_
              refine gf_9_memoryOf (pc := 92) kf_X9_38 dX9_run_92 ?_
              refine g_iconst (pc := 95) (0) dX9_run_95 (by decide) ?_
              refine a_ild (pc := 96) aM_memoryOf dX9_run_96 ?_
              exact g_iret (pc := 97) (hro _) rfl dX9_run_97
            · refine g_if (fun c53_2 => ?_) (fun n53_2 => ?_)
              · refine g_tbl (pc := 53) (2) 98 dX9_run_53 (i32_eq (2) rfl c53_2) (by decide) (by decide) rfl (by decide) ?_
                refine g_aload_n (pc := 98) 0 dX9_run_98 rfl rfl ?_
                refine gf_9_stepsOf (pc := 99) kf_X9_41 dX9_run_99 ?_
                refine g_iconst (pc := 102) (0) dX9_run_102 (by decide) ?_
                refine a_ild (pc := 103) aM_stepsOf dX9_run_103 ?_
                exact g_iret (pc := 104) (hro _) rfl dX9_run_104
              · refine g_if (fun c53_3 => ?_) (fun n53_3 => ?_)
                · refine g_tbl (pc := 53) (3) 105 dX9_run_53 (i32_eq (3) rfl c53_3) (by decide) (by decide) rfl (by decide) ?_
                  refine g_aload_n (pc := 105) 0 dX9_run_105 rfl rfl ?_
                  refine gf_9_shownMany (pc := 106) kf_X9_44 dX9_run_106 ?_
                  refine g_iconst (pc := 109) (0) dX9_run_109 (by decide) ?_
                  refine a_ild (pc := 110) aM_shownMany dX9_run_110 ?_
                  exact g_iret (pc := 111) (hro _) rfl dX9_run_111
                · refine g_tblOut (pc := 53) 112 dX9_run_53 (by have e0 := i32_ne (0) rfl n53_0; have e1 := i32_ne (1) rfl n53_1; have e2 := i32_ne (2) rfl n53_2; have e3 := i32_ne (3) rfl n53_3; omega) (by decide) ?_
                  refine g_iload_n (pc := 112) 3 dX9_run_112 rfl rfl ?_
                  refine g_bipush (pc := 113) (10) dX9_run_113 (by decide) ?_
                  refine g_isub (pc := 115) dX9_run_115 ?_
                  refine g_aload_n (pc := 116) 0 dX9_run_116 rfl rfl ?_
                  refine gf_9_shownMany (pc := 117) kf_X9_44 dX9_run_117 ?_
                  refine g_iconst (pc := 120) (0) dX9_run_120 (by decide) ?_
                  refine a_ild (pc := 121) aM_shownMany dX9_run_121 ?_
                  refine g_icmp_ge (pc := 122) 137 dX9_run_122 (by decide) ?_ ?_
                  · refine g_bipush (pc := 137) (-6) dX9_run_137 (by decide) ?_
                    exact g_iret (pc := 139) (hro _) rfl dX9_run_139
                  · refine g_aload_n (pc := 125) 0 dX9_run_125 rfl rfl ?_
                    refine gf_9_shown (pc := 126) kf_X9_47 dX9_run_126 ?_
                    refine g_iload_n (pc := 129) 3 dX9_run_129 rfl rfl ?_
                    refine g_bipush (pc := 130) (10) dX9_run_130 (by decide) ?_
                    refine g_isub (pc := 132) dX9_run_132 ?_
                    refine a_ild (pc := 133) aM_shown dX9_run_133 ?_
                    refine g_goto (pc := 134) 139 dX9_run_134 (by decide) ?_
                    exact g_iret (pc := 139) (hro _) rfl dX9_run_139
        · refine g_bipush (pc := 42) (-2) dX9_run_42 (by decide) ?_
          exact g_iret (pc := 44) (hro _) rfl dX9_run_44
  · refine g_iconst (pc := 7) (-1) dX9_run_7 (by decide) ?_
    exact g_iret (pc := 8) (hro _) rfl dX9_run_8
def b_X9_areShownAlike_6 (x : Int32) (y : Int32) (many : Int32) (σ : St) : (Int32 × Int32) → Option ((Int32 × Int32) ⊕ (Int32)) := un fun y1 y2 => (if many ≤ y2 then some (.inr y1) else (if y1 = (0 : Int32) then some (.inr y1) else chk (inb (((24 : Int32) * x) + y2) 12288) (chk (inb (((24 : Int32) * y) + y2) 12288) ((if (σ.1 13 (((24 : Int32) * x) + y2).toNatClampNeg) = (σ.1 13 (((24 : Int32) * y) + y2).toNatClampNeg) then nm (y2 + (1 : Int32)) fun x2 => some (.inl ((1 : Int32), x2)) else nm (y2 + (1 : Int32)) fun x1 => some (.inl ((0 : Int32), x1)))))))
def f_X9_areShownAlike (x : Int32) (y : Int32) (many : Int32) (σ : St) : Option (Int32) := (wh FU (b_X9_areShownAlike_6 x y many σ) ((1 : Int32), (0 : Int32))).bind (fun z1 => chk (isb z1) (some z1))
abbrev rm_X9_areShownAlike : Room := { frames := 0, cells := 0, slots := 0, locals := 0 }
set_option maxHeartbeats 4000000 in
set_option maxRecDepth 20000 in
theorem m_X9_areShownAlike (l : Launch) (D : va_G) (cy : Cy) (q : Nat → Nat) (σ : St) (x : Int32) (y : Int32) (many : Int32)  : ∀ res, f_X9_areShownAlike x y many σ = some res → MetX (vM D cy q) l yX9_areShownAlike cX9_areShownAlike 6 (some .boolean) rm_X9_areShownAlike [.ref (q 0), .int x, .int y, .int many] σ (some (.int res), σ) := by
  let fin_ : Int32 → Option Value × St := fun r => (some (.int r), σ)
  have hro : ∀ (z : Int32) (res : Int32), some z = some res → fin_ res = fin_ z := fun z res h => by cases h; rfl
  refine MetX.of1 (fin := fin_) (lv := [(0, .ref (q 0)), (1, .int x), (2, .int y), (3, .int many)]) (by decide) (Nat.le_of_ble_eq_true rfl) rfl ?_
  unfold f_X9_areShownAlike
  refine g_iconst (pc := 0) (1) dX9_areShownAlike_0 (by decide) ?_
  refine g_istore (pc := 1) (lv' := [(4, .int (1 : Int32)), (0, .ref (q 0)), (1, .int x), (2, .int y), (3, .int many)]) dX9_areShownAlike_1 (Nat.le_of_ble_eq_true rfl) rfl ?_
  refine g_iconst (pc := 3) (0) dX9_areShownAlike_3 (by decide) ?_
  refine g_istore (pc := 4) (lv' := [(5, .int (0 : Int32)), (4, .int (1 : Int32)), (0, .ref (q 0)), (1, .int x), (2, .int y), (3, .int many)]) dX9_areShownAlike_4 (Nat.le_of_ble_eq_true rfl) rfl ?_
  refine g_sub [2, 3, 4, 5, 1, 0] rfl ?_
  refine g_wh2 (pc := 6) (s0 := ((1 : Int32), (0 : Int32))) (fun (w_ : Int32 × Int32) => σ) (fun (w_ : Int32 × Int32) => [(0, .ref (q 0)), (1, .int x), (2, .int y), (3, .int many), (4, .int w_.1), (5, .int w_.2)]) (fun (w_ : Int32) => σ) (fun (w_ : Int32) => [(4, .int w_)]) 57 ?_ ?_
  · rintro z1
    try dsimp only [un, Sum.elim_inl]
    refine g_iload (pc := 57) 0 dX9_areShownAlike_57 rfl ?_
    exact g_chk fun hb => g_zret (pc := 59) hb (hro _) rfl dX9_areShownAlike_59
  · intro K6 hx6 ih6
    rintro ⟨y1, y2⟩
    try dsimp only [b_X9_areShownAlike_6, un]
    refine g_iload (pc := 6) 5 dX9_areShownAlike_6 rfl ?_
    refine g_iload_n (pc := 8) 3 dX9_areShownAlike_8 rfl rfl ?_
    refine g_icmp_ge (pc := 9) 57 dX9_areShownAlike_9 (by decide) ?_ ?_
    · exact g_sub [4] rfl (hx6 y1)
    · refine g_iload (pc := 12) 4 dX9_areShownAlike_12 rfl ?_
      refine g_if_eq (pc := 14) 57 dX9_areShownAlike_14 (by decide) ?_ ?_
      · exact g_sub [4] rfl (hx6 y1)
      · refine g_aload_n (pc := 17) 0 dX9_areShownAlike_17 rfl rfl ?_
        refine gf_9_shown (pc := 18) kf_X9_47 dX9_areShownAlike_18 ?_
        refine g_bipush (pc := 21) (24) dX9_areShownAlike_21 (by decide) ?_
        refine g_iload_n (pc := 23) 1 dX9_areShownAlike_23 rfl rfl ?_
        refine g_imul (pc := 24) dX9_areShownAlike_24 ?_
        refine g_iload (pc := 25) 5 dX9_areShownAlike_25 rfl ?_
        refine g_iadd (pc := 27) dX9_areShownAlike_27 ?_
        refine a_ild (pc := 28) aM_shown dX9_areShownAlike_28 ?_
        refine g_aload_n (pc := 29) 0 dX9_areShownAlike_29 rfl rfl ?_
        refine gf_9_shown (pc := 30) kf_X9_47 dX9_areShownAlike_30 ?_
        refine g_bipush (pc := 33) (24) dX9_areShownAlike_33 (by decide) ?_
        refine g_iload_n (pc := 35) 2 dX9_areShownAlike_35 rfl rfl ?_
        refine g_imul (pc := 36) dX9_areShownAlike_36 ?_
        refine g_iload (pc := 37) 5 dX9_areShownAlike_37 rfl ?_
        refine g_iadd (pc := 39) dX9_areShownAlike_39 ?_
        refine a_ild (pc := 40) aM_shown dX9_areShownAlike_40 ?_
        refine g_icmp_ne (pc := 41) 48 dX9_areShownAlike_41 (by decide) ?_ ?_
        · refine g_iconst (pc := 48) (0) dX9_areShownAlike_48 (by decide) ?_
          refine g_istore (pc := 49) (lv' := [(4, .int (0 : Int32)), (0, .ref (q 0)), (1, .int x), (2, .int y), (3, .int many), (5, .int y2)]) dX9_areShownAlike_49 (Nat.le_of_ble_eq_true rfl) rfl ?_
          refine g_iinc (pc := 51) (j := 5) (1) (lf := fun x1 => [(5, .int x1), (4, .int (0 : Int32)), (0, .ref (q 0)), (1, .int x), (2, .int y), (3, .int many)]) dX9_areShownAlike_51 rfl (by decide) (Nat.le_of_ble_eq_true rfl) (fun _ => rfl) (fun x1 => ?_)
          refine g_goto (pc := 54) 6 dX9_areShownAlike_54 (by decide) ?_
          exact g_sub [2, 3, 4, 5, 1, 0] rfl (ih6 ((0 : Int32), x1))
        · refine g_iconst (pc := 44) (1) dX9_areShownAlike_44 (by decide) ?_
          refine g_goto (pc := 45) 49 dX9_areShownAlike_45 (by decide) ?_
          refine g_istore (pc := 49) (lv' := [(4, .int (1 : Int32)), (0, .ref (q 0)), (1, .int x), (2, .int y), (3, .int many), (5, .int y2)]) dX9_areShownAlike_49 (Nat.le_of_ble_eq_true rfl) rfl ?_
          refine g_iinc (pc := 51) (j := 5) (1) (lf := fun x2 => [(5, .int x2), (4, .int (1 : Int32)), (0, .ref (q 0)), (1, .int x), (2, .int y), (3, .int many)]) dX9_areShownAlike_51 rfl (by decide) (Nat.le_of_ble_eq_true rfl) (fun _ => rfl) (fun x2 => ?_)
          refine g_goto (pc := 54) 6 dX9_areShownAlike_54 (by decide) ?_
          exact g_sub [2, 3, 4, 5, 1, 0] rfl (ih6 ((1 : Int32), x2))
def f_X9_say (sign : Int32) (σ : St) : Option (Int32 × St) := (f_X9_in sign.toInt64 (33 : Int64) (126 : Int64)).bind fun r1 => (if r1 = (0 : Int32) then some ((-2 : Int32), σ) else chk (inb (6 : Int32) 7) ((if (σ.1 15 (6 : Int32).toNatClampNeg) = (40 : Int32) then some ((-4 : Int32), σ) else chk (inb (6 : Int32) 7) (chk (inb ((240 : Int32) + (σ.1 15 (6 : Int32).toNatClampNeg)) 280) (nm (stI σ 14 ((240 : Int32) + (σ.1 15 (6 : Int32).toNatClampNeg)).toNatClampNeg sign) fun s1 => chk (inb (6 : Int32) 7) (chk (inb (6 : Int32) 7) (nm (stI s1 15 (6 : Int32).toNatClampNeg ((s1.1 15 (6 : Int32).toNatClampNeg) + (1 : Int32))) fun s2 => chk (inb (6 : Int32) 7) (some ((s2.1 15 (6 : Int32).toNatClampNeg), s2)))))))))
abbrev rm_X9_say : Room := { frames := 1, cells := 0, slots := 0, locals := 25 }
set_option maxHeartbeats 4000000 in
set_option maxRecDepth 20000 in
theorem m_X9_say (l : Launch) (D : va_G) (cy : Cy) (q : Nat → Nat) (σ : St) (sign : Int32)  : ∀ res, f_X9_say sign σ = some res → MetX (vM D cy q) l yX9_say cX9_say 2 (some .int) rm_X9_say [.ref (q 0), .int sign] σ (some (.int res.1), res.2) := by
  let fin_ : (Int32 × St) → Option Value × St := fun r => (some (.int r.1), r.2)
  have hro : ∀ (z : Int32 × St) (res : Int32 × St), some z = some res → fin_ res = fin_ z := fun z res h => by cases h; rfl
  refine MetX.of1 (fin := fin_) (lv := [(0, .ref (q 0)), (1, .int sign)]) (by decide) (Nat.le_of_ble_eq_true rfl) rfl ?_
  unfold f_X9_say
  refine g_iload_n (pc := 0) 1 dX9_say_0 rfl rfl ?_
  refine g_i2l (pc := 1) dX9_say_1 ?_
  refine g_ldc2 (pc := 2) dX9_say_2 kl_X9_167 ?_
  refine g_ldc2 (pc := 5) dX9_say_5 kl_X9_169 ?_
  refine gS_i (pc := 8) [.long sign.toInt64, .long (33 : Int64), .long (126 : Int64)] [] (m_X9_in l D cy q σ sign.toInt64 (33 : Int64) (126 : Int64)) cw_X9_in km_X9_101 ⟨rfl, rfl, by decide, by decide⟩ dX9_say_8 rfl rfl (Nat.le_of_ble_eq_true rfl) (fun r1 => ?_)
  refine g_if_ne (pc := 11) 17 dX9_say_11 (by decide) ?_ ?_
  · refine g_aload_n (pc := 17) 0 dX9_say_17 rfl rfl ?_
    refine gf_9_signMany (pc := 18) kf_X9_53 dX9_say_18 ?_
    refine g_bipush (pc := 21) (6) dX9_say_21 (by decide) ?_
    refine a_ild (pc := 23) aM_signMany dX9_say_23 ?_
    refine g_bipush (pc := 24) (40) dX9_say_24 (by decide) ?_
    refine g_icmp_ne (pc := 26) 32 dX9_say_26 (by decide) ?_ ?_
    · refine g_aload_n (pc := 32) 0 dX9_say_32 rfl rfl ?_
      refine gf_9_signs (pc := 33) kf_X9_50 dX9_say_33 ?_
      refine g_sipush (pc := 36) (240) dX9_say_36 (by decide) ?_
      refine g_aload_n (pc := 39) 0 dX9_say_39 rfl rfl ?_
      refine gf_9_signMany (pc := 40) kf_X9_53 dX9_say_40 ?_
      refine g_bipush (pc := 43) (6) dX9_say_43 (by decide) ?_
      refine a_ild (pc := 45) aM_signMany dX9_say_45 ?_
      refine g_iadd (pc := 46) dX9_say_46 ?_
      refine g_iload_n (pc := 47) 1 dX9_say_47 rfl rfl ?_
      refine a_ist (pc := 48) aM_signs dX9_say_48 (fun s1 => ?_)
      refine g_aload_n (pc := 49) 0 dX9_say_49 rfl rfl ?_
      refine gf_9_signMany (pc := 50) kf_X9_53 dX9_say_50 ?_
      refine g_bipush (pc := 53) (6) dX9_say_53 (by decide) ?_
      refine g_dup2 (pc := 55) dX9_say_55 rfl rfl ?_
      refine a_ild (pc := 56) aM_signMany dX9_say_56 ?_
      refine g_iconst (pc := 57) (1) dX9_say_57 (by decide) ?_
      refine g_iadd (pc := 58) dX9_say_58 ?_
      refine a_ist (pc := 59) aM_signMany dX9_say_59 (fun s2 => ?_)
      refine g_aload_n (pc := 60) 0 dX9_say_60 rfl rfl ?_
      refine gf_9_signMany (pc := 61) kf_X9_53 dX9_say_61 ?_
      refine g_bipush (pc := 64) (6) dX9_say_64 (by decide) ?_
      refine a_ild (pc := 66) aM_signMany dX9_say_66 ?_
      exact g_iret (pc := 67) (hro _) rfl dX9_say_67
    · refine g_bipush (pc := 29) (-4) dX9_say_29 (by decide) ?_
      exact g_iret (pc := 31) (hro _) rfl dX9_say_31
  · refine g_bipush (pc := 14) (-2) dX9_say_14 (by decide) ?_
    exact g_iret (pc := 16) (hro _) rfl dX9_say_16
def f_X9_wipe (σ : St) : Option (Int32 × St) := chk (inb (6 : Int32) 7) (nm (σ.1 15 (6 : Int32).toNatClampNeg) fun x1 => chk (inb (6 : Int32) 7) (nm (stI σ 15 (6 : Int32).toNatClampNeg (0 : Int32)) fun s1 => some (x1, s1)))
abbrev rm_X9_wipe : Room := { frames := 0, cells := 0, slots := 0, locals := 0 }
set_option maxHeartbeats 4000000 in
set_option maxRecDepth 20000 in
theorem m_X9_wipe (l : Launch) (D : va_G) (cy : Cy) (q : Nat → Nat) (σ : St)  : ∀ res, f_X9_wipe σ = some res → MetX (vM D cy q) l yX9_wipe cX9_wipe 2 (some .int) rm_X9_wipe [.ref (q 0)] σ (some (.int res.1), res.2) := by
  let fin_ : (Int32 × St) → Option Value × St := fun r => (some (.int r.1), r.2)
  have hro : ∀ (z : Int32 × St) (res : Int32 × St), some z = some res → fin_ res = fin_ z := fun z res h => by cases h; rfl
  refine MetX.of1 (fin := fin_) (lv := [(0, .ref (q 0))]) (by decide) (Nat.le_of_ble_eq_true rfl) rfl ?_
  unfold f_X9_wipe
  refine g_aload_n (pc := 0) 0 dX9_wipe_0 rfl rfl ?_
  refine gf_9_signMany (pc := 1) kf_X9_53 dX9_wipe_1 ?_
  refine g_bipush (pc := 4) (6) dX9_wipe_4 (by decide) ?_
  refine a_ild (pc := 6) aM_signMany dX9_wipe_6 ?_
  refine g_nmi (fun x1 => ?_)
  refine g_istore_n (pc := 7) (lv' := [(1, .int x1), (0, .ref (q 0))]) dX9_wipe_7 rfl (Nat.le_of_ble_eq_true rfl) rfl ?_
  refine g_aload_n (pc := 8) 1 dX9_wipe_8 rfl rfl ?_
  refine gf_9_signMany (pc := 9) kf_X9_53 dX9_wipe_9 ?_
  refine g_bipush (pc := 12) (6) dX9_wipe_12 (by decide) ?_
  refine g_iconst (pc := 14) (0) dX9_wipe_14 (by decide) ?_
  refine a_ist (pc := 15) aM_signMany dX9_wipe_15 (fun s1 => ?_)
  refine g_iload_n (pc := 16) 0 dX9_wipe_16 rfl rfl ?_
  exact g_iret (pc := 17) (hro _) rfl dX9_wipe_17
def f_X9_isLetter (c : Int32) : Option (Int32) := (f_X9_in c.toInt64 (97 : Int64) (100 : Int64)).bind fun r1 => chk (isb r1) (some r1)
abbrev rm_X9_isLetter : Room := { frames := 1, cells := 0, slots := 0, locals := 25 }
set_option maxHeartbeats 4000000 in
set_option maxRecDepth 20000 in
theorem m_X9_isLetter (l : Launch) (D : va_G) (cy : Cy) (q : Nat → Nat) (σ : St) (c : Int32)  : ∀ res, f_X9_isLetter c = some res → MetX (vM D cy q) l yX9_isLetter cX9_isLetter 1 (some .boolean) rm_X9_isLetter [.int c] σ (some (.int res), σ) := by
  let fin_ : Int32 → Option Value × St := fun r => (some (.int r), σ)
  have hro : ∀ (z : Int32) (res : Int32), some z = some res → fin_ res = fin_ z := fun z res h => by cases h; rfl
  refine MetX.of1 (fin := fin_) (lv := [(0, .int c)]) (by decide) (Nat.le_of_ble_eq_true rfl) rfl ?_
  unfold f_X9_isLetter
  refine g_iload_n (pc := 0) 0 dX9_isLetter_0 rfl rfl ?_
  refine g_i2l (pc := 1) dX9_isLetter_1 ?_
  refine g_ldc2 (pc := 2) dX9_isLetter_2 kl_X9_171 ?_
  refine g_ldc2 (pc := 5) dX9_isLetter_5 kl_X9_173 ?_
  refine gS_i (pc := 8) [.long c.toInt64, .long (97 : Int64), .long (100 : Int64)] [] (m_X9_in l D cy q σ c.toInt64 (97 : Int64) (100 : Int64)) cw_X9_in km_X9_101 ⟨rfl, rfl, by decide, by decide⟩ dX9_isLetter_8 rfl rfl (Nat.le_of_ble_eq_true rfl) (fun r1 => ?_)
  exact g_chk fun hb => g_zret (pc := 11) hb (hro _) rfl dX9_isLetter_11
def f_X9_isHow (c : Int32) : Option (Int32) := (if c = (61 : Int32) then some (1 : Int32) else (if c = (60 : Int32) then some (1 : Int32) else (if c = (62 : Int32) then some (1 : Int32) else (if c = (35 : Int32) then some (1 : Int32) else some (0 : Int32)))))
abbrev rm_X9_isHow : Room := { frames := 0, cells := 0, slots := 0, locals := 0 }
set_option maxHeartbeats 4000000 in
set_option maxRecDepth 20000 in
theorem m_X9_isHow (l : Launch) (D : va_G) (cy : Cy) (q : Nat → Nat) (σ : St) (c : Int32)  : ∀ res, f_X9_isHow c = some res → MetX (vM D cy q) l yX9_isHow cX9_isHow 1 (some .boolean) rm_X9_isHow [.int c] σ (some (.int res), σ) := by
  let fin_ : Int32 → Option Value × St := fun r => (some (.int r), σ)
  have hro : ∀ (z : Int32) (res : Int32), some z = some res → fin_ res = fin_ z := fun z res h => by cases h; rfl
  refine MetX.of1 (fin := fin_) (lv := [(0, .int c)]) (by decide) (Nat.le_of_ble_eq_true rfl) rfl ?_
  unfold f_X9_isHow
  refine g_iload_n (pc := 0) 0 dX9_isHow_0 rfl rfl ?_
  refine g_bipush (pc := 1) (61) dX9_isHow_1 (by decide) ?_
  refine g_icmp_eq (pc := 3) 24 dX9_isHow_3 (by decide) ?_ ?_
  · refine g_iconst (pc := 24) (1) dX9_isHow_24 (by decide) ?_
    refine g_goto (pc := 25) 29 dX9_isHow_25 (by decide) ?_
    exact g_zret (pc := 29) rfl (hro _) rfl dX9_isHow_29
  · refine g_iload_n (pc := 6) 0 dX9_isHow_6 rfl rfl ?_
    refine g_bipush (pc := 7) (60) dX9_isHow_7 (by decide) ?_
    refine g_icmp_eq (pc := 9) 24 dX9_isHow_9 (by decide) ?_ ?_
    · refine g_iconst (pc := 24) (1) dX9_isHow_24 (by decide) ?_
      refine g_goto (pc := 25) 29 dX9_isHow_25 (by decide) ?_
      exact g_zret (pc := 29) rfl (hro _) rfl dX9_isHow_29
    · refine g_iload_n (pc := 12) 0 dX9_isHow_12 rfl rfl ?_
      refine g_bipush (pc := 13) (62) dX9_isHow_13 (by decide) ?_
      refine g_icmp_eq (pc := 15) 24 dX9_isHow_15 (by decide) ?_ ?_
      · refine g_iconst (pc := 24) (1) dX9_isHow_24 (by decide) ?_
        refine g_goto (pc := 25) 29 dX9_isHow_25 (by decide) ?_
        exact g_zret (pc := 29) rfl (hro _) rfl dX9_isHow_29
      · refine g_iload_n (pc := 18) 0 dX9_isHow_18 rfl rfl ?_
        refine g_bipush (pc := 19) (35) dX9_isHow_19 (by decide) ?_
        refine g_icmp_ne (pc := 21) 28 dX9_isHow_21 (by decide) ?_ ?_
        · refine g_iconst (pc := 28) (0) dX9_isHow_28 (by decide) ?_
          exact g_zret (pc := 29) rfl (hro _) rfl dX9_isHow_29
        · refine g_iconst (pc := 24) (1) dX9_isHow_24 (by decide) ?_
          refine g_goto (pc := 25) 29 dX9_isHow_25 (by decide) ?_
          exact g_zret (pc := 29) rfl (hro _) rfl dX9_isHow_29
def f_X9_isOfEnd (c : Int32) : Option (Int32) := (if c = (101 : Int32) then some (1 : Int32) else (if c = (111 : Int32) then some (1 : Int32) else (if c = (116 : Int32) then some (1 : Int32) else some (0 : Int32))))
abbrev rm_X9_isOfEnd : Room := { frames := 0, cells := 0, slots := 0, locals := 0 }
set_option maxHeartbeats 4000000 in
set_option maxRecDepth 20000 in
theorem m_X9_isOfEnd (l : Launch) (D : va_G) (cy : Cy) (q : Nat → Nat) (σ : St) (c : Int32)  : ∀ res, f_X9_isOfEnd c = some res → MetX (vM D cy q) l yX9_isOfEnd cX9_isOfEnd 1 (some .boolean) rm_X9_isOfEnd [.int c] σ (some (.int res), σ) := by
  let fin_ : Int32 → Option Value × St := fun r => (some (.int r), σ)
  have hro : ∀ (z : Int32) (res : Int32), some z = some res → fin_ res = fin_ z := fun z res h => by cases h; rfl
  refine MetX.of1 (fin := fin_) (lv := [(0, .int c)]) (by decide) (Nat.le_of_ble_eq_true rfl) rfl ?_
  unfold f_X9_isOfEnd
  refine g_iload_n (pc := 0) 0 dX9_isOfEnd_0 rfl rfl ?_
  refine g_bipush (pc := 1) (101) dX9_isOfEnd_1 (by decide) ?_
  refine g_icmp_eq (pc := 3) 18 dX9_isOfEnd_3 (by decide) ?_ ?_
  · refine g_iconst (pc := 18) (1) dX9_isOfEnd_18 (by decide) ?_
    refine g_goto (pc := 19) 23 dX9_isOfEnd_19 (by decide) ?_
    exact g_zret (pc := 23) rfl (hro _) rfl dX9_isOfEnd_23
  · refine g_iload_n (pc := 6) 0 dX9_isOfEnd_6 rfl rfl ?_
    refine g_bipush (pc := 7) (111) dX9_isOfEnd_7 (by decide) ?_
    refine g_icmp_eq (pc := 9) 18 dX9_isOfEnd_9 (by decide) ?_ ?_
    · refine g_iconst (pc := 18) (1) dX9_isOfEnd_18 (by decide) ?_
      refine g_goto (pc := 19) 23 dX9_isOfEnd_19 (by decide) ?_
      exact g_zret (pc := 23) rfl (hro _) rfl dX9_isOfEnd_23
    · refine g_iload_n (pc := 12) 0 dX9_isOfEnd_12 rfl rfl ?_
      refine g_bipush (pc := 13) (116) dX9_isOfEnd_13 (by decide) ?_
      refine g_icmp_ne (pc := 15) 22 dX9_isOfEnd_15 (by decide) ?_ ?_
      · refine g_iconst (pc := 22) (0) dX9_isOfEnd_22 (by decide) ?_
        exact g_zret (pc := 23) rfl (hro _) rfl dX9_isOfEnd_23
      · refine g_iconst (pc := 18) (1) dX9_isOfEnd_18 (by decide) ?_
        refine g_goto (pc := 19) 23 dX9_isOfEnd_19 (by decide) ?_
        exact g_zret (pc := 23) rfl (hro _) rfl dX9_isOfEnd_23
def f_X9_stepOf (state : Int32) (c : Int32) (behind : Int32) : Option (Int32) := (if state = (0 : Int32) then (f_X9_isLetter c).bind fun r1 => (if r1 = (0 : Int32) then (if behind = (0 : Int32) then some (-1 : Int32) else (f_X9_isOfEnd c).bind fun r2 => (if r2 = (0 : Int32) then some (-1 : Int32) else some (3 : Int32))) else some (1 : Int32)) else (if state = (1 : Int32) then (f_X9_isHow c).bind fun r3 => (if r3 = (0 : Int32) then some (-1 : Int32) else some (2 : Int32)) else (if state = (2 : Int32) then (f_X9_isLetter c).bind fun r4 => (if r4 = (0 : Int32) then some (-1 : Int32) else some (3 : Int32)) else (if c = (38 : Int32) then some (0 : Int32) else (if c = (58 : Int32) then (if behind = (0 : Int32) then some (0 : Int32) else some (-1 : Int32)) else some (-1 : Int32))))))
abbrev rm_X9_stepOf : Room := { frames := 2, cells := 0, slots := 0, locals := 45 }
set_option maxHeartbeats 4000000 in
set_option maxRecDepth 20000 in
theorem m_X9_stepOf (l : Launch) (D : va_G) (cy : Cy) (q : Nat → Nat) (σ : St) (state : Int32) (c : Int32) (behind : Int32)  : ∀ res, f_X9_stepOf state c behind = some res → MetX (vM D cy q) l yX9_stepOf cX9_stepOf 3 (some .int) rm_X9_stepOf [.int state, .int c, .int behind] σ (some (.int res), σ) := by
  let fin_ : Int32 → Option Value × St := fun r => (some (.int r), σ)
  have hro : ∀ (z : Int32) (res : Int32), some z = some res → fin_ res = fin_ z := fun z res h => by cases h; rfl
  refine MetX.of1 (fin := fin_) (lv := [(0, .int state), (1, .int c), (2, .int behind)]) (by decide) (Nat.le_of_ble_eq_true rfl) rfl ?_
  unfold f_X9_stepOf
  refine g_iload_n (pc := 0) 0 dX9_stepOf_0 rfl rfl ?_
  refine g_if (fun c1_0 => ?_) (fun n1_0 => ?_)
  · refine g_tbl (pc := 1) (0) 28 dX9_stepOf_1 (i32_eq (0) rfl c1_0) (by decide) (by decide) rfl (by decide) ?_
    refine g_iload_n (pc := 28) 1 dX9_stepOf_28 rfl rfl ?_
    refine gS_i (pc := 29) [.int c] [] (m_X9_isLetter l D cy q σ c) cw_X9_isLetter km_X9_175 ⟨rfl, rfl, by decide, by decide⟩ dX9_stepOf_29 rfl rfl (Nat.le_of_ble_eq_true rfl) (fun r1 => ?_)
    refine g_if_eq (pc := 32) 39 dX9_stepOf_32 (by decide) ?_ ?_
    · refine g_iload_n (pc := 39) 2 dX9_stepOf_39 rfl rfl ?_
      refine g_if_eq (pc := 40) 54 dX9_stepOf_40 (by decide) ?_ ?_
      · refine g_iconst (pc := 54) (-1) dX9_stepOf_54 (by decide) ?_
        exact g_iret (pc := 55) (hro _) rfl dX9_stepOf_55
      · refine g_iload_n (pc := 43) 1 dX9_stepOf_43 rfl rfl ?_
        refine gS_i (pc := 44) [.int c] [] (m_X9_isOfEnd l D cy q σ c) cw_X9_isOfEnd km_X9_178 ⟨rfl, rfl, by decide, by decide⟩ dX9_stepOf_44 rfl rfl (Nat.le_of_ble_eq_true rfl) (fun r2 => ?_)
        refine g_if_eq (pc := 47) 54 dX9_stepOf_47 (by decide) ?_ ?_
        · refine g_iconst (pc := 54) (-1) dX9_stepOf_54 (by decide) ?_
          exact g_iret (pc := 55) (hro _) rfl dX9_stepOf_55
        · refine g_iconst (pc := 50) (3) dX9_stepOf_50 (by decide) ?_
          refine g_goto (pc := 51) 55 dX9_stepOf_51 (by decide) ?_
          exact g_iret (pc := 55) (hro _) rfl dX9_stepOf_55
    · refine g_iconst (pc := 35) (1) dX9_stepOf_35 (by decide) ?_
      refine g_goto (pc := 36) 55 dX9_stepOf_36 (by decide) ?_
      exact g_iret (pc := 55) (hro _) rfl dX9_stepOf_55
  · refine g_if (fun c1_1 => ?_) (fun n1_1 => ?_)
    · refine g_tbl (pc := 1) (1) 56 dX9_stepOf_1 (i32_eq (1) rfl c1_1) (by decide) (by decide) rfl (by decide) ?_
      refine g_iload_n (pc := 56) 1 dX9_stepOf_56 rfl rfl ?_
      refine gS_i (pc := 57) [.int c] [] (m_X9_isHow l D cy q σ c) cw_X9_isHow km_X9_181 ⟨rfl, rfl, by decide, by decide⟩ dX9_stepOf_57 rfl rfl (Nat.le_of_ble_eq_true rfl) (fun r3 => ?_)
      refine g_if_eq (pc := 60) 67 dX9_stepOf_60 (by decide) ?_ ?_
      · refine g_iconst (pc := 67) (-1) dX9_stepOf_67 (by decide) ?_
        exact g_iret (pc := 68) (hro _) rfl dX9_stepOf_68
      · refine g_iconst (pc := 63) (2) dX9_stepOf_63 (by decide) ?_
        refine g_goto (pc := 64) 68 dX9_stepOf_64 (by decide) ?_
        exact g_iret (pc := 68) (hro _) rfl dX9_stepOf_68
    · refine g_if (fun c1_2 => ?_) (fun n1_2 => ?_)
      · refine g_tbl (pc := 1) (2) 69 dX9_stepOf_1 (i32_eq (2) rfl c1_2) (by decide) (by decide) rfl (by decide) ?_
        refine g_iload_n (pc := 69) 1 dX9_stepOf_69 rfl rfl ?_
        refine gS_i (pc := 70) [.int c] [] (m_X9_isLetter l D cy q σ c) cw_X9_isLetter km_X9_175 ⟨rfl, rfl, by decide, by decide⟩ dX9_stepOf_70 rfl rfl (Nat.le_of_ble_eq_true rfl) (fun r4 => ?_)
        refine g_if_eq (pc := 73) 80 dX9_stepOf_73 (by decide) ?_ ?_
        · refine g_iconst (pc := 80) (-1) dX9_stepOf_80 (by decide) ?_
          exact g_iret (pc := 81) (hro _) rfl dX9_stepOf_81
        · refine g_iconst (pc := 76) (3) dX9_stepOf_76 (by decide) ?_
          refine g_goto (pc := 77) 81 dX9_stepOf_77 (by decide) ?_
          exact g_iret (pc := 81) (hro _) rfl dX9_stepOf_81
      · refine g_tblOut (pc := 1) 82 dX9_stepOf_1 (by have e0 := i32_ne (0) rfl n1_0; have e1 := i32_ne (1) rfl n1_1; have e2 := i32_ne (2) rfl n1_2; omega) (by decide) ?_
        refine g_iload_n (pc := 82) 1 dX9_stepOf_82 rfl rfl ?_
        refine g_bipush (pc := 83) (38) dX9_stepOf_83 (by decide) ?_
        refine g_icmp_eq (pc := 85) 98 dX9_stepOf_85 (by decide) ?_ ?_
        · refine g_iconst (pc := 98) (0) dX9_stepOf_98 (by decide) ?_
          refine g_goto (pc := 99) 103 dX9_stepOf_99 (by decide) ?_
          exact g_iret (pc := 103) (hro _) rfl dX9_stepOf_103
        · refine g_iload_n (pc := 88) 1 dX9_stepOf_88 rfl rfl ?_
          refine g_bipush (pc := 89) (58) dX9_stepOf_89 (by decide) ?_
          refine g_icmp_ne (pc := 91) 102 dX9_stepOf_91 (by decide) ?_ ?_
          · refine g_iconst (pc := 102) (-1) dX9_stepOf_102 (by decide) ?_
            exact g_iret (pc := 103) (hro _) rfl dX9_stepOf_103
          · refine g_iload_n (pc := 94) 2 dX9_stepOf_94 rfl rfl ?_
            refine g_if_ne (pc := 95) 102 dX9_stepOf_95 (by decide) ?_ ?_
            · refine g_iconst (pc := 102) (-1) dX9_stepOf_102 (by decide) ?_
              exact g_iret (pc := 103) (hro _) rfl dX9_stepOf_103
            · refine g_iconst (pc := 98) (0) dX9_stepOf_98 (by decide) ?_
              refine g_goto (pc := 99) 103 dX9_stepOf_99 (by decide) ?_
              exact g_iret (pc := 103) (hro _) rfl dX9_stepOf_103
