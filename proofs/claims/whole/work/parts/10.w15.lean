def f_X9_come (one : Int32) (two : Int32) (memory : Int32) (σ : St) : Option (St) := nm (((256 : Int32) * (((13 : Int32) * one) + two)) + memory) fun x1 => chk (inb x1 43264) ((if (σ.1 21 x1.toNatClampNeg) = (0 : Int32) then chk (inb x1 43264) (nm (stI σ 21 x1.toNatClampNeg (1 : Int32)) fun s1 => chk (inb (s1.1 0 46) 43264) (nm (stI s1 22 (s1.1 0 46).toNatClampNeg x1) fun s2 => nm (stI s2 0 46 ((s2.1 0 46) + (1 : Int32))) fun s3 => some s3)) else some σ))
abbrev rm_X9_come : Room := { frames := 0, cells := 0, slots := 0, locals := 0 }
set_option maxHeartbeats 4000000 in
set_option maxRecDepth 20000 in
theorem m_X9_come (l : Launch) (D : va_G) (cy : Cy) (q : Nat → Nat) (σ : St) (one : Int32) (two : Int32) (memory : Int32)  : ∀ res, f_X9_come one two memory σ = some res → MetX (vM D cy q) l yX9_come cX9_come 5 none rm_X9_come [.ref (q 0), .int one, .int two, .int memory] σ (none, res) := by
  let fin_ : St → Option Value × St := fun r => (none, r)
  have hro : ∀ (z : St) (res : St), some z = some res → fin_ res = fin_ z := fun z res h => by cases h; rfl
  refine MetX.of1 (fin := fin_) (lv := [(0, .ref (q 0)), (1, .int one), (2, .int two), (3, .int memory)]) (by decide) (Nat.le_of_ble_eq_true rfl) rfl ?_
  unfold f_X9_come
  refine g_sipush (pc := 0) (256) dX9_come_0 (by decide) ?_
  refine g_bipush (pc := 3) (13) dX9_come_3 (by decide) ?_
  refine g_iload_n (pc := 5) 1 dX9_come_5 rfl rfl ?_
  refine g_imul (pc := 6) dX9_come_6 ?_
  refine g_iload_n (pc := 7) 2 dX9_come_7 rfl rfl ?_
  refine g_iadd (pc := 8) dX9_come_8 ?_
  refine g_imul (pc := 9) dX9_come_9 ?_
  refine g_iload_n (pc := 10) 3 dX9_come_10 rfl rfl ?_
  refine g_iadd (pc := 11) dX9_come_11 ?_
  refine g_nmi (fun x1 => ?_)
  refine g_istore (pc := 12) (lv' := [(4, .int x1), (0, .ref (q 0)), (1, .int one), (2, .int two), (3, .int memory)]) dX9_come_12 (Nat.le_of_ble_eq_true rfl) rfl ?_
  refine g_aload_n (pc := 14) 1 dX9_come_14 rfl rfl ?_
  refine gf_9_wasThere (pc := 15) kf_X9_83 dX9_come_15 ?_
  refine g_iload (pc := 18) 0 dX9_come_18 rfl ?_
  refine a_zld (pc := 20) aM_wasThere dX9_come_20 ?_
  refine g_if_ne (pc := 21) 53 dX9_come_21 (by decide) ?_ ?_
  · exact g_vret (pc := 53) (hro _) rfl dX9_come_53
  · refine g_aload_n (pc := 24) 1 dX9_come_24 rfl rfl ?_
    refine gf_9_wasThere (pc := 25) kf_X9_83 dX9_come_25 ?_
    refine g_iload (pc := 28) 0 dX9_come_28 rfl ?_
    refine g_iconst (pc := 30) (1) dX9_come_30 (by decide) ?_
    refine a_zst (pc := 31) aM_wasThere (by decide) dX9_come_31 (fun s1 => ?_)
    refine g_aload_n (pc := 32) 1 dX9_come_32 rfl rfl ?_
    refine gf_9_waiting (pc := 33) kf_X9_86 dX9_come_33 ?_
    refine g_aload_n (pc := 36) 1 dX9_come_36 rfl rfl ?_
    refine gf_9_waitingMany (pc := 37) kf_X9_322 dX9_come_37 ?_
    refine g_iload (pc := 40) 0 dX9_come_40 rfl ?_
    refine a_ist (pc := 42) aM_waiting dX9_come_42 (fun s2 => ?_)
    refine g_aload_n (pc := 43) 1 dX9_come_43 rfl rfl ?_
    refine g_dup (pc := 44) dX9_come_44 rfl ?_
    refine gf_9_waitingMany (pc := 45) kf_X9_322 dX9_come_45 ?_
    refine g_iconst (pc := 48) (1) dX9_come_48 (by decide) ?_
    refine g_iadd (pc := 49) dX9_come_49 ?_
    refine gp_9_waitingMany (pc := 50) kf_X9_322 dX9_come_50 (fun s3 => ?_)
    exact g_vret (pc := 53) (hro _) rfl dX9_come_53
def b_X9_findOrders_13 : (Int32 × St) → Option ((Int32 × St) ⊕ (St)) := un fun y1 s3 => (if (43264 : Int32) ≤ y1 then some (.inr s3) else chk (inb y1 43264) (nm (stI s3 21 y1.toNatClampNeg (0 : Int32)) fun s4 => nm (y1 + (1 : Int32)) fun x1 => some (.inl (x1, s4))))
def b_X9_findOrders_59 (p : Int32) (q_ : Int32) : (Int32 × St) → Option ((Int32 × St) ⊕ (St)) := un fun y2 s8 => (if (s8.1 0 46) ≤ y2 then some (.inr s8) else chk (inb y2 43264) (chk (nz (256 : Int32)) (chk (nz (13 : Int32)) (nm (((s8.1 22 y2.toNatClampNeg) / (256 : Int32)) / (13 : Int32)) fun x2 => chk (inb y2 43264) (chk (nz (256 : Int32)) (chk (nz (13 : Int32)) (nm (((s8.1 22 y2.toNatClampNeg) / (256 : Int32)) - ((s8.1 22 y2.toNatClampNeg) / (256 : Int32)) / (13 : Int32) * (13 : Int32)) fun x3 => chk (inb y2 43264) (chk (nz (256 : Int32)) (nm ((s8.1 22 y2.toNatClampNeg) - (s8.1 22 y2.toNatClampNeg) / (256 : Int32) * (256 : Int32)) fun x4 => (if (12 : Int32) ≤ x2 then (if (12 : Int32) ≤ x3 then nm (y2 + (1 : Int32)) fun x5 => some (.inl (x5, s8)) else (f_X9_step q_ x3 x4 s8).bind fun s9 => (f_X9_come x2 (s9.1 0 9) (s9.1 0 10) s9).bind fun s10 => nm (y2 + (1 : Int32)) fun x6 => some (.inl (x6, s10))) else (f_X9_step p x2 x4 s8).bind fun s11 => (f_X9_come (s11.1 0 9) x3 (s11.1 0 10) s11).bind fun s12 => (if (12 : Int32) ≤ x3 then nm (y2 + (1 : Int32)) fun x7 => some (.inl (x7, s12)) else (f_X9_step q_ x3 x4 s12).bind fun s13 => (f_X9_come x2 (s13.1 0 9) (s13.1 0 10) s13).bind fun s14 => nm (y2 + (1 : Int32)) fun x8 => some (.inl (x8, s14)))))))))))))
def f_X9_findOrders (p : Int32) (q_ : Int32) (memory : Int32) (σ : St) : Option (St) := (f_X9_layTable p σ).bind fun s1 => (f_X9_layTable q_ s1).bind fun s2 => (wh FU b_X9_findOrders_13 ((0 : Int32), s2)).bind (fun s5 => nm (stI s5 0 46 (0 : Int32)) fun s6 => (f_X9_held p (0 : Int32) s6).bind fun r1 => (f_X9_held q_ (0 : Int32) s6).bind fun r2 => (f_X9_come r1 r2 memory s6).bind fun s7 => (wh FU (b_X9_findOrders_59 p q_) ((0 : Int32), s7)).bind (fun s15 => some s15))
abbrev rm_X9_findOrders : Room := { frames := 3, cells := 0, slots := 0, locals := 72 }
set_option maxHeartbeats 4000000 in
set_option maxRecDepth 20000 in
theorem m_X9_findOrders (l : Launch) (D : va_G) (cy : Cy) (q : Nat → Nat) (σ : St) (p : Int32) (q_ : Int32) (memory : Int32)  : ∀ res, f_X9_findOrders p q_ memory σ = some res → MetX (vM D cy q) l yX9_findOrders cX9_findOrders 8 none rm_X9_findOrders [.ref (q 0), .int p, .int q_, .int memory] σ (none, res) := by
  let fin_ : St → Option Value × St := fun r => (none, r)
  have hro : ∀ (z : St) (res : St), some z = some res → fin_ res = fin_ z := fun z res h => by cases h; rfl
  refine MetX.of1 (fin := fin_) (lv := [(0, .ref (q 0)), (1, .int p), (2, .int q_), (3, .int memory)]) (by decide) (Nat.le_of_ble_eq_true rfl) rfl ?_
  unfold f_X9_findOrders
  refine g_aload_n (pc := 0) 0 dX9_findOrders_0 rfl rfl ?_
  refine g_iload_n (pc := 1) 1 dX9_findOrders_1 rfl rfl ?_
  refine gV_v (pc := 2) [.int p] [] (m_X9_layTable l D cy q σ p) cw_X9_layTable km_X9_151 ⟨rfl, rfl, by decide, by decide⟩ (Nat.le_of_ble_eq_true rfl) (eM_9 (cy := cy) (σ.1 0) (σ.2 0)) rfl dX9_findOrders_2 rfl rfl (Nat.le_of_ble_eq_true rfl) (fun s1 => ?_)
  refine g_aload_n (pc := 5) 0 dX9_findOrders_5 rfl rfl ?_
  refine g_iload_n (pc := 6) 2 dX9_findOrders_6 rfl rfl ?_
  refine gV_v (pc := 7) [.int q_] [] (m_X9_layTable l D cy q s1 q_) cw_X9_layTable km_X9_151 ⟨rfl, rfl, by decide, by decide⟩ (Nat.le_of_ble_eq_true rfl) (eM_9 (cy := cy) (s1.1 0) (s1.2 0)) rfl dX9_findOrders_7 rfl rfl (Nat.le_of_ble_eq_true rfl) (fun s2 => ?_)
  refine g_iconst (pc := 10) (0) dX9_findOrders_10 (by decide) ?_
  refine g_istore (pc := 11) (lv' := [(4, .int (0 : Int32)), (0, .ref (q 0)), (1, .int p), (2, .int q_), (3, .int memory)]) dX9_findOrders_11 (Nat.le_of_ble_eq_true rfl) rfl ?_
  refine g_sub [1, 2, 3, 4, 0] rfl ?_
  refine g_wh2 (pc := 13) (s0 := ((0 : Int32), s2)) (fun (w_ : Int32 × St) => w_.2) (fun (w_ : Int32 × St) => [(0, .ref (q 0)), (1, .int p), (2, .int q_), (3, .int memory), (4, .int w_.1)]) (fun (w_ : St) => w_) (fun (w_ : St) => [(0, .ref (q 0)), (1, .int p), (2, .int q_), (3, .int memory)]) 34 ?_ ?_
  · rintro s5
    try dsimp only [un, Sum.elim_inl]
    refine g_aload_n (pc := 34) 0 dX9_findOrders_34 rfl rfl ?_
    refine g_iconst (pc := 35) (0) dX9_findOrders_35 (by decide) ?_
    refine gp_9_waitingMany (pc := 36) kf_X9_322 dX9_findOrders_36 (fun s6 => ?_)
    refine g_aload_n (pc := 39) 0 dX9_findOrders_39 rfl rfl ?_
    refine g_aload_n (pc := 40) 0 dX9_findOrders_40 rfl rfl ?_
    refine g_iload_n (pc := 41) 1 dX9_findOrders_41 rfl rfl ?_
    refine g_iconst (pc := 42) (0) dX9_findOrders_42 (by decide) ?_
    refine gV_i (pc := 43) [.int p, .int (0 : Int32)] [.ref (q 0)] (m_X9_held l D cy q s6 p (0 : Int32)) cw_X9_held km_X9_134 ⟨rfl, rfl, by decide, by decide⟩ (Nat.le_of_ble_eq_true rfl) (eM_9 (cy := cy) (s6.1 0) (s6.2 0)) rfl dX9_findOrders_43 rfl rfl (Nat.le_of_ble_eq_true rfl) (fun r1 => ?_)
    refine g_aload_n (pc := 46) 0 dX9_findOrders_46 rfl rfl ?_
    refine g_iload_n (pc := 47) 2 dX9_findOrders_47 rfl rfl ?_
    refine g_iconst (pc := 48) (0) dX9_findOrders_48 (by decide) ?_
    refine gV_i (pc := 49) [.int q_, .int (0 : Int32)] [.int r1, .ref (q 0)] (m_X9_held l D cy q s6 q_ (0 : Int32)) cw_X9_held km_X9_134 ⟨rfl, rfl, by decide, by decide⟩ (Nat.le_of_ble_eq_true rfl) (eM_9 (cy := cy) (s6.1 0) (s6.2 0)) rfl dX9_findOrders_49 rfl rfl (Nat.le_of_ble_eq_true rfl) (fun r2 => ?_)
    refine g_iload_n (pc := 52) 3 dX9_findOrders_52 rfl rfl ?_
    refine gV_v (pc := 53) [.int r1, .int r2, .int memory] [] (m_X9_come l D cy q s6 r1 r2 memory) cw_X9_come km_X9_325 ⟨rfl, rfl, by decide, by decide⟩ (Nat.le_of_ble_eq_true rfl) (eM_9 (cy := cy) (s6.1 0) (s6.2 0)) rfl dX9_findOrders_53 rfl rfl (Nat.le_of_ble_eq_true rfl) (fun s7 => ?_)
    refine g_iconst (pc := 56) (0) dX9_findOrders_56 (by decide) ?_
    refine g_istore (pc := 57) (lv' := [(4, .int (0 : Int32)), (0, .ref (q 0)), (1, .int p), (2, .int q_), (3, .int memory)]) dX9_findOrders_57 (Nat.le_of_ble_eq_true rfl) rfl ?_
    refine g_sub [1, 2, 3, 0] rfl ?_
    refine g_wh2 (pc := 59) (s0 := ((0 : Int32), s7)) (fun (w_ : Int32 × St) => w_.2) (fun (w_ : Int32 × St) => [(0, .ref (q 0)), (1, .int p), (2, .int q_), (4, .int w_.1)]) (fun (w_ : St) => w_) (fun (w_ : St) => []) 179 ?_ ?_
    · rintro s15
      try dsimp only [un, Sum.elim_inl]
      exact g_vret (pc := 179) (hro _) rfl dX9_findOrders_179
    · intro K59 hx59 ih59
      rintro ⟨y2, s8⟩
      try dsimp only [b_X9_findOrders_59, un]
      refine g_iload (pc := 59) 3 dX9_findOrders_59 rfl ?_
      refine g_aload_n (pc := 61) 0 dX9_findOrders_61 rfl rfl ?_
      refine gf_9_waitingMany (pc := 62) kf_X9_322 dX9_findOrders_62 ?_
      refine g_icmp_ge (pc := 65) 179 dX9_findOrders_65 (by decide) ?_ ?_
      · exact g_sub [] rfl (hx59 s8)
      · refine g_aload_n (pc := 68) 0 dX9_findOrders_68 rfl rfl ?_
        refine gf_9_waiting (pc := 69) kf_X9_86 dX9_findOrders_69 ?_
        refine g_iload (pc := 72) 3 dX9_findOrders_72 rfl ?_
        refine a_ild (pc := 74) aM_waiting dX9_findOrders_74 ?_
        refine g_sipush (pc := 75) (256) dX9_findOrders_75 (by decide) ?_
        refine g_idiv (pc := 78) dX9_findOrders_78 ?_
        refine g_bipush (pc := 79) (13) dX9_findOrders_79 (by decide) ?_
        refine g_idiv (pc := 81) dX9_findOrders_81 ?_
        refine g_nmi (fun x2 => ?_)
        refine g_istore (pc := 82) (lv' := [(5, .int x2), (0, .ref (q 0)), (1, .int p), (2, .int q_), (4, .int y2)]) dX9_findOrders_82 (Nat.le_of_ble_eq_true rfl) rfl ?_
        refine g_aload_n (pc := 84) 1 dX9_findOrders_84 rfl rfl ?_
        refine gf_9_waiting (pc := 85) kf_X9_86 dX9_findOrders_85 ?_
        refine g_iload (pc := 88) 4 dX9_findOrders_88 rfl ?_
        refine a_ild (pc := 90) aM_waiting dX9_findOrders_90 ?_
        refine g_sipush (pc := 91) (256) dX9_findOrders_91 (by decide) ?_
        refine g_idiv (pc := 94) dX9_findOrders_94 ?_
        refine g_bipush (pc := 95) (13) dX9_findOrders_95 (by decide) ?_
        refine g_irem (pc := 97) dX9_findOrders_97 ?_
        refine g_nmi (fun x3 => ?_)
        refine g_istore (pc := 98) (lv' := [(6, .int x3), (5, .int x2), (0, .ref (q 0)), (1, .int p), (2, .int q_), (4, .int y2)]) dX9_findOrders_98 (Nat.le_of_ble_eq_true rfl) rfl ?_
        refine g_aload_n (pc := 100) 2 dX9_findOrders_100 rfl rfl ?_
        refine gf_9_waiting (pc := 101) kf_X9_86 dX9_findOrders_101 ?_
        refine g_iload (pc := 104) 5 dX9_findOrders_104 rfl ?_
        refine a_ild (pc := 106) aM_waiting dX9_findOrders_106 ?_
        refine g_sipush (pc := 107) (256) dX9_findOrders_107 (by decide) ?_
        refine g_irem (pc := 110) dX9_findOrders_110 ?_
        refine g_nmi (fun x4 => ?_)
        refine g_istore (pc := 111) (lv' := [(7, .int x4), (6, .int x3), (5, .int x2), (0, .ref (q 0)), (1, .int p), (2, .int q_), (4, .int y2)]) dX9_findOrders_111 (Nat.le_of_ble_eq_true rfl) rfl ?_
        refine g_iload (pc := 113) 2 dX9_findOrders_113 rfl ?_
        refine g_bipush (pc := 115) (12) dX9_findOrders_115 (by decide) ?_
        refine g_icmp_ge (pc := 117) 143 dX9_findOrders_117 (by decide) ?_ ?_
        · refine g_iload (pc := 143) 1 dX9_findOrders_143 rfl ?_
          refine g_bipush (pc := 145) (12) dX9_findOrders_145 (by decide) ?_
          refine g_icmp_ge (pc := 147) 173 dX9_findOrders_147 (by decide) ?_ ?_
          · refine g_iinc (pc := 173) (j := 6) (1) (lf := fun x5 => [(4, .int x5), (7, .int x4), (6, .int x3), (5, .int x2), (0, .ref (q 0)), (1, .int p), (2, .int q_)]) dX9_findOrders_173 rfl (by decide) (Nat.le_of_ble_eq_true rfl) (fun _ => rfl) (fun x5 => ?_)
            refine g_goto (pc := 176) 59 dX9_findOrders_176 (by decide) ?_
            exact g_sub [4, 5, 6, 0] rfl (ih59 (x5, s8))
          · refine g_aload_n (pc := 150) 3 dX9_findOrders_150 rfl rfl ?_
            refine g_iload_n (pc := 151) 5 dX9_findOrders_151 rfl rfl ?_
            refine g_iload (pc := 152) 1 dX9_findOrders_152 rfl ?_
            refine g_iload (pc := 154) 0 dX9_findOrders_154 rfl ?_
            refine gV_v (pc := 156) [.int q_, .int x3, .int x4] [] (m_X9_step l D cy q s8 q_ x3 x4) cw_X9_step km_X9_154 ⟨rfl, rfl, by decide, by decide⟩ (Nat.le_of_ble_eq_true rfl) (eM_9 (cy := cy) (s8.1 0) (s8.2 0)) rfl dX9_findOrders_156 rfl rfl (Nat.le_of_ble_eq_true rfl) (fun s9 => ?_)
            refine g_aload_n (pc := 159) 3 dX9_findOrders_159 rfl rfl ?_
            refine g_iload (pc := 160) 2 dX9_findOrders_160 rfl ?_
            refine g_aload_n (pc := 162) 3 dX9_findOrders_162 rfl rfl ?_
            refine gf_9_nextLine (pc := 163) kf_X9_137 dX9_findOrders_163 ?_
            refine g_aload_n (pc := 166) 3 dX9_findOrders_166 rfl rfl ?_
            refine gf_9_nextMemory (pc := 167) kf_X9_131 dX9_findOrders_167 ?_
            refine gV_v (pc := 170) [.int x2, .int (s9.1 0 9), .int (s9.1 0 10)] [] (m_X9_come l D cy q s9 x2 (s9.1 0 9) (s9.1 0 10)) cw_X9_come km_X9_325 ⟨rfl, rfl, by decide, by decide⟩ (Nat.le_of_ble_eq_true rfl) (eM_9 (cy := cy) (s9.1 0) (s9.2 0)) rfl dX9_findOrders_170 rfl rfl (Nat.le_of_ble_eq_true rfl) (fun s10 => ?_)
            refine g_iinc (pc := 173) (j := 6) (1) (lf := fun x6 => [(4, .int x6), (7, .int x4), (6, .int x3), (5, .int x2), (0, .ref (q 0)), (1, .int p), (2, .int q_)]) dX9_findOrders_173 rfl (by decide) (Nat.le_of_ble_eq_true rfl) (fun _ => rfl) (fun x6 => ?_)
            refine g_goto (pc := 176) 59 dX9_findOrders_176 (by decide) ?_
            exact g_sub [4, 5, 6, 0] rfl (ih59 (x6, s10))
        · refine g_aload_n (pc := 120) 3 dX9_findOrders_120 rfl rfl ?_
          refine g_iload_n (pc := 121) 4 dX9_findOrders_121 rfl rfl ?_
          refine g_iload (pc := 122) 2 dX9_findOrders_122 rfl ?_
          refine g_iload (pc := 124) 0 dX9_findOrders_124 rfl ?_
          refine gV_v (pc := 126) [.int p, .int x2, .int x4] [] (m_X9_step l D cy q s8 p x2 x4) cw_X9_step km_X9_154 ⟨rfl, rfl, by decide, by decide⟩ (Nat.le_of_ble_eq_true rfl) (eM_9 (cy := cy) (s8.1 0) (s8.2 0)) rfl dX9_findOrders_126 rfl rfl (Nat.le_of_ble_eq_true rfl) (fun s11 => ?_)
          refine g_aload_n (pc := 129) 3 dX9_findOrders_129 rfl rfl ?_
          refine g_aload_n (pc := 130) 3 dX9_findOrders_130 rfl rfl ?_
          refine gf_9_nextLine (pc := 131) kf_X9_137 dX9_findOrders_131 ?_
          refine g_iload (pc := 134) 1 dX9_findOrders_134 rfl ?_
          refine g_aload_n (pc := 136) 3 dX9_findOrders_136 rfl rfl ?_
          refine gf_9_nextMemory (pc := 137) kf_X9_131 dX9_findOrders_137 ?_
          refine gV_v (pc := 140) [.int (s11.1 0 9), .int x3, .int (s11.1 0 10)] [] (m_X9_come l D cy q s11 (s11.1 0 9) x3 (s11.1 0 10)) cw_X9_come km_X9_325 ⟨rfl, rfl, by decide, by decide⟩ (Nat.le_of_ble_eq_true rfl) (eM_9 (cy := cy) (s11.1 0) (s11.2 0)) rfl dX9_findOrders_140 rfl rfl (Nat.le_of_ble_eq_true rfl) (fun s12 => ?_)
          refine g_iload (pc := 143) 1 dX9_findOrders_143 rfl ?_
          refine g_bipush (pc := 145) (12) dX9_findOrders_145 (by decide) ?_
          refine g_icmp_ge (pc := 147) 173 dX9_findOrders_147 (by decide) ?_ ?_
          · refine g_iinc (pc := 173) (j := 6) (1) (lf := fun x7 => [(4, .int x7), (7, .int x4), (6, .int x3), (5, .int x2), (0, .ref (q 0)), (1, .int p), (2, .int q_)]) dX9_findOrders_173 rfl (by decide) (Nat.le_of_ble_eq_true rfl) (fun _ => rfl) (fun x7 => ?_)
            refine g_goto (pc := 176) 59 dX9_findOrders_176 (by decide) ?_
            exact g_sub [4, 5, 6, 0] rfl (ih59 (x7, s12))
          · refine g_aload_n (pc := 150) 3 dX9_findOrders_150 rfl rfl ?_
            refine g_iload_n (pc := 151) 5 dX9_findOrders_151 rfl rfl ?_
            refine g_iload (pc := 152) 1 dX9_findOrders_152 rfl ?_
            refine g_iload (pc := 154) 0 dX9_findOrders_154 rfl ?_
            refine gV_v (pc := 156) [.int q_, .int x3, .int x4] [] (m_X9_step l D cy q s12 q_ x3 x4) cw_X9_step km_X9_154 ⟨rfl, rfl, by decide, by decide⟩ (Nat.le_of_ble_eq_true rfl) (eM_9 (cy := cy) (s12.1 0) (s12.2 0)) rfl dX9_findOrders_156 rfl rfl (Nat.le_of_ble_eq_true rfl) (fun s13 => ?_)
            refine g_aload_n (pc := 159) 3 dX9_findOrders_159 rfl rfl ?_
            refine g_iload (pc := 160) 2 dX9_findOrders_160 rfl ?_
            refine g_aload_n (pc := 162) 3 dX9_findOrders_162 rfl rfl ?_
            refine gf_9_nextLine (pc := 163) kf_X9_137 dX9_findOrders_163 ?_
            refine g_aload_n (pc := 166) 3 dX9_findOrders_166 rfl rfl ?_
            refine gf_9_nextMemory (pc := 167) kf_X9_131 dX9_findOrders_167 ?_
            refine gV_v (pc := 170) [.int x2, .int (s13.1 0 9), .int (s13.1 0 10)] [] (m_X9_come l D cy q s13 x2 (s13.1 0 9) (s13.1 0 10)) cw_X9_come km_X9_325 ⟨rfl, rfl, by decide, by decide⟩ (Nat.le_of_ble_eq_true rfl) (eM_9 (cy := cy) (s13.1 0) (s13.2 0)) rfl dX9_findOrders_170 rfl rfl (Nat.le_of_ble_eq_true rfl) (fun s14 => ?_)
            refine g_iinc (pc := 173) (j := 6) (1) (lf := fun x8 => [(4, .int x8), (7, .int x4), (6, .int x3), (5, .int x2), (0, .ref (q 0)), (1, .int p), (2, .int q_)]) dX9_findOrders_173 rfl (by decide) (Nat.le_of_ble_eq_true rfl) (fun _ => rfl) (fun x8 => ?_)
            refine g_goto (pc := 176) 59 dX9_findOrders_176 (by decide) ?_
            exact g_sub [4, 5, 6, 0] rfl (ih59 (x8, s14))
  · intro K13 hx13 ih13
    rintro ⟨y1, s3⟩
    try dsimp only [b_X9_findOrders_13, un]
    refine g_iload (pc := 13) 4 dX9_findOrders_13 rfl ?_
    refine g_ldc (pc := 15) dX9_findOrders_15 ki_X9_82 ?_
    refine g_icmp_ge (pc := 17) 34 dX9_findOrders_17 (by decide) ?_ ?_
    · exact g_sub [0, 1, 2, 3] rfl (hx13 s3)
    · refine g_aload_n (pc := 20) 0 dX9_findOrders_20 rfl rfl ?_
      refine gf_9_wasThere (pc := 21) kf_X9_83 dX9_findOrders_21 ?_
      refine g_iload (pc := 24) 4 dX9_findOrders_24 rfl ?_
      refine g_iconst (pc := 26) (0) dX9_findOrders_26 (by decide) ?_
      refine a_zst (pc := 27) aM_wasThere (by decide) dX9_findOrders_27 (fun s4 => ?_)
      refine g_iinc (pc := 28) (j := 4) (1) (lf := fun x1 => [(4, .int x1), (0, .ref (q 0)), (1, .int p), (2, .int q_), (3, .int memory)]) dX9_findOrders_28 rfl (by decide) (Nat.le_of_ble_eq_true rfl) (fun _ => rfl) (fun x1 => ?_)
      refine g_goto (pc := 31) 13 dX9_findOrders_31 (by decide) ?_
      exact g_sub [1, 2, 3, 4, 0] rfl (ih13 (x1, s4))
def b_X9_orders_105 (s1 : St) : (Int32 × Int32 × Int32) → Option ((Int32 × Int32 × Int32) ⊕ (Int32 × Int32)) := un fun y1 => un fun y2 y3 => (if y3 < (0 : Int32) then some (.inr (y1, y2)) else chk (inb ((43008 : Int32) + y3) 43264) ((if (s1.1 21 ((43008 : Int32) + y3).toNatClampNeg) = (0 : Int32) then chk (inb ((43008 : Int32) + y3) 43264) ((if (s1.1 21 ((43008 : Int32) + y3).toNatClampNeg) = (0 : Int32) then nm (y1 + (0 : Int32)) fun x1 => nm (y3 + (-1 : Int32)) fun x2 => some (.inl (x1, y2, x2)) else nm (y1 + (1 : Int32)) fun x3 => nm (y3 + (-1 : Int32)) fun x4 => some (.inl (x3, y2, x4)))) else chk (inb ((43008 : Int32) + y3) 43264) ((if (s1.1 21 ((43008 : Int32) + y3).toNatClampNeg) = (0 : Int32) then nm (y1 + (0 : Int32)) fun x5 => nm (y3 + (-1 : Int32)) fun x6 => some (.inl (x5, y3, x6)) else nm (y1 + (1 : Int32)) fun x7 => nm (y3 + (-1 : Int32)) fun x8 => some (.inl (x7, y3, x8)))))))
def b_X9_orders_105_2 (s2 : St) : (Int32 × Int32 × Int32) → Option ((Int32 × Int32 × Int32) ⊕ (Int32 × Int32)) := un fun y1 => un fun y2 y3 => (if y3 < (0 : Int32) then some (.inr (y1, y2)) else chk (inb ((43008 : Int32) + y3) 43264) ((if (s2.1 21 ((43008 : Int32) + y3).toNatClampNeg) = (0 : Int32) then chk (inb ((43008 : Int32) + y3) 43264) ((if (s2.1 21 ((43008 : Int32) + y3).toNatClampNeg) = (0 : Int32) then nm (y1 + (0 : Int32)) fun x1 => nm (y3 + (-1 : Int32)) fun x2 => some (.inl (x1, y2, x2)) else nm (y1 + (1 : Int32)) fun x3 => nm (y3 + (-1 : Int32)) fun x4 => some (.inl (x3, y2, x4)))) else chk (inb ((43008 : Int32) + y3) 43264) ((if (s2.1 21 ((43008 : Int32) + y3).toNatClampNeg) = (0 : Int32) then nm (y1 + (0 : Int32)) fun x5 => nm (y3 + (-1 : Int32)) fun x6 => some (.inl (x5, y3, x6)) else nm (y1 + (1 : Int32)) fun x7 => nm (y3 + (-1 : Int32)) fun x8 => some (.inl (x7, y3, x8)))))))
def f_X9_orders (p : Int32) (q_ : Int32) (memory : Int32) (what : Int32) (σ : St) : Option (Int32 × St) := (f_X9_isProgram p).bind fun r1 => (if r1 = (0 : Int32) then some ((-1 : Int32), σ) else (f_X9_isProgram q_).bind fun r2 => (if r2 = (0 : Int32) then some ((-1 : Int32), σ) else (f_X9_isStart memory).bind fun r3 => (if r3 = (0 : Int32) then some ((-2 : Int32), σ) else (f_X9_in what.toInt64 (0 : Int64) (1 : Int64)).bind fun r4 => (if r4 = (0 : Int32) then (f_X9_in what.toInt64 (10 : Int64) (265 : Int64)).bind fun r5 => (if r5 = (0 : Int32) then some ((-2 : Int32), σ) else (f_X9_findOrders p q_ memory σ).bind fun s2 => (if what ≤ (9 : Int32) then (wh FU (b_X9_orders_105_2 s2) ((0 : Int32), (-6 : Int32), (255 : Int32))).bind (un fun z3 z4 => (if what = (0 : Int32) then some (z3, s2) else some (z4, s2))) else chk (inb (((43008 : Int32) + what) - (10 : Int32)) 43264) ((if (s2.1 21 (((43008 : Int32) + what) - (10 : Int32)).toNatClampNeg) = (0 : Int32) then some ((0 : Int32), s2) else some ((1 : Int32), s2))))) else (f_X9_findOrders p q_ memory σ).bind fun s1 => (if what ≤ (9 : Int32) then (wh FU (b_X9_orders_105 s1) ((0 : Int32), (-6 : Int32), (255 : Int32))).bind (un fun z1 z2 => (if what = (0 : Int32) then some (z1, s1) else some (z2, s1))) else chk (inb (((43008 : Int32) + what) - (10 : Int32)) 43264) ((if (s1.1 21 (((43008 : Int32) + what) - (10 : Int32)).toNatClampNeg) = (0 : Int32) then some ((0 : Int32), s1) else some ((1 : Int32), s1))))))))
abbrev rm_X9_orders : Room := { frames := 4, cells := 0, slots := 0, locals := 99 }
set_option maxHeartbeats 4000000 in
set_option maxRecDepth 20000 in
theorem m_X9_orders (l : Launch) (D : va_G) (cy : Cy) (q : Nat → Nat) (σ : St) (p : Int32) (q_ : Int32) (memory : Int32) (what : Int32)  : ∀ res, f_X9_orders p q_ memory what σ = some res → MetX (vM D cy q) l yX9_orders cX9_orders 9 (some .int) rm_X9_orders [.ref (q 0), .int p, .int q_, .int memory, .int what] σ (some (.int res.1), res.2) := by
  let fin_ : (Int32 × St) → Option Value × St := fun r => (some (.int r.1), r.2)
  have hro : ∀ (z : Int32 × St) (res : Int32 × St), some z = some res → fin_ res = fin_ z := fun z res h => by cases h; rfl
  refine MetX.of1 (fin := fin_) (lv := [(0, .ref (q 0)), (1, .int p), (2, .int q_), (3, .int memory), (4, .int what)]) (by decide) (Nat.le_of_ble_eq_true rfl) rfl ?_
  unfold f_X9_orders
  refine g_iload_n (pc := 0) 1 dX9_orders_0 rfl rfl ?_
  refine gS_i (pc := 1) [.int p] [] (m_X9_isProgram l D cy q σ p) cw_X9_isProgram km_X9_111 ⟨rfl, rfl, by decide, by decide⟩ dX9_orders_1 rfl rfl (Nat.le_of_ble_eq_true rfl) (fun r1 => ?_)
  refine g_if_eq (pc := 4) 14 dX9_orders_4 (by decide) ?_ ?_
  · refine g_iconst (pc := 14) (-1) dX9_orders_14 (by decide) ?_
    exact g_iret (pc := 15) (hro _) rfl dX9_orders_15
  · refine g_iload_n (pc := 7) 2 dX9_orders_7 rfl rfl ?_
    refine gS_i (pc := 8) [.int q_] [] (m_X9_isProgram l D cy q σ q_) cw_X9_isProgram km_X9_111 ⟨rfl, rfl, by decide, by decide⟩ dX9_orders_8 rfl rfl (Nat.le_of_ble_eq_true rfl) (fun r2 => ?_)
    refine g_if_ne (pc := 11) 16 dX9_orders_11 (by decide) ?_ ?_
    · refine g_iload_n (pc := 16) 3 dX9_orders_16 rfl rfl ?_
      refine gS_i (pc := 17) [.int memory] [] (m_X9_isStart l D cy q σ memory) cw_X9_isStart km_X9_162 ⟨rfl, rfl, by decide, by decide⟩ dX9_orders_17 rfl rfl (Nat.le_of_ble_eq_true rfl) (fun r3 => ?_)
      refine g_if_eq (pc := 20) 49 dX9_orders_20 (by decide) ?_ ?_
      · refine g_bipush (pc := 49) (-2) dX9_orders_49 (by decide) ?_
        exact g_iret (pc := 51) (hro _) rfl dX9_orders_51
      · refine g_iload (pc := 23) 4 dX9_orders_23 rfl ?_
        refine g_i2l (pc := 25) dX9_orders_25 ?_
        refine g_lconst (pc := 26) (0) dX9_orders_26 (by decide) ?_
        refine g_lconst (pc := 27) (1) dX9_orders_27 (by decide) ?_
        refine gS_i (pc := 28) [.long what.toInt64, .long (0 : Int64), .long (1 : Int64)] [] (m_X9_in l D cy q σ what.toInt64 (0 : Int64) (1 : Int64)) cw_X9_in km_X9_101 ⟨rfl, rfl, by decide, by decide⟩ dX9_orders_28 rfl rfl (Nat.le_of_ble_eq_true rfl) (fun r4 => ?_)
        refine g_if_ne (pc := 31) 52 dX9_orders_31 (by decide) ?_ ?_
        · refine g_aload_n (pc := 52) 0 dX9_orders_52 rfl rfl ?_
          refine g_iload_n (pc := 53) 1 dX9_orders_53 rfl rfl ?_
          refine g_iload_n (pc := 54) 2 dX9_orders_54 rfl rfl ?_
          refine g_iload_n (pc := 55) 3 dX9_orders_55 rfl rfl ?_
          refine gV_v (pc := 56) [.int p, .int q_, .int memory] [] (m_X9_findOrders l D cy q σ p q_ memory) cw_X9_findOrders km_X9_330 ⟨rfl, rfl, by decide, by decide⟩ (Nat.le_of_ble_eq_true rfl) (eM_9 (cy := cy) (σ.1 0) (σ.2 0)) rfl dX9_orders_56 rfl rfl (Nat.le_of_ble_eq_true rfl) (fun s1 => ?_)
          refine g_ldcw (pc := 59) dX9_orders_59 ki_X9_333 ?_
          refine g_istore (pc := 62) (lv' := [(5, .int (43008 : Int32)), (0, .ref (q 0)), (1, .int p), (2, .int q_), (3, .int memory), (4, .int what)]) dX9_orders_62 (Nat.le_of_ble_eq_true rfl) rfl ?_
          refine g_iload (pc := 64) 5 dX9_orders_64 rfl ?_
          refine g_bipush (pc := 66) (9) dX9_orders_66 (by decide) ?_
          refine g_icmp_le (pc := 68) 93 dX9_orders_68 (by decide) ?_ ?_
          · refine g_iconst (pc := 93) (0) dX9_orders_93 (by decide) ?_
            refine g_istore (pc := 94) (lv' := [(6, .int (0 : Int32)), (5, .int (43008 : Int32)), (0, .ref (q 0)), (1, .int p), (2, .int q_), (3, .int memory), (4, .int what)]) dX9_orders_94 (Nat.le_of_ble_eq_true rfl) rfl ?_
            refine g_bipush (pc := 96) (-6) dX9_orders_96 (by decide) ?_
            refine g_istore (pc := 98) (lv' := [(7, .int (-6 : Int32)), (6, .int (0 : Int32)), (5, .int (43008 : Int32)), (0, .ref (q 0)), (1, .int p), (2, .int q_), (3, .int memory), (4, .int what)]) dX9_orders_98 (Nat.le_of_ble_eq_true rfl) rfl ?_
            refine g_sipush (pc := 100) (255) dX9_orders_100 (by decide) ?_
            refine g_istore (pc := 103) (lv' := [(8, .int (255 : Int32)), (7, .int (-6 : Int32)), (6, .int (0 : Int32)), (5, .int (43008 : Int32)), (0, .ref (q 0)), (1, .int p), (2, .int q_), (3, .int memory), (4, .int what)]) dX9_orders_103 (Nat.le_of_ble_eq_true rfl) rfl ?_
            refine g_sub [4, 8, 3, 2, 1, 0] rfl ?_
            refine g_wh2 (pc := 105) (s0 := ((0 : Int32), (-6 : Int32), (255 : Int32))) (fun (w_ : Int32 × Int32 × Int32) => s1) (fun (w_ : Int32 × Int32 × Int32) => [(0, .ref (q 0)), (4, .int what), (5, .int (43008 : Int32)), (6, .int w_.1), (7, .int w_.2.1), (8, .int w_.2.2)]) (fun (w_ : Int32 × Int32) => s1) (fun (w_ : Int32 × Int32) => [(4, .int what), (6, .int w_.1), (7, .int w_.2)]) 161 ?_ ?_
            · rintro ⟨z1, z2⟩
              try dsimp only [un, Sum.elim_inl]
              refine g_iload (pc := 161) 0 dX9_orders_161 rfl ?_
              refine g_if_ne (pc := 163) 171 dX9_orders_163 (by decide) ?_ ?_
              · refine g_iload (pc := 171) 2 dX9_orders_171 rfl ?_
                exact g_iret (pc := 173) (hro _) rfl dX9_orders_173
              · refine g_iload (pc := 166) 1 dX9_orders_166 rfl ?_
                refine g_goto (pc := 168) 173 dX9_orders_168 (by decide) ?_
                exact g_iret (pc := 173) (hro _) rfl dX9_orders_173
            · intro K105 hx105 ih105
              rintro ⟨y1, y2, y3⟩
              try dsimp only [b_X9_orders_105, un]
              refine g_iload (pc := 105) 5 dX9_orders_105 rfl ?_
              refine g_if_lt (pc := 107) 161 dX9_orders_107 (by decide) ?_ ?_
              · exact g_sub [1, 3, 4] rfl (hx105 (y1, y2))
              · refine g_aload_n (pc := 110) 0 dX9_orders_110 rfl rfl ?_
                refine gf_9_wasThere (pc := 111) kf_X9_83 dX9_orders_111 ?_
                refine g_iload (pc := 114) 2 dX9_orders_114 rfl ?_
                refine g_iload (pc := 116) 5 dX9_orders_116 rfl ?_
                refine g_iadd (pc := 118) dX9_orders_118 ?_
                refine a_zld (pc := 119) aM_wasThere dX9_orders_119 ?_
                refine g_if_eq (pc := 120) 128 dX9_orders_120 (by decide) ?_ ?_
                · refine g_iload (pc := 128) 4 dX9_orders_128 rfl ?_
                  refine g_istore (pc := 130) (lv' := [(7, .int y2), (0, .ref (q 0)), (4, .int what), (5, .int (43008 : Int32)), (6, .int y1), (8, .int y3)]) dX9_orders_130 (Nat.le_of_ble_eq_true rfl) rfl ?_
                  refine g_iload (pc := 132) 4 dX9_orders_132 rfl ?_
                  refine g_aload_n (pc := 134) 1 dX9_orders_134 rfl rfl ?_
                  refine gf_9_wasThere (pc := 135) kf_X9_83 dX9_orders_135 ?_
                  refine g_iload (pc := 138) 3 dX9_orders_138 rfl ?_
                  refine g_iload (pc := 140) 5 dX9_orders_140 rfl ?_
                  refine g_iadd (pc := 142) dX9_orders_142 ?_
                  refine a_zld (pc := 143) aM_wasThere dX9_orders_143 ?_
                  refine g_if_eq (pc := 144) 151 dX9_orders_144 (by decide) ?_ ?_
                  · refine g_iconst (pc := 151) (0) dX9_orders_151 (by decide) ?_
                    refine g_iadd (pc := 152) dX9_orders_152 ?_
                    refine g_nmi (fun x1 => ?_)
                    refine g_istore (pc := 153) (lv' := [(6, .int x1), (7, .int y2), (0, .ref (q 0)), (4, .int what), (5, .int (43008 : Int32)), (8, .int y3)]) dX9_orders_153 (Nat.le_of_ble_eq_true rfl) rfl ?_
                    refine g_iinc (pc := 155) (j := 5) (-1) (lf := fun x2 => [(8, .int x2), (6, .int x1), (7, .int y2), (0, .ref (q 0)), (4, .int what), (5, .int (43008 : Int32))]) dX9_orders_155 rfl (by decide) (Nat.le_of_ble_eq_true rfl) (fun _ => rfl) (fun x2 => ?_)
                    refine g_goto (pc := 158) 105 dX9_orders_158 (by decide) ?_
                    exact g_sub [3, 4, 5, 1, 2, 0] rfl (ih105 (x1, y2, x2))
                  · refine g_iconst (pc := 147) (1) dX9_orders_147 (by decide) ?_
                    refine g_goto (pc := 148) 152 dX9_orders_148 (by decide) ?_
                    refine g_iadd (pc := 152) dX9_orders_152 ?_
                    refine g_nmi (fun x3 => ?_)
                    refine g_istore (pc := 153) (lv' := [(6, .int x3), (7, .int y2), (0, .ref (q 0)), (4, .int what), (5, .int (43008 : Int32)), (8, .int y3)]) dX9_orders_153 (Nat.le_of_ble_eq_true rfl) rfl ?_
                    refine g_iinc (pc := 155) (j := 5) (-1) (lf := fun x4 => [(8, .int x4), (6, .int x3), (7, .int y2), (0, .ref (q 0)), (4, .int what), (5, .int (43008 : Int32))]) dX9_orders_155 rfl (by decide) (Nat.le_of_ble_eq_true rfl) (fun _ => rfl) (fun x4 => ?_)
                    refine g_goto (pc := 158) 105 dX9_orders_158 (by decide) ?_
                    exact g_sub [3, 4, 5, 1, 2, 0] rfl (ih105 (x3, y2, x4))
                · refine g_iload (pc := 123) 5 dX9_orders_123 rfl ?_
                  refine g_goto (pc := 125) 130 dX9_orders_125 (by decide) ?_
                  refine g_istore (pc := 130) (lv' := [(7, .int y3), (0, .ref (q 0)), (4, .int what), (5, .int (43008 : Int32)), (6, .int y1), (8, .int y3)]) dX9_orders_130 (Nat.le_of_ble_eq_true rfl) rfl ?_
                  refine g_iload (pc := 132) 4 dX9_orders_132 rfl ?_
                  refine g_aload_n (pc := 134) 1 dX9_orders_134 rfl rfl ?_
                  refine gf_9_wasThere (pc := 135) kf_X9_83 dX9_orders_135 ?_
                  refine g_iload (pc := 138) 3 dX9_orders_138 rfl ?_
                  refine g_iload (pc := 140) 5 dX9_orders_140 rfl ?_
                  refine g_iadd (pc := 142) dX9_orders_142 ?_
                  refine a_zld (pc := 143) aM_wasThere dX9_orders_143 ?_
                  refine g_if_eq (pc := 144) 151 dX9_orders_144 (by decide) ?_ ?_
                  · refine g_iconst (pc := 151) (0) dX9_orders_151 (by decide) ?_
                    refine g_iadd (pc := 152) dX9_orders_152 ?_
                    refine g_nmi (fun x5 => ?_)
                    refine g_istore (pc := 153) (lv' := [(6, .int x5), (7, .int y3), (0, .ref (q 0)), (4, .int what), (5, .int (43008 : Int32)), (8, .int y3)]) dX9_orders_153 (Nat.le_of_ble_eq_true rfl) rfl ?_
                    refine g_iinc (pc := 155) (j := 5) (-1) (lf := fun x6 => [(8, .int x6), (6, .int x5), (7, .int y3), (0, .ref (q 0)), (4, .int what), (5, .int (43008 : Int32))]) dX9_orders_155 rfl (by decide) (Nat.le_of_ble_eq_true rfl) (fun _ => rfl) (fun x6 => ?_)
                    refine g_goto (pc := 158) 105 dX9_orders_158 (by decide) ?_
                    exact g_sub [3, 4, 5, 1, 2, 0] rfl (ih105 (x5, y3, x6))
                  · refine g_iconst (pc := 147) (1) dX9_orders_147 (by decide) ?_
                    refine g_goto (pc := 148) 152 dX9_orders_148 (by decide) ?_
                    refine g_iadd (pc := 152) dX9_orders_152 ?_
                    refine g_nmi (fun x7 => ?_)
                    refine g_istore (pc := 153) (lv' := [(6, .int x7), (7, .int y3), (0, .ref (q 0)), (4, .int what), (5, .int (43008 : Int32)), (8, .int y3)]) dX9_orders_153 (Nat.le_of_ble_eq_true rfl) rfl ?_
                    refine g_iinc (pc := 155) (j := 5) (-1) (lf := fun x8 => [(8, .int x8), (6, .int x7), (7, .int y3), (0, .ref (q 0)), (4, .int what), (5, .int (43008 : Int32))]) dX9_orders_155 rfl (by decide) (Nat.le_of_ble_eq_true rfl) (fun _ => rfl) (fun x8 => ?_)
                    refine g_goto (pc := 158) 105 dX9_orders_158 (by decide) ?_
                    exact g_sub [3, 4, 5, 1, 2, 0] rfl (ih105 (x7, y3, x8))
          · refine g_aload_n (pc := 71) 1 dX9_orders_71 rfl rfl ?_
            refine gf_9_wasThere (pc := 72) kf_X9_83 dX9_orders_72 ?_
            refine g_iload (pc := 75) 0 dX9_orders_75 rfl ?_
            refine g_iload (pc := 77) 5 dX9_orders_77 rfl ?_
            refine g_iadd (pc := 79) dX9_orders_79 ?_
            refine g_bipush (pc := 80) (10) dX9_orders_80 (by decide) ?_
            refine g_isub (pc := 82) dX9_orders_82 ?_
            refine a_zld (pc := 83) aM_wasThere dX9_orders_83 ?_
            refine g_if_eq (pc := 84) 91 dX9_orders_84 (by decide) ?_ ?_
            · refine g_iconst (pc := 91) (0) dX9_orders_91 (by decide) ?_
              exact g_iret (pc := 92) (hro _) rfl dX9_orders_92
            · refine g_iconst (pc := 87) (1) dX9_orders_87 (by decide) ?_
              refine g_goto (pc := 88) 92 dX9_orders_88 (by decide) ?_
              exact g_iret (pc := 92) (hro _) rfl dX9_orders_92
        · refine g_iload (pc := 34) 4 dX9_orders_34 rfl ?_
          refine g_i2l (pc := 36) dX9_orders_36 ?_
          refine g_ldc2 (pc := 37) dX9_orders_37 kl_X9_165 ?_
          refine g_ldc2 (pc := 40) dX9_orders_40 kl_X9_328 ?_
          refine gS_i (pc := 43) [.long what.toInt64, .long (10 : Int64), .long (265 : Int64)] [] (m_X9_in l D cy q σ what.toInt64 (10 : Int64) (265 : Int64)) cw_X9_in km_X9_101 ⟨rfl, rfl, by decide, by decide⟩ dX9_orders_43 rfl rfl (Nat.le_of_ble_eq_true rfl) (fun r5 => ?_)
          refine g_if_ne (pc := 46) 52 dX9_orders_46 (by decide) ?_ ?_
          · refine g_aload_n (pc := 52) 0 dX9_orders_52 rfl rfl ?_
            refine g_iload_n (pc := 53) 1 dX9_orders_53 rfl rfl ?_
            refine g_iload_n (pc := 54) 2 dX9_orders_54 rfl rfl ?_
            refine g_iload_n (pc := 55) 3 dX9_orders_55 rfl rfl ?_
            refine gV_v (pc := 56) [.int p, .int q_, .int memory] [] (m_X9_findOrders l D cy q σ p q_ memory) cw_X9_findOrders km_X9_330 ⟨rfl, rfl, by decide, by decide⟩ (Nat.le_of_ble_eq_true rfl) (eM_9 (cy := cy) (σ.1 0) (σ.2 0)) rfl dX9_orders_56 rfl rfl (Nat.le_of_ble_eq_true rfl) (fun s2 => ?_)
            refine g_ldcw (pc := 59) dX9_orders_59 ki_X9_333 ?_
            refine g_istore (pc := 62) (lv' := [(5, .int (43008 : Int32)), (0, .ref (q 0)), (1, .int p), (2, .int q_), (3, .int memory), (4, .int what)]) dX9_orders_62 (Nat.le_of_ble_eq_true rfl) rfl ?_
            refine g_iload (pc := 64) 5 dX9_orders_64 rfl ?_
            refine g_bipush (pc := 66) (9) dX9_orders_66 (by decide) ?_
            refine g_icmp_le (pc := 68) 93 dX9_orders_68 (by decide) ?_ ?_
            · refine g_iconst (pc := 93) (0) dX9_orders_93 (by decide) ?_
              refine g_istore (pc := 94) (lv' := [(6, .int (0 : Int32)), (5, .int (43008 : Int32)), (0, .ref (q 0)), (1, .int p), (2, .int q_), (3, .int memory), (4, .int what)]) dX9_orders_94 (Nat.le_of_ble_eq_true rfl) rfl ?_
              refine g_bipush (pc := 96) (-6) dX9_orders_96 (by decide) ?_
              refine g_istore (pc := 98) (lv' := [(7, .int (-6 : Int32)), (6, .int (0 : Int32)), (5, .int (43008 : Int32)), (0, .ref (q 0)), (1, .int p), (2, .int q_), (3, .int memory), (4, .int what)]) dX9_orders_98 (Nat.le_of_ble_eq_true rfl) rfl ?_
              refine g_sipush (pc := 100) (255) dX9_orders_100 (by decide) ?_
              refine g_istore (pc := 103) (lv' := [(8, .int (255 : Int32)), (7, .int (-6 : Int32)), (6, .int (0 : Int32)), (5, .int (43008 : Int32)), (0, .ref (q 0)), (1, .int p), (2, .int q_), (3, .int memory), (4, .int what)]) dX9_orders_103 (Nat.le_of_ble_eq_true rfl) rfl ?_
              refine g_sub [4, 8, 3, 2, 1, 0] rfl ?_
              refine g_wh2 (pc := 105) (s0 := ((0 : Int32), (-6 : Int32), (255 : Int32))) (fun (w_ : Int32 × Int32 × Int32) => s2) (fun (w_ : Int32 × Int32 × Int32) => [(0, .ref (q 0)), (4, .int what), (5, .int (43008 : Int32)), (6, .int w_.1), (7, .int w_.2.1), (8, .int w_.2.2)]) (fun (w_ : Int32 × Int32) => s2) (fun (w_ : Int32 × Int32) => [(4, .int what), (6, .int w_.1), (7, .int w_.2)]) 161 ?_ ?_
              · rintro ⟨z3, z4⟩
                try dsimp only [un, Sum.elim_inl]
                refine g_iload (pc := 161) 0 dX9_orders_161 rfl ?_
                refine g_if_ne (pc := 163) 171 dX9_orders_163 (by decide) ?_ ?_
                · refine g_iload (pc := 171) 2 dX9_orders_171 rfl ?_
                  exact g_iret (pc := 173) (hro _) rfl dX9_orders_173
                · refine g_iload (pc := 166) 1 dX9_orders_166 rfl ?_
                  refine g_goto (pc := 168) 173 dX9_orders_168 (by decide) ?_
                  exact g_iret (pc := 173) (hro _) rfl dX9_orders_173
              · intro K105 hx105 ih105
                rintro ⟨y1, y2, y3⟩
                try dsimp only [b_X9_orders_105_2, un]
                refine g_iload (pc := 105) 5 dX9_orders_105 rfl ?_
                refine g_if_lt (pc := 107) 161 dX9_orders_107 (by decide) ?_ ?_
                · exact g_sub [1, 3, 4] rfl (hx105 (y1, y2))
                · refine g_aload_n (pc := 110) 0 dX9_orders_110 rfl rfl ?_
                  refine gf_9_wasThere (pc := 111) kf_X9_83 dX9_orders_111 ?_
                  refine g_iload (pc := 114) 2 dX9_orders_114 rfl ?_
                  refine g_iload (pc := 116) 5 dX9_orders_116 rfl ?_
                  refine g_iadd (pc := 118) dX9_orders_118 ?_
                  refine a_zld (pc := 119) aM_wasThere dX9_orders_119 ?_
                  refine g_if_eq (pc := 120) 128 dX9_orders_120 (by decide) ?_ ?_
                  · refine g_iload (pc := 128) 4 dX9_orders_128 rfl ?_
                    refine g_istore (pc := 130) (lv' := [(7, .int y2), (0, .ref (q 0)), (4, .int what), (5, .int (43008 : Int32)), (6, .int y1), (8, .int y3)]) dX9_orders_130 (Nat.le_of_ble_eq_true rfl) rfl ?_
                    refine g_iload (pc := 132) 4 dX9_orders_132 rfl ?_
                    refine g_aload_n (pc := 134) 1 dX9_orders_134 rfl rfl ?_
                    refine gf_9_wasThere (pc := 135) kf_X9_83 dX9_orders_135 ?_
                    refine g_iload (pc := 138) 3 dX9_orders_138 rfl ?_
                    refine g_iload (pc := 140) 5 dX9_orders_140 rfl ?_
                    refine g_iadd (pc := 142) dX9_orders_142 ?_
                    refine a_zld (pc := 143) aM_wasThere dX9_orders_143 ?_
                    refine g_if_eq (pc := 144) 151 dX9_orders_144 (by decide) ?_ ?_
                    · refine g_iconst (pc := 151) (0) dX9_orders_151 (by decide) ?_
                      refine g_iadd (pc := 152) dX9_orders_152 ?_
                      refine g_nmi (fun x1 => ?_)
                      refine g_istore (pc := 153) (lv' := [(6, .int x1), (7, .int y2), (0, .ref (q 0)), (4, .int what), (5, .int (43008 : Int32)), (8, .int y3)]) dX9_orders_153 (Nat.le_of_ble_eq_true rfl) rfl ?_
                      refine g_iinc (pc := 155) (j := 5) (-1) (lf := fun x2 => [(8, .int x2), (6, .int x1), (7, .int y2), (0, .ref (q 0)), (4, .int what), (5, .int (43008 : Int32))]) dX9_orders_155 rfl (by decide) (Nat.le_of_ble_eq_true rfl) (fun _ => rfl) (fun x2 => ?_)
                      refine g_goto (pc := 158) 105 dX9_orders_158 (by decide) ?_
                      exact g_sub [3, 4, 5, 1, 2, 0] rfl (ih105 (x1, y2, x2))
                    · refine g_iconst (pc := 147) (1) dX9_orders_147 (by decide) ?_
                      refine g_goto (pc := 148) 152 dX9_orders_148 (by decide) ?_
                      refine g_iadd (pc := 152) dX9_orders_152 ?_
                      refine g_nmi (fun x3 => ?_)
                      refine g_istore (pc := 153) (lv' := [(6, .int x3), (7, .int y2), (0, .ref (q 0)), (4, .int what), (5, .int (43008 : Int32)), (8, .int y3)]) dX9_orders_153 (Nat.le_of_ble_eq_true rfl) rfl ?_
                      refine g_iinc (pc := 155) (j := 5) (-1) (lf := fun x4 => [(8, .int x4), (6, .int x3), (7, .int y2), (0, .ref (q 0)), (4, .int what), (5, .int (43008 : Int32))]) dX9_orders_155 rfl (by decide) (Nat.le_of_ble_eq_true rfl) (fun _ => rfl) (fun x4 => ?_)
                      refine g_goto (pc := 158) 105 dX9_orders_158 (by decide) ?_
                      exact g_sub [3, 4, 5, 1, 2, 0] rfl (ih105 (x3, y2, x4))
                  · refine g_iload (pc := 123) 5 dX9_orders_123 rfl ?_
                    refine g_goto (pc := 125) 130 dX9_orders_125 (by decide) ?_
                    refine g_istore (pc := 130) (lv' := [(7, .int y3), (0, .ref (q 0)), (4, .int what), (5, .int (43008 : Int32)), (6, .int y1), (8, .int y3)]) dX9_orders_130 (Nat.le_of_ble_eq_true rfl) rfl ?_
                    refine g_iload (pc := 132) 4 dX9_orders_132 rfl ?_
                    refine g_aload_n (pc := 134) 1 dX9_orders_134 rfl rfl ?_
                    refine gf_9_wasThere (pc := 135) kf_X9_83 dX9_orders_135 ?_
                    refine g_iload (pc := 138) 3 dX9_orders_138 rfl ?_
                    refine g_iload (pc := 140) 5 dX9_orders_140 rfl ?_
                    refine g_iadd (pc := 142) dX9_orders_142 ?_
                    refine a_zld (pc := 143) aM_wasThere dX9_orders_143 ?_
                    refine g_if_eq (pc := 144) 151 dX9_orders_144 (by decide) ?_ ?_
                    · refine g_iconst (pc := 151) (0) dX9_orders_151 (by decide) ?_
                      refine g_iadd (pc := 152) dX9_orders_152 ?_
                      refine g_nmi (fun x5 => ?_)
                      refine g_istore (pc := 153) (lv' := [(6, .int x5), (7, .int y3), (0, .ref (q 0)), (4, .int what), (5, .int (43008 : Int32)), (8, .int y3)]) dX9_orders_153 (Nat.le_of_ble_eq_true rfl) rfl ?_
                      refine g_iinc (pc := 155) (j := 5) (-1) (lf := fun x6 => [(8, .int x6), (6, .int x5), (7, .int y3), (0, .ref (q 0)), (4, .int what), (5, .int (43008 : Int32))]) dX9_orders_155 rfl (by decide) (Nat.le_of_ble_eq_true rfl) (fun _ => rfl) (fun x6 => ?_)
                      refine g_goto (pc := 158) 105 dX9_orders_158 (by decide) ?_
                      exact g_sub [3, 4, 5, 1, 2, 0] rfl (ih105 (x5, y3, x6))
                    · refine g_iconst (pc := 147) (1) dX9_orders_147 (by decide) ?_
                      refine g_goto (pc := 148) 152 dX9_orders_148 (by decide) ?_
                      refine g_iadd (pc := 152) dX9_orders_152 ?_
                      refine g_nmi (fun x7 => ?_)
                      refine g_istore (pc := 153) (lv' := [(6, .int x7), (7, .int y3), (0, .ref (q 0)), (4, .int what), (5, .int (43008 : Int32)), (8, .int y3)]) dX9_orders_153 (Nat.le_of_ble_eq_true rfl) rfl ?_
                      refine g_iinc (pc := 155) (j := 5) (-1) (lf := fun x8 => [(8, .int x8), (6, .int x7), (7, .int y3), (0, .ref (q 0)), (4, .int what), (5, .int (43008 : Int32))]) dX9_orders_155 rfl (by decide) (Nat.le_of_ble_eq_true rfl) (fun _ => rfl) (fun x8 => ?_)
                      refine g_goto (pc := 158) 105 dX9_orders_158 (by decide) ?_
                      exact g_sub [3, 4, 5, 1, 2, 0] rfl (ih105 (x7, y3, x8))
            · refine g_aload_n (pc := 71) 1 dX9_orders_71 rfl rfl ?_
              refine gf_9_wasThere (pc := 72) kf_X9_83 dX9_orders_72 ?_
              refine g_iload (pc := 75) 0 dX9_orders_75 rfl ?_
              refine g_iload (pc := 77) 5 dX9_orders_77 rfl ?_
              refine g_iadd (pc := 79) dX9_orders_79 ?_
              refine g_bipush (pc := 80) (10) dX9_orders_80 (by decide) ?_
              refine g_isub (pc := 82) dX9_orders_82 ?_
              refine a_zld (pc := 83) aM_wasThere dX9_orders_83 ?_
              refine g_if_eq (pc := 84) 91 dX9_orders_84 (by decide) ?_ ?_
              · refine g_iconst (pc := 91) (0) dX9_orders_91 (by decide) ?_
                exact g_iret (pc := 92) (hro _) rfl dX9_orders_92
              · refine g_iconst (pc := 87) (1) dX9_orders_87 (by decide) ?_
                refine g_goto (pc := 88) 92 dX9_orders_88 (by decide) ?_
                exact g_iret (pc := 92) (hro _) rfl dX9_orders_92
          · refine g_bipush (pc := 49) (-2) dX9_orders_49 (by decide) ?_
            exact g_iret (pc := 51) (hro _) rfl dX9_orders_51
    · refine g_iconst (pc := 14) (-1) dX9_orders_14 (by decide) ?_
      exact g_iret (pc := 15) (hro _) rfl dX9_orders_15
def f_X9_told (what : Int32) (σ : St) : Option (Int32) := (f_X9_in what.toInt64 (10 : Int64) (13 : Int64)).bind fun r1 => (if r1 = (0 : Int32) then (f_X9_in what.toInt64 (20 : Int64) (23 : Int64)).bind fun r2 => (if r2 = (0 : Int32) then (if what = (0 : Int32) then some (σ.1 0 20) else (if what = (1 : Int32) then chk (inb (6 : Int32) 7) (some (σ.1 15 (6 : Int32).toNatClampNeg)) else some (-2 : Int32))) else chk (inb (what - (20 : Int32)) 4) (some (σ.1 6 (what - (20 : Int32)).toNatClampNeg))) else chk (inb (what - (10 : Int32)) 4) (some (σ.1 5 (what - (10 : Int32)).toNatClampNeg)))
abbrev rm_X9_told : Room := { frames := 1, cells := 0, slots := 0, locals := 25 }
set_option maxHeartbeats 4000000 in
set_option maxRecDepth 20000 in
theorem m_X9_told (l : Launch) (D : va_G) (cy : Cy) (q : Nat → Nat) (σ : St) (what : Int32)  : ∀ res, f_X9_told what σ = some res → MetX (vM D cy q) l yX9_told cX9_told 2 (some .int) rm_X9_told [.ref (q 0), .int what] σ (some (.int res), σ) := by
  let fin_ : Int32 → Option Value × St := fun r => (some (.int r), σ)
  have hro : ∀ (z : Int32) (res : Int32), some z = some res → fin_ res = fin_ z := fun z res h => by cases h; rfl
  refine MetX.of1 (fin := fin_) (lv := [(0, .ref (q 0)), (1, .int what)]) (by decide) (Nat.le_of_ble_eq_true rfl) rfl ?_
  unfold f_X9_told
  refine g_iload_n (pc := 0) 1 dX9_told_0 rfl rfl ?_
  refine g_i2l (pc := 1) dX9_told_1 ?_
  refine g_ldc2 (pc := 2) dX9_told_2 kl_X9_165 ?_
  refine g_ldc2 (pc := 5) dX9_told_5 kl_X9_334 ?_
  refine gS_i (pc := 8) [.long what.toInt64, .long (10 : Int64), .long (13 : Int64)] [] (m_X9_in l D cy q σ what.toInt64 (10 : Int64) (13 : Int64)) cw_X9_in km_X9_101 ⟨rfl, rfl, by decide, by decide⟩ dX9_told_8 rfl rfl (Nat.le_of_ble_eq_true rfl) (fun r1 => ?_)
  refine g_if_eq (pc := 11) 24 dX9_told_11 (by decide) ?_ ?_
  · refine g_iload_n (pc := 24) 1 dX9_told_24 rfl rfl ?_
    refine g_i2l (pc := 25) dX9_told_25 ?_
    refine g_ldc2 (pc := 26) dX9_told_26 kl_X9_336 ?_
    refine g_ldc2 (pc := 29) dX9_told_29 kl_X9_338 ?_
    refine gS_i (pc := 32) [.long what.toInt64, .long (20 : Int64), .long (23 : Int64)] [] (m_X9_in l D cy q σ what.toInt64 (20 : Int64) (23 : Int64)) cw_X9_in km_X9_101 ⟨rfl, rfl, by decide, by decide⟩ dX9_told_32 rfl rfl (Nat.le_of_ble_eq_true rfl) (fun r2 => ?_)
    refine g_if_eq (pc := 35) 48 dX9_told_35 (by decide) ?_ ?_
    · refine g_iload_n (pc := 48) 1 dX9_told_48 rfl rfl ?_
      refine g_if_ne (pc := 49) 59 dX9_told_49 (by decide) ?_ ?_
      · refine g_iload_n (pc := 59) 1 dX9_told_59 rfl rfl ?_
        refine g_iconst (pc := 60) (1) dX9_told_60 (by decide) ?_
        refine g_icmp_ne (pc := 61) 74 dX9_told_61 (by decide) ?_ ?_
        · refine g_bipush (pc := 74) (-2) dX9_told_74 (by decide) ?_
          exact g_iret (pc := 76) (hro _) rfl dX9_told_76
        · refine g_aload_n (pc := 64) 0 dX9_told_64 rfl rfl ?_
          refine gf_9_signMany (pc := 65) kf_X9_53 dX9_told_65 ?_
          refine g_bipush (pc := 68) (6) dX9_told_68 (by decide) ?_
          refine a_ild (pc := 70) aM_signMany dX9_told_70 ?_
          refine g_goto (pc := 71) 76 dX9_told_71 (by decide) ?_
          exact g_iret (pc := 76) (hro _) rfl dX9_told_76
      · refine g_aload_n (pc := 52) 0 dX9_told_52 rfl rfl ?_
        refine gf_9_sayings (pc := 53) kf_X9_188 dX9_told_53 ?_
        refine g_goto (pc := 56) 76 dX9_told_56 (by decide) ?_
        exact g_iret (pc := 76) (hro _) rfl dX9_told_76
    · refine g_aload_n (pc := 38) 0 dX9_told_38 rfl rfl ?_
      refine gf_9_silence (pc := 39) kf_X9_25 dX9_told_39 ?_
      refine g_iload_n (pc := 42) 1 dX9_told_42 rfl rfl ?_
      refine g_bipush (pc := 43) (20) dX9_told_43 (by decide) ?_
      refine g_isub (pc := 45) dX9_told_45 ?_
      refine a_ild (pc := 46) aM_silence dX9_told_46 ?_
      exact g_iret (pc := 47) (hro _) rfl dX9_told_47
  · refine g_aload_n (pc := 14) 0 dX9_told_14 rfl rfl ?_
    refine gf_9_lineMany (pc := 15) kf_X9_22 dX9_told_15 ?_
    refine g_iload_n (pc := 18) 1 dX9_told_18 rfl rfl ?_
    refine g_bipush (pc := 19) (10) dX9_told_19 (by decide) ?_
    refine g_isub (pc := 21) dX9_told_21 ?_
    refine a_ild (pc := 22) aM_lineMany dX9_told_22 ?_
    exact g_iret (pc := 23) (hro _) rfl dX9_told_23
