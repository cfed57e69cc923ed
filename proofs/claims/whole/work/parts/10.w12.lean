def b_X9_walkAll_60 : (Int32 × St) → Option ((Int32 × St) ⊕ (St)) := un fun y1 s5 => (if (169 : Int32) ≤ y1 then some (.inr s5) else chk (inb y1 169) (nm (stI s5 19 y1.toNatClampNeg (0 : Int32)) fun s6 => chk (inb y1 169) (nm (stI s6 18 y1.toNatClampNeg (4095 : Int32)) fun s7 => nm (y1 + (1 : Int32)) fun x2 => some (.inl (x2, s7)))))
def b_X9_walkAll_111 (s : Int32) (p : Int32) (q_ : Int32) (y2 : Int32) : (Int32 × St) → Option ((Int32 × St) ⊕ (St)) := un fun y3 s11 => (if (256 : Int32) ≤ y3 then some (.inr s11) else (f_X9_isMeant s y2 y3 s11).bind fun r1 => (if r1 = (0 : Int32) then nm (y3 + (1 : Int32)) fun x3 => some (.inl (x3, s11)) else (f_X9_beginBoth p y2 q_ y3 s11).bind fun s12 => (f_X9_walkOne p q_ s12).bind fun s13 => nm (y3 + (1 : Int32)) fun x4 => some (.inl (x4, s13))))
def b_X9_walkAll_100 (s : Int32) (p : Int32) (q_ : Int32) : (Int32 × St) → Option ((Int32 × St) ⊕ (St)) := un fun y2 s10 => (if (256 : Int32) ≤ y2 then some (.inr s10) else (wh FU (b_X9_walkAll_111 s p q_ y2) ((0 : Int32), s10)).bind (fun s14 => nm (y2 + (1 : Int32)) fun x5 => some (.inl (x5, s14))))
def f_X9_walkAll (s : Int32) (p : Int32) (q_ : Int32) (σ : St) : Option (St) := nm ((((16 : Int32) * s) + ((4 : Int32) * p)) + q_) fun x1 => (if (σ.1 0 39) = x1 then (if (σ.1 0 40) = (σ.1 0 8) then some σ else nm (stI σ 0 39 x1) fun s16 => nm (stI s16 0 40 (s16.1 0 8)) fun s17 => (f_X9_layTable p s17).bind fun s18 => (f_X9_layTable q_ s18).bind fun s19 => (wh FU b_X9_walkAll_60 ((0 : Int32), s19)).bind (fun s20 => nm (stI s20 0 37 (0 : Int32)) fun s21 => (wh FU (b_X9_walkAll_100 s p q_) ((0 : Int32), s21)).bind (fun s22 => some s22))) else nm (stI σ 0 39 x1) fun s1 => nm (stI s1 0 40 (s1.1 0 8)) fun s2 => (f_X9_layTable p s2).bind fun s3 => (f_X9_layTable q_ s3).bind fun s4 => (wh FU b_X9_walkAll_60 ((0 : Int32), s4)).bind (fun s8 => nm (stI s8 0 37 (0 : Int32)) fun s9 => (wh FU (b_X9_walkAll_100 s p q_) ((0 : Int32), s9)).bind (fun s15 => some s15)))
abbrev rm_X9_walkAll : Room := { frames := 4, cells := 0, slots := 0, locals := 94 }
set_option maxHeartbeats 4000000 in
set_option maxRecDepth 20000 in
theorem m_X9_walkAll (l : Launch) (D : va_G) (cy : Cy) (q : Nat → Nat) (σ : St) (s : Int32) (p : Int32) (q_ : Int32)  : ∀ res, f_X9_walkAll s p q_ σ = some res → MetX (vM D cy q) l yX9_walkAll cX9_walkAll 7 none rm_X9_walkAll [.ref (q 0), .int s, .int p, .int q_] σ (none, res) := by
  let fin_ : St → Option Value × St := fun r => (none, r)
  have hro : ∀ (z : St) (res : St), some z = some res → fin_ res = fin_ z := fun z res h => by cases h; rfl
  refine MetX.of1 (fin := fin_) (lv := [(0, .ref (q 0)), (1, .int s), (2, .int p), (3, .int q_)]) (by decide) (Nat.le_of_ble_eq_true rfl) rfl ?_
  unfold f_X9_walkAll
  refine g_bipush (pc := 0) (16) dX9_walkAll_0 (by decide) ?_
  refine g_iload_n (pc := 2) 1 dX9_walkAll_2 rfl rfl ?_
  refine g_imul (pc := 3) dX9_walkAll_3 ?_
  refine g_iconst (pc := 4) (4) dX9_walkAll_4 (by decide) ?_
  refine g_iload_n (pc := 5) 2 dX9_walkAll_5 rfl rfl ?_
  refine g_imul (pc := 6) dX9_walkAll_6 ?_
  refine g_iadd (pc := 7) dX9_walkAll_7 ?_
  refine g_iload_n (pc := 8) 3 dX9_walkAll_8 rfl rfl ?_
  refine g_iadd (pc := 9) dX9_walkAll_9 ?_
  refine g_nmi (fun x1 => ?_)
  refine g_istore (pc := 10) (lv' := [(4, .int x1), (0, .ref (q 0)), (1, .int s), (2, .int p), (3, .int q_)]) dX9_walkAll_10 (Nat.le_of_ble_eq_true rfl) rfl ?_
  refine g_aload_n (pc := 12) 1 dX9_walkAll_12 rfl rfl ?_
  refine gf_9_walkOf (pc := 13) kf_X9_281 dX9_walkAll_13 ?_
  refine g_iload (pc := 16) 0 dX9_walkAll_16 rfl ?_
  refine g_icmp_ne (pc := 18) 33 dX9_walkAll_18 (by decide) ?_ ?_
  · refine g_aload_n (pc := 33) 1 dX9_walkAll_33 rfl rfl ?_
    refine g_iload (pc := 34) 0 dX9_walkAll_34 rfl ?_
    refine gp_9_walkOf (pc := 36) kf_X9_281 dX9_walkAll_36 (fun s1 => ?_)
    refine g_aload_n (pc := 39) 1 dX9_walkAll_39 rfl rfl ?_
    refine g_aload_n (pc := 40) 1 dX9_walkAll_40 rfl rfl ?_
    refine gf_9_walkVersion (pc := 41) kf_X9_96 dX9_walkAll_41 ?_
    refine gp_9_walkIs (pc := 44) kf_X9_76 dX9_walkAll_44 (fun s2 => ?_)
    refine g_aload_n (pc := 47) 1 dX9_walkAll_47 rfl rfl ?_
    refine g_iload_n (pc := 48) 3 dX9_walkAll_48 rfl rfl ?_
    refine gV_v (pc := 49) [.int p] [] (m_X9_layTable l D cy q s2 p) cw_X9_layTable km_X9_151 ⟨rfl, rfl, by decide, by decide⟩ (Nat.le_of_ble_eq_true rfl) (eM_9 (cy := cy) (s2.1 0) (s2.2 0)) rfl dX9_walkAll_49 rfl rfl (Nat.le_of_ble_eq_true rfl) (fun s3 => ?_)
    refine g_aload_n (pc := 52) 1 dX9_walkAll_52 rfl rfl ?_
    refine g_iload_n (pc := 53) 4 dX9_walkAll_53 rfl rfl ?_
    refine gV_v (pc := 54) [.int q_] [] (m_X9_layTable l D cy q s3 q_) cw_X9_layTable km_X9_151 ⟨rfl, rfl, by decide, by decide⟩ (Nat.le_of_ble_eq_true rfl) (eM_9 (cy := cy) (s3.1 0) (s3.2 0)) rfl dX9_walkAll_54 rfl rfl (Nat.le_of_ble_eq_true rfl) (fun s4 => ?_)
    refine g_iconst (pc := 57) (0) dX9_walkAll_57 (by decide) ?_
    refine g_istore (pc := 58) (lv' := [(5, .int (0 : Int32)), (4, .int x1), (0, .ref (q 0)), (1, .int s), (2, .int p), (3, .int q_)]) dX9_walkAll_58 (Nat.le_of_ble_eq_true rfl) rfl ?_
    refine g_sub [2, 3, 4, 5, 0] rfl ?_
    refine g_wh2 (pc := 60) (s0 := ((0 : Int32), s4)) (fun (w_ : Int32 × St) => w_.2) (fun (w_ : Int32 × St) => [(0, .ref (q 0)), (1, .int s), (2, .int p), (3, .int q_), (5, .int w_.1)]) (fun (w_ : St) => w_) (fun (w_ : St) => [(0, .ref (q 0)), (1, .int s), (2, .int p), (3, .int q_)]) 92 ?_ ?_
    · rintro s8
      try dsimp only [un, Sum.elim_inl]
      refine g_aload_n (pc := 92) 0 dX9_walkAll_92 rfl rfl ?_
      refine g_iconst (pc := 93) (0) dX9_walkAll_93 (by decide) ?_
      refine gp_9_mostMoves (pc := 94) kf_X9_278 dX9_walkAll_94 (fun s9 => ?_)
      refine g_iconst (pc := 97) (0) dX9_walkAll_97 (by decide) ?_
      refine g_istore (pc := 98) (lv' := [(5, .int (0 : Int32)), (0, .ref (q 0)), (1, .int s), (2, .int p), (3, .int q_)]) dX9_walkAll_98 (Nat.le_of_ble_eq_true rfl) rfl ?_
      refine g_sub [1, 2, 3, 4, 0] rfl ?_
      refine g_wh2 (pc := 100) (s0 := ((0 : Int32), s9)) (fun (w_ : Int32 × St) => w_.2) (fun (w_ : Int32 × St) => [(0, .ref (q 0)), (1, .int s), (2, .int p), (3, .int q_), (5, .int w_.1)]) (fun (w_ : St) => w_) (fun (w_ : St) => []) 159 ?_ ?_
      · rintro s15
        try dsimp only [un, Sum.elim_inl]
        exact g_vret (pc := 159) (hro _) rfl dX9_walkAll_159
      · intro K100 hx100 ih100
        rintro ⟨y2, s10⟩
        try dsimp only [b_X9_walkAll_100, un]
        refine g_iload (pc := 100) 4 dX9_walkAll_100 rfl ?_
        refine g_sipush (pc := 102) (256) dX9_walkAll_102 (by decide) ?_
        refine g_icmp_ge (pc := 105) 159 dX9_walkAll_105 (by decide) ?_ ?_
        · exact g_sub [] rfl (hx100 s10)
        · refine g_iconst (pc := 108) (0) dX9_walkAll_108 (by decide) ?_
          refine g_istore (pc := 109) (lv' := [(6, .int (0 : Int32)), (0, .ref (q 0)), (1, .int s), (2, .int p), (3, .int q_), (5, .int y2)]) dX9_walkAll_109 (Nat.le_of_ble_eq_true rfl) rfl ?_
          refine g_sub [1, 2, 3, 4, 5, 0] rfl ?_
          refine g_wh2 (pc := 111) (s0 := ((0 : Int32), s10)) (fun (w_ : Int32 × St) => w_.2) (fun (w_ : Int32 × St) => [(0, .ref (q 0)), (1, .int s), (2, .int p), (3, .int q_), (5, .int y2), (6, .int w_.1)]) (fun (w_ : St) => w_) (fun (w_ : St) => [(0, .ref (q 0)), (1, .int s), (2, .int p), (3, .int q_), (5, .int y2)]) 153 ?_ ?_
          · rintro s14
            try dsimp only [un, Sum.elim_inl]
            refine g_iinc (pc := 153) (j := 4) (1) (lf := fun x5 => [(5, .int x5), (0, .ref (q 0)), (1, .int s), (2, .int p), (3, .int q_)]) dX9_walkAll_153 rfl (by decide) (Nat.le_of_ble_eq_true rfl) (fun _ => rfl) (fun x5 => ?_)
            refine g_goto (pc := 156) 100 dX9_walkAll_156 (by decide) ?_
            exact g_sub [1, 2, 3, 4, 0] rfl (ih100 (x5, s14))
          · intro K111 hx111 ih111
            rintro ⟨y3, s11⟩
            try dsimp only [b_X9_walkAll_111, un]
            refine g_iload (pc := 111) 5 dX9_walkAll_111 rfl ?_
            refine g_sipush (pc := 113) (256) dX9_walkAll_113 (by decide) ?_
            refine g_icmp_ge (pc := 116) 153 dX9_walkAll_116 (by decide) ?_ ?_
            · exact g_sub [0, 1, 2, 3, 4] rfl (hx111 s11)
            · refine g_aload_n (pc := 119) 0 dX9_walkAll_119 rfl rfl ?_
              refine g_iload_n (pc := 120) 1 dX9_walkAll_120 rfl rfl ?_
              refine g_iload (pc := 121) 4 dX9_walkAll_121 rfl ?_
              refine g_iload (pc := 123) 5 dX9_walkAll_123 rfl ?_
              refine gV_i (pc := 125) [.int s, .int y2, .int y3] [] (m_X9_isMeant l D cy q s11 s y2 y3) cw_X9_isMeant km_X9_212 ⟨rfl, rfl, by decide, by decide⟩ (Nat.le_of_ble_eq_true rfl) (eM_9 (cy := cy) (s11.1 0) (s11.2 0)) rfl dX9_walkAll_125 rfl rfl (Nat.le_of_ble_eq_true rfl) (fun r1 => ?_)
              refine g_if_eq (pc := 128) 147 dX9_walkAll_128 (by decide) ?_ ?_
              · refine g_iinc (pc := 147) (j := 5) (1) (lf := fun x3 => [(6, .int x3), (0, .ref (q 0)), (1, .int s), (2, .int p), (3, .int q_), (5, .int y2)]) dX9_walkAll_147 rfl (by decide) (Nat.le_of_ble_eq_true rfl) (fun _ => rfl) (fun x3 => ?_)
                refine g_goto (pc := 150) 111 dX9_walkAll_150 (by decide) ?_
                exact g_sub [1, 2, 3, 4, 5, 0] rfl (ih111 (x3, s11))
              · refine g_aload_n (pc := 131) 0 dX9_walkAll_131 rfl rfl ?_
                refine g_iload_n (pc := 132) 2 dX9_walkAll_132 rfl rfl ?_
                refine g_iload (pc := 133) 4 dX9_walkAll_133 rfl ?_
                refine g_iload_n (pc := 135) 3 dX9_walkAll_135 rfl rfl ?_
                refine g_iload (pc := 136) 5 dX9_walkAll_136 rfl ?_
                refine gV_v (pc := 138) [.int p, .int y2, .int q_, .int y3] [] (m_X9_beginBoth l D cy q s11 p y2 q_ y3) cw_X9_beginBoth km_X9_258 ⟨rfl, rfl, by decide, by decide⟩ (Nat.le_of_ble_eq_true rfl) (eM_9 (cy := cy) (s11.1 0) (s11.2 0)) rfl dX9_walkAll_138 rfl rfl (Nat.le_of_ble_eq_true rfl) (fun s12 => ?_)
                refine g_aload_n (pc := 141) 0 dX9_walkAll_141 rfl rfl ?_
                refine g_iload_n (pc := 142) 2 dX9_walkAll_142 rfl rfl ?_
                refine g_iload_n (pc := 143) 3 dX9_walkAll_143 rfl rfl ?_
                refine gV_v (pc := 144) [.int p, .int q_] [] (m_X9_walkOne l D cy q s12 p q_) cw_X9_walkOne km_X9_284 ⟨rfl, rfl, by decide, by decide⟩ (Nat.le_of_ble_eq_true rfl) (eM_9 (cy := cy) (s12.1 0) (s12.2 0)) rfl dX9_walkAll_144 rfl rfl (Nat.le_of_ble_eq_true rfl) (fun s13 => ?_)
                refine g_iinc (pc := 147) (j := 5) (1) (lf := fun x4 => [(6, .int x4), (0, .ref (q 0)), (1, .int s), (2, .int p), (3, .int q_), (5, .int y2)]) dX9_walkAll_147 rfl (by decide) (Nat.le_of_ble_eq_true rfl) (fun _ => rfl) (fun x4 => ?_)
                refine g_goto (pc := 150) 111 dX9_walkAll_150 (by decide) ?_
                exact g_sub [1, 2, 3, 4, 5, 0] rfl (ih111 (x4, s13))
    · intro K60 hx60 ih60
      rintro ⟨y1, s5⟩
      try dsimp only [b_X9_walkAll_60, un]
      refine g_iload (pc := 60) 4 dX9_walkAll_60 rfl ?_
      refine g_sipush (pc := 62) (169) dX9_walkAll_62 (by decide) ?_
      refine g_icmp_ge (pc := 65) 92 dX9_walkAll_65 (by decide) ?_ ?_
      · exact g_sub [0, 1, 2, 3] rfl (hx60 s5)
      · refine g_aload_n (pc := 68) 0 dX9_walkAll_68 rfl rfl ?_
        refine gf_9_isStood (pc := 69) kf_X9_69 dX9_walkAll_69 ?_
        refine g_iload (pc := 72) 4 dX9_walkAll_72 rfl ?_
        refine g_iconst (pc := 74) (0) dX9_walkAll_74 (by decide) ?_
        refine a_zst (pc := 75) aM_isStood (by decide) dX9_walkAll_75 (fun s6 => ?_)
        refine g_aload_n (pc := 76) 0 dX9_walkAll_76 rfl rfl ?_
        refine gf_9_shapes (pc := 77) kf_X9_66 dX9_walkAll_77 ?_
        refine g_iload (pc := 80) 4 dX9_walkAll_80 rfl ?_
        refine g_sipush (pc := 82) (4095) dX9_walkAll_82 (by decide) ?_
        refine a_ist (pc := 85) aM_shapes dX9_walkAll_85 (fun s7 => ?_)
        refine g_iinc (pc := 86) (j := 4) (1) (lf := fun x2 => [(5, .int x2), (0, .ref (q 0)), (1, .int s), (2, .int p), (3, .int q_)]) dX9_walkAll_86 rfl (by decide) (Nat.le_of_ble_eq_true rfl) (fun _ => rfl) (fun x2 => ?_)
        refine g_goto (pc := 89) 60 dX9_walkAll_89 (by decide) ?_
        exact g_sub [1, 2, 3, 4, 0] rfl (ih60 (x2, s7))
  · refine g_aload_n (pc := 21) 1 dX9_walkAll_21 rfl rfl ?_
    refine gf_9_walkIs (pc := 22) kf_X9_76 dX9_walkAll_22 ?_
    refine g_aload_n (pc := 25) 1 dX9_walkAll_25 rfl rfl ?_
    refine gf_9_walkVersion (pc := 26) kf_X9_96 dX9_walkAll_26 ?_
    refine g_icmp_ne (pc := 29) 33 dX9_walkAll_29 (by decide) ?_ ?_
    · refine g_aload_n (pc := 33) 1 dX9_walkAll_33 rfl rfl ?_
      refine g_iload (pc := 34) 0 dX9_walkAll_34 rfl ?_
      refine gp_9_walkOf (pc := 36) kf_X9_281 dX9_walkAll_36 (fun s16 => ?_)
      refine g_aload_n (pc := 39) 1 dX9_walkAll_39 rfl rfl ?_
      refine g_aload_n (pc := 40) 1 dX9_walkAll_40 rfl rfl ?_
      refine gf_9_walkVersion (pc := 41) kf_X9_96 dX9_walkAll_41 ?_
      refine gp_9_walkIs (pc := 44) kf_X9_76 dX9_walkAll_44 (fun s17 => ?_)
      refine g_aload_n (pc := 47) 1 dX9_walkAll_47 rfl rfl ?_
      refine g_iload_n (pc := 48) 3 dX9_walkAll_48 rfl rfl ?_
      refine gV_v (pc := 49) [.int p] [] (m_X9_layTable l D cy q s17 p) cw_X9_layTable km_X9_151 ⟨rfl, rfl, by decide, by decide⟩ (Nat.le_of_ble_eq_true rfl) (eM_9 (cy := cy) (s17.1 0) (s17.2 0)) rfl dX9_walkAll_49 rfl rfl (Nat.le_of_ble_eq_true rfl) (fun s18 => ?_)
      refine g_aload_n (pc := 52) 1 dX9_walkAll_52 rfl rfl ?_
      refine g_iload_n (pc := 53) 4 dX9_walkAll_53 rfl rfl ?_
      refine gV_v (pc := 54) [.int q_] [] (m_X9_layTable l D cy q s18 q_) cw_X9_layTable km_X9_151 ⟨rfl, rfl, by decide, by decide⟩ (Nat.le_of_ble_eq_true rfl) (eM_9 (cy := cy) (s18.1 0) (s18.2 0)) rfl dX9_walkAll_54 rfl rfl (Nat.le_of_ble_eq_true rfl) (fun s19 => ?_)
      refine g_iconst (pc := 57) (0) dX9_walkAll_57 (by decide) ?_
      refine g_istore (pc := 58) (lv' := [(5, .int (0 : Int32)), (4, .int x1), (0, .ref (q 0)), (1, .int s), (2, .int p), (3, .int q_)]) dX9_walkAll_58 (Nat.le_of_ble_eq_true rfl) rfl ?_
      refine g_sub [2, 3, 4, 5, 0] rfl ?_
      refine g_wh2 (pc := 60) (s0 := ((0 : Int32), s19)) (fun (w_ : Int32 × St) => w_.2) (fun (w_ : Int32 × St) => [(0, .ref (q 0)), (1, .int s), (2, .int p), (3, .int q_), (5, .int w_.1)]) (fun (w_ : St) => w_) (fun (w_ : St) => [(0, .ref (q 0)), (1, .int s), (2, .int p), (3, .int q_)]) 92 ?_ ?_
      · rintro s20
        try dsimp only [un, Sum.elim_inl]
        refine g_aload_n (pc := 92) 0 dX9_walkAll_92 rfl rfl ?_
        refine g_iconst (pc := 93) (0) dX9_walkAll_93 (by decide) ?_
        refine gp_9_mostMoves (pc := 94) kf_X9_278 dX9_walkAll_94 (fun s21 => ?_)
        refine g_iconst (pc := 97) (0) dX9_walkAll_97 (by decide) ?_
        refine g_istore (pc := 98) (lv' := [(5, .int (0 : Int32)), (0, .ref (q 0)), (1, .int s), (2, .int p), (3, .int q_)]) dX9_walkAll_98 (Nat.le_of_ble_eq_true rfl) rfl ?_
        refine g_sub [1, 2, 3, 4, 0] rfl ?_
        refine g_wh2 (pc := 100) (s0 := ((0 : Int32), s21)) (fun (w_ : Int32 × St) => w_.2) (fun (w_ : Int32 × St) => [(0, .ref (q 0)), (1, .int s), (2, .int p), (3, .int q_), (5, .int w_.1)]) (fun (w_ : St) => w_) (fun (w_ : St) => []) 159 ?_ ?_
        · rintro s22
          try dsimp only [un, Sum.elim_inl]
          exact g_vret (pc := 159) (hro _) rfl dX9_walkAll_159
        · intro K100 hx100 ih100
          rintro ⟨y2, s10⟩
          try dsimp only [b_X9_walkAll_100, un]
          refine g_iload (pc := 100) 4 dX9_walkAll_100 rfl ?_
          refine g_sipush (pc := 102) (256) dX9_walkAll_102 (by decide) ?_
          refine g_icmp_ge (pc := 105) 159 dX9_walkAll_105 (by decide) ?_ ?_
          · exact g_sub [] rfl (hx100 s10)
          · refine g_iconst (pc := 108) (0) dX9_walkAll_108 (by decide) ?_
            refine g_istore (pc := 109) (lv' := [(6, .int (0 : Int32)), (0, .ref (q 0)), (1, .int s), (2, .int p), (3, .int q_), (5, .int y2)]) dX9_walkAll_109 (Nat.le_of_ble_eq_true rfl) rfl ?_
            refine g_sub [1, 2, 3, 4, 5, 0] rfl ?_
            refine g_wh2 (pc := 111) (s0 := ((0 : Int32), s10)) (fun (w_ : Int32 × St) => w_.2) (fun (w_ : Int32 × St) => [(0, .ref (q 0)), (1, .int s), (2, .int p), (3, .int q_), (5, .int y2), (6, .int w_.1)]) (fun (w_ : St) => w_) (fun (w_ : St) => [(0, .ref (q 0)), (1, .int s), (2, .int p), (3, .int q_), (5, .int y2)]) 153 ?_ ?_
            · rintro s14
              try dsimp only [un, Sum.elim_inl]
              refine g_iinc (pc := 153) (j := 4) (1) (lf := fun x5 => [(5, .int x5), (0, .ref (q 0)), (1, .int s), (2, .int p), (3, .int q_)]) dX9_walkAll_153 rfl (by decide) (Nat.le_of_ble_eq_true rfl) (fun _ => rfl) (fun x5 => ?_)
              refine g_goto (pc := 156) 100 dX9_walkAll_156 (by decide) ?_
              exact g_sub [1, 2, 3, 4, 0] rfl (ih100 (x5, s14))
            · intro K111 hx111 ih111
              rintro ⟨y3, s11⟩
              try dsimp only [b_X9_walkAll_111, un]
              refine g_iload (pc := 111) 5 dX9_walkAll_111 rfl ?_
              refine g_sipush (pc := 113) (256) dX9_walkAll_113 (by decide) ?_
              refine g_icmp_ge (pc := 116) 153 dX9_walkAll_116 (by decide) ?_ ?_
              · exact g_sub [0, 1, 2, 3, 4] rfl (hx111 s11)
              · refine g_aload_n (pc := 119) 0 dX9_walkAll_119 rfl rfl ?_
                refine g_iload_n (pc := 120) 1 dX9_walkAll_120 rfl rfl ?_
                refine g_iload (pc := 121) 4 dX9_walkAll_121 rfl ?_
                refine g_iload (pc := 123) 5 dX9_walkAll_123 rfl ?_
                refine gV_i (pc := 125) [.int s, .int y2, .int y3] [] (m_X9_isMeant l D cy q s11 s y2 y3) cw_X9_isMeant km_X9_212 ⟨rfl, rfl, by decide, by decide⟩ (Nat.le_of_ble_eq_true rfl) (eM_9 (cy := cy) (s11.1 0) (s11.2 0)) rfl dX9_walkAll_125 rfl rfl (Nat.le_of_ble_eq_true rfl) (fun r1 => ?_)
                refine g_if_eq (pc := 128) 147 dX9_walkAll_128 (by decide) ?_ ?_
                · refine g_iinc (pc := 147) (j := 5) (1) (lf := fun x3 => [(6, .int x3), (0, .ref (q 0)), (1, .int s), (2, .int p), (3, .int q_), (5, .int y2)]) dX9_walkAll_147 rfl (by decide) (Nat.le_of_ble_eq_true rfl) (fun _ => rfl) (fun x3 => ?_)
                  refine g_goto (pc := 150) 111 dX9_walkAll_150 (by decide) ?_
                  exact g_sub [1, 2, 3, 4, 5, 0] rfl (ih111 (x3, s11))
                · refine g_aload_n (pc := 131) 0 dX9_walkAll_131 rfl rfl ?_
                  refine g_iload_n (pc := 132) 2 dX9_walkAll_132 rfl rfl ?_
                  refine g_iload (pc := 133) 4 dX9_walkAll_133 rfl ?_
                  refine g_iload_n (pc := 135) 3 dX9_walkAll_135 rfl rfl ?_
                  refine g_iload (pc := 136) 5 dX9_walkAll_136 rfl ?_
                  refine gV_v (pc := 138) [.int p, .int y2, .int q_, .int y3] [] (m_X9_beginBoth l D cy q s11 p y2 q_ y3) cw_X9_beginBoth km_X9_258 ⟨rfl, rfl, by decide, by decide⟩ (Nat.le_of_ble_eq_true rfl) (eM_9 (cy := cy) (s11.1 0) (s11.2 0)) rfl dX9_walkAll_138 rfl rfl (Nat.le_of_ble_eq_true rfl) (fun s12 => ?_)
                  refine g_aload_n (pc := 141) 0 dX9_walkAll_141 rfl rfl ?_
                  refine g_iload_n (pc := 142) 2 dX9_walkAll_142 rfl rfl ?_
                  refine g_iload_n (pc := 143) 3 dX9_walkAll_143 rfl rfl ?_
                  refine gV_v (pc := 144) [.int p, .int q_] [] (m_X9_walkOne l D cy q s12 p q_) cw_X9_walkOne km_X9_284 ⟨rfl, rfl, by decide, by decide⟩ (Nat.le_of_ble_eq_true rfl) (eM_9 (cy := cy) (s12.1 0) (s12.2 0)) rfl dX9_walkAll_144 rfl rfl (Nat.le_of_ble_eq_true rfl) (fun s13 => ?_)
                  refine g_iinc (pc := 147) (j := 5) (1) (lf := fun x4 => [(6, .int x4), (0, .ref (q 0)), (1, .int s), (2, .int p), (3, .int q_), (5, .int y2)]) dX9_walkAll_147 rfl (by decide) (Nat.le_of_ble_eq_true rfl) (fun _ => rfl) (fun x4 => ?_)
                  refine g_goto (pc := 150) 111 dX9_walkAll_150 (by decide) ?_
                  exact g_sub [1, 2, 3, 4, 5, 0] rfl (ih111 (x4, s13))
      · intro K60 hx60 ih60
        rintro ⟨y1, s5⟩
        try dsimp only [b_X9_walkAll_60, un]
        refine g_iload (pc := 60) 4 dX9_walkAll_60 rfl ?_
        refine g_sipush (pc := 62) (169) dX9_walkAll_62 (by decide) ?_
        refine g_icmp_ge (pc := 65) 92 dX9_walkAll_65 (by decide) ?_ ?_
        · exact g_sub [0, 1, 2, 3] rfl (hx60 s5)
        · refine g_aload_n (pc := 68) 0 dX9_walkAll_68 rfl rfl ?_
          refine gf_9_isStood (pc := 69) kf_X9_69 dX9_walkAll_69 ?_
          refine g_iload (pc := 72) 4 dX9_walkAll_72 rfl ?_
          refine g_iconst (pc := 74) (0) dX9_walkAll_74 (by decide) ?_
          refine a_zst (pc := 75) aM_isStood (by decide) dX9_walkAll_75 (fun s6 => ?_)
          refine g_aload_n (pc := 76) 0 dX9_walkAll_76 rfl rfl ?_
          refine gf_9_shapes (pc := 77) kf_X9_66 dX9_walkAll_77 ?_
          refine g_iload (pc := 80) 4 dX9_walkAll_80 rfl ?_
          refine g_sipush (pc := 82) (4095) dX9_walkAll_82 (by decide) ?_
          refine a_ist (pc := 85) aM_shapes dX9_walkAll_85 (fun s7 => ?_)
          refine g_iinc (pc := 86) (j := 4) (1) (lf := fun x2 => [(5, .int x2), (0, .ref (q 0)), (1, .int s), (2, .int p), (3, .int q_)]) dX9_walkAll_86 rfl (by decide) (Nat.le_of_ble_eq_true rfl) (fun _ => rfl) (fun x2 => ?_)
          refine g_goto (pc := 89) 60 dX9_walkAll_89 (by decide) ?_
          exact g_sub [1, 2, 3, 4, 0] rfl (ih60 (x2, s7))
    · exact g_vret (pc := 32) (hro _) rfl dX9_walkAll_32
def b_X9_walk_64 (what : Int32) (s1 : St) : (Int32 × Int32) → Option ((Int32 × Int32) ⊕ (Int32)) := un fun y1 y2 => (if (169 : Int32) ≤ y2 then some (.inr y1) else chk (inb y2 169) ((if (s1.1 19 y2.toNatClampNeg) = (0 : Int32) then nm (y1 + (0 : Int32)) fun x1 => nm (y2 + (1 : Int32)) fun x2 => some (.inl (x1, x2)) else (if what = (0 : Int32) then nm (y1 + (1 : Int32)) fun x3 => nm (y2 + (1 : Int32)) fun x4 => some (.inl (x3, x4)) else chk (nz (13 : Int32)) (chk (nz (13 : Int32)) ((if (y2 / (13 : Int32)) = (y2 - y2 / (13 : Int32) * (13 : Int32)) then nm (y1 + (0 : Int32)) fun x5 => nm (y2 + (1 : Int32)) fun x6 => some (.inl (x5, x6)) else nm (y1 + (1 : Int32)) fun x7 => nm (y2 + (1 : Int32)) fun x8 => some (.inl (x7, x8)))))))))
def f_X9_walk (saying : Int32) (p : Int32) (q_ : Int32) (what : Int32) (σ : St) : Option (Int32 × St) := (f_X9_isSaying saying σ).bind fun r1 => (if r1 = (0 : Int32) then some ((-1 : Int32), σ) else (f_X9_isProgram p).bind fun r2 => (if r2 = (0 : Int32) then some ((-1 : Int32), σ) else (f_X9_isProgram q_).bind fun r3 => (if r3 = (0 : Int32) then some ((-1 : Int32), σ) else (f_X9_in what.toInt64 (0 : Int64) (2 : Int64)).bind fun r4 => (if r4 = (0 : Int32) then some ((-2 : Int32), σ) else (f_X9_walkAll saying p q_ σ).bind fun s1 => (if what = (2 : Int32) then some ((s1.1 0 37), s1) else (wh FU (b_X9_walk_64 what s1) ((0 : Int32), (0 : Int32))).bind (fun z1 => some (z1, s1)))))))
abbrev rm_X9_walk : Room := { frames := 5, cells := 0, slots := 0, locals := 120 }
set_option maxHeartbeats 4000000 in
set_option maxRecDepth 20000 in
theorem m_X9_walk (l : Launch) (D : va_G) (cy : Cy) (q : Nat → Nat) (σ : St) (saying : Int32) (p : Int32) (q_ : Int32) (what : Int32)  : ∀ res, f_X9_walk saying p q_ what σ = some res → MetX (vM D cy q) l yX9_walk cX9_walk 7 (some .int) rm_X9_walk [.ref (q 0), .int saying, .int p, .int q_, .int what] σ (some (.int res.1), res.2) := by
  let fin_ : (Int32 × St) → Option Value × St := fun r => (some (.int r.1), r.2)
  have hro : ∀ (z : Int32 × St) (res : Int32 × St), some z = some res → fin_ res = fin_ z := fun z res h => by cases h; rfl
  refine MetX.of1 (fin := fin_) (lv := [(0, .ref (q 0)), (1, .int saying), (2, .int p), (3, .int q_), (4, .int what)]) (by decide) (Nat.le_of_ble_eq_true rfl) rfl ?_
  unfold f_X9_walk
  refine g_aload_n (pc := 0) 0 dX9_walk_0 rfl rfl ?_
  refine g_iload_n (pc := 1) 1 dX9_walk_1 rfl rfl ?_
  refine gV_i (pc := 2) [.int saying] [] (m_X9_isSaying l D cy q σ saying) cw_X9_isSaying km_X9_209 ⟨rfl, rfl, by decide, by decide⟩ (Nat.le_of_ble_eq_true rfl) (eM_9 (cy := cy) (σ.1 0) (σ.2 0)) rfl dX9_walk_2 rfl rfl (Nat.le_of_ble_eq_true rfl) (fun r1 => ?_)
  refine g_if_eq (pc := 5) 22 dX9_walk_5 (by decide) ?_ ?_
  · refine g_iconst (pc := 22) (-1) dX9_walk_22 (by decide) ?_
    exact g_iret (pc := 23) (hro _) rfl dX9_walk_23
  · refine g_iload_n (pc := 8) 2 dX9_walk_8 rfl rfl ?_
    refine gS_i (pc := 9) [.int p] [] (m_X9_isProgram l D cy q σ p) cw_X9_isProgram km_X9_111 ⟨rfl, rfl, by decide, by decide⟩ dX9_walk_9 rfl rfl (Nat.le_of_ble_eq_true rfl) (fun r2 => ?_)
    refine g_if_eq (pc := 12) 22 dX9_walk_12 (by decide) ?_ ?_
    · refine g_iconst (pc := 22) (-1) dX9_walk_22 (by decide) ?_
      exact g_iret (pc := 23) (hro _) rfl dX9_walk_23
    · refine g_iload_n (pc := 15) 3 dX9_walk_15 rfl rfl ?_
      refine gS_i (pc := 16) [.int q_] [] (m_X9_isProgram l D cy q σ q_) cw_X9_isProgram km_X9_111 ⟨rfl, rfl, by decide, by decide⟩ dX9_walk_16 rfl rfl (Nat.le_of_ble_eq_true rfl) (fun r3 => ?_)
      refine g_if_ne (pc := 19) 24 dX9_walk_19 (by decide) ?_ ?_
      · refine g_iload (pc := 24) 4 dX9_walk_24 rfl ?_
        refine g_i2l (pc := 26) dX9_walk_26 ?_
        refine g_lconst (pc := 27) (0) dX9_walk_27 (by decide) ?_
        refine g_ldc2 (pc := 28) dX9_walk_28 kl_X9_270 ?_
        refine gS_i (pc := 31) [.long what.toInt64, .long (0 : Int64), .long (2 : Int64)] [] (m_X9_in l D cy q σ what.toInt64 (0 : Int64) (2 : Int64)) cw_X9_in km_X9_101 ⟨rfl, rfl, by decide, by decide⟩ dX9_walk_31 rfl rfl (Nat.le_of_ble_eq_true rfl) (fun r4 => ?_)
        refine g_if_ne (pc := 34) 40 dX9_walk_34 (by decide) ?_ ?_
        · refine g_aload_n (pc := 40) 0 dX9_walk_40 rfl rfl ?_
          refine g_iload_n (pc := 41) 1 dX9_walk_41 rfl rfl ?_
          refine g_iload_n (pc := 42) 2 dX9_walk_42 rfl rfl ?_
          refine g_iload_n (pc := 43) 3 dX9_walk_43 rfl rfl ?_
          refine gV_v (pc := 44) [.int saying, .int p, .int q_] [] (m_X9_walkAll l D cy q σ saying p q_) cw_X9_walkAll km_X9_287 ⟨rfl, rfl, by decide, by decide⟩ (Nat.le_of_ble_eq_true rfl) (eM_9 (cy := cy) (σ.1 0) (σ.2 0)) rfl dX9_walk_44 rfl rfl (Nat.le_of_ble_eq_true rfl) (fun s1 => ?_)
          refine g_iload (pc := 47) 4 dX9_walk_47 rfl ?_
          refine g_iconst (pc := 49) (2) dX9_walk_49 (by decide) ?_
          refine g_icmp_ne (pc := 50) 58 dX9_walk_50 (by decide) ?_ ?_
          · refine g_iconst (pc := 58) (0) dX9_walk_58 (by decide) ?_
            refine g_istore (pc := 59) (lv' := [(5, .int (0 : Int32)), (0, .ref (q 0)), (1, .int saying), (2, .int p), (3, .int q_), (4, .int what)]) dX9_walk_59 (Nat.le_of_ble_eq_true rfl) rfl ?_
            refine g_iconst (pc := 61) (0) dX9_walk_61 (by decide) ?_
            refine g_istore (pc := 62) (lv' := [(6, .int (0 : Int32)), (5, .int (0 : Int32)), (0, .ref (q 0)), (1, .int saying), (2, .int p), (3, .int q_), (4, .int what)]) dX9_walk_62 (Nat.le_of_ble_eq_true rfl) rfl ?_
            refine g_sub [2, 6, 1, 0] rfl ?_
            refine g_wh2 (pc := 64) (s0 := ((0 : Int32), (0 : Int32))) (fun (w_ : Int32 × Int32) => s1) (fun (w_ : Int32 × Int32) => [(0, .ref (q 0)), (4, .int what), (5, .int w_.1), (6, .int w_.2)]) (fun (w_ : Int32) => s1) (fun (w_ : Int32) => [(5, .int w_)]) 116 ?_ ?_
            · rintro z1
              try dsimp only [un, Sum.elim_inl]
              refine g_iload (pc := 116) 0 dX9_walk_116 rfl ?_
              exact g_iret (pc := 118) (hro _) rfl dX9_walk_118
            · intro K64 hx64 ih64
              rintro ⟨y1, y2⟩
              try dsimp only [b_X9_walk_64, un]
              refine g_iload (pc := 64) 3 dX9_walk_64 rfl ?_
              refine g_sipush (pc := 66) (169) dX9_walk_66 (by decide) ?_
              refine g_icmp_ge (pc := 69) 116 dX9_walk_69 (by decide) ?_ ?_
              · exact g_sub [2] rfl (hx64 y1)
              · refine g_iload (pc := 72) 2 dX9_walk_72 rfl ?_
                refine g_aload_n (pc := 74) 0 dX9_walk_74 rfl rfl ?_
                refine gf_9_isStood (pc := 75) kf_X9_69 dX9_walk_75 ?_
                refine g_iload (pc := 78) 3 dX9_walk_78 rfl ?_
                refine a_zld (pc := 80) aM_isStood dX9_walk_80 ?_
                refine g_if_eq (pc := 81) 106 dX9_walk_81 (by decide) ?_ ?_
                · refine g_iconst (pc := 106) (0) dX9_walk_106 (by decide) ?_
                  refine g_iadd (pc := 107) dX9_walk_107 ?_
                  refine g_nmi (fun x1 => ?_)
                  refine g_istore (pc := 108) (lv' := [(5, .int x1), (0, .ref (q 0)), (4, .int what), (6, .int y2)]) dX9_walk_108 (Nat.le_of_ble_eq_true rfl) rfl ?_
                  refine g_iinc (pc := 110) (j := 3) (1) (lf := fun x2 => [(6, .int x2), (5, .int x1), (0, .ref (q 0)), (4, .int what)]) dX9_walk_110 rfl (by decide) (Nat.le_of_ble_eq_true rfl) (fun _ => rfl) (fun x2 => ?_)
                  refine g_goto (pc := 113) 64 dX9_walk_113 (by decide) ?_
                  exact g_sub [2, 3, 1, 0] rfl (ih64 (x1, x2))
                · refine g_iload (pc := 84) 1 dX9_walk_84 rfl ?_
                  refine g_if_eq (pc := 86) 102 dX9_walk_86 (by decide) ?_ ?_
                  · refine g_iconst (pc := 102) (1) dX9_walk_102 (by decide) ?_
                    refine g_goto (pc := 103) 107 dX9_walk_103 (by decide) ?_
                    refine g_iadd (pc := 107) dX9_walk_107 ?_
                    refine g_nmi (fun x3 => ?_)
                    refine g_istore (pc := 108) (lv' := [(5, .int x3), (0, .ref (q 0)), (4, .int what), (6, .int y2)]) dX9_walk_108 (Nat.le_of_ble_eq_true rfl) rfl ?_
                    refine g_iinc (pc := 110) (j := 3) (1) (lf := fun x4 => [(6, .int x4), (5, .int x3), (0, .ref (q 0)), (4, .int what)]) dX9_walk_110 rfl (by decide) (Nat.le_of_ble_eq_true rfl) (fun _ => rfl) (fun x4 => ?_)
                    refine g_goto (pc := 113) 64 dX9_walk_113 (by decide) ?_
                    exact g_sub [2, 3, 1, 0] rfl (ih64 (x3, x4))
                  · refine g_iload (pc := 89) 3 dX9_walk_89 rfl ?_
                    refine g_bipush (pc := 91) (13) dX9_walk_91 (by decide) ?_
                    refine g_idiv (pc := 93) dX9_walk_93 ?_
                    refine g_iload (pc := 94) 3 dX9_walk_94 rfl ?_
                    refine g_bipush (pc := 96) (13) dX9_walk_96 (by decide) ?_
                    refine g_irem (pc := 98) dX9_walk_98 ?_
                    refine g_icmp_eq (pc := 99) 106 dX9_walk_99 (by decide) ?_ ?_
                    · refine g_iconst (pc := 106) (0) dX9_walk_106 (by decide) ?_
                      refine g_iadd (pc := 107) dX9_walk_107 ?_
                      refine g_nmi (fun x5 => ?_)
                      refine g_istore (pc := 108) (lv' := [(5, .int x5), (0, .ref (q 0)), (4, .int what), (6, .int y2)]) dX9_walk_108 (Nat.le_of_ble_eq_true rfl) rfl ?_
                      refine g_iinc (pc := 110) (j := 3) (1) (lf := fun x6 => [(6, .int x6), (5, .int x5), (0, .ref (q 0)), (4, .int what)]) dX9_walk_110 rfl (by decide) (Nat.le_of_ble_eq_true rfl) (fun _ => rfl) (fun x6 => ?_)
                      refine g_goto (pc := 113) 64 dX9_walk_113 (by decide) ?_
                      exact g_sub [2, 3, 1, 0] rfl (ih64 (x5, x6))
                    · refine g_iconst (pc := 102) (1) dX9_walk_102 (by decide) ?_
                      refine g_goto (pc := 103) 107 dX9_walk_103 (by decide) ?_
                      refine g_iadd (pc := 107) dX9_walk_107 ?_
                      refine g_nmi (fun x7 => ?_)
                      refine g_istore (pc := 108) (lv' := [(5, .int x7), (0, .ref (q 0)), (4, .int what), (6, .int y2)]) dX9_walk_108 (Nat.le_of_ble_eq_true rfl) rfl ?_
                      refine g_iinc (pc := 110) (j := 3) (1) (lf := fun x8 => [(6, .int x8), (5, .int x7), (0, .ref (q 0)), (4, .int what)]) dX9_walk_110 rfl (by decide) (Nat.le_of_ble_eq_true rfl) (fun _ => rfl) (fun x8 => ?_)
                      refine g_goto (pc := 113) 64 dX9_walk_113 (by decide) ?_
                      exact g_sub [2, 3, 1, 0] rfl (ih64 (x7, x8))
          · refine g_aload_n (pc := 53) 0 dX9_walk_53 rfl rfl ?_
            refine gf_9_mostMoves (pc := 54) kf_X9_278 dX9_walk_54 ?_
            exact g_iret (pc := 57) (hro _) rfl dX9_walk_57
        · refine g_bipush (pc := 37) (-2) dX9_walk_37 (by decide) ?_
          exact g_iret (pc := 39) (hro _) rfl dX9_walk_39
      · refine g_iconst (pc := 22) (-1) dX9_walk_22 (by decide) ?_
        exact g_iret (pc := 23) (hro _) rfl dX9_walk_23
def f_X9_isPlace (one : Int32) (two : Int32) : Option (Int32) := (f_X9_in one.toInt64 (0 : Int64) (12 : Int64)).bind fun r1 => (if r1 = (0 : Int32) then some (0 : Int32) else (f_X9_in two.toInt64 (0 : Int64) (12 : Int64)).bind fun r2 => (if r2 = (0 : Int32) then some (0 : Int32) else some (1 : Int32)))
abbrev rm_X9_isPlace : Room := { frames := 1, cells := 0, slots := 0, locals := 25 }
set_option maxHeartbeats 4000000 in
set_option maxRecDepth 20000 in
theorem m_X9_isPlace (l : Launch) (D : va_G) (cy : Cy) (q : Nat → Nat) (σ : St) (one : Int32) (two : Int32)  : ∀ res, f_X9_isPlace one two = some res → MetX (vM D cy q) l yX9_isPlace cX9_isPlace 2 (some .boolean) rm_X9_isPlace [.int one, .int two] σ (some (.int res), σ) := by
  let fin_ : Int32 → Option Value × St := fun r => (some (.int r), σ)
  have hro : ∀ (z : Int32) (res : Int32), some z = some res → fin_ res = fin_ z := fun z res h => by cases h; rfl
  refine MetX.of1 (fin := fin_) (lv := [(0, .int one), (1, .int two)]) (by decide) (Nat.le_of_ble_eq_true rfl) rfl ?_
  unfold f_X9_isPlace
  refine g_iload_n (pc := 0) 0 dX9_isPlace_0 rfl rfl ?_
  refine g_i2l (pc := 1) dX9_isPlace_1 ?_
  refine g_lconst (pc := 2) (0) dX9_isPlace_2 (by decide) ?_
  refine g_ldc2 (pc := 3) dX9_isPlace_3 kl_X9_109 ?_
  refine gS_i (pc := 6) [.long one.toInt64, .long (0 : Int64), .long (12 : Int64)] [] (m_X9_in l D cy q σ one.toInt64 (0 : Int64) (12 : Int64)) cw_X9_in km_X9_101 ⟨rfl, rfl, by decide, by decide⟩ dX9_isPlace_6 rfl rfl (Nat.le_of_ble_eq_true rfl) (fun r1 => ?_)
  refine g_if_eq (pc := 9) 28 dX9_isPlace_9 (by decide) ?_ ?_
  · refine g_iconst (pc := 28) (0) dX9_isPlace_28 (by decide) ?_
    exact g_zret (pc := 29) rfl (hro _) rfl dX9_isPlace_29
  · refine g_iload_n (pc := 12) 1 dX9_isPlace_12 rfl rfl ?_
    refine g_i2l (pc := 13) dX9_isPlace_13 ?_
    refine g_lconst (pc := 14) (0) dX9_isPlace_14 (by decide) ?_
    refine g_ldc2 (pc := 15) dX9_isPlace_15 kl_X9_109 ?_
    refine gS_i (pc := 18) [.long two.toInt64, .long (0 : Int64), .long (12 : Int64)] [] (m_X9_in l D cy q σ two.toInt64 (0 : Int64) (12 : Int64)) cw_X9_in km_X9_101 ⟨rfl, rfl, by decide, by decide⟩ dX9_isPlace_18 rfl rfl (Nat.le_of_ble_eq_true rfl) (fun r2 => ?_)
    refine g_if_eq (pc := 21) 28 dX9_isPlace_21 (by decide) ?_ ?_
    · refine g_iconst (pc := 28) (0) dX9_isPlace_28 (by decide) ?_
      exact g_zret (pc := 29) rfl (hro _) rfl dX9_isPlace_29
    · refine g_iconst (pc := 24) (1) dX9_isPlace_24 (by decide) ?_
      refine g_goto (pc := 25) 29 dX9_isPlace_25 (by decide) ?_
      exact g_zret (pc := 29) rfl (hro _) rfl dX9_isPlace_29
def f_X9_shape (saying : Int32) (p : Int32) (q_ : Int32) (one : Int32) (two : Int32) (σ : St) : Option (Int32 × St) := (f_X9_isSaying saying σ).bind fun r1 => (if r1 = (0 : Int32) then some ((-1 : Int32), σ) else (f_X9_isProgram p).bind fun r2 => (if r2 = (0 : Int32) then some ((-1 : Int32), σ) else (f_X9_isProgram q_).bind fun r3 => (if r3 = (0 : Int32) then some ((-1 : Int32), σ) else (f_X9_isPlace one two).bind fun r4 => (if r4 = (0 : Int32) then some ((-2 : Int32), σ) else (f_X9_walkAll saying p q_ σ).bind fun s1 => chk (inb (((13 : Int32) * one) + two) 169) (some ((s1.1 18 (((13 : Int32) * one) + two).toNatClampNeg), s1))))))
abbrev rm_X9_shape : Room := { frames := 5, cells := 0, slots := 0, locals := 120 }
set_option maxHeartbeats 4000000 in
set_option maxRecDepth 20000 in
theorem m_X9_shape (l : Launch) (D : va_G) (cy : Cy) (q : Nat → Nat) (σ : St) (saying : Int32) (p : Int32) (q_ : Int32) (one : Int32) (two : Int32)  : ∀ res, f_X9_shape saying p q_ one two σ = some res → MetX (vM D cy q) l yX9_shape cX9_shape 6 (some .int) rm_X9_shape [.ref (q 0), .int saying, .int p, .int q_, .int one, .int two] σ (some (.int res.1), res.2) := by
  let fin_ : (Int32 × St) → Option Value × St := fun r => (some (.int r.1), r.2)
  have hro : ∀ (z : Int32 × St) (res : Int32 × St), some z = some res → fin_ res = fin_ z := fun z res h => by cases h; rfl
  refine MetX.of1 (fin := fin_) (lv := [(0, .ref (q 0)), (1, .int saying), (2, .int p), (3, .int q_), (4, .int one), (5, .int two)]) (by decide) (Nat.le_of_ble_eq_true rfl) rfl ?_
  unfold f_X9_shape
  refine g_aload_n (pc := 0) 0 dX9_shape_0 rfl rfl ?_
  refine g_iload_n (pc := 1) 1 dX9_shape_1 rfl rfl ?_
  refine gV_i (pc := 2) [.int saying] [] (m_X9_isSaying l D cy q σ saying) cw_X9_isSaying km_X9_209 ⟨rfl, rfl, by decide, by decide⟩ (Nat.le_of_ble_eq_true rfl) (eM_9 (cy := cy) (σ.1 0) (σ.2 0)) rfl dX9_shape_2 rfl rfl (Nat.le_of_ble_eq_true rfl) (fun r1 => ?_)
  refine g_if_eq (pc := 5) 22 dX9_shape_5 (by decide) ?_ ?_
  · refine g_iconst (pc := 22) (-1) dX9_shape_22 (by decide) ?_
    exact g_iret (pc := 23) (hro _) rfl dX9_shape_23
  · refine g_iload_n (pc := 8) 2 dX9_shape_8 rfl rfl ?_
    refine gS_i (pc := 9) [.int p] [] (m_X9_isProgram l D cy q σ p) cw_X9_isProgram km_X9_111 ⟨rfl, rfl, by decide, by decide⟩ dX9_shape_9 rfl rfl (Nat.le_of_ble_eq_true rfl) (fun r2 => ?_)
    refine g_if_eq (pc := 12) 22 dX9_shape_12 (by decide) ?_ ?_
    · refine g_iconst (pc := 22) (-1) dX9_shape_22 (by decide) ?_
      exact g_iret (pc := 23) (hro _) rfl dX9_shape_23
    · refine g_iload_n (pc := 15) 3 dX9_shape_15 rfl rfl ?_
      refine gS_i (pc := 16) [.int q_] [] (m_X9_isProgram l D cy q σ q_) cw_X9_isProgram km_X9_111 ⟨rfl, rfl, by decide, by decide⟩ dX9_shape_16 rfl rfl (Nat.le_of_ble_eq_true rfl) (fun r3 => ?_)
      refine g_if_ne (pc := 19) 24 dX9_shape_19 (by decide) ?_ ?_
      · refine g_iload (pc := 24) 4 dX9_shape_24 rfl ?_
        refine g_iload (pc := 26) 5 dX9_shape_26 rfl ?_
        refine gS_i (pc := 28) [.int one, .int two] [] (m_X9_isPlace l D cy q σ one two) cw_X9_isPlace km_X9_290 ⟨rfl, rfl, by decide, by decide⟩ dX9_shape_28 rfl rfl (Nat.le_of_ble_eq_true rfl) (fun r4 => ?_)
        refine g_if_ne (pc := 31) 37 dX9_shape_31 (by decide) ?_ ?_
        · refine g_aload_n (pc := 37) 0 dX9_shape_37 rfl rfl ?_
          refine g_iload_n (pc := 38) 1 dX9_shape_38 rfl rfl ?_
          refine g_iload_n (pc := 39) 2 dX9_shape_39 rfl rfl ?_
          refine g_iload_n (pc := 40) 3 dX9_shape_40 rfl rfl ?_
          refine gV_v (pc := 41) [.int saying, .int p, .int q_] [] (m_X9_walkAll l D cy q σ saying p q_) cw_X9_walkAll km_X9_287 ⟨rfl, rfl, by decide, by decide⟩ (Nat.le_of_ble_eq_true rfl) (eM_9 (cy := cy) (σ.1 0) (σ.2 0)) rfl dX9_shape_41 rfl rfl (Nat.le_of_ble_eq_true rfl) (fun s1 => ?_)
          refine g_aload_n (pc := 44) 0 dX9_shape_44 rfl rfl ?_
          refine gf_9_shapes (pc := 45) kf_X9_66 dX9_shape_45 ?_
          refine g_bipush (pc := 48) (13) dX9_shape_48 (by decide) ?_
          refine g_iload (pc := 50) 4 dX9_shape_50 rfl ?_
          refine g_imul (pc := 52) dX9_shape_52 ?_
          refine g_iload (pc := 53) 5 dX9_shape_53 rfl ?_
          refine g_iadd (pc := 55) dX9_shape_55 ?_
          refine a_ild (pc := 56) aM_shapes dX9_shape_56 ?_
          exact g_iret (pc := 57) (hro _) rfl dX9_shape_57
        · refine g_bipush (pc := 34) (-2) dX9_shape_34 (by decide) ?_
          exact g_iret (pc := 36) (hro _) rfl dX9_shape_36
      · refine g_iconst (pc := 22) (-1) dX9_shape_22 (by decide) ?_
        exact g_iret (pc := 23) (hro _) rfl dX9_shape_23
def f_X9_tell (one : Int32) (two : Int32) (bits : Int32) (σ : St) : Option (Int32 × St) := (f_X9_isPlace one two).bind fun r1 => (if r1 = (0 : Int32) then some ((-2 : Int32), σ) else (f_X9_in bits.toInt64 (0 : Int64) (4095 : Int64)).bind fun r2 => (if r2 = (0 : Int32) then some ((-2 : Int32), σ) else chk (inb (((13 : Int32) * one) + two) 169) (nm (σ.1 17 (((13 : Int32) * one) + two).toNatClampNeg) fun x1 => chk (inb (((13 : Int32) * one) + two) 169) (nm (stI σ 17 (((13 : Int32) * one) + two).toNatClampNeg bits) fun s1 => some (x1, s1)))))
abbrev rm_X9_tell : Room := { frames := 2, cells := 0, slots := 0, locals := 46 }
set_option maxHeartbeats 4000000 in
set_option maxRecDepth 20000 in
theorem m_X9_tell (l : Launch) (D : va_G) (cy : Cy) (q : Nat → Nat) (σ : St) (one : Int32) (two : Int32) (bits : Int32)  : ∀ res, f_X9_tell one two bits σ = some res → MetX (vM D cy q) l yX9_tell cX9_tell 5 (some .int) rm_X9_tell [.ref (q 0), .int one, .int two, .int bits] σ (some (.int res.1), res.2) := by
  let fin_ : (Int32 × St) → Option Value × St := fun r => (some (.int r.1), r.2)
  have hro : ∀ (z : Int32 × St) (res : Int32 × St), some z = some res → fin_ res = fin_ z := fun z res h => by cases h; rfl
  refine MetX.of1 (fin := fin_) (lv := [(0, .ref (q 0)), (1, .int one), (2, .int two), (3, .int bits)]) (by decide) (Nat.le_of_ble_eq_true rfl) rfl ?_
  unfold f_X9_tell
  refine g_iload_n (pc := 0) 1 dX9_tell_0 rfl rfl ?_
  refine g_iload_n (pc := 1) 2 dX9_tell_1 rfl rfl ?_
  refine gS_i (pc := 2) [.int one, .int two] [] (m_X9_isPlace l D cy q σ one two) cw_X9_isPlace km_X9_290 ⟨rfl, rfl, by decide, by decide⟩ dX9_tell_2 rfl rfl (Nat.le_of_ble_eq_true rfl) (fun r1 => ?_)
  refine g_if_eq (pc := 5) 20 dX9_tell_5 (by decide) ?_ ?_
  · refine g_bipush (pc := 20) (-2) dX9_tell_20 (by decide) ?_
    exact g_iret (pc := 22) (hro _) rfl dX9_tell_22
  · refine g_iload_n (pc := 8) 3 dX9_tell_8 rfl rfl ?_
    refine g_i2l (pc := 9) dX9_tell_9 ?_
    refine g_lconst (pc := 10) (0) dX9_tell_10 (by decide) ?_
    refine g_ldc2 (pc := 11) dX9_tell_11 kl_X9_126 ?_
    refine gS_i (pc := 14) [.long bits.toInt64, .long (0 : Int64), .long (4095 : Int64)] [] (m_X9_in l D cy q σ bits.toInt64 (0 : Int64) (4095 : Int64)) cw_X9_in km_X9_101 ⟨rfl, rfl, by decide, by decide⟩ dX9_tell_14 rfl rfl (Nat.le_of_ble_eq_true rfl) (fun r2 => ?_)
    refine g_if_ne (pc := 17) 23 dX9_tell_17 (by decide) ?_ ?_
    · refine g_aload_n (pc := 23) 0 dX9_tell_23 rfl rfl ?_
      refine gf_9_toldShape (pc := 24) kf_X9_63 dX9_tell_24 ?_
      refine g_bipush (pc := 27) (13) dX9_tell_27 (by decide) ?_
      refine g_iload_n (pc := 29) 1 dX9_tell_29 rfl rfl ?_
      refine g_imul (pc := 30) dX9_tell_30 ?_
      refine g_iload_n (pc := 31) 2 dX9_tell_31 rfl rfl ?_
      refine g_iadd (pc := 32) dX9_tell_32 ?_
      refine a_ild (pc := 33) aM_toldShape dX9_tell_33 ?_
      refine g_nmi (fun x1 => ?_)
      refine g_istore (pc := 34) (lv' := [(4, .int x1), (0, .ref (q 0)), (1, .int one), (2, .int two), (3, .int bits)]) dX9_tell_34 (Nat.le_of_ble_eq_true rfl) rfl ?_
      refine g_aload_n (pc := 36) 1 dX9_tell_36 rfl rfl ?_
      refine gf_9_toldShape (pc := 37) kf_X9_63 dX9_tell_37 ?_
      refine g_bipush (pc := 40) (13) dX9_tell_40 (by decide) ?_
      refine g_iload_n (pc := 42) 2 dX9_tell_42 rfl rfl ?_
      refine g_imul (pc := 43) dX9_tell_43 ?_
      refine g_iload_n (pc := 44) 3 dX9_tell_44 rfl rfl ?_
      refine g_iadd (pc := 45) dX9_tell_45 ?_
      refine g_iload_n (pc := 46) 4 dX9_tell_46 rfl rfl ?_
      refine a_ist (pc := 47) aM_toldShape dX9_tell_47 (fun s1 => ?_)
      refine g_iload (pc := 48) 0 dX9_tell_48 rfl ?_
      exact g_iret (pc := 50) (hro _) rfl dX9_tell_50
    · refine g_bipush (pc := 20) (-2) dX9_tell_20 (by decide) ?_
      exact g_iret (pc := 22) (hro _) rfl dX9_tell_22
def b_X9_isKept_45 (p : Int32) (q_ : Int32) (one : Int32) (two : Int32) (x1 : Int32) (r1 : Int32) (y2 : Int32) : (Int32 × Int32 × St) → Option ((Int32 × Int32 × St) ⊕ (Int32 × St)) := un fun y3 => un fun y4 s2 => (if (256 : Int32) ≤ y4 then some (.inr (y3, s2)) else (if y3 = (0 : Int32) then some (.inr (y3, s2)) else chk (inb (((256 : Int32) * y2) + y4) 65536) ((if (x1 &&& ((s2.1 20 (((256 : Int32) * y2) + y4).toNatClampNeg) ^^^ (-1 : Int32))) = (0 : Int32) then nm (stI s2 0 27 one) fun s3 => nm (stI s3 0 28 y2) fun s4 => nm (stI s4 0 29 (0 : Int32)) fun s5 => nm (stI s5 0 30 two) fun s6 => nm (stI s6 0 31 y4) fun s7 => nm (stI s7 0 32 (0 : Int32)) fun s8 => (if r1 = (2 : Int32) then (if r1 = (1 : Int32) then chk (inb (((13 : Int32) * (s8.1 0 27)) + (s8.1 0 30)) 169) (chk (inb (((256 : Int32) * (s8.1 0 28)) + (s8.1 0 31)) 65536) ((if ((s8.1 17 (((13 : Int32) * (s8.1 0 27)) + (s8.1 0 30)).toNatClampNeg) &&& ((s8.1 20 (((256 : Int32) * (s8.1 0 28)) + (s8.1 0 31)).toNatClampNeg) ^^^ (-1 : Int32))) = (0 : Int32) then nm (y4 + (1 : Int32)) fun x4 => some (.inl ((1 : Int32), x4, s8)) else nm (y4 + (1 : Int32)) fun x3 => some (.inl ((0 : Int32), x3, s8))))) else (f_X9_stepSecond q_ s8).bind fun s9 => chk (inb (((13 : Int32) * (s9.1 0 27)) + (s9.1 0 30)) 169) (chk (inb (((256 : Int32) * (s9.1 0 28)) + (s9.1 0 31)) 65536) ((if ((s9.1 17 (((13 : Int32) * (s9.1 0 27)) + (s9.1 0 30)).toNatClampNeg) &&& ((s9.1 20 (((256 : Int32) * (s9.1 0 28)) + (s9.1 0 31)).toNatClampNeg) ^^^ (-1 : Int32))) = (0 : Int32) then nm (y4 + (1 : Int32)) fun x6 => some (.inl ((1 : Int32), x6, s9)) else nm (y4 + (1 : Int32)) fun x5 => some (.inl ((0 : Int32), x5, s9)))))) else (f_X9_stepFirst p s8).bind fun s10 => (if r1 = (1 : Int32) then chk (inb (((13 : Int32) * (s10.1 0 27)) + (s10.1 0 30)) 169) (chk (inb (((256 : Int32) * (s10.1 0 28)) + (s10.1 0 31)) 65536) ((if ((s10.1 17 (((13 : Int32) * (s10.1 0 27)) + (s10.1 0 30)).toNatClampNeg) &&& ((s10.1 20 (((256 : Int32) * (s10.1 0 28)) + (s10.1 0 31)).toNatClampNeg) ^^^ (-1 : Int32))) = (0 : Int32) then nm (y4 + (1 : Int32)) fun x8 => some (.inl ((1 : Int32), x8, s10)) else nm (y4 + (1 : Int32)) fun x7 => some (.inl ((0 : Int32), x7, s10))))) else (f_X9_stepSecond q_ s10).bind fun s11 => chk (inb (((13 : Int32) * (s11.1 0 27)) + (s11.1 0 30)) 169) (chk (inb (((256 : Int32) * (s11.1 0 28)) + (s11.1 0 31)) 65536) ((if ((s11.1 17 (((13 : Int32) * (s11.1 0 27)) + (s11.1 0 30)).toNatClampNeg) &&& ((s11.1 20 (((256 : Int32) * (s11.1 0 28)) + (s11.1 0 31)).toNatClampNeg) ^^^ (-1 : Int32))) = (0 : Int32) then nm (y4 + (1 : Int32)) fun x10 => some (.inl ((1 : Int32), x10, s11)) else nm (y4 + (1 : Int32)) fun x9 => some (.inl ((0 : Int32), x9, s11))))))) else nm (y4 + (1 : Int32)) fun x2 => some (.inl (y3, x2, s2))))))
def b_X9_isKept_29 (p : Int32) (q_ : Int32) (one : Int32) (two : Int32) (x1 : Int32) (r1 : Int32) : (Int32 × Int32 × St) → Option ((Int32 × Int32 × St) ⊕ (Int32 × St)) := un fun y1 => un fun y2 s1 => (if (256 : Int32) ≤ y2 then some (.inr (y1, s1)) else (if y1 = (0 : Int32) then some (.inr (y1, s1)) else (wh FU (b_X9_isKept_45 p q_ one two x1 r1 y2) (y1, (0 : Int32), s1)).bind (un fun z1 s12 => nm (y2 + (1 : Int32)) fun x11 => some (.inl (z1, x11, s12)))))
def f_X9_isKept (p : Int32) (q_ : Int32) (one : Int32) (two : Int32) (σ : St) : Option (Int32 × St) := chk (inb (((13 : Int32) * one) + two) 169) (nm (σ.1 17 (((13 : Int32) * one) + two).toNatClampNeg) fun x1 => (f_X9_moverAt one two σ).bind fun r1 => (wh FU (b_X9_isKept_29 p q_ one two x1 r1) ((1 : Int32), (0 : Int32), σ)).bind (un fun z2 s13 => chk (isb z2) (some (z2, s13))))
abbrev rm_X9_isKept : Room := { frames := 2, cells := 0, slots := 0, locals := 45 }
set_option maxHeartbeats 4000000 in
set_option maxRecDepth 20000 in
theorem m_X9_isKept (l : Launch) (D : va_G) (cy : Cy) (q : Nat → Nat) (σ : St) (p : Int32) (q_ : Int32) (one : Int32) (two : Int32)  : ∀ res, f_X9_isKept p q_ one two σ = some res → MetX (vM D cy q) l yX9_isKept cX9_isKept 10 (some .boolean) rm_X9_isKept [.ref (q 0), .int p, .int q_, .int one, .int two] σ (some (.int res.1), res.2) := by
  let fin_ : (Int32 × St) → Option Value × St := fun r => (some (.int r.1), r.2)
  have hro : ∀ (z : Int32 × St) (res : Int32 × St), some z = some res → fin_ res = fin_ z := fun z res h => by cases h; rfl
  refine MetX.of1 (fin := fin_) (lv := [(0, .ref (q 0)), (1, .int p), (2, .int q_), (3, .int one), (4, .int two)]) (by decide) (Nat.le_of_ble_eq_true rfl) rfl ?_
  unfold f_X9_isKept
  refine g_aload_n (pc := 0) 0 dX9_isKept_0 rfl rfl ?_
  refine gf_9_toldShape (pc := 1) kf_X9_63 dX9_isKept_1 ?_
  refine g_bipush (pc := 4) (13) dX9_isKept_4 (by decide) ?_
  refine g_iload_n (pc := 6) 3 dX9_isKept_6 rfl rfl ?_
  refine g_imul (pc := 7) dX9_isKept_7 ?_
  refine g_iload (pc := 8) 4 dX9_isKept_8 rfl ?_
  refine g_iadd (pc := 10) dX9_isKept_10 ?_
  refine a_ild (pc := 11) aM_toldShape dX9_isKept_11 ?_
  refine g_nmi (fun x1 => ?_)
  refine g_istore (pc := 12) (lv' := [(5, .int x1), (0, .ref (q 0)), (1, .int p), (2, .int q_), (3, .int one), (4, .int two)]) dX9_isKept_12 (Nat.le_of_ble_eq_true rfl) rfl ?_
  refine g_aload_n (pc := 14) 1 dX9_isKept_14 rfl rfl ?_
  refine g_iload_n (pc := 15) 4 dX9_isKept_15 rfl rfl ?_
  refine g_iload (pc := 16) 5 dX9_isKept_16 rfl ?_
  refine gV_i (pc := 18) [.int one, .int two] [] (m_X9_moverAt l D cy q σ one two) cw_X9_moverAt km_X9_275 ⟨rfl, rfl, by decide, by decide⟩ (Nat.le_of_ble_eq_true rfl) (eM_9 (cy := cy) (σ.1 0) (σ.2 0)) rfl dX9_isKept_18 rfl rfl (Nat.le_of_ble_eq_true rfl) (fun r1 => ?_)
  refine g_istore (pc := 21) (lv' := [(6, .int r1), (5, .int x1), (0, .ref (q 0)), (1, .int p), (2, .int q_), (3, .int one), (4, .int two)]) dX9_isKept_21 (Nat.le_of_ble_eq_true rfl) rfl ?_
  refine g_iconst (pc := 23) (1) dX9_isKept_23 (by decide) ?_
  refine g_istore (pc := 24) (lv' := [(7, .int (1 : Int32)), (6, .int r1), (5, .int x1), (0, .ref (q 0)), (1, .int p), (2, .int q_), (3, .int one), (4, .int two)]) dX9_isKept_24 (Nat.le_of_ble_eq_true rfl) rfl ?_
  refine g_iconst (pc := 26) (0) dX9_isKept_26 (by decide) ?_
  refine g_istore (pc := 27) (lv' := [(8, .int (0 : Int32)), (7, .int (1 : Int32)), (6, .int r1), (5, .int x1), (0, .ref (q 0)), (1, .int p), (2, .int q_), (3, .int one), (4, .int two)]) dX9_isKept_27 (Nat.le_of_ble_eq_true rfl) rfl ?_
  refine g_sub [4, 5, 6, 7, 8, 3, 2, 1, 0] rfl ?_
  refine g_wh2 (pc := 29) (s0 := ((1 : Int32), (0 : Int32), σ)) (fun (w_ : Int32 × Int32 × St) => w_.2.2) (fun (w_ : Int32 × Int32 × St) => [(0, .ref (q 0)), (1, .int p), (2, .int q_), (3, .int one), (4, .int two), (5, .int x1), (6, .int r1), (7, .int w_.1), (8, .int w_.2.1)]) (fun (w_ : Int32 × St) => w_.2) (fun (w_ : Int32 × St) => [(7, .int w_.1)]) 195 ?_ ?_
  · rintro ⟨z2, s13⟩
    try dsimp only [un, Sum.elim_inl]
    refine g_iload (pc := 195) 0 dX9_isKept_195 rfl ?_
    exact g_chk fun hb => g_zret (pc := 197) hb (hro _) rfl dX9_isKept_197
  · intro K29 hx29 ih29
    rintro ⟨y1, y2, s1⟩
    try dsimp only [b_X9_isKept_29, un]
    refine g_iload (pc := 29) 8 dX9_isKept_29 rfl ?_
    refine g_sipush (pc := 31) (256) dX9_isKept_31 (by decide) ?_
    refine g_icmp_ge (pc := 34) 195 dX9_isKept_34 (by decide) ?_ ?_
    · exact g_sub [7] rfl (hx29 (y1, s1))
    · refine g_iload (pc := 37) 7 dX9_isKept_37 rfl ?_
      refine g_if_eq (pc := 39) 195 dX9_isKept_39 (by decide) ?_ ?_
      · exact g_sub [7] rfl (hx29 (y1, s1))
      · refine g_iconst (pc := 42) (0) dX9_isKept_42 (by decide) ?_
        refine g_istore (pc := 43) (lv' := [(9, .int (0 : Int32)), (0, .ref (q 0)), (1, .int p), (2, .int q_), (3, .int one), (4, .int two), (5, .int x1), (6, .int r1), (7, .int y1), (8, .int y2)]) dX9_isKept_43 (Nat.le_of_ble_eq_true rfl) rfl ?_
        refine g_sub [1, 2, 3, 4, 5, 6, 7, 8, 9, 0] rfl ?_
        refine g_wh2 (pc := 45) (s0 := (y1, (0 : Int32), s1)) (fun (w_ : Int32 × Int32 × St) => w_.2.2) (fun (w_ : Int32 × Int32 × St) => [(0, .ref (q 0)), (1, .int p), (2, .int q_), (3, .int one), (4, .int two), (5, .int x1), (6, .int r1), (7, .int w_.1), (8, .int y2), (9, .int w_.2.1)]) (fun (w_ : Int32 × St) => w_.2) (fun (w_ : Int32 × St) => [(0, .ref (q 0)), (1, .int p), (2, .int q_), (3, .int one), (4, .int two), (5, .int x1), (6, .int r1), (7, .int w_.1), (8, .int y2)]) 189 ?_ ?_
        · rintro ⟨z1, s12⟩
          try dsimp only [un, Sum.elim_inl]
          refine g_iinc (pc := 189) (j := 8) (1) (lf := fun x11 => [(8, .int x11), (0, .ref (q 0)), (1, .int p), (2, .int q_), (3, .int one), (4, .int two), (5, .int x1), (6, .int r1), (7, .int z1)]) dX9_isKept_189 rfl (by decide) (Nat.le_of_ble_eq_true rfl) (fun _ => rfl) (fun x11 => ?_)
          refine g_goto (pc := 192) 29 dX9_isKept_192 (by decide) ?_
          exact g_sub [1, 2, 3, 4, 5, 6, 7, 8, 0] rfl (ih29 (z1, x11, s12))
        · intro K45 hx45 ih45
          rintro ⟨y3, y4, s2⟩
          try dsimp only [b_X9_isKept_45, un]
          refine g_iload (pc := 45) 9 dX9_isKept_45 rfl ?_
          refine g_sipush (pc := 47) (256) dX9_isKept_47 (by decide) ?_
          refine g_icmp_ge (pc := 50) 189 dX9_isKept_50 (by decide) ?_ ?_
          · exact g_sub [0, 1, 2, 3, 4, 5, 6, 7, 8] rfl (hx45 (y3, s2))
          · refine g_iload (pc := 53) 7 dX9_isKept_53 rfl ?_
            refine g_if_eq (pc := 55) 189 dX9_isKept_55 (by decide) ?_ ?_
            · exact g_sub [0, 1, 2, 3, 4, 5, 6, 7, 8] rfl (hx45 (y3, s2))
            · refine g_iload (pc := 58) 5 dX9_isKept_58 rfl ?_
              refine g_aload_n (pc := 60) 0 dX9_isKept_60 rfl rfl ?_
              refine gf_9_says (pc := 61) kf_X9_73 dX9_isKept_61 ?_
              refine g_sipush (pc := 64) (256) dX9_isKept_64 (by decide) ?_
              refine g_iload (pc := 67) 8 dX9_isKept_67 rfl ?_
              refine g_imul (pc := 69) dX9_isKept_69 ?_
              refine g_iload (pc := 70) 9 dX9_isKept_70 rfl ?_
              refine g_iadd (pc := 72) dX9_isKept_72 ?_
              refine a_ild (pc := 73) aM_says dX9_isKept_73 ?_
              refine g_iconst (pc := 74) (-1) dX9_isKept_74 (by decide) ?_
              refine g_ixor (pc := 75) dX9_isKept_75 ?_
              refine g_iand (pc := 76) dX9_isKept_76 ?_
              refine g_if_ne (pc := 77) 183 dX9_isKept_77 (by decide) ?_ ?_
              · refine g_iinc (pc := 183) (j := 9) (1) (lf := fun x2 => [(9, .int x2), (0, .ref (q 0)), (1, .int p), (2, .int q_), (3, .int one), (4, .int two), (5, .int x1), (6, .int r1), (7, .int y3), (8, .int y2)]) dX9_isKept_183 rfl (by decide) (Nat.le_of_ble_eq_true rfl) (fun _ => rfl) (fun x2 => ?_)
                refine g_goto (pc := 186) 45 dX9_isKept_186 (by decide) ?_
                exact g_sub [1, 2, 3, 4, 5, 6, 7, 8, 9, 0] rfl (ih45 (y3, x2, s2))
              · refine g_aload_n (pc := 80) 0 dX9_isKept_80 rfl rfl ?_
                refine g_iload_n (pc := 81) 3 dX9_isKept_81 rfl rfl ?_
                refine gp_9_oneLine (pc := 82) kf_X9_240 dX9_isKept_82 (fun s3 => ?_)
                refine g_aload_n (pc := 85) 0 dX9_isKept_85 rfl rfl ?_
                refine g_iload (pc := 86) 8 dX9_isKept_86 rfl ?_
                refine gp_9_oneMemory (pc := 88) kf_X9_243 dX9_isKept_88 (fun s4 => ?_)
                refine g_aload_n (pc := 91) 0 dX9_isKept_91 rfl rfl ?_
                refine g_iconst (pc := 92) (0) dX9_isKept_92 (by decide) ?_
                refine gp_9_oneSteps (pc := 93) kf_X9_246 dX9_isKept_93 (fun s5 => ?_)
                refine g_aload_n (pc := 96) 0 dX9_isKept_96 rfl rfl ?_
                refine g_iload (pc := 97) 4 dX9_isKept_97 rfl ?_
                refine gp_9_twoLine (pc := 99) kf_X9_249 dX9_isKept_99 (fun s6 => ?_)
                refine g_aload_n (pc := 102) 0 dX9_isKept_102 rfl rfl ?_
                refine g_iload (pc := 103) 9 dX9_isKept_103 rfl ?_
                refine gp_9_twoMemory (pc := 105) kf_X9_252 dX9_isKept_105 (fun s7 => ?_)
                refine g_aload_n (pc := 108) 0 dX9_isKept_108 rfl rfl ?_
                refine g_iconst (pc := 109) (0) dX9_isKept_109 (by decide) ?_
                refine gp_9_twoSteps (pc := 110) kf_X9_255 dX9_isKept_110 (fun s8 => ?_)
                refine g_iload (pc := 113) 6 dX9_isKept_113 rfl ?_
                refine g_iconst (pc := 115) (2) dX9_isKept_115 (by decide) ?_
                refine g_icmp_eq (pc := 116) 124 dX9_isKept_116 (by decide) ?_ ?_
                · refine g_iload (pc := 124) 6 dX9_isKept_124 rfl ?_
                  refine g_iconst (pc := 126) (1) dX9_isKept_126 (by decide) ?_
                  refine g_icmp_eq (pc := 127) 135 dX9_isKept_127 (by decide) ?_ ?_
                  · refine g_aload_n (pc := 135) 0 dX9_isKept_135 rfl rfl ?_
                    refine gf_9_toldShape (pc := 136) kf_X9_63 dX9_isKept_136 ?_
                    refine g_bipush (pc := 139) (13) dX9_isKept_139 (by decide) ?_
                    refine g_aload_n (pc := 141) 0 dX9_isKept_141 rfl rfl ?_
                    refine gf_9_oneLine (pc := 142) kf_X9_240 dX9_isKept_142 ?_
                    refine g_imul (pc := 145) dX9_isKept_145 ?_
                    refine g_aload_n (pc := 146) 0 dX9_isKept_146 rfl rfl ?_
                    refine gf_9_twoLine (pc := 147) kf_X9_249 dX9_isKept_147 ?_
                    refine g_iadd (pc := 150) dX9_isKept_150 ?_
                    refine a_ild (pc := 151) aM_toldShape dX9_isKept_151 ?_
                    refine g_aload_n (pc := 152) 0 dX9_isKept_152 rfl rfl ?_
                    refine gf_9_says (pc := 153) kf_X9_73 dX9_isKept_153 ?_
                    refine g_sipush (pc := 156) (256) dX9_isKept_156 (by decide) ?_
                    refine g_aload_n (pc := 159) 0 dX9_isKept_159 rfl rfl ?_
                    refine gf_9_oneMemory (pc := 160) kf_X9_243 dX9_isKept_160 ?_
                    refine g_imul (pc := 163) dX9_isKept_163 ?_
                    refine g_aload_n (pc := 164) 0 dX9_isKept_164 rfl rfl ?_
                    refine gf_9_twoMemory (pc := 165) kf_X9_252 dX9_isKept_165 ?_
                    refine g_iadd (pc := 168) dX9_isKept_168 ?_
                    refine a_ild (pc := 169) aM_says dX9_isKept_169 ?_
                    refine g_iconst (pc := 170) (-1) dX9_isKept_170 (by decide) ?_
                    refine g_ixor (pc := 171) dX9_isKept_171 ?_
                    refine g_iand (pc := 172) dX9_isKept_172 ?_
                    refine g_if_ne (pc := 173) 180 dX9_isKept_173 (by decide) ?_ ?_
                    · refine g_iconst (pc := 180) (0) dX9_isKept_180 (by decide) ?_
                      refine g_istore (pc := 181) (lv' := [(7, .int (0 : Int32)), (0, .ref (q 0)), (1, .int p), (2, .int q_), (3, .int one), (4, .int two), (5, .int x1), (6, .int r1), (8, .int y2), (9, .int y4)]) dX9_isKept_181 (Nat.le_of_ble_eq_true rfl) rfl ?_
                      refine g_iinc (pc := 183) (j := 9) (1) (lf := fun x3 => [(9, .int x3), (7, .int (0 : Int32)), (0, .ref (q 0)), (1, .int p), (2, .int q_), (3, .int one), (4, .int two), (5, .int x1), (6, .int r1), (8, .int y2)]) dX9_isKept_183 rfl (by decide) (Nat.le_of_ble_eq_true rfl) (fun _ => rfl) (fun x3 => ?_)
                      refine g_goto (pc := 186) 45 dX9_isKept_186 (by decide) ?_
                      exact g_sub [2, 3, 4, 5, 6, 7, 8, 1, 9, 0] rfl (ih45 ((0 : Int32), x3, s8))
                    · refine g_iconst (pc := 176) (1) dX9_isKept_176 (by decide) ?_
                      refine g_goto (pc := 177) 181 dX9_isKept_177 (by decide) ?_
                      refine g_istore (pc := 181) (lv' := [(7, .int (1 : Int32)), (0, .ref (q 0)), (1, .int p), (2, .int q_), (3, .int one), (4, .int two), (5, .int x1), (6, .int r1), (8, .int y2), (9, .int y4)]) dX9_isKept_181 (Nat.le_of_ble_eq_true rfl) rfl ?_
                      refine g_iinc (pc := 183) (j := 9) (1) (lf := fun x4 => [(9, .int x4), (7, .int (1 : Int32)), (0, .ref (q 0)), (1, .int p), (2, .int q_), (3, .int one), (4, .int two), (5, .int x1), (6, .int r1), (8, .int y2)]) dX9_isKept_183 rfl (by decide) (Nat.le_of_ble_eq_true rfl) (fun _ => rfl) (fun x4 => ?_)
                      refine g_goto (pc := 186) 45 dX9_isKept_186 (by decide) ?_
                      exact g_sub [2, 3, 4, 5, 6, 7, 8, 1, 9, 0] rfl (ih45 ((1 : Int32), x4, s8))
                  · refine g_aload_n (pc := 130) 0 dX9_isKept_130 rfl rfl ?_
                    refine g_iload_n (pc := 131) 2 dX9_isKept_131 rfl rfl ?_
                    refine gV_v (pc := 132) [.int q_] [] (m_X9_stepSecond l D cy q s8 q_) cw_X9_stepSecond km_X9_265 ⟨rfl, rfl, by decide, by decide⟩ (Nat.le_of_ble_eq_true rfl) (eM_9 (cy := cy) (s8.1 0) (s8.2 0)) rfl dX9_isKept_132 rfl rfl (Nat.le_of_ble_eq_true rfl) (fun s9 => ?_)
                    refine g_aload_n (pc := 135) 0 dX9_isKept_135 rfl rfl ?_
                    refine gf_9_toldShape (pc := 136) kf_X9_63 dX9_isKept_136 ?_
                    refine g_bipush (pc := 139) (13) dX9_isKept_139 (by decide) ?_
                    refine g_aload_n (pc := 141) 0 dX9_isKept_141 rfl rfl ?_
                    refine gf_9_oneLine (pc := 142) kf_X9_240 dX9_isKept_142 ?_
                    refine g_imul (pc := 145) dX9_isKept_145 ?_
                    refine g_aload_n (pc := 146) 0 dX9_isKept_146 rfl rfl ?_
                    refine gf_9_twoLine (pc := 147) kf_X9_249 dX9_isKept_147 ?_
                    refine g_iadd (pc := 150) dX9_isKept_150 ?_
                    refine a_ild (pc := 151) aM_toldShape dX9_isKept_151 ?_
                    refine g_aload_n (pc := 152) 0 dX9_isKept_152 rfl rfl ?_
                    refine gf_9_says (pc := 153) kf_X9_73 dX9_isKept_153 ?_
                    refine g_sipush (pc := 156) (256) dX9_isKept_156 (by decide) ?_
                    refine g_aload_n (pc := 159) 0 dX9_isKept_159 rfl rfl ?_
                    refine gf_9_oneMemory (pc := 160) kf_X9_243 dX9_isKept_160 ?_
                    refine g_imul (pc := 163) dX9_isKept_163 ?_
                    refine g_aload_n (pc := 164) 0 dX9_isKept_164 rfl rfl ?_
                    refine gf_9_twoMemory (pc := 165) kf_X9_252 dX9_isKept_165 ?_
                    refine g_iadd (pc := 168) dX9_isKept_168 ?_
                    refine a_ild (pc := 169) aM_says dX9_isKept_169 ?_
                    refine g_iconst (pc := 170) (-1) dX9_isKept_170 (by decide) ?_
                    refine g_ixor (pc := 171) dX9_isKept_171 ?_
                    refine g_iand (pc := 172) dX9_isKept_172 ?_
                    refine g_if_ne (pc := 173) 180 dX9_isKept_173 (by decide) ?_ ?_
                    · refine g_iconst (pc := 180) (0) dX9_isKept_180 (by decide) ?_
                      refine g_istore (pc := 181) (lv' := [(7, .int (0 : Int32)), (0, .ref (q 0)), (1, .int p), (2, .int q_), (3, .int one), (4, .int two), (5, .int x1), (6, .int r1), (8, .int y2), (9, .int y4)]) dX9_isKept_181 (Nat.le_of_ble_eq_true rfl) rfl ?_
                      refine g_iinc (pc := 183) (j := 9) (1) (lf := fun x5 => [(9, .int x5), (7, .int (0 : Int32)), (0, .ref (q 0)), (1, .int p), (2, .int q_), (3, .int one), (4, .int two), (5, .int x1), (6, .int r1), (8, .int y2)]) dX9_isKept_183 rfl (by decide) (Nat.le_of_ble_eq_true rfl) (fun _ => rfl) (fun x5 => ?_)
                      refine g_goto (pc := 186) 45 dX9_isKept_186 (by decide) ?_
                      exact g_sub [2, 3, 4, 5, 6, 7, 8, 1, 9, 0] rfl (ih45 ((0 : Int32), x5, s9))
                    · refine g_iconst (pc := 176) (1) dX9_isKept_176 (by decide) ?_
                      refine g_goto (pc := 177) 181 dX9_isKept_177 (by decide) ?_
                      refine g_istore (pc := 181) (lv' := [(7, .int (1 : Int32)), (0, .ref (q 0)), (1, .int p), (2, .int q_), (3, .int one), (4, .int two), (5, .int x1), (6, .int r1), (8, .int y2), (9, .int y4)]) dX9_isKept_181 (Nat.le_of_ble_eq_true rfl) rfl ?_
                      refine g_iinc (pc := 183) (j := 9) (1) (lf := fun x6 => [(9, .int x6), (7, .int (1 : Int32)), (0, .ref (q 0)), (1, .int p), (2, .int q_), (3, .int one), (4, .int two), (5, .int x1), (6, .int r1), (8, .int y2)]) dX9_isKept_183 rfl (by decide) (Nat.le_of_ble_eq_true rfl) (fun _ => rfl) (fun x6 => ?_)
                      refine g_goto (pc := 186) 45 dX9_isKept_186 (by decide) ?_
                      exact g_sub [2, 3, 4, 5, 6, 7, 8, 1, 9, 0] rfl (ih45 ((1 : Int32), x6, s9))
                · refine g_aload_n (pc := 119) 0 dX9_isKept_119 rfl rfl ?_
                  refine g_iload_n (pc := 120) 1 dX9_isKept_120 rfl rfl ?_
                  refine gV_v (pc := 121) [.int p] [] (m_X9_stepFirst l D cy q s8 p) cw_X9_stepFirst km_X9_262 ⟨rfl, rfl, by decide, by decide⟩ (Nat.le_of_ble_eq_true rfl) (eM_9 (cy := cy) (s8.1 0) (s8.2 0)) rfl dX9_isKept_121 rfl rfl (Nat.le_of_ble_eq_true rfl) (fun s10 => ?_)
                  refine g_iload (pc := 124) 6 dX9_isKept_124 rfl ?_
                  refine g_iconst (pc := 126) (1) dX9_isKept_126 (by decide) ?_
                  refine g_icmp_eq (pc := 127) 135 dX9_isKept_127 (by decide) ?_ ?_
                  · refine g_aload_n (pc := 135) 0 dX9_isKept_135 rfl rfl ?_
                    refine gf_9_toldShape (pc := 136) kf_X9_63 dX9_isKept_136 ?_
                    refine g_bipush (pc := 139) (13) dX9_isKept_139 (by decide) ?_
                    refine g_aload_n (pc := 141) 0 dX9_isKept_141 rfl rfl ?_
                    refine gf_9_oneLine (pc := 142) kf_X9_240 dX9_isKept_142 ?_
                    refine g_imul (pc := 145) dX9_isKept_145 ?_
                    refine g_aload_n (pc := 146) 0 dX9_isKept_146 rfl rfl ?_
                    refine gf_9_twoLine (pc := 147) kf_X9_249 dX9_isKept_147 ?_
                    refine g_iadd (pc := 150) dX9_isKept_150 ?_
                    refine a_ild (pc := 151) aM_toldShape dX9_isKept_151 ?_
                    refine g_aload_n (pc := 152) 0 dX9_isKept_152 rfl rfl ?_
                    refine gf_9_says (pc := 153) kf_X9_73 dX9_isKept_153 ?_
                    refine g_sipush (pc := 156) (256) dX9_isKept_156 (by decide) ?_
                    refine g_aload_n (pc := 159) 0 dX9_isKept_159 rfl rfl ?_
                    refine gf_9_oneMemory (pc := 160) kf_X9_243 dX9_isKept_160 ?_
                    refine g_imul (pc := 163) dX9_isKept_163 ?_
                    refine g_aload_n (pc := 164) 0 dX9_isKept_164 rfl rfl ?_
                    refine gf_9_twoMemory (pc := 165) kf_X9_252 dX9_isKept_165 ?_
                    refine g_iadd (pc := 168) dX9_isKept_168 ?_
                    refine a_ild (pc := 169) aM_says dX9_isKept_169 ?_
                    refine g_iconst (pc := 170) (-1) dX9_isKept_170 (by decide) ?_
                    refine g_ixor (pc := 171) dX9_isKept_171 ?_
                    refine g_iand (pc := 172) dX9_isKept_172 ?_
                    refine g_if_ne (pc := 173) 180 dX9_isKept_173 (by decide) ?_ ?_
                    · refine g_iconst (pc := 180) (0) dX9_isKept_180 (by decide) ?_
                      refine g_istore (pc := 181) (lv' := [(7, .int (0 : Int32)), (0, .ref (q 0)), (1, .int p), (2, .int q_), (3, .int one), (4, .int two), (5, .int x1), (6, .int r1), (8, .int y2), (9, .int y4)]) dX9_isKept_181 (Nat.le_of_ble_eq_true rfl) rfl ?_
                      refine g_iinc (pc := 183) (j := 9) (1) (lf := fun x7 => [(9, .int x7), (7, .int (0 : Int32)), (0, .ref (q 0)), (1, .int p), (2, .int q_), (3, .int one), (4, .int two), (5, .int x1), (6, .int r1), (8, .int y2)]) dX9_isKept_183 rfl (by decide) (Nat.le_of_ble_eq_true rfl) (fun _ => rfl) (fun x7 => ?_)
                      refine g_goto (pc := 186) 45 dX9_isKept_186 (by decide) ?_
                      exact g_sub [2, 3, 4, 5, 6, 7, 8, 1, 9, 0] rfl (ih45 ((0 : Int32), x7, s10))
                    · refine g_iconst (pc := 176) (1) dX9_isKept_176 (by decide) ?_
                      refine g_goto (pc := 177) 181 dX9_isKept_177 (by decide) ?_
                      refine g_istore (pc := 181) (lv' := [(7, .int (1 : Int32)), (0, .ref (q 0)), (1, .int p), (2, .int q_), (3, .int one), (4, .int two), (5, .int x1), (6, .int r1), (8, .int y2), (9, .int y4)]) dX9_isKept_181 (Nat.le_of_ble_eq_true rfl) rfl ?_
                      refine g_iinc (pc := 183) (j := 9) (1) (lf := fun x8 => [(9, .int x8), (7, .int (1 : Int32)), (0, .ref (q 0)), (1, .int p), (2, .int q_), (3, .int one), (4, .int two), (5, .int x1), (6, .int r1), (8, .int y2)]) dX9_isKept_183 rfl (by decide) (Nat.le_of_ble_eq_true rfl) (fun _ => rfl) (fun x8 => ?_)
                      refine g_goto (pc := 186) 45 dX9_isKept_186 (by decide) ?_
                      exact g_sub [2, 3, 4, 5, 6, 7, 8, 1, 9, 0] rfl (ih45 ((1 : Int32), x8, s10))
                  · refine g_aload_n (pc := 130) 0 dX9_isKept_130 rfl rfl ?_
                    refine g_iload_n (pc := 131) 2 dX9_isKept_131 rfl rfl ?_
                    refine gV_v (pc := 132) [.int q_] [] (m_X9_stepSecond l D cy q s10 q_) cw_X9_stepSecond km_X9_265 ⟨rfl, rfl, by decide, by decide⟩ (Nat.le_of_ble_eq_true rfl) (eM_9 (cy := cy) (s10.1 0) (s10.2 0)) rfl dX9_isKept_132 rfl rfl (Nat.le_of_ble_eq_true rfl) (fun s11 => ?_)
                    refine g_aload_n (pc := 135) 0 dX9_isKept_135 rfl rfl ?_
                    refine gf_9_toldShape (pc := 136) kf_X9_63 dX9_isKept_136 ?_
                    refine g_bipush (pc := 139) (13) dX9_isKept_139 (by decide) ?_
                    refine g_aload_n (pc := 141) 0 dX9_isKept_141 rfl rfl ?_
                    refine gf_9_oneLine (pc := 142) kf_X9_240 dX9_isKept_142 ?_
                    refine g_imul (pc := 145) dX9_isKept_145 ?_
                    refine g_aload_n (pc := 146) 0 dX9_isKept_146 rfl rfl ?_
                    refine gf_9_twoLine (pc := 147) kf_X9_249 dX9_isKept_147 ?_
                    refine g_iadd (pc := 150) dX9_isKept_150 ?_
                    refine a_ild (pc := 151) aM_toldShape dX9_isKept_151 ?_
                    refine g_aload_n (pc := 152) 0 dX9_isKept_152 rfl rfl ?_
                    refine gf_9_says (pc := 153) kf_X9_73 dX9_isKept_153 ?_
                    refine g_sipush (pc := 156) (256) dX9_isKept_156 (by decide) ?_
                    refine g_aload_n (pc := 159) 0 dX9_isKept_159 rfl rfl ?_
                    refine gf_9_oneMemory (pc := 160) kf_X9_243 dX9_isKept_160 ?_
                    refine g_imul (pc := 163) dX9_isKept_163 ?_
                    refine g_aload_n (pc := 164) 0 dX9_isKept_164 rfl rfl ?_
                    refine gf_9_twoMemory (pc := 165) kf_X9_252 dX9_isKept_165 ?_
                    refine g_iadd (pc := 168) dX9_isKept_168 ?_
                    refine a_ild (pc := 169) aM_says dX9_isKept_169 ?_
                    refine g_iconst (pc := 170) (-1) dX9_isKept_170 (by decide) ?_
                    refine g_ixor (pc := 171) dX9_isKept_171 ?_
                    refine g_iand (pc := 172) dX9_isKept_172 ?_
                    refine g_if_ne (pc := 173) 180 dX9_isKept_173 (by decide) ?_ ?_
                    · refine g_iconst (pc := 180) (0) dX9_isKept_180 (by decide) ?_
                      refine g_istore (pc := 181) (lv' := [(7, .int (0 : Int32)), (0, .ref (q 0)), (1, .int p), (2, .int q_), (3, .int one), (4, .int two), (5, .int x1), (6, .int r1), (8, .int y2), (9, .int y4)]) dX9_isKept_181 (Nat.le_of_ble_eq_true rfl) rfl ?_
                      refine g_iinc (pc := 183) (j := 9) (1) (lf := fun x9 => [(9, .int x9), (7, .int (0 : Int32)), (0, .ref (q 0)), (1, .int p), (2, .int q_), (3, .int one), (4, .int two), (5, .int x1), (6, .int r1), (8, .int y2)]) dX9_isKept_183 rfl (by decide) (Nat.le_of_ble_eq_true rfl) (fun _ => rfl) (fun x9 => ?_)
                      refine g_goto (pc := 186) 45 dX9_isKept_186 (by decide) ?_
                      exact g_sub [2, 3, 4, 5, 6, 7, 8, 1, 9, 0] rfl (ih45 ((0 : Int32), x9, s11))
                    · refine g_iconst (pc := 176) (1) dX9_isKept_176 (by decide) ?_
                      refine g_goto (pc := 177) 181 dX9_isKept_177 (by decide) ?_
                      refine g_istore (pc := 181) (lv' := [(7, .int (1 : Int32)), (0, .ref (q 0)), (1, .int p), (2, .int q_), (3, .int one), (4, .int two), (5, .int x1), (6, .int r1), (8, .int y2), (9, .int y4)]) dX9_isKept_181 (Nat.le_of_ble_eq_true rfl) rfl ?_
                      refine g_iinc (pc := 183) (j := 9) (1) (lf := fun x10 => [(9, .int x10), (7, .int (1 : Int32)), (0, .ref (q 0)), (1, .int p), (2, .int q_), (3, .int one), (4, .int two), (5, .int x1), (6, .int r1), (8, .int y2)]) dX9_isKept_183 rfl (by decide) (Nat.le_of_ble_eq_true rfl) (fun _ => rfl) (fun x10 => ?_)
                      refine g_goto (pc := 186) 45 dX9_isKept_186 (by decide) ?_
                      exact g_sub [2, 3, 4, 5, 6, 7, 8, 1, 9, 0] rfl (ih45 ((1 : Int32), x10, s11))
