def b_X9_far_68 (x : Int32) (y : Int32) (d : Int32) (s2 : St) (y2 : Int32) : (Int32 × Int32) → Option ((Int32 × Int32) ⊕ (Int32)) := un fun y3 y4 => (if (4 : Int32) ≤ y4 then some (.inr y3) else (f_X9_valueOf y2 x).bind fun r5 => nm (y4 - r5) fun x1 => (f_X9_with y2 x y4).bind fun r6 => chk (inb r6 512) ((f_X9_valueOf (s2.1 10 r6.toNatClampNeg) y).bind fun r7 => chk (inb y2 512) ((f_X9_valueOf (s2.1 10 y2.toNatClampNeg) y).bind fun r8 => nm (r7 - r8) fun x2 => (if d < x1 then nm (y4 + (1 : Int32)) fun x3 => some (.inl (y3, x3)) else (if x1 < (-d) then nm (y4 + (1 : Int32)) fun x4 => some (.inl (y3, x4)) else (if x2 ≤ y3 then nm (y4 + (1 : Int32)) fun x5 => some (.inl (y3, x5)) else nm (y4 + (1 : Int32)) fun x6 => some (.inl (x2, x6))))))))
def b_X9_far_57 (x : Int32) (y : Int32) (d : Int32) (s2 : St) : (Int32 × Int32) → Option ((Int32 × Int32) ⊕ (Int32)) := un fun y1 y2 => (if (256 : Int32) ≤ y2 then some (.inr y1) else (wh FU (b_X9_far_68 x y d s2 y2) (y1, (0 : Int32))).bind (fun z1 => nm (y2 + (1 : Int32)) fun x7 => some (.inl (z1, x7))))
def f_X9_far (program : Int32) (x : Int32) (y : Int32) (d : Int32) (σ : St) : Option (Int32 × St) := (f_X9_isProgram program).bind fun r1 => (if r1 = (0 : Int32) then some ((-1 : Int32), σ) else (f_X9_isVariable x).bind fun r2 => (if r2 = (0 : Int32) then some ((-2 : Int32), σ) else (f_X9_isVariable y).bind fun r3 => (if r3 = (0 : Int32) then some ((-2 : Int32), σ) else (f_X9_in d.toInt64 (1 : Int64) (3 : Int64)).bind fun r4 => (if r4 = (0 : Int32) then some ((-2 : Int32), σ) else (f_X9_runAll program program σ).bind fun s1 => nm (stI s1 0 22 (-6 : Int32)) fun s2 => (wh FU (b_X9_far_57 x y d s2) ((0 : Int32), (0 : Int32))).bind (fun z2 => some (z2, s2))))))
abbrev rm_X9_far : Room := { frames := 5, cells := 0, slots := 0, locals := 122 }
set_option maxHeartbeats 4000000 in
set_option maxRecDepth 20000 in
theorem m_X9_far (l : Launch) (D : va_G) (cy : Cy) (q : Nat → Nat) (σ : St) (program : Int32) (x : Int32) (y : Int32) (d : Int32)  : ∀ res, f_X9_far program x y d σ = some res → MetX (vM D cy q) l yX9_far cX9_far 10 (some .int) rm_X9_far [.ref (q 0), .int program, .int x, .int y, .int d] σ (some (.int res.1), res.2) := by
  let fin_ : (Int32 × St) → Option Value × St := fun r => (some (.int r.1), r.2)
  have hro : ∀ (z : Int32 × St) (res : Int32 × St), some z = some res → fin_ res = fin_ z := fun z res h => by cases h; rfl
  refine MetX.of1 (fin := fin_) (lv := [(0, .ref (q 0)), (1, .int program), (2, .int x), (3, .int y), (4, .int d)]) (by decide) (Nat.le_of_ble_eq_true rfl) rfl ?_
  unfold f_X9_far
  refine g_iload_n (pc := 0) 1 dX9_far_0 rfl rfl ?_
  refine gS_i (pc := 1) [.int program] [] (m_X9_isProgram l D cy q σ program) cw_X9_isProgram km_X9_111 ⟨rfl, rfl, by decide, by decide⟩ dX9_far_1 rfl rfl (Nat.le_of_ble_eq_true rfl) (fun r1 => ?_)
  refine g_if_ne (pc := 4) 9 dX9_far_4 (by decide) ?_ ?_
  · refine g_iload_n (pc := 9) 2 dX9_far_9 rfl rfl ?_
    refine gS_i (pc := 10) [.int x] [] (m_X9_isVariable l D cy q σ x) cw_X9_isVariable km_X9_105 ⟨rfl, rfl, by decide, by decide⟩ dX9_far_10 rfl rfl (Nat.le_of_ble_eq_true rfl) (fun r2 => ?_)
    refine g_if_eq (pc := 13) 36 dX9_far_13 (by decide) ?_ ?_
    · refine g_bipush (pc := 36) (-2) dX9_far_36 (by decide) ?_
      exact g_iret (pc := 38) (hro _) rfl dX9_far_38
    · refine g_iload_n (pc := 16) 3 dX9_far_16 rfl rfl ?_
      refine gS_i (pc := 17) [.int y] [] (m_X9_isVariable l D cy q σ y) cw_X9_isVariable km_X9_105 ⟨rfl, rfl, by decide, by decide⟩ dX9_far_17 rfl rfl (Nat.le_of_ble_eq_true rfl) (fun r3 => ?_)
      refine g_if_eq (pc := 20) 36 dX9_far_20 (by decide) ?_ ?_
      · refine g_bipush (pc := 36) (-2) dX9_far_36 (by decide) ?_
        exact g_iret (pc := 38) (hro _) rfl dX9_far_38
      · refine g_iload (pc := 23) 4 dX9_far_23 rfl ?_
        refine g_i2l (pc := 25) dX9_far_25 ?_
        refine g_lconst (pc := 26) (1) dX9_far_26 (by decide) ?_
        refine g_ldc2 (pc := 27) dX9_far_27 kl_X9_99 ?_
        refine gS_i (pc := 30) [.long d.toInt64, .long (1 : Int64), .long (3 : Int64)] [] (m_X9_in l D cy q σ d.toInt64 (1 : Int64) (3 : Int64)) cw_X9_in km_X9_101 ⟨rfl, rfl, by decide, by decide⟩ dX9_far_30 rfl rfl (Nat.le_of_ble_eq_true rfl) (fun r4 => ?_)
        refine g_if_ne (pc := 33) 39 dX9_far_33 (by decide) ?_ ?_
        · refine g_aload_n (pc := 39) 0 dX9_far_39 rfl rfl ?_
          refine g_iload_n (pc := 40) 1 dX9_far_40 rfl rfl ?_
          refine g_iload_n (pc := 41) 1 dX9_far_41 rfl rfl ?_
          refine gV_v (pc := 42) [.int program, .int program] [] (m_X9_runAll l D cy q σ program program) cw_X9_runAll km_X9_233 ⟨rfl, rfl, by decide, by decide⟩ (Nat.le_of_ble_eq_true rfl) (eM_9 (cy := cy) (σ.1 0) (σ.2 0)) rfl dX9_far_42 rfl rfl (Nat.le_of_ble_eq_true rfl) (fun s1 => ?_)
          refine g_aload_n (pc := 45) 0 dX9_far_45 rfl rfl ?_
          refine g_bipush (pc := 46) (-6) dX9_far_46 (by decide) ?_
          refine gp_9_pairsVersion (pc := 48) kf_X9_56 dX9_far_48 (fun s2 => ?_)
          refine g_iconst (pc := 51) (0) dX9_far_51 (by decide) ?_
          refine g_istore (pc := 52) (lv' := [(5, .int (0 : Int32)), (0, .ref (q 0)), (1, .int program), (2, .int x), (3, .int y), (4, .int d)]) dX9_far_52 (Nat.le_of_ble_eq_true rfl) rfl ?_
          refine g_iconst (pc := 54) (0) dX9_far_54 (by decide) ?_
          refine g_istore (pc := 55) (lv' := [(6, .int (0 : Int32)), (5, .int (0 : Int32)), (0, .ref (q 0)), (1, .int program), (2, .int x), (3, .int y), (4, .int d)]) dX9_far_55 (Nat.le_of_ble_eq_true rfl) rfl ?_
          refine g_sub [2, 4, 5, 6, 1, 0] rfl ?_
          refine g_wh2 (pc := 57) (s0 := ((0 : Int32), (0 : Int32))) (fun (w_ : Int32 × Int32) => s2) (fun (w_ : Int32 × Int32) => [(0, .ref (q 0)), (2, .int x), (3, .int y), (4, .int d), (5, .int w_.1), (6, .int w_.2)]) (fun (w_ : Int32) => s2) (fun (w_ : Int32) => [(5, .int w_)]) 159 ?_ ?_
          · rintro z2
            try dsimp only [un, Sum.elim_inl]
            refine g_iload (pc := 159) 0 dX9_far_159 rfl ?_
            exact g_iret (pc := 161) (hro _) rfl dX9_far_161
          · intro K57 hx57 ih57
            rintro ⟨y1, y2⟩
            try dsimp only [b_X9_far_57, un]
            refine g_iload (pc := 57) 5 dX9_far_57 rfl ?_
            refine g_sipush (pc := 59) (256) dX9_far_59 (by decide) ?_
            refine g_icmp_ge (pc := 62) 159 dX9_far_62 (by decide) ?_ ?_
            · exact g_sub [4] rfl (hx57 y1)
            · refine g_iconst (pc := 65) (0) dX9_far_65 (by decide) ?_
              refine g_istore (pc := 66) (lv' := [(7, .int (0 : Int32)), (0, .ref (q 0)), (2, .int x), (3, .int y), (4, .int d), (5, .int y1), (6, .int y2)]) dX9_far_66 (Nat.le_of_ble_eq_true rfl) rfl ?_
              refine g_sub [1, 2, 3, 4, 5, 6, 0] rfl ?_
              refine g_wh2 (pc := 68) (s0 := (y1, (0 : Int32))) (fun (w_ : Int32 × Int32) => s2) (fun (w_ : Int32 × Int32) => [(0, .ref (q 0)), (2, .int x), (3, .int y), (4, .int d), (5, .int w_.1), (6, .int y2), (7, .int w_.2)]) (fun (w_ : Int32) => s2) (fun (w_ : Int32) => [(0, .ref (q 0)), (2, .int x), (3, .int y), (4, .int d), (5, .int w_), (6, .int y2)]) 153 ?_ ?_
              · rintro z1
                try dsimp only [un, Sum.elim_inl]
                refine g_iinc (pc := 153) (j := 5) (1) (lf := fun x7 => [(6, .int x7), (0, .ref (q 0)), (2, .int x), (3, .int y), (4, .int d), (5, .int z1)]) dX9_far_153 rfl (by decide) (Nat.le_of_ble_eq_true rfl) (fun _ => rfl) (fun x7 => ?_)
                refine g_goto (pc := 156) 57 dX9_far_156 (by decide) ?_
                exact g_sub [1, 2, 3, 4, 5, 0] rfl (ih57 (z1, x7))
              · intro K68 hx68 ih68
                rintro ⟨y3, y4⟩
                try dsimp only [b_X9_far_68, un]
                refine g_iload (pc := 68) 6 dX9_far_68 rfl ?_
                refine g_iconst (pc := 70) (4) dX9_far_70 (by decide) ?_
                refine g_icmp_ge (pc := 71) 153 dX9_far_71 (by decide) ?_ ?_
                · exact g_sub [0, 1, 2, 3, 4, 5] rfl (hx68 y3)
                · refine g_iload (pc := 74) 6 dX9_far_74 rfl ?_
                  refine g_iload (pc := 76) 5 dX9_far_76 rfl ?_
                  refine g_iload_n (pc := 78) 1 dX9_far_78 rfl rfl ?_
                  refine gS_i (pc := 79) [.int y2, .int x] [.int y4] (m_X9_valueOf l (vM D cy q) s2 y2 x) cw_X9_valueOf km_X9_128 ⟨rfl, rfl, by decide, by decide⟩ dX9_far_79 rfl rfl (Nat.le_of_ble_eq_true rfl) (fun r5 => ?_)
                  refine g_isub (pc := 82) dX9_far_82 ?_
                  refine g_nmi (fun x1 => ?_)
                  refine g_istore (pc := 83) (lv' := [(8, .int x1), (0, .ref (q 0)), (2, .int x), (3, .int y), (4, .int d), (5, .int y3), (6, .int y2), (7, .int y4)]) dX9_far_83 (Nat.le_of_ble_eq_true rfl) rfl ?_
                  refine g_aload_n (pc := 85) 1 dX9_far_85 rfl rfl ?_
                  refine gf_9_memoryOf (pc := 86) kf_X9_38 dX9_far_86 ?_
                  refine g_iload (pc := 89) 6 dX9_far_89 rfl ?_
                  refine g_iload_n (pc := 91) 2 dX9_far_91 rfl rfl ?_
                  refine g_iload (pc := 92) 7 dX9_far_92 rfl ?_
                  refine gS_i (pc := 94) [.int y2, .int x, .int y4] [.ref (q 10)] (m_X9_with l D cy q s2 y2 x y4) cw_X9_with km_X9_143 ⟨rfl, rfl, by decide, by decide⟩ dX9_far_94 rfl rfl (Nat.le_of_ble_eq_true rfl) (fun r6 => ?_)
                  refine a_ild (pc := 97) aM_memoryOf dX9_far_97 ?_
                  refine g_iload_n (pc := 98) 3 dX9_far_98 rfl rfl ?_
                  refine gS_i (pc := 99) [.int (s2.1 10 r6.toNatClampNeg), .int y] [] (m_X9_valueOf l (vM D cy q) s2 (s2.1 10 r6.toNatClampNeg) y) cw_X9_valueOf km_X9_128 ⟨rfl, rfl, by decide, by decide⟩ dX9_far_99 rfl rfl (Nat.le_of_ble_eq_true rfl) (fun r7 => ?_)
                  refine g_aload_n (pc := 102) 1 dX9_far_102 rfl rfl ?_
                  refine gf_9_memoryOf (pc := 103) kf_X9_38 dX9_far_103 ?_
                  refine g_iload (pc := 106) 6 dX9_far_106 rfl ?_
                  refine a_ild (pc := 108) aM_memoryOf dX9_far_108 ?_
                  refine g_iload_n (pc := 109) 3 dX9_far_109 rfl rfl ?_
                  refine gS_i (pc := 110) [.int (s2.1 10 y2.toNatClampNeg), .int y] [.int r7] (m_X9_valueOf l (vM D cy q) s2 (s2.1 10 y2.toNatClampNeg) y) cw_X9_valueOf km_X9_128 ⟨rfl, rfl, by decide, by decide⟩ dX9_far_110 rfl rfl (Nat.le_of_ble_eq_true rfl) (fun r8 => ?_)
                  refine g_isub (pc := 113) dX9_far_113 ?_
                  refine g_nmi (fun x2 => ?_)
                  refine g_istore (pc := 114) (lv' := [(9, .int x2), (8, .int x1), (0, .ref (q 0)), (2, .int x), (3, .int y), (4, .int d), (5, .int y3), (6, .int y2), (7, .int y4)]) dX9_far_114 (Nat.le_of_ble_eq_true rfl) rfl ?_
                  refine g_iload (pc := 116) 1 dX9_far_116 rfl ?_
                  refine g_iload (pc := 118) 5 dX9_far_118 rfl ?_
                  refine g_icmp_gt (pc := 120) 143 dX9_far_120 (by decide) ?_ ?_
                  · refine g_iload (pc := 143) 6 dX9_far_143 rfl ?_
                    refine g_istore (pc := 145) (lv' := [(5, .int y3), (9, .int x2), (8, .int x1), (0, .ref (q 0)), (2, .int x), (3, .int y), (4, .int d), (6, .int y2), (7, .int y4)]) dX9_far_145 (Nat.le_of_ble_eq_true rfl) rfl ?_
                    refine g_iinc (pc := 147) (j := 8) (1) (lf := fun x3 => [(7, .int x3), (5, .int y3), (9, .int x2), (8, .int x1), (0, .ref (q 0)), (2, .int x), (3, .int y), (4, .int d), (6, .int y2)]) dX9_far_147 rfl (by decide) (Nat.le_of_ble_eq_true rfl) (fun _ => rfl) (fun x3 => ?_)
                    refine g_goto (pc := 150) 68 dX9_far_150 (by decide) ?_
                    exact g_sub [4, 5, 6, 7, 1, 8, 0] rfl (ih68 (y3, x3))
                  · refine g_iload (pc := 123) 1 dX9_far_123 rfl ?_
                    refine g_iload (pc := 125) 5 dX9_far_125 rfl ?_
                    refine g_ineg (pc := 127) dX9_far_127 ?_
                    refine g_icmp_lt (pc := 128) 143 dX9_far_128 (by decide) ?_ ?_
                    · refine g_iload (pc := 143) 6 dX9_far_143 rfl ?_
                      refine g_istore (pc := 145) (lv' := [(5, .int y3), (9, .int x2), (8, .int x1), (0, .ref (q 0)), (2, .int x), (3, .int y), (4, .int d), (6, .int y2), (7, .int y4)]) dX9_far_145 (Nat.le_of_ble_eq_true rfl) rfl ?_
                      refine g_iinc (pc := 147) (j := 8) (1) (lf := fun x4 => [(7, .int x4), (5, .int y3), (9, .int x2), (8, .int x1), (0, .ref (q 0)), (2, .int x), (3, .int y), (4, .int d), (6, .int y2)]) dX9_far_147 rfl (by decide) (Nat.le_of_ble_eq_true rfl) (fun _ => rfl) (fun x4 => ?_)
                      refine g_goto (pc := 150) 68 dX9_far_150 (by decide) ?_
                      exact g_sub [4, 5, 6, 7, 1, 8, 0] rfl (ih68 (y3, x4))
                    · refine g_iload (pc := 131) 0 dX9_far_131 rfl ?_
                      refine g_iload (pc := 133) 6 dX9_far_133 rfl ?_
                      refine g_icmp_le (pc := 135) 143 dX9_far_135 (by decide) ?_ ?_
                      · refine g_iload (pc := 143) 6 dX9_far_143 rfl ?_
                        refine g_istore (pc := 145) (lv' := [(5, .int y3), (9, .int x2), (8, .int x1), (0, .ref (q 0)), (2, .int x), (3, .int y), (4, .int d), (6, .int y2), (7, .int y4)]) dX9_far_145 (Nat.le_of_ble_eq_true rfl) rfl ?_
                        refine g_iinc (pc := 147) (j := 8) (1) (lf := fun x5 => [(7, .int x5), (5, .int y3), (9, .int x2), (8, .int x1), (0, .ref (q 0)), (2, .int x), (3, .int y), (4, .int d), (6, .int y2)]) dX9_far_147 rfl (by decide) (Nat.le_of_ble_eq_true rfl) (fun _ => rfl) (fun x5 => ?_)
                        refine g_goto (pc := 150) 68 dX9_far_150 (by decide) ?_
                        exact g_sub [4, 5, 6, 7, 1, 8, 0] rfl (ih68 (y3, x5))
                      · refine g_iload (pc := 138) 0 dX9_far_138 rfl ?_
                        refine g_goto (pc := 140) 145 dX9_far_140 (by decide) ?_
                        refine g_istore (pc := 145) (lv' := [(5, .int x2), (9, .int x2), (8, .int x1), (0, .ref (q 0)), (2, .int x), (3, .int y), (4, .int d), (6, .int y2), (7, .int y4)]) dX9_far_145 (Nat.le_of_ble_eq_true rfl) rfl ?_
                        refine g_iinc (pc := 147) (j := 8) (1) (lf := fun x6 => [(7, .int x6), (5, .int x2), (9, .int x2), (8, .int x1), (0, .ref (q 0)), (2, .int x), (3, .int y), (4, .int d), (6, .int y2)]) dX9_far_147 rfl (by decide) (Nat.le_of_ble_eq_true rfl) (fun _ => rfl) (fun x6 => ?_)
                        refine g_goto (pc := 150) 68 dX9_far_150 (by decide) ?_
                        exact g_sub [4, 5, 6, 7, 1, 8, 0] rfl (ih68 (x2, x6))
        · refine g_bipush (pc := 36) (-2) dX9_far_36 (by decide) ?_
          exact g_iret (pc := 38) (hro _) rfl dX9_far_38
  · refine g_iconst (pc := 7) (-1) dX9_far_7 (by decide) ?_
    exact g_iret (pc := 8) (hro _) rfl dX9_far_8
def b_X9_unlikeLines_5 (p : Int32) (q_ : Int32) (σ : St) : (Int32 × Int32) → Option ((Int32 × Int32) ⊕ (Int32)) := un fun y1 y2 => (if (12 : Int32) ≤ y2 then some (.inr y1) else chk (inb p 4) ((if (σ.1 5 p.toNatClampNeg) ≤ y2 then chk (inb q_ 4) ((if (σ.1 5 q_.toNatClampNeg) ≤ y2 then nm (((12 : Int32) * p) + y2) fun x1 => nm (((12 : Int32) * q_) + y2) fun x2 => (if (0 : Int32) = (0 : Int32) then nm (y1 ||| (0 : Int32)) fun x5 => nm (y2 + (1 : Int32)) fun x6 => some (.inl (x5, x6)) else nm (y1 ||| ((1 : Int32) <<< (y2 &&& 31))) fun x3 => nm (y2 + (1 : Int32)) fun x4 => some (.inl (x3, x4))) else nm (((12 : Int32) * p) + y2) fun x7 => nm (((12 : Int32) * q_) + y2) fun x8 => (if (0 : Int32) = (1 : Int32) then nm (y1 ||| (0 : Int32)) fun x11 => nm (y2 + (1 : Int32)) fun x12 => some (.inl (x11, x12)) else nm (y1 ||| ((1 : Int32) <<< (y2 &&& 31))) fun x9 => nm (y2 + (1 : Int32)) fun x10 => some (.inl (x9, x10))))) else chk (inb q_ 4) ((if (σ.1 5 q_.toNatClampNeg) ≤ y2 then nm (((12 : Int32) * p) + y2) fun x13 => nm (((12 : Int32) * q_) + y2) fun x14 => (if (1 : Int32) = (0 : Int32) then chk (inb x13 48) (chk (inb x14 48) ((if (σ.1 1 x13.toNatClampNeg) = (σ.1 1 x14.toNatClampNeg) then chk (inb x13 48) (chk (inb x14 48) ((if (σ.1 2 x13.toNatClampNeg) = (σ.1 2 x14.toNatClampNeg) then chk (inb x13 48) (chk (inb x14 48) ((if (σ.1 3 x13.toNatClampNeg) = (σ.1 3 x14.toNatClampNeg) then chk (inb x13 48) (chk (inb x14 48) ((if (σ.1 4 x13.toNatClampNeg) = (σ.1 4 x14.toNatClampNeg) then nm (y1 ||| (0 : Int32)) fun x25 => nm (y2 + (1 : Int32)) fun x26 => some (.inl (x25, x26)) else nm (y1 ||| ((1 : Int32) <<< (y2 &&& 31))) fun x23 => nm (y2 + (1 : Int32)) fun x24 => some (.inl (x23, x24))))) else nm (y1 ||| ((1 : Int32) <<< (y2 &&& 31))) fun x21 => nm (y2 + (1 : Int32)) fun x22 => some (.inl (x21, x22))))) else nm (y1 ||| ((1 : Int32) <<< (y2 &&& 31))) fun x19 => nm (y2 + (1 : Int32)) fun x20 => some (.inl (x19, x20))))) else nm (y1 ||| ((1 : Int32) <<< (y2 &&& 31))) fun x17 => nm (y2 + (1 : Int32)) fun x18 => some (.inl (x17, x18))))) else nm (y1 ||| ((1 : Int32) <<< (y2 &&& 31))) fun x15 => nm (y2 + (1 : Int32)) fun x16 => some (.inl (x15, x16))) else nm (((12 : Int32) * p) + y2) fun x27 => nm (((12 : Int32) * q_) + y2) fun x28 => (if (1 : Int32) = (1 : Int32) then chk (inb x27 48) (chk (inb x28 48) ((if (σ.1 1 x27.toNatClampNeg) = (σ.1 1 x28.toNatClampNeg) then chk (inb x27 48) (chk (inb x28 48) ((if (σ.1 2 x27.toNatClampNeg) = (σ.1 2 x28.toNatClampNeg) then chk (inb x27 48) (chk (inb x28 48) ((if (σ.1 3 x27.toNatClampNeg) = (σ.1 3 x28.toNatClampNeg) then chk (inb x27 48) (chk (inb x28 48) ((if (σ.1 4 x27.toNatClampNeg) = (σ.1 4 x28.toNatClampNeg) then nm (y1 ||| (0 : Int32)) fun x39 => nm (y2 + (1 : Int32)) fun x40 => some (.inl (x39, x40)) else nm (y1 ||| ((1 : Int32) <<< (y2 &&& 31))) fun x37 => nm (y2 + (1 : Int32)) fun x38 => some (.inl (x37, x38))))) else nm (y1 ||| ((1 : Int32) <<< (y2 &&& 31))) fun x35 => nm (y2 + (1 : Int32)) fun x36 => some (.inl (x35, x36))))) else nm (y1 ||| ((1 : Int32) <<< (y2 &&& 31))) fun x33 => nm (y2 + (1 : Int32)) fun x34 => some (.inl (x33, x34))))) else nm (y1 ||| ((1 : Int32) <<< (y2 &&& 31))) fun x31 => nm (y2 + (1 : Int32)) fun x32 => some (.inl (x31, x32))))) else nm (y1 ||| ((1 : Int32) <<< (y2 &&& 31))) fun x29 => nm (y2 + (1 : Int32)) fun x30 => some (.inl (x29, x30))))))))
def f_X9_unlikeLines (p : Int32) (q_ : Int32) (σ : St) : Option (Int32) := (wh FU (b_X9_unlikeLines_5 p q_ σ) ((0 : Int32), (0 : Int32))).bind (fun z1 => some z1)
abbrev rm_X9_unlikeLines : Room := { frames := 0, cells := 0, slots := 0, locals := 0 }
set_option maxHeartbeats 4000000 in
set_option maxRecDepth 20000 in
theorem m_X9_unlikeLines (l : Launch) (D : va_G) (cy : Cy) (q : Nat → Nat) (σ : St) (p : Int32) (q_ : Int32)  : ∀ res, f_X9_unlikeLines p q_ σ = some res → MetX (vM D cy q) l yX9_unlikeLines cX9_unlikeLines 10 (some .int) rm_X9_unlikeLines [.ref (q 0), .int p, .int q_] σ (some (.int res), σ) := by
  let fin_ : Int32 → Option Value × St := fun r => (some (.int r), σ)
  have hro : ∀ (z : Int32) (res : Int32), some z = some res → fin_ res = fin_ z := fun z res h => by cases h; rfl
  refine MetX.of1 (fin := fin_) (lv := [(0, .ref (q 0)), (1, .int p), (2, .int q_)]) (by decide) (Nat.le_of_ble_eq_true rfl) rfl ?_
  unfold f_X9_unlikeLines
  refine g_iconst (pc := 0) (0) dX9_unlikeLines_0 (by decide) ?_
  refine g_istore_n (pc := 1) (lv' := [(3, .int (0 : Int32)), (0, .ref (q 0)), (1, .int p), (2, .int q_)]) dX9_unlikeLines_1 rfl (Nat.le_of_ble_eq_true rfl) rfl ?_
  refine g_iconst (pc := 2) (0) dX9_unlikeLines_2 (by decide) ?_
  refine g_istore (pc := 3) (lv' := [(4, .int (0 : Int32)), (3, .int (0 : Int32)), (0, .ref (q 0)), (1, .int p), (2, .int q_)]) dX9_unlikeLines_3 (Nat.le_of_ble_eq_true rfl) rfl ?_
  refine g_sub [2, 3, 4, 1, 0] rfl ?_
  refine g_wh2 (pc := 5) (s0 := ((0 : Int32), (0 : Int32))) (fun (w_ : Int32 × Int32) => σ) (fun (w_ : Int32 × Int32) => [(0, .ref (q 0)), (1, .int p), (2, .int q_), (3, .int w_.1), (4, .int w_.2)]) (fun (w_ : Int32) => σ) (fun (w_ : Int32) => [(3, .int w_)]) 175 ?_ ?_
  · rintro z1
    try dsimp only [un, Sum.elim_inl]
    refine g_iload_n (pc := 175) 0 dX9_unlikeLines_175 rfl rfl ?_
    exact g_iret (pc := 176) (hro _) rfl dX9_unlikeLines_176
  · intro K5 hx5 ih5
    rintro ⟨y1, y2⟩
    try dsimp only [b_X9_unlikeLines_5, un]
    refine g_iload (pc := 5) 4 dX9_unlikeLines_5 rfl ?_
    refine g_bipush (pc := 7) (12) dX9_unlikeLines_7 (by decide) ?_
    refine g_icmp_ge (pc := 9) 175 dX9_unlikeLines_9 (by decide) ?_ ?_
    · exact g_sub [3] rfl (hx5 y1)
    · refine g_iload (pc := 12) 4 dX9_unlikeLines_12 rfl ?_
      refine g_aload_n (pc := 14) 0 dX9_unlikeLines_14 rfl rfl ?_
      refine gf_9_lineMany (pc := 15) kf_X9_22 dX9_unlikeLines_15 ?_
      refine g_iload_n (pc := 18) 1 dX9_unlikeLines_18 rfl rfl ?_
      refine a_ild (pc := 19) aM_lineMany dX9_unlikeLines_19 ?_
      refine g_icmp_ge (pc := 20) 27 dX9_unlikeLines_20 (by decide) ?_ ?_
      · refine g_iconst (pc := 27) (0) dX9_unlikeLines_27 (by decide) ?_
        refine g_istore (pc := 28) (lv' := [(5, .int (0 : Int32)), (0, .ref (q 0)), (1, .int p), (2, .int q_), (3, .int y1), (4, .int y2)]) dX9_unlikeLines_28 (Nat.le_of_ble_eq_true rfl) rfl ?_
        refine g_iload (pc := 30) 5 dX9_unlikeLines_30 rfl ?_
        refine g_aload_n (pc := 32) 1 dX9_unlikeLines_32 rfl rfl ?_
        refine gf_9_lineMany (pc := 33) kf_X9_22 dX9_unlikeLines_33 ?_
        refine g_iload_n (pc := 36) 3 dX9_unlikeLines_36 rfl rfl ?_
        refine a_ild (pc := 37) aM_lineMany dX9_unlikeLines_37 ?_
        refine g_icmp_ge (pc := 38) 45 dX9_unlikeLines_38 (by decide) ?_ ?_
        · refine g_iconst (pc := 45) (0) dX9_unlikeLines_45 (by decide) ?_
          refine g_istore (pc := 46) (lv' := [(6, .int (0 : Int32)), (5, .int (0 : Int32)), (0, .ref (q 0)), (1, .int p), (2, .int q_), (3, .int y1), (4, .int y2)]) dX9_unlikeLines_46 (Nat.le_of_ble_eq_true rfl) rfl ?_
          refine g_bipush (pc := 48) (12) dX9_unlikeLines_48 (by decide) ?_
          refine g_iload_n (pc := 50) 3 dX9_unlikeLines_50 rfl rfl ?_
          refine g_imul (pc := 51) dX9_unlikeLines_51 ?_
          refine g_iload (pc := 52) 6 dX9_unlikeLines_52 rfl ?_
          refine g_iadd (pc := 54) dX9_unlikeLines_54 ?_
          refine g_nmi (fun x1 => ?_)
          refine g_istore (pc := 55) (lv' := [(7, .int x1), (6, .int (0 : Int32)), (5, .int (0 : Int32)), (0, .ref (q 0)), (1, .int p), (2, .int q_), (3, .int y1), (4, .int y2)]) dX9_unlikeLines_55 (Nat.le_of_ble_eq_true rfl) rfl ?_
          refine g_bipush (pc := 57) (12) dX9_unlikeLines_57 (by decide) ?_
          refine g_iload_n (pc := 59) 5 dX9_unlikeLines_59 rfl rfl ?_
          refine g_imul (pc := 60) dX9_unlikeLines_60 ?_
          refine g_iload (pc := 61) 7 dX9_unlikeLines_61 rfl ?_
          refine g_iadd (pc := 63) dX9_unlikeLines_63 ?_
          refine g_nmi (fun x2 => ?_)
          refine g_istore (pc := 64) (lv' := [(8, .int x2), (7, .int x1), (6, .int (0 : Int32)), (5, .int (0 : Int32)), (0, .ref (q 0)), (1, .int p), (2, .int q_), (3, .int y1), (4, .int y2)]) dX9_unlikeLines_64 (Nat.le_of_ble_eq_true rfl) rfl ?_
          refine g_iload (pc := 66) 3 dX9_unlikeLines_66 rfl ?_
          refine g_iload (pc := 68) 2 dX9_unlikeLines_68 rfl ?_
          refine g_icmp_ne (pc := 70) 150 dX9_unlikeLines_70 (by decide) ?_ ?_
          · refine g_iconst (pc := 150) (0) dX9_unlikeLines_150 (by decide) ?_
            refine g_istore (pc := 151) (lv' := [(9, .int (0 : Int32)), (8, .int x2), (7, .int x1), (6, .int (0 : Int32)), (5, .int (0 : Int32)), (0, .ref (q 0)), (1, .int p), (2, .int q_), (3, .int y1), (4, .int y2)]) dX9_unlikeLines_151 (Nat.le_of_ble_eq_true rfl) rfl ?_
            refine g_iload_n (pc := 153) 8 dX9_unlikeLines_153 rfl rfl ?_
            refine g_iload (pc := 154) 0 dX9_unlikeLines_154 rfl ?_
            refine g_ifeq_y (pc := 156) 163 (by decide) dX9_unlikeLines_156 (by decide) ?_
            refine g_iconst (pc := 163) (1) dX9_unlikeLines_163 (by decide) ?_
            refine g_iload (pc := 164) 9 dX9_unlikeLines_164 rfl ?_
            refine g_ishl (pc := 166) dX9_unlikeLines_166 ?_
            refine g_ior (pc := 167) dX9_unlikeLines_167 ?_
            refine g_nmi (fun x3 => ?_)
            refine g_istore_n (pc := 168) (lv' := [(3, .int x3), (9, .int (0 : Int32)), (8, .int x2), (7, .int x1), (6, .int (0 : Int32)), (5, .int (0 : Int32)), (0, .ref (q 0)), (1, .int p), (2, .int q_), (4, .int y2)]) dX9_unlikeLines_168 rfl (Nat.le_of_ble_eq_true rfl) rfl ?_
            refine g_iinc (pc := 169) (j := 9) (1) (lf := fun x4 => [(4, .int x4), (3, .int x3), (9, .int (0 : Int32)), (8, .int x2), (7, .int x1), (6, .int (0 : Int32)), (5, .int (0 : Int32)), (0, .ref (q 0)), (1, .int p), (2, .int q_)]) dX9_unlikeLines_169 rfl (by decide) (Nat.le_of_ble_eq_true rfl) (fun _ => rfl) (fun x4 => ?_)
            refine g_goto (pc := 172) 5 dX9_unlikeLines_172 (by decide) ?_
            exact g_sub [7, 8, 9, 1, 0] rfl (ih5 (x3, x4))
          · refine g_iload (pc := 73) 3 dX9_unlikeLines_73 rfl ?_
            refine g_ifeq_y (pc := 75) 146 (by decide) dX9_unlikeLines_75 (by decide) ?_
            refine g_iconst (pc := 146) (1) dX9_unlikeLines_146 (by decide) ?_
            refine g_goto (pc := 147) 151 dX9_unlikeLines_147 (by decide) ?_
            refine g_istore (pc := 151) (lv' := [(9, .int (1 : Int32)), (8, .int x2), (7, .int x1), (6, .int (0 : Int32)), (5, .int (0 : Int32)), (0, .ref (q 0)), (1, .int p), (2, .int q_), (3, .int y1), (4, .int y2)]) dX9_unlikeLines_151 (Nat.le_of_ble_eq_true rfl) rfl ?_
            refine g_iload_n (pc := 153) 8 dX9_unlikeLines_153 rfl rfl ?_
            refine g_iload (pc := 154) 0 dX9_unlikeLines_154 rfl ?_
            refine g_ifeq_n (pc := 156) 163 (by decide) dX9_unlikeLines_156 (by decide) ?_
            refine g_iconst (pc := 159) (0) dX9_unlikeLines_159 (by decide) ?_
            refine g_goto (pc := 160) 167 dX9_unlikeLines_160 (by decide) ?_
            refine g_ior (pc := 167) dX9_unlikeLines_167 ?_
            refine g_nmi (fun x5 => ?_)
            refine g_istore_n (pc := 168) (lv' := [(3, .int x5), (9, .int (1 : Int32)), (8, .int x2), (7, .int x1), (6, .int (0 : Int32)), (5, .int (0 : Int32)), (0, .ref (q 0)), (1, .int p), (2, .int q_), (4, .int y2)]) dX9_unlikeLines_168 rfl (Nat.le_of_ble_eq_true rfl) rfl ?_
            refine g_iinc (pc := 169) (j := 9) (1) (lf := fun x6 => [(4, .int x6), (3, .int x5), (9, .int (1 : Int32)), (8, .int x2), (7, .int x1), (6, .int (0 : Int32)), (5, .int (0 : Int32)), (0, .ref (q 0)), (1, .int p), (2, .int q_)]) dX9_unlikeLines_169 rfl (by decide) (Nat.le_of_ble_eq_true rfl) (fun _ => rfl) (fun x6 => ?_)
            refine g_goto (pc := 172) 5 dX9_unlikeLines_172 (by decide) ?_
            exact g_sub [7, 8, 9, 1, 0] rfl (ih5 (x5, x6))
        · refine g_iconst (pc := 41) (1) dX9_unlikeLines_41 (by decide) ?_
          refine g_goto (pc := 42) 46 dX9_unlikeLines_42 (by decide) ?_
          refine g_istore (pc := 46) (lv' := [(6, .int (1 : Int32)), (5, .int (0 : Int32)), (0, .ref (q 0)), (1, .int p), (2, .int q_), (3, .int y1), (4, .int y2)]) dX9_unlikeLines_46 (Nat.le_of_ble_eq_true rfl) rfl ?_
          refine g_bipush (pc := 48) (12) dX9_unlikeLines_48 (by decide) ?_
          refine g_iload_n (pc := 50) 3 dX9_unlikeLines_50 rfl rfl ?_
          refine g_imul (pc := 51) dX9_unlikeLines_51 ?_
          refine g_iload (pc := 52) 6 dX9_unlikeLines_52 rfl ?_
          refine g_iadd (pc := 54) dX9_unlikeLines_54 ?_
          refine g_nmi (fun x7 => ?_)
          refine g_istore (pc := 55) (lv' := [(7, .int x7), (6, .int (1 : Int32)), (5, .int (0 : Int32)), (0, .ref (q 0)), (1, .int p), (2, .int q_), (3, .int y1), (4, .int y2)]) dX9_unlikeLines_55 (Nat.le_of_ble_eq_true rfl) rfl ?_
          refine g_bipush (pc := 57) (12) dX9_unlikeLines_57 (by decide) ?_
          refine g_iload_n (pc := 59) 5 dX9_unlikeLines_59 rfl rfl ?_
          refine g_imul (pc := 60) dX9_unlikeLines_60 ?_
          refine g_iload (pc := 61) 7 dX9_unlikeLines_61 rfl ?_
          refine g_iadd (pc := 63) dX9_unlikeLines_63 ?_
          refine g_nmi (fun x8 => ?_)
          refine g_istore (pc := 64) (lv' := [(8, .int x8), (7, .int x7), (6, .int (1 : Int32)), (5, .int (0 : Int32)), (0, .ref (q 0)), (1, .int p), (2, .int q_), (3, .int y1), (4, .int y2)]) dX9_unlikeLines_64 (Nat.le_of_ble_eq_true rfl) rfl ?_
          refine g_iload (pc := 66) 3 dX9_unlikeLines_66 rfl ?_
          refine g_iload (pc := 68) 2 dX9_unlikeLines_68 rfl ?_
          refine g_icmp_ne (pc := 70) 150 dX9_unlikeLines_70 (by decide) ?_ ?_
          · refine g_iconst (pc := 150) (0) dX9_unlikeLines_150 (by decide) ?_
            refine g_istore (pc := 151) (lv' := [(9, .int (0 : Int32)), (8, .int x8), (7, .int x7), (6, .int (1 : Int32)), (5, .int (0 : Int32)), (0, .ref (q 0)), (1, .int p), (2, .int q_), (3, .int y1), (4, .int y2)]) dX9_unlikeLines_151 (Nat.le_of_ble_eq_true rfl) rfl ?_
            refine g_iload_n (pc := 153) 8 dX9_unlikeLines_153 rfl rfl ?_
            refine g_iload (pc := 154) 0 dX9_unlikeLines_154 rfl ?_
            refine g_ifeq_y (pc := 156) 163 (by decide) dX9_unlikeLines_156 (by decide) ?_
            refine g_iconst (pc := 163) (1) dX9_unlikeLines_163 (by decide) ?_
            refine g_iload (pc := 164) 9 dX9_unlikeLines_164 rfl ?_
            refine g_ishl (pc := 166) dX9_unlikeLines_166 ?_
            refine g_ior (pc := 167) dX9_unlikeLines_167 ?_
            refine g_nmi (fun x9 => ?_)
            refine g_istore_n (pc := 168) (lv' := [(3, .int x9), (9, .int (0 : Int32)), (8, .int x8), (7, .int x7), (6, .int (1 : Int32)), (5, .int (0 : Int32)), (0, .ref (q 0)), (1, .int p), (2, .int q_), (4, .int y2)]) dX9_unlikeLines_168 rfl (Nat.le_of_ble_eq_true rfl) rfl ?_
            refine g_iinc (pc := 169) (j := 9) (1) (lf := fun x10 => [(4, .int x10), (3, .int x9), (9, .int (0 : Int32)), (8, .int x8), (7, .int x7), (6, .int (1 : Int32)), (5, .int (0 : Int32)), (0, .ref (q 0)), (1, .int p), (2, .int q_)]) dX9_unlikeLines_169 rfl (by decide) (Nat.le_of_ble_eq_true rfl) (fun _ => rfl) (fun x10 => ?_)
            refine g_goto (pc := 172) 5 dX9_unlikeLines_172 (by decide) ?_
            exact g_sub [7, 8, 9, 1, 0] rfl (ih5 (x9, x10))
          · refine g_iload (pc := 73) 3 dX9_unlikeLines_73 rfl ?_
            refine g_ifeq_y (pc := 75) 146 (by decide) dX9_unlikeLines_75 (by decide) ?_
            refine g_iconst (pc := 146) (1) dX9_unlikeLines_146 (by decide) ?_
            refine g_goto (pc := 147) 151 dX9_unlikeLines_147 (by decide) ?_
            refine g_istore (pc := 151) (lv' := [(9, .int (1 : Int32)), (8, .int x8), (7, .int x7), (6, .int (1 : Int32)), (5, .int (0 : Int32)), (0, .ref (q 0)), (1, .int p), (2, .int q_), (3, .int y1), (4, .int y2)]) dX9_unlikeLines_151 (Nat.le_of_ble_eq_true rfl) rfl ?_
            refine g_iload_n (pc := 153) 8 dX9_unlikeLines_153 rfl rfl ?_
            refine g_iload (pc := 154) 0 dX9_unlikeLines_154 rfl ?_
            refine g_ifeq_n (pc := 156) 163 (by decide) dX9_unlikeLines_156 (by decide) ?_
            refine g_iconst (pc := 159) (0) dX9_unlikeLines_159 (by decide) ?_
            refine g_goto (pc := 160) 167 dX9_unlikeLines_160 (by decide) ?_
            refine g_ior (pc := 167) dX9_unlikeLines_167 ?_
            refine g_nmi (fun x11 => ?_)
            refine g_istore_n (pc := 168) (lv' := [(3, .int x11), (9, .int (1 : Int32)), (8, .int x8), (7, .int x7), (6, .int (1 : Int32)), (5, .int (0 : Int32)), (0, .ref (q 0)), (1, .int p), (2, .int q_), (4, .int y2)]) dX9_unlikeLines_168 rfl (Nat.le_of_ble_eq_true rfl) rfl ?_
            refine g_iinc (pc := 169) (j := 9) (1) (lf := fun x12 => [(4, .int x12), (3, .int x11), (9, .int (1 : Int32)), (8, .int x8), (7, .int x7), (6, .int (1 : Int32)), (5, .int (0 : Int32)), (0, .ref (q 0)), (1, .int p), (2, .int q_)]) dX9_unlikeLines_169 rfl (by decide) (Nat.le_of_ble_eq_true rfl) (fun _ => rfl) (fun x12 => ?_)
            refine g_goto (pc := 172) 5 dX9_unlikeLines_172 (by decide) ?_
            exact g_sub [7, 8, 9, 1, 0] rfl (ih5 (x11, x12))
      · refine g_iconst (pc := 23) (1) dX9_unlikeLines_23 (by decide) ?_
        refine g_goto (pc := 24) 28 dX9_unlikeLines_24 (by decide) ?_
        refine g_istore (pc := 28) (lv' := [(5, .int (1 : Int32)), (0, .ref (q 0)), (1, .int p), (2, .int q_), (3, .int y1), (4, .int y2)]) dX9_unlikeLines_28 (Nat.le_of_ble_eq_true rfl) rfl ?_
        refine g_iload (pc := 30) 5 dX9_unlikeLines_30 rfl ?_
        refine g_aload_n (pc := 32) 1 dX9_unlikeLines_32 rfl rfl ?_
        refine gf_9_lineMany (pc := 33) kf_X9_22 dX9_unlikeLines_33 ?_
        refine g_iload_n (pc := 36) 3 dX9_unlikeLines_36 rfl rfl ?_
        refine a_ild (pc := 37) aM_lineMany dX9_unlikeLines_37 ?_
        refine g_icmp_ge (pc := 38) 45 dX9_unlikeLines_38 (by decide) ?_ ?_
        · refine g_iconst (pc := 45) (0) dX9_unlikeLines_45 (by decide) ?_
          refine g_istore (pc := 46) (lv' := [(6, .int (0 : Int32)), (5, .int (1 : Int32)), (0, .ref (q 0)), (1, .int p), (2, .int q_), (3, .int y1), (4, .int y2)]) dX9_unlikeLines_46 (Nat.le_of_ble_eq_true rfl) rfl ?_
          refine g_bipush (pc := 48) (12) dX9_unlikeLines_48 (by decide) ?_
          refine g_iload_n (pc := 50) 3 dX9_unlikeLines_50 rfl rfl ?_
          refine g_imul (pc := 51) dX9_unlikeLines_51 ?_
          refine g_iload (pc := 52) 6 dX9_unlikeLines_52 rfl ?_
          refine g_iadd (pc := 54) dX9_unlikeLines_54 ?_
          refine g_nmi (fun x13 => ?_)
          refine g_istore (pc := 55) (lv' := [(7, .int x13), (6, .int (0 : Int32)), (5, .int (1 : Int32)), (0, .ref (q 0)), (1, .int p), (2, .int q_), (3, .int y1), (4, .int y2)]) dX9_unlikeLines_55 (Nat.le_of_ble_eq_true rfl) rfl ?_
          refine g_bipush (pc := 57) (12) dX9_unlikeLines_57 (by decide) ?_
          refine g_iload_n (pc := 59) 5 dX9_unlikeLines_59 rfl rfl ?_
          refine g_imul (pc := 60) dX9_unlikeLines_60 ?_
          refine g_iload (pc := 61) 7 dX9_unlikeLines_61 rfl ?_
          refine g_iadd (pc := 63) dX9_unlikeLines_63 ?_
          refine g_nmi (fun x14 => ?_)
          refine g_istore (pc := 64) (lv' := [(8, .int x14), (7, .int x13), (6, .int (0 : Int32)), (5, .int (1 : Int32)), (0, .ref (q 0)), (1, .int p), (2, .int q_), (3, .int y1), (4, .int y2)]) dX9_unlikeLines_64 (Nat.le_of_ble_eq_true rfl) rfl ?_
          refine g_iload (pc := 66) 3 dX9_unlikeLines_66 rfl ?_
          refine g_iload (pc := 68) 2 dX9_unlikeLines_68 rfl ?_
          refine g_icmp_ne (pc := 70) 150 dX9_unlikeLines_70 (by decide) ?_ ?_
          · refine g_iconst (pc := 150) (0) dX9_unlikeLines_150 (by decide) ?_
            refine g_istore (pc := 151) (lv' := [(9, .int (0 : Int32)), (8, .int x14), (7, .int x13), (6, .int (0 : Int32)), (5, .int (1 : Int32)), (0, .ref (q 0)), (1, .int p), (2, .int q_), (3, .int y1), (4, .int y2)]) dX9_unlikeLines_151 (Nat.le_of_ble_eq_true rfl) rfl ?_
            refine g_iload_n (pc := 153) 8 dX9_unlikeLines_153 rfl rfl ?_
            refine g_iload (pc := 154) 0 dX9_unlikeLines_154 rfl ?_
            refine g_ifeq_y (pc := 156) 163 (by decide) dX9_unlikeLines_156 (by decide) ?_
            refine g_iconst (pc := 163) (1) dX9_unlikeLines_163 (by decide) ?_
            refine g_iload (pc := 164) 9 dX9_unlikeLines_164 rfl ?_
            refine g_ishl (pc := 166) dX9_unlikeLines_166 ?_
            refine g_ior (pc := 167) dX9_unlikeLines_167 ?_
            refine g_nmi (fun x15 => ?_)
            refine g_istore_n (pc := 168) (lv' := [(3, .int x15), (9, .int (0 : Int32)), (8, .int x14), (7, .int x13), (6, .int (0 : Int32)), (5, .int (1 : Int32)), (0, .ref (q 0)), (1, .int p), (2, .int q_), (4, .int y2)]) dX9_unlikeLines_168 rfl (Nat.le_of_ble_eq_true rfl) rfl ?_
            refine g_iinc (pc := 169) (j := 9) (1) (lf := fun x16 => [(4, .int x16), (3, .int x15), (9, .int (0 : Int32)), (8, .int x14), (7, .int x13), (6, .int (0 : Int32)), (5, .int (1 : Int32)), (0, .ref (q 0)), (1, .int p), (2, .int q_)]) dX9_unlikeLines_169 rfl (by decide) (Nat.le_of_ble_eq_true rfl) (fun _ => rfl) (fun x16 => ?_)
            refine g_goto (pc := 172) 5 dX9_unlikeLines_172 (by decide) ?_
            exact g_sub [7, 8, 9, 1, 0] rfl (ih5 (x15, x16))
          · refine g_iload (pc := 73) 3 dX9_unlikeLines_73 rfl ?_
            refine g_ifeq_n (pc := 75) 146 (by decide) dX9_unlikeLines_75 (by decide) ?_
            refine g_aload_n (pc := 78) 4 dX9_unlikeLines_78 rfl rfl ?_
            refine gf_9_acts (pc := 79) kf_X9_7 dX9_unlikeLines_79 ?_
            refine g_iload (pc := 82) 1 dX9_unlikeLines_82 rfl ?_
            refine a_ild (pc := 84) aM_acts dX9_unlikeLines_84 ?_
            refine g_aload_n (pc := 85) 4 dX9_unlikeLines_85 rfl rfl ?_
            refine gf_9_acts (pc := 86) kf_X9_7 dX9_unlikeLines_86 ?_
            refine g_iload (pc := 89) 0 dX9_unlikeLines_89 rfl ?_
            refine a_ild (pc := 91) aM_acts dX9_unlikeLines_91 ?_
            refine g_icmp_ne (pc := 92) 150 dX9_unlikeLines_92 (by decide) ?_ ?_
            · refine g_iconst (pc := 150) (0) dX9_unlikeLines_150 (by decide) ?_
              refine g_istore (pc := 151) (lv' := [(9, .int (0 : Int32)), (8, .int x14), (7, .int x13), (6, .int (0 : Int32)), (5, .int (1 : Int32)), (0, .ref (q 0)), (1, .int p), (2, .int q_), (3, .int y1), (4, .int y2)]) dX9_unlikeLines_151 (Nat.le_of_ble_eq_true rfl) rfl ?_
              refine g_iload_n (pc := 153) 8 dX9_unlikeLines_153 rfl rfl ?_
              refine g_iload (pc := 154) 0 dX9_unlikeLines_154 rfl ?_
              refine g_ifeq_y (pc := 156) 163 (by decide) dX9_unlikeLines_156 (by decide) ?_
              refine g_iconst (pc := 163) (1) dX9_unlikeLines_163 (by decide) ?_
              refine g_iload (pc := 164) 9 dX9_unlikeLines_164 rfl ?_
              refine g_ishl (pc := 166) dX9_unlikeLines_166 ?_
              refine g_ior (pc := 167) dX9_unlikeLines_167 ?_
              refine g_nmi (fun x17 => ?_)
              refine g_istore_n (pc := 168) (lv' := [(3, .int x17), (9, .int (0 : Int32)), (8, .int x14), (7, .int x13), (6, .int (0 : Int32)), (5, .int (1 : Int32)), (0, .ref (q 0)), (1, .int p), (2, .int q_), (4, .int y2)]) dX9_unlikeLines_168 rfl (Nat.le_of_ble_eq_true rfl) rfl ?_
              refine g_iinc (pc := 169) (j := 9) (1) (lf := fun x18 => [(4, .int x18), (3, .int x17), (9, .int (0 : Int32)), (8, .int x14), (7, .int x13), (6, .int (0 : Int32)), (5, .int (1 : Int32)), (0, .ref (q 0)), (1, .int p), (2, .int q_)]) dX9_unlikeLines_169 rfl (by decide) (Nat.le_of_ble_eq_true rfl) (fun _ => rfl) (fun x18 => ?_)
              refine g_goto (pc := 172) 5 dX9_unlikeLines_172 (by decide) ?_
              exact g_sub [7, 8, 9, 1, 0] rfl (ih5 (x17, x18))
            · refine g_aload_n (pc := 95) 4 dX9_unlikeLines_95 rfl rfl ?_
              refine gf_9_firsts (pc := 96) kf_X9_13 dX9_unlikeLines_96 ?_
              refine g_iload (pc := 99) 1 dX9_unlikeLines_99 rfl ?_
              refine a_ild (pc := 101) aM_firsts dX9_unlikeLines_101 ?_
              refine g_aload_n (pc := 102) 4 dX9_unlikeLines_102 rfl rfl ?_
              refine gf_9_firsts (pc := 103) kf_X9_13 dX9_unlikeLines_103 ?_
              refine g_iload (pc := 106) 0 dX9_unlikeLines_106 rfl ?_
              refine a_ild (pc := 108) aM_firsts dX9_unlikeLines_108 ?_
              refine g_icmp_ne (pc := 109) 150 dX9_unlikeLines_109 (by decide) ?_ ?_
              · refine g_iconst (pc := 150) (0) dX9_unlikeLines_150 (by decide) ?_
                refine g_istore (pc := 151) (lv' := [(9, .int (0 : Int32)), (8, .int x14), (7, .int x13), (6, .int (0 : Int32)), (5, .int (1 : Int32)), (0, .ref (q 0)), (1, .int p), (2, .int q_), (3, .int y1), (4, .int y2)]) dX9_unlikeLines_151 (Nat.le_of_ble_eq_true rfl) rfl ?_
                refine g_iload_n (pc := 153) 8 dX9_unlikeLines_153 rfl rfl ?_
                refine g_iload (pc := 154) 0 dX9_unlikeLines_154 rfl ?_
                refine g_ifeq_y (pc := 156) 163 (by decide) dX9_unlikeLines_156 (by decide) ?_
                refine g_iconst (pc := 163) (1) dX9_unlikeLines_163 (by decide) ?_
                refine g_iload (pc := 164) 9 dX9_unlikeLines_164 rfl ?_
                refine g_ishl (pc := 166) dX9_unlikeLines_166 ?_
                refine g_ior (pc := 167) dX9_unlikeLines_167 ?_
                refine g_nmi (fun x19 => ?_)
                refine g_istore_n (pc := 168) (lv' := [(3, .int x19), (9, .int (0 : Int32)), (8, .int x14), (7, .int x13), (6, .int (0 : Int32)), (5, .int (1 : Int32)), (0, .ref (q 0)), (1, .int p), (2, .int q_), (4, .int y2)]) dX9_unlikeLines_168 rfl (Nat.le_of_ble_eq_true rfl) rfl ?_
                refine g_iinc (pc := 169) (j := 9) (1) (lf := fun x20 => [(4, .int x20), (3, .int x19), (9, .int (0 : Int32)), (8, .int x14), (7, .int x13), (6, .int (0 : Int32)), (5, .int (1 : Int32)), (0, .ref (q 0)), (1, .int p), (2, .int q_)]) dX9_unlikeLines_169 rfl (by decide) (Nat.le_of_ble_eq_true rfl) (fun _ => rfl) (fun x20 => ?_)
                refine g_goto (pc := 172) 5 dX9_unlikeLines_172 (by decide) ?_
                exact g_sub [7, 8, 9, 1, 0] rfl (ih5 (x19, x20))
              · refine g_aload_n (pc := 112) 4 dX9_unlikeLines_112 rfl rfl ?_
                refine gf_9_seconds (pc := 113) kf_X9_16 dX9_unlikeLines_113 ?_
                refine g_iload (pc := 116) 1 dX9_unlikeLines_116 rfl ?_
                refine a_ild (pc := 118) aM_seconds dX9_unlikeLines_118 ?_
                refine g_aload_n (pc := 119) 4 dX9_unlikeLines_119 rfl rfl ?_
                refine gf_9_seconds (pc := 120) kf_X9_16 dX9_unlikeLines_120 ?_
                refine g_iload (pc := 123) 0 dX9_unlikeLines_123 rfl ?_
                refine a_ild (pc := 125) aM_seconds dX9_unlikeLines_125 ?_
                refine g_icmp_ne (pc := 126) 150 dX9_unlikeLines_126 (by decide) ?_ ?_
                · refine g_iconst (pc := 150) (0) dX9_unlikeLines_150 (by decide) ?_
                  refine g_istore (pc := 151) (lv' := [(9, .int (0 : Int32)), (8, .int x14), (7, .int x13), (6, .int (0 : Int32)), (5, .int (1 : Int32)), (0, .ref (q 0)), (1, .int p), (2, .int q_), (3, .int y1), (4, .int y2)]) dX9_unlikeLines_151 (Nat.le_of_ble_eq_true rfl) rfl ?_
                  refine g_iload_n (pc := 153) 8 dX9_unlikeLines_153 rfl rfl ?_
                  refine g_iload (pc := 154) 0 dX9_unlikeLines_154 rfl ?_
                  refine g_ifeq_y (pc := 156) 163 (by decide) dX9_unlikeLines_156 (by decide) ?_
                  refine g_iconst (pc := 163) (1) dX9_unlikeLines_163 (by decide) ?_
                  refine g_iload (pc := 164) 9 dX9_unlikeLines_164 rfl ?_
                  refine g_ishl (pc := 166) dX9_unlikeLines_166 ?_
                  refine g_ior (pc := 167) dX9_unlikeLines_167 ?_
                  refine g_nmi (fun x21 => ?_)
                  refine g_istore_n (pc := 168) (lv' := [(3, .int x21), (9, .int (0 : Int32)), (8, .int x14), (7, .int x13), (6, .int (0 : Int32)), (5, .int (1 : Int32)), (0, .ref (q 0)), (1, .int p), (2, .int q_), (4, .int y2)]) dX9_unlikeLines_168 rfl (Nat.le_of_ble_eq_true rfl) rfl ?_
                  refine g_iinc (pc := 169) (j := 9) (1) (lf := fun x22 => [(4, .int x22), (3, .int x21), (9, .int (0 : Int32)), (8, .int x14), (7, .int x13), (6, .int (0 : Int32)), (5, .int (1 : Int32)), (0, .ref (q 0)), (1, .int p), (2, .int q_)]) dX9_unlikeLines_169 rfl (by decide) (Nat.le_of_ble_eq_true rfl) (fun _ => rfl) (fun x22 => ?_)
                  refine g_goto (pc := 172) 5 dX9_unlikeLines_172 (by decide) ?_
                  exact g_sub [7, 8, 9, 1, 0] rfl (ih5 (x21, x22))
                · refine g_aload_n (pc := 129) 4 dX9_unlikeLines_129 rfl rfl ?_
                  refine gf_9_thirds (pc := 130) kf_X9_19 dX9_unlikeLines_130 ?_
                  refine g_iload (pc := 133) 1 dX9_unlikeLines_133 rfl ?_
                  refine a_ild (pc := 135) aM_thirds dX9_unlikeLines_135 ?_
                  refine g_aload_n (pc := 136) 4 dX9_unlikeLines_136 rfl rfl ?_
                  refine gf_9_thirds (pc := 137) kf_X9_19 dX9_unlikeLines_137 ?_
                  refine g_iload (pc := 140) 0 dX9_unlikeLines_140 rfl ?_
                  refine a_ild (pc := 142) aM_thirds dX9_unlikeLines_142 ?_
                  refine g_icmp_ne (pc := 143) 150 dX9_unlikeLines_143 (by decide) ?_ ?_
                  · refine g_iconst (pc := 150) (0) dX9_unlikeLines_150 (by decide) ?_
                    refine g_istore (pc := 151) (lv' := [(9, .int (0 : Int32)), (8, .int x14), (7, .int x13), (6, .int (0 : Int32)), (5, .int (1 : Int32)), (0, .ref (q 0)), (1, .int p), (2, .int q_), (3, .int y1), (4, .int y2)]) dX9_unlikeLines_151 (Nat.le_of_ble_eq_true rfl) rfl ?_
                    refine g_iload_n (pc := 153) 8 dX9_unlikeLines_153 rfl rfl ?_
                    refine g_iload (pc := 154) 0 dX9_unlikeLines_154 rfl ?_
                    refine g_ifeq_y (pc := 156) 163 (by decide) dX9_unlikeLines_156 (by decide) ?_
                    refine g_iconst (pc := 163) (1) dX9_unlikeLines_163 (by decide) ?_
                    refine g_iload (pc := 164) 9 dX9_unlikeLines_164 rfl ?_
                    refine g_ishl (pc := 166) dX9_unlikeLines_166 ?_
                    refine g_ior (pc := 167) dX9_unlikeLines_167 ?_
                    refine g_nmi (fun x23 => ?_)
                    refine g_istore_n (pc := 168) (lv' := [(3, .int x23), (9, .int (0 : Int32)), (8, .int x14), (7, .int x13), (6, .int (0 : Int32)), (5, .int (1 : Int32)), (0, .ref (q 0)), (1, .int p), (2, .int q_), (4, .int y2)]) dX9_unlikeLines_168 rfl (Nat.le_of_ble_eq_true rfl) rfl ?_
                    refine g_iinc (pc := 169) (j := 9) (1) (lf := fun x24 => [(4, .int x24), (3, .int x23), (9, .int (0 : Int32)), (8, .int x14), (7, .int x13), (6, .int (0 : Int32)), (5, .int (1 : Int32)), (0, .ref (q 0)), (1, .int p), (2, .int q_)]) dX9_unlikeLines_169 rfl (by decide) (Nat.le_of_ble_eq_true rfl) (fun _ => rfl) (fun x24 => ?_)
                    refine g_goto (pc := 172) 5 dX9_unlikeLines_172 (by decide) ?_
                    exact g_sub [7, 8, 9, 1, 0] rfl (ih5 (x23, x24))
                  · refine g_iconst (pc := 146) (1) dX9_unlikeLines_146 (by decide) ?_
                    refine g_goto (pc := 147) 151 dX9_unlikeLines_147 (by decide) ?_
                    refine g_istore (pc := 151) (lv' := [(9, .int (1 : Int32)), (8, .int x14), (7, .int x13), (6, .int (0 : Int32)), (5, .int (1 : Int32)), (0, .ref (q 0)), (1, .int p), (2, .int q_), (3, .int y1), (4, .int y2)]) dX9_unlikeLines_151 (Nat.le_of_ble_eq_true rfl) rfl ?_
                    refine g_iload_n (pc := 153) 8 dX9_unlikeLines_153 rfl rfl ?_
                    refine g_iload (pc := 154) 0 dX9_unlikeLines_154 rfl ?_
                    refine g_ifeq_n (pc := 156) 163 (by decide) dX9_unlikeLines_156 (by decide) ?_
                    refine g_iconst (pc := 159) (0) dX9_unlikeLines_159 (by decide) ?_
                    refine g_goto (pc := 160) 167 dX9_unlikeLines_160 (by decide) ?_
                    refine g_ior (pc := 167) dX9_unlikeLines_167 ?_
                    refine g_nmi (fun x25 => ?_)
                    refine g_istore_n (pc := 168) (lv' := [(3, .int x25), (9, .int (1 : Int32)), (8, .int x14), (7, .int x13), (6, .int (0 : Int32)), (5, .int (1 : Int32)), (0, .ref (q 0)), (1, .int p), (2, .int q_), (4, .int y2)]) dX9_unlikeLines_168 rfl (Nat.le_of_ble_eq_true rfl) rfl ?_
                    refine g_iinc (pc := 169) (j := 9) (1) (lf := fun x26 => [(4, .int x26), (3, .int x25), (9, .int (1 : Int32)), (8, .int x14), (7, .int x13), (6, .int (0 : Int32)), (5, .int (1 : Int32)), (0, .ref (q 0)), (1, .int p), (2, .int q_)]) dX9_unlikeLines_169 rfl (by decide) (Nat.le_of_ble_eq_true rfl) (fun _ => rfl) (fun x26 => ?_)
                    refine g_goto (pc := 172) 5 dX9_unlikeLines_172 (by decide) ?_
                    exact g_sub [7, 8, 9, 1, 0] rfl (ih5 (x25, x26))
        · refine g_iconst (pc := 41) (1) dX9_unlikeLines_41 (by decide) ?_
          refine g_goto (pc := 42) 46 dX9_unlikeLines_42 (by decide) ?_
          refine g_istore (pc := 46) (lv' := [(6, .int (1 : Int32)), (5, .int (1 : Int32)), (0, .ref (q 0)), (1, .int p), (2, .int q_), (3, .int y1), (4, .int y2)]) dX9_unlikeLines_46 (Nat.le_of_ble_eq_true rfl) rfl ?_
          refine g_bipush (pc := 48) (12) dX9_unlikeLines_48 (by decide) ?_
          refine g_iload_n (pc := 50) 3 dX9_unlikeLines_50 rfl rfl ?_
          refine g_imul (pc := 51) dX9_unlikeLines_51 ?_
          refine g_iload (pc := 52) 6 dX9_unlikeLines_52 rfl ?_
          refine g_iadd (pc := 54) dX9_unlikeLines_54 ?_
          refine g_nmi (fun x27 => ?_)
          refine g_istore (pc := 55) (lv' := [(7, .int x27), (6, .int (1 : Int32)), (5, .int (1 : Int32)), (0, .ref (q 0)), (1, .int p), (2, .int q_), (3, .int y1), (4, .int y2)]) dX9_unlikeLines_55 (Nat.le_of_ble_eq_true rfl) rfl ?_
          refine g_bipush (pc := 57) (12) dX9_unlikeLines_57 (by decide) ?_
          refine g_iload_n (pc := 59) 5 dX9_unlikeLines_59 rfl rfl ?_
          refine g_imul (pc := 60) dX9_unlikeLines_60 ?_
          refine g_iload (pc := 61) 7 dX9_unlikeLines_61 rfl ?_
          refine g_iadd (pc := 63) dX9_unlikeLines_63 ?_
          refine g_nmi (fun x28 => ?_)
          refine g_istore (pc := 64) (lv' := [(8, .int x28), (7, .int x27), (6, .int (1 : Int32)), (5, .int (1 : Int32)), (0, .ref (q 0)), (1, .int p), (2, .int q_), (3, .int y1), (4, .int y2)]) dX9_unlikeLines_64 (Nat.le_of_ble_eq_true rfl) rfl ?_
          refine g_iload (pc := 66) 3 dX9_unlikeLines_66 rfl ?_
          refine g_iload (pc := 68) 2 dX9_unlikeLines_68 rfl ?_
          refine g_icmp_ne (pc := 70) 150 dX9_unlikeLines_70 (by decide) ?_ ?_
          · refine g_iconst (pc := 150) (0) dX9_unlikeLines_150 (by decide) ?_
            refine g_istore (pc := 151) (lv' := [(9, .int (0 : Int32)), (8, .int x28), (7, .int x27), (6, .int (1 : Int32)), (5, .int (1 : Int32)), (0, .ref (q 0)), (1, .int p), (2, .int q_), (3, .int y1), (4, .int y2)]) dX9_unlikeLines_151 (Nat.le_of_ble_eq_true rfl) rfl ?_
            refine g_iload_n (pc := 153) 8 dX9_unlikeLines_153 rfl rfl ?_
            refine g_iload (pc := 154) 0 dX9_unlikeLines_154 rfl ?_
            refine g_ifeq_y (pc := 156) 163 (by decide) dX9_unlikeLines_156 (by decide) ?_
            refine g_iconst (pc := 163) (1) dX9_unlikeLines_163 (by decide) ?_
            refine g_iload (pc := 164) 9 dX9_unlikeLines_164 rfl ?_
            refine g_ishl (pc := 166) dX9_unlikeLines_166 ?_
            refine g_ior (pc := 167) dX9_unlikeLines_167 ?_
            refine g_nmi (fun x29 => ?_)
            refine g_istore_n (pc := 168) (lv' := [(3, .int x29), (9, .int (0 : Int32)), (8, .int x28), (7, .int x27), (6, .int (1 : Int32)), (5, .int (1 : Int32)), (0, .ref (q 0)), (1, .int p), (2, .int q_), (4, .int y2)]) dX9_unlikeLines_168 rfl (Nat.le_of_ble_eq_true rfl) rfl ?_
            refine g_iinc (pc := 169) (j := 9) (1) (lf := fun x30 => [(4, .int x30), (3, .int x29), (9, .int (0 : Int32)), (8, .int x28), (7, .int x27), (6, .int (1 : Int32)), (5, .int (1 : Int32)), (0, .ref (q 0)), (1, .int p), (2, .int q_)]) dX9_unlikeLines_169 rfl (by decide) (Nat.le_of_ble_eq_true rfl) (fun _ => rfl) (fun x30 => ?_)
            refine g_goto (pc := 172) 5 dX9_unlikeLines_172 (by decide) ?_
            exact g_sub [7, 8, 9, 1, 0] rfl (ih5 (x29, x30))
          · refine g_iload (pc := 73) 3 dX9_unlikeLines_73 rfl ?_
            refine g_ifeq_n (pc := 75) 146 (by decide) dX9_unlikeLines_75 (by decide) ?_
            refine g_aload_n (pc := 78) 4 dX9_unlikeLines_78 rfl rfl ?_
            refine gf_9_acts (pc := 79) kf_X9_7 dX9_unlikeLines_79 ?_
            refine g_iload (pc := 82) 1 dX9_unlikeLines_82 rfl ?_
            refine a_ild (pc := 84) aM_acts dX9_unlikeLines_84 ?_
            refine g_aload_n (pc := 85) 4 dX9_unlikeLines_85 rfl rfl ?_
            refine gf_9_acts (pc := 86) kf_X9_7 dX9_unlikeLines_86 ?_
            refine g_iload (pc := 89) 0 dX9_unlikeLines_89 rfl ?_
            refine a_ild (pc := 91) aM_acts dX9_unlikeLines_91 ?_
            refine g_icmp_ne (pc := 92) 150 dX9_unlikeLines_92 (by decide) ?_ ?_
            · refine g_iconst (pc := 150) (0) dX9_unlikeLines_150 (by decide) ?_
              refine g_istore (pc := 151) (lv' := [(9, .int (0 : Int32)), (8, .int x28), (7, .int x27), (6, .int (1 : Int32)), (5, .int (1 : Int32)), (0, .ref (q 0)), (1, .int p), (2, .int q_), (3, .int y1), (4, .int y2)]) dX9_unlikeLines_151 (Nat.le_of_ble_eq_true rfl) rfl ?_
              refine g_iload_n (pc := 153) 8 dX9_unlikeLines_153 rfl rfl ?_
              refine g_iload (pc := 154) 0 dX9_unlikeLines_154 rfl ?_
              refine g_ifeq_y (pc := 156) 163 (by decide) dX9_unlikeLines_156 (by decide) ?_
              refine g_iconst (pc := 163) (1) dX9_unlikeLines_163 (by decide) ?_
              refine g_iload (pc := 164) 9 dX9_unlikeLines_164 rfl ?_
              refine g_ishl (pc := 166) dX9_unlikeLines_166 ?_
              refine g_ior (pc := 167) dX9_unlikeLines_167 ?_
              refine g_nmi (fun x31 => ?_)
              refine g_istore_n (pc := 168) (lv' := [(3, .int x31), (9, .int (0 : Int32)), (8, .int x28), (7, .int x27), (6, .int (1 : Int32)), (5, .int (1 : Int32)), (0, .ref (q 0)), (1, .int p), (2, .int q_), (4, .int y2)]) dX9_unlikeLines_168 rfl (Nat.le_of_ble_eq_true rfl) rfl ?_
              refine g_iinc (pc := 169) (j := 9) (1) (lf := fun x32 => [(4, .int x32), (3, .int x31), (9, .int (0 : Int32)), (8, .int x28), (7, .int x27), (6, .int (1 : Int32)), (5, .int (1 : Int32)), (0, .ref (q 0)), (1, .int p), (2, .int q_)]) dX9_unlikeLines_169 rfl (by decide) (Nat.le_of_ble_eq_true rfl) (fun _ => rfl) (fun x32 => ?_)
              refine g_goto (pc := 172) 5 dX9_unlikeLines_172 (by decide) ?_
              exact g_sub [7, 8, 9, 1, 0] rfl (ih5 (x31, x32))
            · refine g_aload_n (pc := 95) 4 dX9_unlikeLines_95 rfl rfl ?_
              refine gf_9_firsts (pc := 96) kf_X9_13 dX9_unlikeLines_96 ?_
              refine g_iload (pc := 99) 1 dX9_unlikeLines_99 rfl ?_
              refine a_ild (pc := 101) aM_firsts dX9_unlikeLines_101 ?_
              refine g_aload_n (pc := 102) 4 dX9_unlikeLines_102 rfl rfl ?_
              refine gf_9_firsts (pc := 103) kf_X9_13 dX9_unlikeLines_103 ?_
              refine g_iload (pc := 106) 0 dX9_unlikeLines_106 rfl ?_
              refine a_ild (pc := 108) aM_firsts dX9_unlikeLines_108 ?_
              refine g_icmp_ne (pc := 109) 150 dX9_unlikeLines_109 (by decide) ?_ ?_
              · refine g_iconst (pc := 150) (0) dX9_unlikeLines_150 (by decide) ?_
                refine g_istore (pc := 151) (lv' := [(9, .int (0 : Int32)), (8, .int x28), (7, .int x27), (6, .int (1 : Int32)), (5, .int (1 : Int32)), (0, .ref (q 0)), (1, .int p), (2, .int q_), (3, .int y1), (4, .int y2)]) dX9_unlikeLines_151 (Nat.le_of_ble_eq_true rfl) rfl ?_
                refine g_iload_n (pc := 153) 8 dX9_unlikeLines_153 rfl rfl ?_
                refine g_iload (pc := 154) 0 dX9_unlikeLines_154 rfl ?_
                refine g_ifeq_y (pc := 156) 163 (by decide) dX9_unlikeLines_156 (by decide) ?_
                refine g_iconst (pc := 163) (1) dX9_unlikeLines_163 (by decide) ?_
                refine g_iload (pc := 164) 9 dX9_unlikeLines_164 rfl ?_
                refine g_ishl (pc := 166) dX9_unlikeLines_166 ?_
                refine g_ior (pc := 167) dX9_unlikeLines_167 ?_
                refine g_nmi (fun x33 => ?_)
                refine g_istore_n (pc := 168) (lv' := [(3, .int x33), (9, .int (0 : Int32)), (8, .int x28), (7, .int x27), (6, .int (1 : Int32)), (5, .int (1 : Int32)), (0, .ref (q 0)), (1, .int p), (2, .int q_), (4, .int y2)]) dX9_unlikeLines_168 rfl (Nat.le_of_ble_eq_true rfl) rfl ?_
                refine g_iinc (pc := 169) (j := 9) (1) (lf := fun x34 => [(4, .int x34), (3, .int x33), (9, .int (0 : Int32)), (8, .int x28), (7, .int x27), (6, .int (1 : Int32)), (5, .int (1 : Int32)), (0, .ref (q 0)), (1, .int p), (2, .int q_)]) dX9_unlikeLines_169 rfl (by decide) (Nat.le_of_ble_eq_true rfl) (fun _ => rfl) (fun x34 => ?_)
                refine g_goto (pc := 172) 5 dX9_unlikeLines_172 (by decide) ?_
                exact g_sub [7, 8, 9, 1, 0] rfl (ih5 (x33, x34))
              · refine g_aload_n (pc := 112) 4 dX9_unlikeLines_112 rfl rfl ?_
                refine gf_9_seconds (pc := 113) kf_X9_16 dX9_unlikeLines_113 ?_
                refine g_iload (pc := 116) 1 dX9_unlikeLines_116 rfl ?_
                refine a_ild (pc := 118) aM_seconds dX9_unlikeLines_118 ?_
                refine g_aload_n (pc := 119) 4 dX9_unlikeLines_119 rfl rfl ?_
                refine gf_9_seconds (pc := 120) kf_X9_16 dX9_unlikeLines_120 ?_
                refine g_iload (pc := 123) 0 dX9_unlikeLines_123 rfl ?_
                refine a_ild (pc := 125) aM_seconds dX9_unlikeLines_125 ?_
                refine g_icmp_ne (pc := 126) 150 dX9_unlikeLines_126 (by decide) ?_ ?_
                · refine g_iconst (pc := 150) (0) dX9_unlikeLines_150 (by decide) ?_
                  refine g_istore (pc := 151) (lv' := [(9, .int (0 : Int32)), (8, .int x28), (7, .int x27), (6, .int (1 : Int32)), (5, .int (1 : Int32)), (0, .ref (q 0)), (1, .int p), (2, .int q_), (3, .int y1), (4, .int y2)]) dX9_unlikeLines_151 (Nat.le_of_ble_eq_true rfl) rfl ?_
                  refine g_iload_n (pc := 153) 8 dX9_unlikeLines_153 rfl rfl ?_
                  refine g_iload (pc := 154) 0 dX9_unlikeLines_154 rfl ?_
                  refine g_ifeq_y (pc := 156) 163 (by decide) dX9_unlikeLines_156 (by decide) ?_
                  refine g_iconst (pc := 163) (1) dX9_unlikeLines_163 (by decide) ?_
                  refine g_iload (pc := 164) 9 dX9_unlikeLines_164 rfl ?_
                  refine g_ishl (pc := 166) dX9_unlikeLines_166 ?_
                  refine g_ior (pc := 167) dX9_unlikeLines_167 ?_
                  refine g_nmi (fun x35 => ?_)
                  refine g_istore_n (pc := 168) (lv' := [(3, .int x35), (9, .int (0 : Int32)), (8, .int x28), (7, .int x27), (6, .int (1 : Int32)), (5, .int (1 : Int32)), (0, .ref (q 0)), (1, .int p), (2, .int q_), (4, .int y2)]) dX9_unlikeLines_168 rfl (Nat.le_of_ble_eq_true rfl) rfl ?_
                  refine g_iinc (pc := 169) (j := 9) (1) (lf := fun x36 => [(4, .int x36), (3, .int x35), (9, .int (0 : Int32)), (8, .int x28), (7, .int x27), (6, .int (1 : Int32)), (5, .int (1 : Int32)), (0, .ref (q 0)), (1, .int p), (2, .int q_)]) dX9_unlikeLines_169 rfl (by decide) (Nat.le_of_ble_eq_true rfl) (fun _ => rfl) (fun x36 => ?_)
                  refine g_goto (pc := 172) 5 dX9_unlikeLines_172 (by decide) ?_
                  exact g_sub [7, 8, 9, 1, 0] rfl (ih5 (x35, x36))
                · refine g_aload_n (pc := 129) 4 dX9_unlikeLines_129 rfl rfl ?_
                  refine gf_9_thirds (pc := 130) kf_X9_19 dX9_unlikeLines_130 ?_
                  refine g_iload (pc := 133) 1 dX9_unlikeLines_133 rfl ?_
                  refine a_ild (pc := 135) aM_thirds dX9_unlikeLines_135 ?_
                  refine g_aload_n (pc := 136) 4 dX9_unlikeLines_136 rfl rfl ?_
                  refine gf_9_thirds (pc := 137) kf_X9_19 dX9_unlikeLines_137 ?_
                  refine g_iload (pc := 140) 0 dX9_unlikeLines_140 rfl ?_
                  refine a_ild (pc := 142) aM_thirds dX9_unlikeLines_142 ?_
                  refine g_icmp_ne (pc := 143) 150 dX9_unlikeLines_143 (by decide) ?_ ?_
                  · refine g_iconst (pc := 150) (0) dX9_unlikeLines_150 (by decide) ?_
                    refine g_istore (pc := 151) (lv' := [(9, .int (0 : Int32)), (8, .int x28), (7, .int x27), (6, .int (1 : Int32)), (5, .int (1 : Int32)), (0, .ref (q 0)), (1, .int p), (2, .int q_), (3, .int y1), (4, .int y2)]) dX9_unlikeLines_151 (Nat.le_of_ble_eq_true rfl) rfl ?_
                    refine g_iload_n (pc := 153) 8 dX9_unlikeLines_153 rfl rfl ?_
                    refine g_iload (pc := 154) 0 dX9_unlikeLines_154 rfl ?_
                    refine g_ifeq_y (pc := 156) 163 (by decide) dX9_unlikeLines_156 (by decide) ?_
                    refine g_iconst (pc := 163) (1) dX9_unlikeLines_163 (by decide) ?_
                    refine g_iload (pc := 164) 9 dX9_unlikeLines_164 rfl ?_
                    refine g_ishl (pc := 166) dX9_unlikeLines_166 ?_
                    refine g_ior (pc := 167) dX9_unlikeLines_167 ?_
                    refine g_nmi (fun x37 => ?_)
                    refine g_istore_n (pc := 168) (lv' := [(3, .int x37), (9, .int (0 : Int32)), (8, .int x28), (7, .int x27), (6, .int (1 : Int32)), (5, .int (1 : Int32)), (0, .ref (q 0)), (1, .int p), (2, .int q_), (4, .int y2)]) dX9_unlikeLines_168 rfl (Nat.le_of_ble_eq_true rfl) rfl ?_
                    refine g_iinc (pc := 169) (j := 9) (1) (lf := fun x38 => [(4, .int x38), (3, .int x37), (9, .int (0 : Int32)), (8, .int x28), (7, .int x27), (6, .int (1 : Int32)), (5, .int (1 : Int32)), (0, .ref (q 0)), (1, .int p), (2, .int q_)]) dX9_unlikeLines_169 rfl (by decide) (Nat.le_of_ble_eq_true rfl) (fun _ => rfl) (fun x38 => ?_)
                    refine g_goto (pc := 172) 5 dX9_unlikeLines_172 (by decide) ?_
                    exact g_sub [7, 8, 9, 1, 0] rfl (ih5 (x37, x38))
                  · refine g_iconst (pc := 146) (1) dX9_unlikeLines_146 (by decide) ?_
                    refine g_goto (pc := 147) 151 dX9_unlikeLines_147 (by decide) ?_
                    refine g_istore (pc := 151) (lv' := [(9, .int (1 : Int32)), (8, .int x28), (7, .int x27), (6, .int (1 : Int32)), (5, .int (1 : Int32)), (0, .ref (q 0)), (1, .int p), (2, .int q_), (3, .int y1), (4, .int y2)]) dX9_unlikeLines_151 (Nat.le_of_ble_eq_true rfl) rfl ?_
                    refine g_iload_n (pc := 153) 8 dX9_unlikeLines_153 rfl rfl ?_
                    refine g_iload (pc := 154) 0 dX9_unlikeLines_154 rfl ?_
                    refine g_ifeq_n (pc := 156) 163 (by decide) dX9_unlikeLines_156 (by decide) ?_
                    refine g_iconst (pc := 159) (0) dX9_unlikeLines_159 (by decide) ?_
                    refine g_goto (pc := 160) 167 dX9_unlikeLines_160 (by decide) ?_
                    refine g_ior (pc := 167) dX9_unlikeLines_167 ?_
                    refine g_nmi (fun x39 => ?_)
                    refine g_istore_n (pc := 168) (lv' := [(3, .int x39), (9, .int (1 : Int32)), (8, .int x28), (7, .int x27), (6, .int (1 : Int32)), (5, .int (1 : Int32)), (0, .ref (q 0)), (1, .int p), (2, .int q_), (4, .int y2)]) dX9_unlikeLines_168 rfl (Nat.le_of_ble_eq_true rfl) rfl ?_
                    refine g_iinc (pc := 169) (j := 9) (1) (lf := fun x40 => [(4, .int x40), (3, .int x39), (9, .int (1 : Int32)), (8, .int x28), (7, .int x27), (6, .int (1 : Int32)), (5, .int (1 : Int32)), (0, .ref (q 0)), (1, .int p), (2, .int q_)]) dX9_unlikeLines_169 rfl (by decide) (Nat.le_of_ble_eq_true rfl) (fun _ => rfl) (fun x40 => ?_)
                    refine g_goto (pc := 172) 5 dX9_unlikeLines_172 (by decide) ?_
                    exact g_sub [7, 8, 9, 1, 0] rfl (ih5 (x39, x40))
def b_X9_changed_65 (s2 : St) : (Int32 × Int32 × Int32) → Option ((Int32 × Int32 × Int32) ⊕ (Int32 × Int32)) := un fun y1 => un fun y2 y3 => (if (256 : Int32) ≤ y3 then some (.inr (y1, y2)) else nm ((256 : Int32) + y3) fun x1 => chk (inb y3 512) (chk (inb x1 512) ((if (s2.1 10 y3.toNatClampNeg) = (s2.1 10 x1.toNatClampNeg) then chk (inb y3 512) (chk (inb x1 512) ((if (s2.1 9 y3.toNatClampNeg) = (s2.1 9 x1.toNatClampNeg) then chk (inb y3 512) (chk (inb x1 512) ((if (s2.1 12 y3.toNatClampNeg) = (s2.1 12 x1.toNatClampNeg) then chk (inb y3 512) ((f_X9_areShownAlike y3 x1 (s2.1 12 y3.toNatClampNeg) s2).bind fun r4 => (if r4 = (0 : Int32) then (if y1 = (0 : Int32) then nm (y1 + (1 : Int32)) fun x16 => nm (y3 + (1 : Int32)) fun x17 => some (.inl (x16, y3, x17)) else nm (y1 + (1 : Int32)) fun x14 => nm (y3 + (1 : Int32)) fun x15 => some (.inl (x14, y2, x15))) else nm (y1 + (0 : Int32)) fun x18 => nm (y3 + (1 : Int32)) fun x19 => some (.inl (x18, y2, x19)))) else (if y1 = (0 : Int32) then nm (y1 + (1 : Int32)) fun x12 => nm (y3 + (1 : Int32)) fun x13 => some (.inl (x12, y3, x13)) else nm (y1 + (1 : Int32)) fun x10 => nm (y3 + (1 : Int32)) fun x11 => some (.inl (x10, y2, x11)))))) else (if y1 = (0 : Int32) then nm (y1 + (1 : Int32)) fun x8 => nm (y3 + (1 : Int32)) fun x9 => some (.inl (x8, y3, x9)) else nm (y1 + (1 : Int32)) fun x6 => nm (y3 + (1 : Int32)) fun x7 => some (.inl (x6, y2, x7)))))) else (if y1 = (0 : Int32) then nm (y1 + (1 : Int32)) fun x4 => nm (y3 + (1 : Int32)) fun x5 => some (.inl (x4, y3, x5)) else nm (y1 + (1 : Int32)) fun x2 => nm (y3 + (1 : Int32)) fun x3 => some (.inl (x2, y2, x3)))))))
def f_X9_changed (p : Int32) (q_ : Int32) (what : Int32) (σ : St) : Option (Int32 × St) := (f_X9_isProgram p).bind fun r1 => (if r1 = (0 : Int32) then some ((-1 : Int32), σ) else (f_X9_isProgram q_).bind fun r2 => (if r2 = (0 : Int32) then some ((-1 : Int32), σ) else (f_X9_in what.toInt64 (0 : Int64) (2 : Int64)).bind fun r3 => (if r3 = (0 : Int32) then some ((-2 : Int32), σ) else (if what = (2 : Int32) then (f_X9_unlikeLines p q_ σ).bind fun r5 => some (r5, σ) else (f_X9_runAll p q_ σ).bind fun s1 => nm (stI s1 0 22 (-6 : Int32)) fun s2 => (wh FU (b_X9_changed_65 s2) ((0 : Int32), (-6 : Int32), (0 : Int32))).bind (un fun z1 z2 => (if what = (0 : Int32) then some (z1, s2) else some (z2, s2)))))))
abbrev rm_X9_changed : Room := { frames := 5, cells := 0, slots := 0, locals := 122 }
set_option maxHeartbeats 4000000 in
set_option maxRecDepth 20000 in
theorem m_X9_changed (l : Launch) (D : va_G) (cy : Cy) (q : Nat → Nat) (σ : St) (p : Int32) (q_ : Int32) (what : Int32)  : ∀ res, f_X9_changed p q_ what σ = some res → MetX (vM D cy q) l yX9_changed cX9_changed 9 (some .int) rm_X9_changed [.ref (q 0), .int p, .int q_, .int what] σ (some (.int res.1), res.2) := by
  let fin_ : (Int32 × St) → Option Value × St := fun r => (some (.int r.1), r.2)
  have hro : ∀ (z : Int32 × St) (res : Int32 × St), some z = some res → fin_ res = fin_ z := fun z res h => by cases h; rfl
  refine MetX.of1 (fin := fin_) (lv := [(0, .ref (q 0)), (1, .int p), (2, .int q_), (3, .int what)]) (by decide) (Nat.le_of_ble_eq_true rfl) rfl ?_
  unfold f_X9_changed
  refine g_iload_n (pc := 0) 1 dX9_changed_0 rfl rfl ?_
  refine gS_i (pc := 1) [.int p] [] (m_X9_isProgram l D cy q σ p) cw_X9_isProgram km_X9_111 ⟨rfl, rfl, by decide, by decide⟩ dX9_changed_1 rfl rfl (Nat.le_of_ble_eq_true rfl) (fun r1 => ?_)
  refine g_if_eq (pc := 4) 14 dX9_changed_4 (by decide) ?_ ?_
  · refine g_iconst (pc := 14) (-1) dX9_changed_14 (by decide) ?_
    exact g_iret (pc := 15) (hro _) rfl dX9_changed_15
  · refine g_iload_n (pc := 7) 2 dX9_changed_7 rfl rfl ?_
    refine gS_i (pc := 8) [.int q_] [] (m_X9_isProgram l D cy q σ q_) cw_X9_isProgram km_X9_111 ⟨rfl, rfl, by decide, by decide⟩ dX9_changed_8 rfl rfl (Nat.le_of_ble_eq_true rfl) (fun r2 => ?_)
    refine g_if_ne (pc := 11) 16 dX9_changed_11 (by decide) ?_ ?_
    · refine g_iload_n (pc := 16) 3 dX9_changed_16 rfl rfl ?_
      refine g_i2l (pc := 17) dX9_changed_17 ?_
      refine g_lconst (pc := 18) (0) dX9_changed_18 (by decide) ?_
      refine g_ldc2 (pc := 19) dX9_changed_19 kl_X9_270 ?_
      refine gS_i (pc := 22) [.long what.toInt64, .long (0 : Int64), .long (2 : Int64)] [] (m_X9_in l D cy q σ what.toInt64 (0 : Int64) (2 : Int64)) cw_X9_in km_X9_101 ⟨rfl, rfl, by decide, by decide⟩ dX9_changed_22 rfl rfl (Nat.le_of_ble_eq_true rfl) (fun r3 => ?_)
      refine g_if_ne (pc := 25) 31 dX9_changed_25 (by decide) ?_ ?_
      · refine g_iload_n (pc := 31) 3 dX9_changed_31 rfl rfl ?_
        refine g_iconst (pc := 32) (2) dX9_changed_32 (by decide) ?_
        refine g_icmp_ne (pc := 33) 43 dX9_changed_33 (by decide) ?_ ?_
        · refine g_aload_n (pc := 43) 0 dX9_changed_43 rfl rfl ?_
          refine g_iload_n (pc := 44) 1 dX9_changed_44 rfl rfl ?_
          refine g_iload_n (pc := 45) 2 dX9_changed_45 rfl rfl ?_
          refine gV_v (pc := 46) [.int p, .int q_] [] (m_X9_runAll l D cy q σ p q_) cw_X9_runAll km_X9_233 ⟨rfl, rfl, by decide, by decide⟩ (Nat.le_of_ble_eq_true rfl) (eM_9 (cy := cy) (σ.1 0) (σ.2 0)) rfl dX9_changed_46 rfl rfl (Nat.le_of_ble_eq_true rfl) (fun s1 => ?_)
          refine g_aload_n (pc := 49) 0 dX9_changed_49 rfl rfl ?_
          refine g_bipush (pc := 50) (-6) dX9_changed_50 (by decide) ?_
          refine gp_9_pairsVersion (pc := 52) kf_X9_56 dX9_changed_52 (fun s2 => ?_)
          refine g_iconst (pc := 55) (0) dX9_changed_55 (by decide) ?_
          refine g_istore (pc := 56) (lv' := [(4, .int (0 : Int32)), (0, .ref (q 0)), (1, .int p), (2, .int q_), (3, .int what)]) dX9_changed_56 (Nat.le_of_ble_eq_true rfl) rfl ?_
          refine g_bipush (pc := 58) (-6) dX9_changed_58 (by decide) ?_
          refine g_istore (pc := 60) (lv' := [(5, .int (-6 : Int32)), (4, .int (0 : Int32)), (0, .ref (q 0)), (1, .int p), (2, .int q_), (3, .int what)]) dX9_changed_60 (Nat.le_of_ble_eq_true rfl) rfl ?_
          refine g_iconst (pc := 62) (0) dX9_changed_62 (by decide) ?_
          refine g_istore (pc := 63) (lv' := [(6, .int (0 : Int32)), (5, .int (-6 : Int32)), (4, .int (0 : Int32)), (0, .ref (q 0)), (1, .int p), (2, .int q_), (3, .int what)]) dX9_changed_63 (Nat.le_of_ble_eq_true rfl) rfl ?_
          refine g_sub [3, 6, 2, 1, 0] rfl ?_
          refine g_wh2 (pc := 65) (s0 := ((0 : Int32), (-6 : Int32), (0 : Int32))) (fun (w_ : Int32 × Int32 × Int32) => s2) (fun (w_ : Int32 × Int32 × Int32) => [(0, .ref (q 0)), (3, .int what), (4, .int w_.1), (5, .int w_.2.1), (6, .int w_.2.2)]) (fun (w_ : Int32 × Int32) => s2) (fun (w_ : Int32 × Int32) => [(3, .int what), (4, .int w_.1), (5, .int w_.2)]) 197 ?_ ?_
          · rintro ⟨z1, z2⟩
            try dsimp only [un, Sum.elim_inl]
            refine g_iload_n (pc := 197) 0 dX9_changed_197 rfl rfl ?_
            refine g_if_ne (pc := 198) 206 dX9_changed_198 (by decide) ?_ ?_
            · refine g_iload (pc := 206) 2 dX9_changed_206 rfl ?_
              exact g_iret (pc := 208) (hro _) rfl dX9_changed_208
            · refine g_iload (pc := 201) 1 dX9_changed_201 rfl ?_
              refine g_goto (pc := 203) 208 dX9_changed_203 (by decide) ?_
              exact g_iret (pc := 208) (hro _) rfl dX9_changed_208
          · intro K65 hx65 ih65
            rintro ⟨y1, y2, y3⟩
            try dsimp only [b_X9_changed_65, un]
            refine g_iload (pc := 65) 4 dX9_changed_65 rfl ?_
            refine g_sipush (pc := 67) (256) dX9_changed_67 (by decide) ?_
            refine g_icmp_ge (pc := 70) 197 dX9_changed_70 (by decide) ?_ ?_
            · exact g_sub [1, 2, 3] rfl (hx65 (y1, y2))
            · refine g_sipush (pc := 73) (256) dX9_changed_73 (by decide) ?_
              refine g_iload (pc := 76) 4 dX9_changed_76 rfl ?_
              refine g_iadd (pc := 78) dX9_changed_78 ?_
              refine g_nmi (fun x1 => ?_)
              refine g_istore (pc := 79) (lv' := [(7, .int x1), (0, .ref (q 0)), (3, .int what), (4, .int y1), (5, .int y2), (6, .int y3)]) dX9_changed_79 (Nat.le_of_ble_eq_true rfl) rfl ?_
              refine g_aload_n (pc := 81) 1 dX9_changed_81 rfl rfl ?_
              refine gf_9_memoryOf (pc := 82) kf_X9_38 dX9_changed_82 ?_
              refine g_iload (pc := 85) 5 dX9_changed_85 rfl ?_
              refine a_ild (pc := 87) aM_memoryOf dX9_changed_87 ?_
              refine g_aload_n (pc := 88) 1 dX9_changed_88 rfl rfl ?_
              refine gf_9_memoryOf (pc := 89) kf_X9_38 dX9_changed_89 ?_
              refine g_iload (pc := 92) 0 dX9_changed_92 rfl ?_
              refine a_ild (pc := 94) aM_memoryOf dX9_changed_94 ?_
              refine g_icmp_ne (pc := 95) 154 dX9_changed_95 (by decide) ?_ ?_
              · refine g_iconst (pc := 154) (0) dX9_changed_154 (by decide) ?_
                refine g_istore (pc := 155) (lv' := [(8, .int (0 : Int32)), (7, .int x1), (0, .ref (q 0)), (3, .int what), (4, .int y1), (5, .int y2), (6, .int y3)]) dX9_changed_155 (Nat.le_of_ble_eq_true rfl) rfl ?_
                refine g_iload (pc := 157) 0 dX9_changed_157 rfl ?_
                refine g_ifne_n (pc := 159) 172 (by decide) dX9_changed_159 (by decide) ?_
                refine g_iload (pc := 162) 4 dX9_changed_162 rfl ?_
                refine g_if_ne (pc := 164) 172 dX9_changed_164 (by decide) ?_ ?_
                · refine g_iload (pc := 172) 5 dX9_changed_172 rfl ?_
                  refine g_istore (pc := 174) (lv' := [(5, .int y2), (8, .int (0 : Int32)), (7, .int x1), (0, .ref (q 0)), (3, .int what), (4, .int y1), (6, .int y3)]) dX9_changed_174 (Nat.le_of_ble_eq_true rfl) rfl ?_
                  refine g_iload (pc := 176) 5 dX9_changed_176 rfl ?_
                  refine g_iload (pc := 178) 1 dX9_changed_178 rfl ?_
                  refine g_ifeq_y (pc := 180) 187 (by decide) dX9_changed_180 (by decide) ?_
                  refine g_iconst (pc := 187) (1) dX9_changed_187 (by decide) ?_
                  refine g_iadd (pc := 188) dX9_changed_188 ?_
                  refine g_nmi (fun x2 => ?_)
                  refine g_istore (pc := 189) (lv' := [(4, .int x2), (5, .int y2), (8, .int (0 : Int32)), (7, .int x1), (0, .ref (q 0)), (3, .int what), (6, .int y3)]) dX9_changed_189 (Nat.le_of_ble_eq_true rfl) rfl ?_
                  refine g_iinc (pc := 191) (j := 6) (1) (lf := fun x3 => [(6, .int x3), (4, .int x2), (5, .int y2), (8, .int (0 : Int32)), (7, .int x1), (0, .ref (q 0)), (3, .int what)]) dX9_changed_191 rfl (by decide) (Nat.le_of_ble_eq_true rfl) (fun _ => rfl) (fun x3 => ?_)
                  refine g_goto (pc := 194) 65 dX9_changed_194 (by decide) ?_
                  exact g_sub [5, 6, 1, 2, 0] rfl (ih65 (x2, y2, x3))
                · refine g_iload (pc := 167) 6 dX9_changed_167 rfl ?_
                  refine g_goto (pc := 169) 174 dX9_changed_169 (by decide) ?_
                  refine g_istore (pc := 174) (lv' := [(5, .int y3), (8, .int (0 : Int32)), (7, .int x1), (0, .ref (q 0)), (3, .int what), (4, .int y1), (6, .int y3)]) dX9_changed_174 (Nat.le_of_ble_eq_true rfl) rfl ?_
                  refine g_iload (pc := 176) 5 dX9_changed_176 rfl ?_
                  refine g_iload (pc := 178) 1 dX9_changed_178 rfl ?_
                  refine g_ifeq_y (pc := 180) 187 (by decide) dX9_changed_180 (by decide) ?_
                  refine g_iconst (pc := 187) (1) dX9_changed_187 (by decide) ?_
                  refine g_iadd (pc := 188) dX9_changed_188 ?_
                  refine g_nmi (fun x4 => ?_)
                  refine g_istore (pc := 189) (lv' := [(4, .int x4), (5, .int y3), (8, .int (0 : Int32)), (7, .int x1), (0, .ref (q 0)), (3, .int what), (6, .int y3)]) dX9_changed_189 (Nat.le_of_ble_eq_true rfl) rfl ?_
                  refine g_iinc (pc := 191) (j := 6) (1) (lf := fun x5 => [(6, .int x5), (4, .int x4), (5, .int y3), (8, .int (0 : Int32)), (7, .int x1), (0, .ref (q 0)), (3, .int what)]) dX9_changed_191 rfl (by decide) (Nat.le_of_ble_eq_true rfl) (fun _ => rfl) (fun x5 => ?_)
                  refine g_goto (pc := 194) 65 dX9_changed_194 (by decide) ?_
                  exact g_sub [5, 6, 1, 2, 0] rfl (ih65 (x4, y3, x5))
              · refine g_aload_n (pc := 98) 1 dX9_changed_98 rfl rfl ?_
                refine gf_9_endOf (pc := 99) kf_X9_35 dX9_changed_99 ?_
                refine g_iload (pc := 102) 5 dX9_changed_102 rfl ?_
                refine a_ild (pc := 104) aM_endOf dX9_changed_104 ?_
                refine g_aload_n (pc := 105) 1 dX9_changed_105 rfl rfl ?_
                refine gf_9_endOf (pc := 106) kf_X9_35 dX9_changed_106 ?_
                refine g_iload (pc := 109) 0 dX9_changed_109 rfl ?_
                refine a_ild (pc := 111) aM_endOf dX9_changed_111 ?_
                refine g_icmp_ne (pc := 112) 154 dX9_changed_112 (by decide) ?_ ?_
                · refine g_iconst (pc := 154) (0) dX9_changed_154 (by decide) ?_
                  refine g_istore (pc := 155) (lv' := [(8, .int (0 : Int32)), (7, .int x1), (0, .ref (q 0)), (3, .int what), (4, .int y1), (5, .int y2), (6, .int y3)]) dX9_changed_155 (Nat.le_of_ble_eq_true rfl) rfl ?_
                  refine g_iload (pc := 157) 0 dX9_changed_157 rfl ?_
                  refine g_ifne_n (pc := 159) 172 (by decide) dX9_changed_159 (by decide) ?_
                  refine g_iload (pc := 162) 4 dX9_changed_162 rfl ?_
                  refine g_if_ne (pc := 164) 172 dX9_changed_164 (by decide) ?_ ?_
                  · refine g_iload (pc := 172) 5 dX9_changed_172 rfl ?_
                    refine g_istore (pc := 174) (lv' := [(5, .int y2), (8, .int (0 : Int32)), (7, .int x1), (0, .ref (q 0)), (3, .int what), (4, .int y1), (6, .int y3)]) dX9_changed_174 (Nat.le_of_ble_eq_true rfl) rfl ?_
                    refine g_iload (pc := 176) 5 dX9_changed_176 rfl ?_
                    refine g_iload (pc := 178) 1 dX9_changed_178 rfl ?_
                    refine g_ifeq_y (pc := 180) 187 (by decide) dX9_changed_180 (by decide) ?_
                    refine g_iconst (pc := 187) (1) dX9_changed_187 (by decide) ?_
                    refine g_iadd (pc := 188) dX9_changed_188 ?_
                    refine g_nmi (fun x6 => ?_)
                    refine g_istore (pc := 189) (lv' := [(4, .int x6), (5, .int y2), (8, .int (0 : Int32)), (7, .int x1), (0, .ref (q 0)), (3, .int what), (6, .int y3)]) dX9_changed_189 (Nat.le_of_ble_eq_true rfl) rfl ?_
                    refine g_iinc (pc := 191) (j := 6) (1) (lf := fun x7 => [(6, .int x7), (4, .int x6), (5, .int y2), (8, .int (0 : Int32)), (7, .int x1), (0, .ref (q 0)), (3, .int what)]) dX9_changed_191 rfl (by decide) (Nat.le_of_ble_eq_true rfl) (fun _ => rfl) (fun x7 => ?_)
                    refine g_goto (pc := 194) 65 dX9_changed_194 (by decide) ?_
                    exact g_sub [5, 6, 1, 2, 0] rfl (ih65 (x6, y2, x7))
                  · refine g_iload (pc := 167) 6 dX9_changed_167 rfl ?_
                    refine g_goto (pc := 169) 174 dX9_changed_169 (by decide) ?_
                    refine g_istore (pc := 174) (lv' := [(5, .int y3), (8, .int (0 : Int32)), (7, .int x1), (0, .ref (q 0)), (3, .int what), (4, .int y1), (6, .int y3)]) dX9_changed_174 (Nat.le_of_ble_eq_true rfl) rfl ?_
                    refine g_iload (pc := 176) 5 dX9_changed_176 rfl ?_
                    refine g_iload (pc := 178) 1 dX9_changed_178 rfl ?_
                    refine g_ifeq_y (pc := 180) 187 (by decide) dX9_changed_180 (by decide) ?_
                    refine g_iconst (pc := 187) (1) dX9_changed_187 (by decide) ?_
                    refine g_iadd (pc := 188) dX9_changed_188 ?_
                    refine g_nmi (fun x8 => ?_)
                    refine g_istore (pc := 189) (lv' := [(4, .int x8), (5, .int y3), (8, .int (0 : Int32)), (7, .int x1), (0, .ref (q 0)), (3, .int what), (6, .int y3)]) dX9_changed_189 (Nat.le_of_ble_eq_true rfl) rfl ?_
                    refine g_iinc (pc := 191) (j := 6) (1) (lf := fun x9 => [(6, .int x9), (4, .int x8), (5, .int y3), (8, .int (0 : Int32)), (7, .int x1), (0, .ref (q 0)), (3, .int what)]) dX9_changed_191 rfl (by decide) (Nat.le_of_ble_eq_true rfl) (fun _ => rfl) (fun x9 => ?_)
                    refine g_goto (pc := 194) 65 dX9_changed_194 (by decide) ?_
                    exact g_sub [5, 6, 1, 2, 0] rfl (ih65 (x8, y3, x9))
                · refine g_aload_n (pc := 115) 1 dX9_changed_115 rfl rfl ?_
                  refine gf_9_shownMany (pc := 116) kf_X9_44 dX9_changed_116 ?_
                  refine g_iload (pc := 119) 5 dX9_changed_119 rfl ?_
                  refine a_ild (pc := 121) aM_shownMany dX9_changed_121 ?_
                  refine g_aload_n (pc := 122) 1 dX9_changed_122 rfl rfl ?_
                  refine gf_9_shownMany (pc := 123) kf_X9_44 dX9_changed_123 ?_
                  refine g_iload (pc := 126) 0 dX9_changed_126 rfl ?_
                  refine a_ild (pc := 128) aM_shownMany dX9_changed_128 ?_
                  refine g_icmp_ne (pc := 129) 154 dX9_changed_129 (by decide) ?_ ?_
                  · refine g_iconst (pc := 154) (0) dX9_changed_154 (by decide) ?_
                    refine g_istore (pc := 155) (lv' := [(8, .int (0 : Int32)), (7, .int x1), (0, .ref (q 0)), (3, .int what), (4, .int y1), (5, .int y2), (6, .int y3)]) dX9_changed_155 (Nat.le_of_ble_eq_true rfl) rfl ?_
                    refine g_iload (pc := 157) 0 dX9_changed_157 rfl ?_
                    refine g_ifne_n (pc := 159) 172 (by decide) dX9_changed_159 (by decide) ?_
                    refine g_iload (pc := 162) 4 dX9_changed_162 rfl ?_
                    refine g_if_ne (pc := 164) 172 dX9_changed_164 (by decide) ?_ ?_
                    · refine g_iload (pc := 172) 5 dX9_changed_172 rfl ?_
                      refine g_istore (pc := 174) (lv' := [(5, .int y2), (8, .int (0 : Int32)), (7, .int x1), (0, .ref (q 0)), (3, .int what), (4, .int y1), (6, .int y3)]) dX9_changed_174 (Nat.le_of_ble_eq_true rfl) rfl ?_
                      refine g_iload (pc := 176) 5 dX9_changed_176 rfl ?_
                      refine g_iload (pc := 178) 1 dX9_changed_178 rfl ?_
                      refine g_ifeq_y (pc := 180) 187 (by decide) dX9_changed_180 (by decide) ?_
                      refine g_iconst (pc := 187) (1) dX9_changed_187 (by decide) ?_
                      refine g_iadd (pc := 188) dX9_changed_188 ?_
                      refine g_nmi (fun x10 => ?_)
                      refine g_istore (pc := 189) (lv' := [(4, .int x10), (5, .int y2), (8, .int (0 : Int32)), (7, .int x1), (0, .ref (q 0)), (3, .int what), (6, .int y3)]) dX9_changed_189 (Nat.le_of_ble_eq_true rfl) rfl ?_
                      refine g_iinc (pc := 191) (j := 6) (1) (lf := fun x11 => [(6, .int x11), (4, .int x10), (5, .int y2), (8, .int (0 : Int32)), (7, .int x1), (0, .ref (q 0)), (3, .int what)]) dX9_changed_191 rfl (by decide) (Nat.le_of_ble_eq_true rfl) (fun _ => rfl) (fun x11 => ?_)
                      refine g_goto (pc := 194) 65 dX9_changed_194 (by decide) ?_
                      exact g_sub [5, 6, 1, 2, 0] rfl (ih65 (x10, y2, x11))
                    · refine g_iload (pc := 167) 6 dX9_changed_167 rfl ?_
                      refine g_goto (pc := 169) 174 dX9_changed_169 (by decide) ?_
                      refine g_istore (pc := 174) (lv' := [(5, .int y3), (8, .int (0 : Int32)), (7, .int x1), (0, .ref (q 0)), (3, .int what), (4, .int y1), (6, .int y3)]) dX9_changed_174 (Nat.le_of_ble_eq_true rfl) rfl ?_
                      refine g_iload (pc := 176) 5 dX9_changed_176 rfl ?_
                      refine g_iload (pc := 178) 1 dX9_changed_178 rfl ?_
                      refine g_ifeq_y (pc := 180) 187 (by decide) dX9_changed_180 (by decide) ?_
                      refine g_iconst (pc := 187) (1) dX9_changed_187 (by decide) ?_
                      refine g_iadd (pc := 188) dX9_changed_188 ?_
                      refine g_nmi (fun x12 => ?_)
                      refine g_istore (pc := 189) (lv' := [(4, .int x12), (5, .int y3), (8, .int (0 : Int32)), (7, .int x1), (0, .ref (q 0)), (3, .int what), (6, .int y3)]) dX9_changed_189 (Nat.le_of_ble_eq_true rfl) rfl ?_
                      refine g_iinc (pc := 191) (j := 6) (1) (lf := fun x13 => [(6, .int x13), (4, .int x12), (5, .int y3), (8, .int (0 : Int32)), (7, .int x1), (0, .ref (q 0)), (3, .int what)]) dX9_changed_191 rfl (by decide) (Nat.le_of_ble_eq_true rfl) (fun _ => rfl) (fun x13 => ?_)
                      refine g_goto (pc := 194) 65 dX9_changed_194 (by decide) ?_
                      exact g_sub [5, 6, 1, 2, 0] rfl (ih65 (x12, y3, x13))
                  · refine g_aload_n (pc := 132) 1 dX9_changed_132 rfl rfl ?_
                    refine g_iload (pc := 133) 5 dX9_changed_133 rfl ?_
                    refine g_iload (pc := 135) 0 dX9_changed_135 rfl ?_
                    refine g_aload_n (pc := 137) 1 dX9_changed_137 rfl rfl ?_
                    refine gf_9_shownMany (pc := 138) kf_X9_44 dX9_changed_138 ?_
                    refine g_iload (pc := 141) 5 dX9_changed_141 rfl ?_
                    refine a_ild (pc := 143) aM_shownMany dX9_changed_143 ?_
                    refine gV_i (pc := 144) [.int y3, .int x1, .int (s2.1 12 y3.toNatClampNeg)] [] (m_X9_areShownAlike l D cy q s2 y3 x1 (s2.1 12 y3.toNatClampNeg)) cw_X9_areShownAlike km_X9_206 ⟨rfl, rfl, by decide, by decide⟩ (Nat.le_of_ble_eq_true rfl) (eM_9 (cy := cy) (s2.1 0) (s2.2 0)) rfl dX9_changed_144 rfl rfl (Nat.le_of_ble_eq_true rfl) (fun r4 => ?_)
                    refine g_if_eq (pc := 147) 154 dX9_changed_147 (by decide) ?_ ?_
                    · refine g_iconst (pc := 154) (0) dX9_changed_154 (by decide) ?_
                      refine g_istore (pc := 155) (lv' := [(8, .int (0 : Int32)), (7, .int x1), (0, .ref (q 0)), (3, .int what), (4, .int y1), (5, .int y2), (6, .int y3)]) dX9_changed_155 (Nat.le_of_ble_eq_true rfl) rfl ?_
                      refine g_iload (pc := 157) 0 dX9_changed_157 rfl ?_
                      refine g_ifne_n (pc := 159) 172 (by decide) dX9_changed_159 (by decide) ?_
                      refine g_iload (pc := 162) 4 dX9_changed_162 rfl ?_
                      refine g_if_ne (pc := 164) 172 dX9_changed_164 (by decide) ?_ ?_
                      · refine g_iload (pc := 172) 5 dX9_changed_172 rfl ?_
                        refine g_istore (pc := 174) (lv' := [(5, .int y2), (8, .int (0 : Int32)), (7, .int x1), (0, .ref (q 0)), (3, .int what), (4, .int y1), (6, .int y3)]) dX9_changed_174 (Nat.le_of_ble_eq_true rfl) rfl ?_
                        refine g_iload (pc := 176) 5 dX9_changed_176 rfl ?_
                        refine g_iload (pc := 178) 1 dX9_changed_178 rfl ?_
                        refine g_ifeq_y (pc := 180) 187 (by decide) dX9_changed_180 (by decide) ?_
                        refine g_iconst (pc := 187) (1) dX9_changed_187 (by decide) ?_
                        refine g_iadd (pc := 188) dX9_changed_188 ?_
                        refine g_nmi (fun x14 => ?_)
                        refine g_istore (pc := 189) (lv' := [(4, .int x14), (5, .int y2), (8, .int (0 : Int32)), (7, .int x1), (0, .ref (q 0)), (3, .int what), (6, .int y3)]) dX9_changed_189 (Nat.le_of_ble_eq_true rfl) rfl ?_
                        refine g_iinc (pc := 191) (j := 6) (1) (lf := fun x15 => [(6, .int x15), (4, .int x14), (5, .int y2), (8, .int (0 : Int32)), (7, .int x1), (0, .ref (q 0)), (3, .int what)]) dX9_changed_191 rfl (by decide) (Nat.le_of_ble_eq_true rfl) (fun _ => rfl) (fun x15 => ?_)
                        refine g_goto (pc := 194) 65 dX9_changed_194 (by decide) ?_
                        exact g_sub [5, 6, 1, 2, 0] rfl (ih65 (x14, y2, x15))
                      · refine g_iload (pc := 167) 6 dX9_changed_167 rfl ?_
                        refine g_goto (pc := 169) 174 dX9_changed_169 (by decide) ?_
                        refine g_istore (pc := 174) (lv' := [(5, .int y3), (8, .int (0 : Int32)), (7, .int x1), (0, .ref (q 0)), (3, .int what), (4, .int y1), (6, .int y3)]) dX9_changed_174 (Nat.le_of_ble_eq_true rfl) rfl ?_
                        refine g_iload (pc := 176) 5 dX9_changed_176 rfl ?_
                        refine g_iload (pc := 178) 1 dX9_changed_178 rfl ?_
                        refine g_ifeq_y (pc := 180) 187 (by decide) dX9_changed_180 (by decide) ?_
                        refine g_iconst (pc := 187) (1) dX9_changed_187 (by decide) ?_
                        refine g_iadd (pc := 188) dX9_changed_188 ?_
                        refine g_nmi (fun x16 => ?_)
                        refine g_istore (pc := 189) (lv' := [(4, .int x16), (5, .int y3), (8, .int (0 : Int32)), (7, .int x1), (0, .ref (q 0)), (3, .int what), (6, .int y3)]) dX9_changed_189 (Nat.le_of_ble_eq_true rfl) rfl ?_
                        refine g_iinc (pc := 191) (j := 6) (1) (lf := fun x17 => [(6, .int x17), (4, .int x16), (5, .int y3), (8, .int (0 : Int32)), (7, .int x1), (0, .ref (q 0)), (3, .int what)]) dX9_changed_191 rfl (by decide) (Nat.le_of_ble_eq_true rfl) (fun _ => rfl) (fun x17 => ?_)
                        refine g_goto (pc := 194) 65 dX9_changed_194 (by decide) ?_
                        exact g_sub [5, 6, 1, 2, 0] rfl (ih65 (x16, y3, x17))
                    · refine g_iconst (pc := 150) (1) dX9_changed_150 (by decide) ?_
                      refine g_goto (pc := 151) 155 dX9_changed_151 (by decide) ?_
                      refine g_istore (pc := 155) (lv' := [(8, .int (1 : Int32)), (7, .int x1), (0, .ref (q 0)), (3, .int what), (4, .int y1), (5, .int y2), (6, .int y3)]) dX9_changed_155 (Nat.le_of_ble_eq_true rfl) rfl ?_
                      refine g_iload (pc := 157) 0 dX9_changed_157 rfl ?_
                      refine g_ifne_y (pc := 159) 172 (by decide) dX9_changed_159 (by decide) ?_
                      refine g_iload (pc := 172) 5 dX9_changed_172 rfl ?_
                      refine g_istore (pc := 174) (lv' := [(5, .int y2), (8, .int (1 : Int32)), (7, .int x1), (0, .ref (q 0)), (3, .int what), (4, .int y1), (6, .int y3)]) dX9_changed_174 (Nat.le_of_ble_eq_true rfl) rfl ?_
                      refine g_iload (pc := 176) 5 dX9_changed_176 rfl ?_
                      refine g_iload (pc := 178) 1 dX9_changed_178 rfl ?_
                      refine g_ifeq_n (pc := 180) 187 (by decide) dX9_changed_180 (by decide) ?_
                      refine g_iconst (pc := 183) (0) dX9_changed_183 (by decide) ?_
                      refine g_goto (pc := 184) 188 dX9_changed_184 (by decide) ?_
                      refine g_iadd (pc := 188) dX9_changed_188 ?_
                      refine g_nmi (fun x18 => ?_)
                      refine g_istore (pc := 189) (lv' := [(4, .int x18), (5, .int y2), (8, .int (1 : Int32)), (7, .int x1), (0, .ref (q 0)), (3, .int what), (6, .int y3)]) dX9_changed_189 (Nat.le_of_ble_eq_true rfl) rfl ?_
                      refine g_iinc (pc := 191) (j := 6) (1) (lf := fun x19 => [(6, .int x19), (4, .int x18), (5, .int y2), (8, .int (1 : Int32)), (7, .int x1), (0, .ref (q 0)), (3, .int what)]) dX9_changed_191 rfl (by decide) (Nat.le_of_ble_eq_true rfl) (fun _ => rfl) (fun x19 => ?_)
                      refine g_goto (pc := 194) 65 dX9_changed_194 (by decide) ?_
                      exact g_sub [5, 6, 1, 2, 0] rfl (ih65 (x18, y2, x19))
        · refine g_aload_n (pc := 36) 0 dX9_changed_36 rfl rfl ?_
          refine g_iload_n (pc := 37) 1 dX9_changed_37 rfl rfl ?_
          refine g_iload_n (pc := 38) 2 dX9_changed_38 rfl rfl ?_
          refine gV_i (pc := 39) [.int p, .int q_] [] (m_X9_unlikeLines l D cy q σ p q_) cw_X9_unlikeLines km_X9_319 ⟨rfl, rfl, by decide, by decide⟩ (Nat.le_of_ble_eq_true rfl) (eM_9 (cy := cy) (σ.1 0) (σ.2 0)) rfl dX9_changed_39 rfl rfl (Nat.le_of_ble_eq_true rfl) (fun r5 => ?_)
          exact g_iret (pc := 42) (hro _) rfl dX9_changed_42
      · refine g_bipush (pc := 28) (-2) dX9_changed_28 (by decide) ?_
        exact g_iret (pc := 30) (hro _) rfl dX9_changed_30
    · refine g_iconst (pc := 14) (-1) dX9_changed_14 (by decide) ?_
      exact g_iret (pc := 15) (hro _) rfl dX9_changed_15
