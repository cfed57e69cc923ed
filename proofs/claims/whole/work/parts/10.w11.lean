def f_X9_holds (saying : Int32) (p : Int32) (q_ : Int32) (what : Int32) (σ : St) : Option (Int32 × St) := (f_X9_isSaying saying σ).bind fun r1 => (if r1 = (0 : Int32) then some ((-1 : Int32), σ) else (f_X9_isProgram p).bind fun r2 => (if r2 = (0 : Int32) then some ((-1 : Int32), σ) else (f_X9_isProgram q_).bind fun r3 => (if r3 = (0 : Int32) then some ((-1 : Int32), σ) else (f_X9_in what.toInt64 (0 : Int64) (3 : Int64)).bind fun r4 => (if r4 = (0 : Int32) then some ((-2 : Int32), σ) else nm ((((16 : Int32) * saying) + ((4 : Int32) * p)) + q_) fun x1 => (if (σ.1 0 21) = x1 then (if (σ.1 0 22) = (σ.1 0 7) then (if what = (0 : Int32) then some ((σ.1 0 23), σ) else (if what = (1 : Int32) then some ((σ.1 0 24), σ) else (if what = (2 : Int32) then some ((σ.1 0 25), σ) else some ((σ.1 0 26), σ)))) else (f_X9_runAll p q_ σ).bind fun s5 => (f_X9_findPairs saying s5).bind fun s6 => nm (stI s6 0 21 x1) fun s7 => nm (stI s7 0 22 (s7.1 0 7)) fun s8 => (if what = (0 : Int32) then some ((s8.1 0 23), s8) else (if what = (1 : Int32) then some ((s8.1 0 24), s8) else (if what = (2 : Int32) then some ((s8.1 0 25), s8) else some ((s8.1 0 26), s8))))) else (f_X9_runAll p q_ σ).bind fun s1 => (f_X9_findPairs saying s1).bind fun s2 => nm (stI s2 0 21 x1) fun s3 => nm (stI s3 0 22 (s3.1 0 7)) fun s4 => (if what = (0 : Int32) then some ((s4.1 0 23), s4) else (if what = (1 : Int32) then some ((s4.1 0 24), s4) else (if what = (2 : Int32) then some ((s4.1 0 25), s4) else some ((s4.1 0 26), s4)))))))))
abbrev rm_X9_holds : Room := { frames := 5, cells := 0, slots := 0, locals := 124 }
set_option maxHeartbeats 4000000 in
set_option maxRecDepth 20000 in
theorem m_X9_holds (l : Launch) (D : va_G) (cy : Cy) (q : Nat → Nat) (σ : St) (saying : Int32) (p : Int32) (q_ : Int32) (what : Int32)  : ∀ res, f_X9_holds saying p q_ what σ = some res → MetX (vM D cy q) l yX9_holds cX9_holds 6 (some .int) rm_X9_holds [.ref (q 0), .int saying, .int p, .int q_, .int what] σ (some (.int res.1), res.2) := by
  let fin_ : (Int32 × St) → Option Value × St := fun r => (some (.int r.1), r.2)
  have hro : ∀ (z : Int32 × St) (res : Int32 × St), some z = some res → fin_ res = fin_ z := fun z res h => by cases h; rfl
  refine MetX.of1 (fin := fin_) (lv := [(0, .ref (q 0)), (1, .int saying), (2, .int p), (3, .int q_), (4, .int what)]) (by decide) (Nat.le_of_ble_eq_true rfl) rfl ?_
  unfold f_X9_holds
  refine g_aload_n (pc := 0) 0 dX9_holds_0 rfl rfl ?_
  refine g_iload_n (pc := 1) 1 dX9_holds_1 rfl rfl ?_
  refine gV_i (pc := 2) [.int saying] [] (m_X9_isSaying l D cy q σ saying) cw_X9_isSaying km_X9_209 ⟨rfl, rfl, by decide, by decide⟩ (Nat.le_of_ble_eq_true rfl) (eM_9 (cy := cy) (σ.1 0) (σ.2 0)) rfl dX9_holds_2 rfl rfl (Nat.le_of_ble_eq_true rfl) (fun r1 => ?_)
  refine g_if_eq (pc := 5) 22 dX9_holds_5 (by decide) ?_ ?_
  · refine g_iconst (pc := 22) (-1) dX9_holds_22 (by decide) ?_
    exact g_iret (pc := 23) (hro _) rfl dX9_holds_23
  · refine g_iload_n (pc := 8) 2 dX9_holds_8 rfl rfl ?_
    refine gS_i (pc := 9) [.int p] [] (m_X9_isProgram l D cy q σ p) cw_X9_isProgram km_X9_111 ⟨rfl, rfl, by decide, by decide⟩ dX9_holds_9 rfl rfl (Nat.le_of_ble_eq_true rfl) (fun r2 => ?_)
    refine g_if_eq (pc := 12) 22 dX9_holds_12 (by decide) ?_ ?_
    · refine g_iconst (pc := 22) (-1) dX9_holds_22 (by decide) ?_
      exact g_iret (pc := 23) (hro _) rfl dX9_holds_23
    · refine g_iload_n (pc := 15) 3 dX9_holds_15 rfl rfl ?_
      refine gS_i (pc := 16) [.int q_] [] (m_X9_isProgram l D cy q σ q_) cw_X9_isProgram km_X9_111 ⟨rfl, rfl, by decide, by decide⟩ dX9_holds_16 rfl rfl (Nat.le_of_ble_eq_true rfl) (fun r3 => ?_)
      refine g_if_ne (pc := 19) 24 dX9_holds_19 (by decide) ?_ ?_
      · refine g_iload (pc := 24) 4 dX9_holds_24 rfl ?_
        refine g_i2l (pc := 26) dX9_holds_26 ?_
        refine g_lconst (pc := 27) (0) dX9_holds_27 (by decide) ?_
        refine g_ldc2 (pc := 28) dX9_holds_28 kl_X9_99 ?_
        refine gS_i (pc := 31) [.long what.toInt64, .long (0 : Int64), .long (3 : Int64)] [] (m_X9_in l D cy q σ what.toInt64 (0 : Int64) (3 : Int64)) cw_X9_in km_X9_101 ⟨rfl, rfl, by decide, by decide⟩ dX9_holds_31 rfl rfl (Nat.le_of_ble_eq_true rfl) (fun r4 => ?_)
        refine g_if_ne (pc := 34) 40 dX9_holds_34 (by decide) ?_ ?_
        · refine g_bipush (pc := 40) (16) dX9_holds_40 (by decide) ?_
          refine g_iload_n (pc := 42) 1 dX9_holds_42 rfl rfl ?_
          refine g_imul (pc := 43) dX9_holds_43 ?_
          refine g_iconst (pc := 44) (4) dX9_holds_44 (by decide) ?_
          refine g_iload_n (pc := 45) 2 dX9_holds_45 rfl rfl ?_
          refine g_imul (pc := 46) dX9_holds_46 ?_
          refine g_iadd (pc := 47) dX9_holds_47 ?_
          refine g_iload_n (pc := 48) 3 dX9_holds_48 rfl rfl ?_
          refine g_iadd (pc := 49) dX9_holds_49 ?_
          refine g_nmi (fun x1 => ?_)
          refine g_istore (pc := 50) (lv' := [(5, .int x1), (0, .ref (q 0)), (1, .int saying), (2, .int p), (3, .int q_), (4, .int what)]) dX9_holds_50 (Nat.le_of_ble_eq_true rfl) rfl ?_
          refine g_aload_n (pc := 52) 1 dX9_holds_52 rfl rfl ?_
          refine gf_9_pairsOf (pc := 53) kf_X9_230 dX9_holds_53 ?_
          refine g_iload (pc := 56) 0 dX9_holds_56 rfl ?_
          refine g_icmp_ne (pc := 58) 72 dX9_holds_58 (by decide) ?_ ?_
          · refine g_aload_n (pc := 72) 1 dX9_holds_72 rfl rfl ?_
            refine g_iload_n (pc := 73) 3 dX9_holds_73 rfl rfl ?_
            refine g_iload_n (pc := 74) 4 dX9_holds_74 rfl rfl ?_
            refine gV_v (pc := 75) [.int p, .int q_] [] (m_X9_runAll l D cy q σ p q_) cw_X9_runAll km_X9_233 ⟨rfl, rfl, by decide, by decide⟩ (Nat.le_of_ble_eq_true rfl) (eM_9 (cy := cy) (σ.1 0) (σ.2 0)) rfl dX9_holds_75 rfl rfl (Nat.le_of_ble_eq_true rfl) (fun s1 => ?_)
            refine g_aload_n (pc := 78) 1 dX9_holds_78 rfl rfl ?_
            refine g_iload_n (pc := 79) 2 dX9_holds_79 rfl rfl ?_
            refine gV_v (pc := 80) [.int saying] [] (m_X9_findPairs l D cy q s1 saying) cw_X9_findPairs km_X9_237 ⟨rfl, rfl, by decide, by decide⟩ (Nat.le_of_ble_eq_true rfl) (eM_9 (cy := cy) (s1.1 0) (s1.2 0)) rfl dX9_holds_80 rfl rfl (Nat.le_of_ble_eq_true rfl) (fun s2 => ?_)
            refine g_aload_n (pc := 83) 1 dX9_holds_83 rfl rfl ?_
            refine g_iload (pc := 84) 0 dX9_holds_84 rfl ?_
            refine gp_9_pairsOf (pc := 86) kf_X9_230 dX9_holds_86 (fun s3 => ?_)
            refine g_aload_n (pc := 89) 1 dX9_holds_89 rfl rfl ?_
            refine g_aload_n (pc := 90) 1 dX9_holds_90 rfl rfl ?_
            refine gf_9_version (pc := 91) kf_X9_93 dX9_holds_91 ?_
            refine gp_9_pairsVersion (pc := 94) kf_X9_56 dX9_holds_94 (fun s4 => ?_)
            refine g_iload (pc := 97) 5 dX9_holds_97 rfl ?_
            refine g_if_ne (pc := 99) 109 dX9_holds_99 (by decide) ?_ ?_
            · refine g_iload (pc := 109) 5 dX9_holds_109 rfl ?_
              refine g_iconst (pc := 111) (1) dX9_holds_111 (by decide) ?_
              refine g_icmp_ne (pc := 112) 122 dX9_holds_112 (by decide) ?_ ?_
              · refine g_iload (pc := 122) 5 dX9_holds_122 rfl ?_
                refine g_iconst (pc := 124) (2) dX9_holds_124 (by decide) ?_
                refine g_icmp_ne (pc := 125) 135 dX9_holds_125 (by decide) ?_ ?_
                · refine g_aload_n (pc := 135) 1 dX9_holds_135 rfl rfl ?_
                  refine gf_9_lone (pc := 136) kf_X9_227 dX9_holds_136 ?_
                  exact g_iret (pc := 139) (hro _) rfl dX9_holds_139
                · refine g_aload_n (pc := 128) 1 dX9_holds_128 rfl rfl ?_
                  refine gf_9_meantMany (pc := 129) kf_X9_224 dX9_holds_129 ?_
                  refine g_goto (pc := 132) 139 dX9_holds_132 (by decide) ?_
                  exact g_iret (pc := 139) (hro _) rfl dX9_holds_139
              · refine g_aload_n (pc := 115) 1 dX9_holds_115 rfl rfl ?_
                refine gf_9_brokenFirst (pc := 116) kf_X9_221 dX9_holds_116 ?_
                refine g_goto (pc := 119) 139 dX9_holds_119 (by decide) ?_
                exact g_iret (pc := 139) (hro _) rfl dX9_holds_139
            · refine g_aload_n (pc := 102) 1 dX9_holds_102 rfl rfl ?_
              refine gf_9_brokenMany (pc := 103) kf_X9_218 dX9_holds_103 ?_
              refine g_goto (pc := 106) 139 dX9_holds_106 (by decide) ?_
              exact g_iret (pc := 139) (hro _) rfl dX9_holds_139
          · refine g_aload_n (pc := 61) 1 dX9_holds_61 rfl rfl ?_
            refine gf_9_pairsVersion (pc := 62) kf_X9_56 dX9_holds_62 ?_
            refine g_aload_n (pc := 65) 1 dX9_holds_65 rfl rfl ?_
            refine gf_9_version (pc := 66) kf_X9_93 dX9_holds_66 ?_
            refine g_icmp_eq (pc := 69) 97 dX9_holds_69 (by decide) ?_ ?_
            · refine g_iload (pc := 97) 5 dX9_holds_97 rfl ?_
              refine g_if_ne (pc := 99) 109 dX9_holds_99 (by decide) ?_ ?_
              · refine g_iload (pc := 109) 5 dX9_holds_109 rfl ?_
                refine g_iconst (pc := 111) (1) dX9_holds_111 (by decide) ?_
                refine g_icmp_ne (pc := 112) 122 dX9_holds_112 (by decide) ?_ ?_
                · refine g_iload (pc := 122) 5 dX9_holds_122 rfl ?_
                  refine g_iconst (pc := 124) (2) dX9_holds_124 (by decide) ?_
                  refine g_icmp_ne (pc := 125) 135 dX9_holds_125 (by decide) ?_ ?_
                  · refine g_aload_n (pc := 135) 1 dX9_holds_135 rfl rfl ?_
                    refine gf_9_lone (pc := 136) kf_X9_227 dX9_holds_136 ?_
                    exact g_iret (pc := 139) (hro _) rfl dX9_holds_139
                  · refine g_aload_n (pc := 128) 1 dX9_holds_128 rfl rfl ?_
                    refine gf_9_meantMany (pc := 129) kf_X9_224 dX9_holds_129 ?_
                    refine g_goto (pc := 132) 139 dX9_holds_132 (by decide) ?_
                    exact g_iret (pc := 139) (hro _) rfl dX9_holds_139
                · refine g_aload_n (pc := 115) 1 dX9_holds_115 rfl rfl ?_
                  refine gf_9_brokenFirst (pc := 116) kf_X9_221 dX9_holds_116 ?_
                  refine g_goto (pc := 119) 139 dX9_holds_119 (by decide) ?_
                  exact g_iret (pc := 139) (hro _) rfl dX9_holds_139
              · refine g_aload_n (pc := 102) 1 dX9_holds_102 rfl rfl ?_
                refine gf_9_brokenMany (pc := 103) kf_X9_218 dX9_holds_103 ?_
                refine g_goto (pc := 106) 139 dX9_holds_106 (by decide) ?_
                exact g_iret (pc := 139) (hro _) rfl dX9_holds_139
            · refine g_aload_n (pc := 72) 1 dX9_holds_72 rfl rfl ?_
              refine g_iload_n (pc := 73) 3 dX9_holds_73 rfl rfl ?_
              refine g_iload_n (pc := 74) 4 dX9_holds_74 rfl rfl ?_
              refine gV_v (pc := 75) [.int p, .int q_] [] (m_X9_runAll l D cy q σ p q_) cw_X9_runAll km_X9_233 ⟨rfl, rfl, by decide, by decide⟩ (Nat.le_of_ble_eq_true rfl) (eM_9 (cy := cy) (σ.1 0) (σ.2 0)) rfl dX9_holds_75 rfl rfl (Nat.le_of_ble_eq_true rfl) (fun s5 => ?_)
              refine g_aload_n (pc := 78) 1 dX9_holds_78 rfl rfl ?_
              refine g_iload_n (pc := 79) 2 dX9_holds_79 rfl rfl ?_
              refine gV_v (pc := 80) [.int saying] [] (m_X9_findPairs l D cy q s5 saying) cw_X9_findPairs km_X9_237 ⟨rfl, rfl, by decide, by decide⟩ (Nat.le_of_ble_eq_true rfl) (eM_9 (cy := cy) (s5.1 0) (s5.2 0)) rfl dX9_holds_80 rfl rfl (Nat.le_of_ble_eq_true rfl) (fun s6 => ?_)
              refine g_aload_n (pc := 83) 1 dX9_holds_83 rfl rfl ?_
              refine g_iload (pc := 84) 0 dX9_holds_84 rfl ?_
              refine gp_9_pairsOf (pc := 86) kf_X9_230 dX9_holds_86 (fun s7 => ?_)
              refine g_aload_n (pc := 89) 1 dX9_holds_89 rfl rfl ?_
              refine g_aload_n (pc := 90) 1 dX9_holds_90 rfl rfl ?_
              refine gf_9_version (pc := 91) kf_X9_93 dX9_holds_91 ?_
              refine gp_9_pairsVersion (pc := 94) kf_X9_56 dX9_holds_94 (fun s8 => ?_)
              refine g_iload (pc := 97) 5 dX9_holds_97 rfl ?_
              refine g_if_ne (pc := 99) 109 dX9_holds_99 (by decide) ?_ ?_
              · refine g_iload (pc := 109) 5 dX9_holds_109 rfl ?_
                refine g_iconst (pc := 111) (1) dX9_holds_111 (by decide) ?_
                refine g_icmp_ne (pc := 112) 122 dX9_holds_112 (by decide) ?_ ?_
                · refine g_iload (pc := 122) 5 dX9_holds_122 rfl ?_
                  refine g_iconst (pc := 124) (2) dX9_holds_124 (by decide) ?_
                  refine g_icmp_ne (pc := 125) 135 dX9_holds_125 (by decide) ?_ ?_
                  · refine g_aload_n (pc := 135) 1 dX9_holds_135 rfl rfl ?_
                    refine gf_9_lone (pc := 136) kf_X9_227 dX9_holds_136 ?_
                    exact g_iret (pc := 139) (hro _) rfl dX9_holds_139
                  · refine g_aload_n (pc := 128) 1 dX9_holds_128 rfl rfl ?_
                    refine gf_9_meantMany (pc := 129) kf_X9_224 dX9_holds_129 ?_
                    refine g_goto (pc := 132) 139 dX9_holds_132 (by decide) ?_
                    exact g_iret (pc := 139) (hro _) rfl dX9_holds_139
                · refine g_aload_n (pc := 115) 1 dX9_holds_115 rfl rfl ?_
                  refine gf_9_brokenFirst (pc := 116) kf_X9_221 dX9_holds_116 ?_
                  refine g_goto (pc := 119) 139 dX9_holds_119 (by decide) ?_
                  exact g_iret (pc := 139) (hro _) rfl dX9_holds_139
              · refine g_aload_n (pc := 102) 1 dX9_holds_102 rfl rfl ?_
                refine gf_9_brokenMany (pc := 103) kf_X9_218 dX9_holds_103 ?_
                refine g_goto (pc := 106) 139 dX9_holds_106 (by decide) ?_
                exact g_iret (pc := 139) (hro _) rfl dX9_holds_139
        · refine g_bipush (pc := 37) (-2) dX9_holds_37 (by decide) ?_
          exact g_iret (pc := 39) (hro _) rfl dX9_holds_39
      · refine g_iconst (pc := 22) (-1) dX9_holds_22 (by decide) ?_
        exact g_iret (pc := 23) (hro _) rfl dX9_holds_23
def f_X9_beginBoth (p : Int32) (start : Int32) (q_ : Int32) (other : Int32) (σ : St) : Option (St) := (f_X9_held p (0 : Int32) σ).bind fun r1 => nm (stI σ 0 27 r1) fun s1 => nm (stI s1 0 28 start) fun s2 => nm (stI s2 0 29 (0 : Int32)) fun s3 => (f_X9_held q_ (0 : Int32) s3).bind fun r2 => nm (stI s3 0 30 r2) fun s4 => nm (stI s4 0 31 other) fun s5 => nm (stI s5 0 32 (0 : Int32)) fun s6 => some s6
abbrev rm_X9_beginBoth : Room := { frames := 1, cells := 0, slots := 0, locals := 22 }
set_option maxHeartbeats 4000000 in
set_option maxRecDepth 20000 in
theorem m_X9_beginBoth (l : Launch) (D : va_G) (cy : Cy) (q : Nat → Nat) (σ : St) (p : Int32) (start : Int32) (q_ : Int32) (other : Int32)  : ∀ res, f_X9_beginBoth p start q_ other σ = some res → MetX (vM D cy q) l yX9_beginBoth cX9_beginBoth 5 none rm_X9_beginBoth [.ref (q 0), .int p, .int start, .int q_, .int other] σ (none, res) := by
  let fin_ : St → Option Value × St := fun r => (none, r)
  have hro : ∀ (z : St) (res : St), some z = some res → fin_ res = fin_ z := fun z res h => by cases h; rfl
  refine MetX.of1 (fin := fin_) (lv := [(0, .ref (q 0)), (1, .int p), (2, .int start), (3, .int q_), (4, .int other)]) (by decide) (Nat.le_of_ble_eq_true rfl) rfl ?_
  unfold f_X9_beginBoth
  refine g_aload_n (pc := 0) 0 dX9_beginBoth_0 rfl rfl ?_
  refine g_aload_n (pc := 1) 0 dX9_beginBoth_1 rfl rfl ?_
  refine g_iload_n (pc := 2) 1 dX9_beginBoth_2 rfl rfl ?_
  refine g_iconst (pc := 3) (0) dX9_beginBoth_3 (by decide) ?_
  refine gV_i (pc := 4) [.int p, .int (0 : Int32)] [.ref (q 0)] (m_X9_held l D cy q σ p (0 : Int32)) cw_X9_held km_X9_134 ⟨rfl, rfl, by decide, by decide⟩ (Nat.le_of_ble_eq_true rfl) (eM_9 (cy := cy) (σ.1 0) (σ.2 0)) rfl dX9_beginBoth_4 rfl rfl (Nat.le_of_ble_eq_true rfl) (fun r1 => ?_)
  refine gp_9_oneLine (pc := 7) kf_X9_240 dX9_beginBoth_7 (fun s1 => ?_)
  refine g_aload_n (pc := 10) 0 dX9_beginBoth_10 rfl rfl ?_
  refine g_iload_n (pc := 11) 2 dX9_beginBoth_11 rfl rfl ?_
  refine gp_9_oneMemory (pc := 12) kf_X9_243 dX9_beginBoth_12 (fun s2 => ?_)
  refine g_aload_n (pc := 15) 0 dX9_beginBoth_15 rfl rfl ?_
  refine g_iconst (pc := 16) (0) dX9_beginBoth_16 (by decide) ?_
  refine gp_9_oneSteps (pc := 17) kf_X9_246 dX9_beginBoth_17 (fun s3 => ?_)
  refine g_aload_n (pc := 20) 0 dX9_beginBoth_20 rfl rfl ?_
  refine g_aload_n (pc := 21) 0 dX9_beginBoth_21 rfl rfl ?_
  refine g_iload_n (pc := 22) 3 dX9_beginBoth_22 rfl rfl ?_
  refine g_iconst (pc := 23) (0) dX9_beginBoth_23 (by decide) ?_
  refine gV_i (pc := 24) [.int q_, .int (0 : Int32)] [.ref (q 0)] (m_X9_held l D cy q s3 q_ (0 : Int32)) cw_X9_held km_X9_134 ⟨rfl, rfl, by decide, by decide⟩ (Nat.le_of_ble_eq_true rfl) (eM_9 (cy := cy) (s3.1 0) (s3.2 0)) rfl dX9_beginBoth_24 rfl rfl (Nat.le_of_ble_eq_true rfl) (fun r2 => ?_)
  refine gp_9_twoLine (pc := 27) kf_X9_249 dX9_beginBoth_27 (fun s4 => ?_)
  refine g_aload_n (pc := 30) 0 dX9_beginBoth_30 rfl rfl ?_
  refine g_iload (pc := 31) 4 dX9_beginBoth_31 rfl ?_
  refine gp_9_twoMemory (pc := 33) kf_X9_252 dX9_beginBoth_33 (fun s5 => ?_)
  refine g_aload_n (pc := 36) 0 dX9_beginBoth_36 rfl rfl ?_
  refine g_iconst (pc := 37) (0) dX9_beginBoth_37 (by decide) ?_
  refine gp_9_twoSteps (pc := 38) kf_X9_255 dX9_beginBoth_38 (fun s6 => ?_)
  exact g_vret (pc := 41) (hro _) rfl dX9_beginBoth_41
def f_X9_stepFirst (p : Int32) (σ : St) : Option (St) := (f_X9_step p (σ.1 0 27) (σ.1 0 28) σ).bind fun s1 => nm (stI s1 0 29 ((s1.1 0 29) + (1 : Int32))) fun s2 => (if (s2.1 0 29) = (24 : Int32) then nm (stI s2 0 27 (12 : Int32)) fun s5 => nm (stI s5 0 28 (s5.1 0 10)) fun s6 => some s6 else nm (stI s2 0 27 (s2.1 0 9)) fun s3 => nm (stI s3 0 28 (s3.1 0 10)) fun s4 => some s4)
abbrev rm_X9_stepFirst : Room := { frames := 1, cells := 0, slots := 0, locals := 24 }
set_option maxHeartbeats 4000000 in
set_option maxRecDepth 20000 in
theorem m_X9_stepFirst (l : Launch) (D : va_G) (cy : Cy) (q : Nat → Nat) (σ : St) (p : Int32)  : ∀ res, f_X9_stepFirst p σ = some res → MetX (vM D cy q) l yX9_stepFirst cX9_stepFirst 2 none rm_X9_stepFirst [.ref (q 0), .int p] σ (none, res) := by
  let fin_ : St → Option Value × St := fun r => (none, r)
  have hro : ∀ (z : St) (res : St), some z = some res → fin_ res = fin_ z := fun z res h => by cases h; rfl
  refine MetX.of1 (fin := fin_) (lv := [(0, .ref (q 0)), (1, .int p)]) (by decide) (Nat.le_of_ble_eq_true rfl) rfl ?_
  unfold f_X9_stepFirst
  refine g_aload_n (pc := 0) 0 dX9_stepFirst_0 rfl rfl ?_
  refine g_iload_n (pc := 1) 1 dX9_stepFirst_1 rfl rfl ?_
  refine g_aload_n (pc := 2) 0 dX9_stepFirst_2 rfl rfl ?_
  refine gf_9_oneLine (pc := 3) kf_X9_240 dX9_stepFirst_3 ?_
  refine g_aload_n (pc := 6) 0 dX9_stepFirst_6 rfl rfl ?_
  refine gf_9_oneMemory (pc := 7) kf_X9_243 dX9_stepFirst_7 ?_
  refine gV_v (pc := 10) [.int p, .int (σ.1 0 27), .int (σ.1 0 28)] [] (m_X9_step l D cy q σ p (σ.1 0 27) (σ.1 0 28)) cw_X9_step km_X9_154 ⟨rfl, rfl, by decide, by decide⟩ (Nat.le_of_ble_eq_true rfl) (eM_9 (cy := cy) (σ.1 0) (σ.2 0)) rfl dX9_stepFirst_10 rfl rfl (Nat.le_of_ble_eq_true rfl) (fun s1 => ?_)
  refine g_aload_n (pc := 13) 0 dX9_stepFirst_13 rfl rfl ?_
  refine g_dup (pc := 14) dX9_stepFirst_14 rfl ?_
  refine gf_9_oneSteps (pc := 15) kf_X9_246 dX9_stepFirst_15 ?_
  refine g_iconst (pc := 18) (1) dX9_stepFirst_18 (by decide) ?_
  refine g_iadd (pc := 19) dX9_stepFirst_19 ?_
  refine gp_9_oneSteps (pc := 20) kf_X9_246 dX9_stepFirst_20 (fun s2 => ?_)
  refine g_aload_n (pc := 23) 0 dX9_stepFirst_23 rfl rfl ?_
  refine g_aload_n (pc := 24) 0 dX9_stepFirst_24 rfl rfl ?_
  refine gf_9_oneSteps (pc := 25) kf_X9_246 dX9_stepFirst_25 ?_
  refine g_bipush (pc := 28) (24) dX9_stepFirst_28 (by decide) ?_
  refine g_icmp_ne (pc := 30) 38 dX9_stepFirst_30 (by decide) ?_ ?_
  · refine g_aload_n (pc := 38) 0 dX9_stepFirst_38 rfl rfl ?_
    refine gf_9_nextLine (pc := 39) kf_X9_137 dX9_stepFirst_39 ?_
    refine gp_9_oneLine (pc := 42) kf_X9_240 dX9_stepFirst_42 (fun s3 => ?_)
    refine g_aload_n (pc := 45) 0 dX9_stepFirst_45 rfl rfl ?_
    refine g_aload_n (pc := 46) 0 dX9_stepFirst_46 rfl rfl ?_
    refine gf_9_nextMemory (pc := 47) kf_X9_131 dX9_stepFirst_47 ?_
    refine gp_9_oneMemory (pc := 50) kf_X9_243 dX9_stepFirst_50 (fun s4 => ?_)
    exact g_vret (pc := 53) (hro _) rfl dX9_stepFirst_53
  · refine g_bipush (pc := 33) (12) dX9_stepFirst_33 (by decide) ?_
    refine g_goto (pc := 35) 42 dX9_stepFirst_35 (by decide) ?_
    refine gp_9_oneLine (pc := 42) kf_X9_240 dX9_stepFirst_42 (fun s5 => ?_)
    refine g_aload_n (pc := 45) 0 dX9_stepFirst_45 rfl rfl ?_
    refine g_aload_n (pc := 46) 0 dX9_stepFirst_46 rfl rfl ?_
    refine gf_9_nextMemory (pc := 47) kf_X9_131 dX9_stepFirst_47 ?_
    refine gp_9_oneMemory (pc := 50) kf_X9_243 dX9_stepFirst_50 (fun s6 => ?_)
    exact g_vret (pc := 53) (hro _) rfl dX9_stepFirst_53
def f_X9_stepSecond (q_ : Int32) (σ : St) : Option (St) := (f_X9_step q_ (σ.1 0 30) (σ.1 0 31) σ).bind fun s1 => nm (stI s1 0 32 ((s1.1 0 32) + (1 : Int32))) fun s2 => (if (s2.1 0 32) = (24 : Int32) then nm (stI s2 0 30 (12 : Int32)) fun s5 => nm (stI s5 0 31 (s5.1 0 10)) fun s6 => some s6 else nm (stI s2 0 30 (s2.1 0 9)) fun s3 => nm (stI s3 0 31 (s3.1 0 10)) fun s4 => some s4)
abbrev rm_X9_stepSecond : Room := { frames := 1, cells := 0, slots := 0, locals := 24 }
set_option maxHeartbeats 4000000 in
set_option maxRecDepth 20000 in
theorem m_X9_stepSecond (l : Launch) (D : va_G) (cy : Cy) (q : Nat → Nat) (σ : St) (q_ : Int32)  : ∀ res, f_X9_stepSecond q_ σ = some res → MetX (vM D cy q) l yX9_stepSecond cX9_stepSecond 2 none rm_X9_stepSecond [.ref (q 0), .int q_] σ (none, res) := by
  let fin_ : St → Option Value × St := fun r => (none, r)
  have hro : ∀ (z : St) (res : St), some z = some res → fin_ res = fin_ z := fun z res h => by cases h; rfl
  refine MetX.of1 (fin := fin_) (lv := [(0, .ref (q 0)), (1, .int q_)]) (by decide) (Nat.le_of_ble_eq_true rfl) rfl ?_
  unfold f_X9_stepSecond
  refine g_aload_n (pc := 0) 0 dX9_stepSecond_0 rfl rfl ?_
  refine g_iload_n (pc := 1) 1 dX9_stepSecond_1 rfl rfl ?_
  refine g_aload_n (pc := 2) 0 dX9_stepSecond_2 rfl rfl ?_
  refine gf_9_twoLine (pc := 3) kf_X9_249 dX9_stepSecond_3 ?_
  refine g_aload_n (pc := 6) 0 dX9_stepSecond_6 rfl rfl ?_
  refine gf_9_twoMemory (pc := 7) kf_X9_252 dX9_stepSecond_7 ?_
  refine gV_v (pc := 10) [.int q_, .int (σ.1 0 30), .int (σ.1 0 31)] [] (m_X9_step l D cy q σ q_ (σ.1 0 30) (σ.1 0 31)) cw_X9_step km_X9_154 ⟨rfl, rfl, by decide, by decide⟩ (Nat.le_of_ble_eq_true rfl) (eM_9 (cy := cy) (σ.1 0) (σ.2 0)) rfl dX9_stepSecond_10 rfl rfl (Nat.le_of_ble_eq_true rfl) (fun s1 => ?_)
  refine g_aload_n (pc := 13) 0 dX9_stepSecond_13 rfl rfl ?_
  refine g_dup (pc := 14) dX9_stepSecond_14 rfl ?_
  refine gf_9_twoSteps (pc := 15) kf_X9_255 dX9_stepSecond_15 ?_
  refine g_iconst (pc := 18) (1) dX9_stepSecond_18 (by decide) ?_
  refine g_iadd (pc := 19) dX9_stepSecond_19 ?_
  refine gp_9_twoSteps (pc := 20) kf_X9_255 dX9_stepSecond_20 (fun s2 => ?_)
  refine g_aload_n (pc := 23) 0 dX9_stepSecond_23 rfl rfl ?_
  refine g_aload_n (pc := 24) 0 dX9_stepSecond_24 rfl rfl ?_
  refine gf_9_twoSteps (pc := 25) kf_X9_255 dX9_stepSecond_25 ?_
  refine g_bipush (pc := 28) (24) dX9_stepSecond_28 (by decide) ?_
  refine g_icmp_ne (pc := 30) 38 dX9_stepSecond_30 (by decide) ?_ ?_
  · refine g_aload_n (pc := 38) 0 dX9_stepSecond_38 rfl rfl ?_
    refine gf_9_nextLine (pc := 39) kf_X9_137 dX9_stepSecond_39 ?_
    refine gp_9_twoLine (pc := 42) kf_X9_249 dX9_stepSecond_42 (fun s3 => ?_)
    refine g_aload_n (pc := 45) 0 dX9_stepSecond_45 rfl rfl ?_
    refine g_aload_n (pc := 46) 0 dX9_stepSecond_46 rfl rfl ?_
    refine gf_9_nextMemory (pc := 47) kf_X9_131 dX9_stepSecond_47 ?_
    refine gp_9_twoMemory (pc := 50) kf_X9_252 dX9_stepSecond_50 (fun s4 => ?_)
    exact g_vret (pc := 53) (hro _) rfl dX9_stepSecond_53
  · refine g_bipush (pc := 33) (12) dX9_stepSecond_33 (by decide) ?_
    refine g_goto (pc := 35) 42 dX9_stepSecond_35 (by decide) ?_
    refine gp_9_twoLine (pc := 42) kf_X9_249 dX9_stepSecond_42 (fun s5 => ?_)
    refine g_aload_n (pc := 45) 0 dX9_stepSecond_45 rfl rfl ?_
    refine g_aload_n (pc := 46) 0 dX9_stepSecond_46 rfl rfl ?_
    refine gf_9_nextMemory (pc := 47) kf_X9_131 dX9_stepSecond_47 ?_
    refine gp_9_twoMemory (pc := 50) kf_X9_252 dX9_stepSecond_50 (fun s6 => ?_)
    exact g_vret (pc := 53) (hro _) rfl dX9_stepSecond_53
def b_X9_part_56 (p : Int32) (q_ : Int32) : (Int32 × St) → Option ((Int32 × St) ⊕ (Int32 × St)) := un fun y1 s4 => (if (s4.1 0 27) = (s4.1 0 30) then (if (12 : Int32) ≤ (s4.1 0 27) then some (.inr (y1, s4)) else (f_X9_stepFirst p s4).bind fun s5 => (f_X9_stepSecond q_ s5).bind fun s6 => nm (y1 + (1 : Int32)) fun x1 => some (.inl (x1, s6))) else some (.inr (y1, s4)))
def f_X9_part (p : Int32) (start : Int32) (q_ : Int32) (other : Int32) (σ : St) : Option (Int32 × St) := (f_X9_isProgram p).bind fun r1 => (if r1 = (0 : Int32) then some ((-1 : Int32), σ) else (f_X9_isProgram q_).bind fun r2 => (if r2 = (0 : Int32) then some ((-1 : Int32), σ) else (f_X9_isStart start).bind fun r3 => (if r3 = (0 : Int32) then some ((-2 : Int32), σ) else (f_X9_isStart other).bind fun r4 => (if r4 = (0 : Int32) then some ((-2 : Int32), σ) else (f_X9_layTable p σ).bind fun s1 => (f_X9_layTable q_ s1).bind fun s2 => (f_X9_beginBoth p start q_ other s2).bind fun s3 => (wh FU (b_X9_part_56 p q_) ((0 : Int32), s3)).bind (un fun z1 s7 => (if (s7.1 0 27) = (s7.1 0 30) then some ((-6 : Int32), s7) else some (z1, s7)))))))
abbrev rm_X9_part : Room := { frames := 3, cells := 0, slots := 0, locals := 72 }
set_option maxHeartbeats 4000000 in
set_option maxRecDepth 20000 in
theorem m_X9_part (l : Launch) (D : va_G) (cy : Cy) (q : Nat → Nat) (σ : St) (p : Int32) (start : Int32) (q_ : Int32) (other : Int32)  : ∀ res, f_X9_part p start q_ other σ = some res → MetX (vM D cy q) l yX9_part cX9_part 6 (some .int) rm_X9_part [.ref (q 0), .int p, .int start, .int q_, .int other] σ (some (.int res.1), res.2) := by
  let fin_ : (Int32 × St) → Option Value × St := fun r => (some (.int r.1), r.2)
  have hro : ∀ (z : Int32 × St) (res : Int32 × St), some z = some res → fin_ res = fin_ z := fun z res h => by cases h; rfl
  refine MetX.of1 (fin := fin_) (lv := [(0, .ref (q 0)), (1, .int p), (2, .int start), (3, .int q_), (4, .int other)]) (by decide) (Nat.le_of_ble_eq_true rfl) rfl ?_
  unfold f_X9_part
  refine g_iload_n (pc := 0) 1 dX9_part_0 rfl rfl ?_
  refine gS_i (pc := 1) [.int p] [] (m_X9_isProgram l D cy q σ p) cw_X9_isProgram km_X9_111 ⟨rfl, rfl, by decide, by decide⟩ dX9_part_1 rfl rfl (Nat.le_of_ble_eq_true rfl) (fun r1 => ?_)
  refine g_if_eq (pc := 4) 14 dX9_part_4 (by decide) ?_ ?_
  · refine g_iconst (pc := 14) (-1) dX9_part_14 (by decide) ?_
    exact g_iret (pc := 15) (hro _) rfl dX9_part_15
  · refine g_iload_n (pc := 7) 3 dX9_part_7 rfl rfl ?_
    refine gS_i (pc := 8) [.int q_] [] (m_X9_isProgram l D cy q σ q_) cw_X9_isProgram km_X9_111 ⟨rfl, rfl, by decide, by decide⟩ dX9_part_8 rfl rfl (Nat.le_of_ble_eq_true rfl) (fun r2 => ?_)
    refine g_if_ne (pc := 11) 16 dX9_part_11 (by decide) ?_ ?_
    · refine g_iload_n (pc := 16) 2 dX9_part_16 rfl rfl ?_
      refine gS_i (pc := 17) [.int start] [] (m_X9_isStart l D cy q σ start) cw_X9_isStart km_X9_162 ⟨rfl, rfl, by decide, by decide⟩ dX9_part_17 rfl rfl (Nat.le_of_ble_eq_true rfl) (fun r3 => ?_)
      refine g_if_eq (pc := 20) 31 dX9_part_20 (by decide) ?_ ?_
      · refine g_bipush (pc := 31) (-2) dX9_part_31 (by decide) ?_
        exact g_iret (pc := 33) (hro _) rfl dX9_part_33
      · refine g_iload (pc := 23) 4 dX9_part_23 rfl ?_
        refine gS_i (pc := 25) [.int other] [] (m_X9_isStart l D cy q σ other) cw_X9_isStart km_X9_162 ⟨rfl, rfl, by decide, by decide⟩ dX9_part_25 rfl rfl (Nat.le_of_ble_eq_true rfl) (fun r4 => ?_)
        refine g_if_ne (pc := 28) 34 dX9_part_28 (by decide) ?_ ?_
        · refine g_aload_n (pc := 34) 0 dX9_part_34 rfl rfl ?_
          refine g_iload_n (pc := 35) 1 dX9_part_35 rfl rfl ?_
          refine gV_v (pc := 36) [.int p] [] (m_X9_layTable l D cy q σ p) cw_X9_layTable km_X9_151 ⟨rfl, rfl, by decide, by decide⟩ (Nat.le_of_ble_eq_true rfl) (eM_9 (cy := cy) (σ.1 0) (σ.2 0)) rfl dX9_part_36 rfl rfl (Nat.le_of_ble_eq_true rfl) (fun s1 => ?_)
          refine g_aload_n (pc := 39) 0 dX9_part_39 rfl rfl ?_
          refine g_iload_n (pc := 40) 3 dX9_part_40 rfl rfl ?_
          refine gV_v (pc := 41) [.int q_] [] (m_X9_layTable l D cy q s1 q_) cw_X9_layTable km_X9_151 ⟨rfl, rfl, by decide, by decide⟩ (Nat.le_of_ble_eq_true rfl) (eM_9 (cy := cy) (s1.1 0) (s1.2 0)) rfl dX9_part_41 rfl rfl (Nat.le_of_ble_eq_true rfl) (fun s2 => ?_)
          refine g_aload_n (pc := 44) 0 dX9_part_44 rfl rfl ?_
          refine g_iload_n (pc := 45) 1 dX9_part_45 rfl rfl ?_
          refine g_iload_n (pc := 46) 2 dX9_part_46 rfl rfl ?_
          refine g_iload_n (pc := 47) 3 dX9_part_47 rfl rfl ?_
          refine g_iload (pc := 48) 4 dX9_part_48 rfl ?_
          refine gV_v (pc := 50) [.int p, .int start, .int q_, .int other] [] (m_X9_beginBoth l D cy q s2 p start q_ other) cw_X9_beginBoth km_X9_258 ⟨rfl, rfl, by decide, by decide⟩ (Nat.le_of_ble_eq_true rfl) (eM_9 (cy := cy) (s2.1 0) (s2.2 0)) rfl dX9_part_50 rfl rfl (Nat.le_of_ble_eq_true rfl) (fun s3 => ?_)
          refine g_iconst (pc := 53) (0) dX9_part_53 (by decide) ?_
          refine g_istore (pc := 54) (lv' := [(5, .int (0 : Int32)), (0, .ref (q 0)), (1, .int p), (2, .int start), (3, .int q_), (4, .int other)]) dX9_part_54 (Nat.le_of_ble_eq_true rfl) rfl ?_
          refine g_sub [1, 2, 4, 0] rfl ?_
          refine g_wh2 (pc := 56) (s0 := ((0 : Int32), s3)) (fun (w_ : Int32 × St) => w_.2) (fun (w_ : Int32 × St) => [(0, .ref (q 0)), (1, .int p), (3, .int q_), (5, .int w_.1)]) (fun (w_ : Int32 × St) => w_.2) (fun (w_ : Int32 × St) => [(0, .ref (q 0)), (5, .int w_.1)]) 92 ?_ ?_
          · rintro ⟨z1, s7⟩
            try dsimp only [un, Sum.elim_inl]
            refine g_aload_n (pc := 92) 0 dX9_part_92 rfl rfl ?_
            refine gf_9_oneLine (pc := 93) kf_X9_240 dX9_part_93 ?_
            refine g_aload_n (pc := 96) 0 dX9_part_96 rfl rfl ?_
            refine gf_9_twoLine (pc := 97) kf_X9_249 dX9_part_97 ?_
            refine g_icmp_ne (pc := 100) 108 dX9_part_100 (by decide) ?_ ?_
            · refine g_iload (pc := 108) 1 dX9_part_108 rfl ?_
              exact g_iret (pc := 110) (hro _) rfl dX9_part_110
            · refine g_bipush (pc := 103) (-6) dX9_part_103 (by decide) ?_
              refine g_goto (pc := 105) 110 dX9_part_105 (by decide) ?_
              exact g_iret (pc := 110) (hro _) rfl dX9_part_110
          · intro K56 hx56 ih56
            rintro ⟨y1, s4⟩
            try dsimp only [b_X9_part_56, un]
            refine g_aload_n (pc := 56) 0 dX9_part_56 rfl rfl ?_
            refine gf_9_oneLine (pc := 57) kf_X9_240 dX9_part_57 ?_
            refine g_aload_n (pc := 60) 0 dX9_part_60 rfl rfl ?_
            refine gf_9_twoLine (pc := 61) kf_X9_249 dX9_part_61 ?_
            refine g_icmp_ne (pc := 64) 92 dX9_part_64 (by decide) ?_ ?_
            · exact g_sub [0, 3] rfl (hx56 (y1, s4))
            · refine g_aload_n (pc := 67) 0 dX9_part_67 rfl rfl ?_
              refine gf_9_oneLine (pc := 68) kf_X9_240 dX9_part_68 ?_
              refine g_bipush (pc := 71) (12) dX9_part_71 (by decide) ?_
              refine g_icmp_ge (pc := 73) 92 dX9_part_73 (by decide) ?_ ?_
              · exact g_sub [0, 3] rfl (hx56 (y1, s4))
              · refine g_aload_n (pc := 76) 0 dX9_part_76 rfl rfl ?_
                refine g_iload_n (pc := 77) 1 dX9_part_77 rfl rfl ?_
                refine gV_v (pc := 78) [.int p] [] (m_X9_stepFirst l D cy q s4 p) cw_X9_stepFirst km_X9_262 ⟨rfl, rfl, by decide, by decide⟩ (Nat.le_of_ble_eq_true rfl) (eM_9 (cy := cy) (s4.1 0) (s4.2 0)) rfl dX9_part_78 rfl rfl (Nat.le_of_ble_eq_true rfl) (fun s5 => ?_)
                refine g_aload_n (pc := 81) 0 dX9_part_81 rfl rfl ?_
                refine g_iload_n (pc := 82) 2 dX9_part_82 rfl rfl ?_
                refine gV_v (pc := 83) [.int q_] [] (m_X9_stepSecond l D cy q s5 q_) cw_X9_stepSecond km_X9_265 ⟨rfl, rfl, by decide, by decide⟩ (Nat.le_of_ble_eq_true rfl) (eM_9 (cy := cy) (s5.1 0) (s5.2 0)) rfl dX9_part_83 rfl rfl (Nat.le_of_ble_eq_true rfl) (fun s6 => ?_)
                refine g_iinc (pc := 86) (j := 3) (1) (lf := fun x1 => [(5, .int x1), (0, .ref (q 0)), (1, .int p), (3, .int q_)]) dX9_part_86 rfl (by decide) (Nat.le_of_ble_eq_true rfl) (fun _ => rfl) (fun x1 => ?_)
                refine g_goto (pc := 89) 56 dX9_part_89 (by decide) ?_
                exact g_sub [1, 2, 3, 0] rfl (ih56 (x1, s6))
        · refine g_bipush (pc := 31) (-2) dX9_part_31 (by decide) ?_
          exact g_iret (pc := 33) (hro _) rfl dX9_part_33
    · refine g_iconst (pc := 14) (-1) dX9_part_14 (by decide) ?_
      exact g_iret (pc := 15) (hro _) rfl dX9_part_15
def f_X9_wait (one : Int32) (two : Int32) (how : Int32) (σ : St) : Option (Int32 × St) := (f_X9_in one.toInt64 (0 : Int64) (11 : Int64)).bind fun r1 => (if r1 = (0 : Int32) then some ((-2 : Int32), σ) else (f_X9_in two.toInt64 (0 : Int64) (11 : Int64)).bind fun r2 => (if r2 = (0 : Int32) then some ((-2 : Int32), σ) else (f_X9_in how.toInt64 (0 : Int64) (2 : Int64)).bind fun r3 => (if r3 = (0 : Int32) then some ((-2 : Int32), σ) else chk (inb (((12 : Int32) * one) + two) 144) (nm (σ.1 16 (((12 : Int32) * one) + two).toNatClampNeg) fun x1 => chk (inb (((12 : Int32) * one) + two) 144) (nm (stI σ 16 (((12 : Int32) * one) + two).toNatClampNeg how) fun s1 => nm (stI s1 0 8 ((s1.1 0 8) + (1 : Int32))) fun s2 => some (x1, s2))))))
abbrev rm_X9_wait : Room := { frames := 1, cells := 0, slots := 0, locals := 25 }
set_option maxHeartbeats 4000000 in
set_option maxRecDepth 20000 in
theorem m_X9_wait (l : Launch) (D : va_G) (cy : Cy) (q : Nat → Nat) (σ : St) (one : Int32) (two : Int32) (how : Int32)  : ∀ res, f_X9_wait one two how σ = some res → MetX (vM D cy q) l yX9_wait cX9_wait 5 (some .int) rm_X9_wait [.ref (q 0), .int one, .int two, .int how] σ (some (.int res.1), res.2) := by
  let fin_ : (Int32 × St) → Option Value × St := fun r => (some (.int r.1), r.2)
  have hro : ∀ (z : Int32 × St) (res : Int32 × St), some z = some res → fin_ res = fin_ z := fun z res h => by cases h; rfl
  refine MetX.of1 (fin := fin_) (lv := [(0, .ref (q 0)), (1, .int one), (2, .int two), (3, .int how)]) (by decide) (Nat.le_of_ble_eq_true rfl) rfl ?_
  unfold f_X9_wait
  refine g_iload_n (pc := 0) 1 dX9_wait_0 rfl rfl ?_
  refine g_i2l (pc := 1) dX9_wait_1 ?_
  refine g_lconst (pc := 2) (0) dX9_wait_2 (by decide) ?_
  refine g_ldc2 (pc := 3) dX9_wait_3 kl_X9_268 ?_
  refine gS_i (pc := 6) [.long one.toInt64, .long (0 : Int64), .long (11 : Int64)] [] (m_X9_in l D cy q σ one.toInt64 (0 : Int64) (11 : Int64)) cw_X9_in km_X9_101 ⟨rfl, rfl, by decide, by decide⟩ dX9_wait_6 rfl rfl (Nat.le_of_ble_eq_true rfl) (fun r1 => ?_)
  refine g_if_eq (pc := 9) 36 dX9_wait_9 (by decide) ?_ ?_
  · refine g_bipush (pc := 36) (-2) dX9_wait_36 (by decide) ?_
    exact g_iret (pc := 38) (hro _) rfl dX9_wait_38
  · refine g_iload_n (pc := 12) 2 dX9_wait_12 rfl rfl ?_
    refine g_i2l (pc := 13) dX9_wait_13 ?_
    refine g_lconst (pc := 14) (0) dX9_wait_14 (by decide) ?_
    refine g_ldc2 (pc := 15) dX9_wait_15 kl_X9_268 ?_
    refine gS_i (pc := 18) [.long two.toInt64, .long (0 : Int64), .long (11 : Int64)] [] (m_X9_in l D cy q σ two.toInt64 (0 : Int64) (11 : Int64)) cw_X9_in km_X9_101 ⟨rfl, rfl, by decide, by decide⟩ dX9_wait_18 rfl rfl (Nat.le_of_ble_eq_true rfl) (fun r2 => ?_)
    refine g_if_eq (pc := 21) 36 dX9_wait_21 (by decide) ?_ ?_
    · refine g_bipush (pc := 36) (-2) dX9_wait_36 (by decide) ?_
      exact g_iret (pc := 38) (hro _) rfl dX9_wait_38
    · refine g_iload_n (pc := 24) 3 dX9_wait_24 rfl rfl ?_
      refine g_i2l (pc := 25) dX9_wait_25 ?_
      refine g_lconst (pc := 26) (0) dX9_wait_26 (by decide) ?_
      refine g_ldc2 (pc := 27) dX9_wait_27 kl_X9_270 ?_
      refine gS_i (pc := 30) [.long how.toInt64, .long (0 : Int64), .long (2 : Int64)] [] (m_X9_in l D cy q σ how.toInt64 (0 : Int64) (2 : Int64)) cw_X9_in km_X9_101 ⟨rfl, rfl, by decide, by decide⟩ dX9_wait_30 rfl rfl (Nat.le_of_ble_eq_true rfl) (fun r3 => ?_)
      refine g_if_ne (pc := 33) 39 dX9_wait_33 (by decide) ?_ ?_
      · refine g_aload_n (pc := 39) 0 dX9_wait_39 rfl rfl ?_
        refine gf_9_waits (pc := 40) kf_X9_60 dX9_wait_40 ?_
        refine g_bipush (pc := 43) (12) dX9_wait_43 (by decide) ?_
        refine g_iload_n (pc := 45) 1 dX9_wait_45 rfl rfl ?_
        refine g_imul (pc := 46) dX9_wait_46 ?_
        refine g_iload_n (pc := 47) 2 dX9_wait_47 rfl rfl ?_
        refine g_iadd (pc := 48) dX9_wait_48 ?_
        refine a_ild (pc := 49) aM_waits dX9_wait_49 ?_
        refine g_nmi (fun x1 => ?_)
        refine g_istore (pc := 50) (lv' := [(4, .int x1), (0, .ref (q 0)), (1, .int one), (2, .int two), (3, .int how)]) dX9_wait_50 (Nat.le_of_ble_eq_true rfl) rfl ?_
        refine g_aload_n (pc := 52) 1 dX9_wait_52 rfl rfl ?_
        refine gf_9_waits (pc := 53) kf_X9_60 dX9_wait_53 ?_
        refine g_bipush (pc := 56) (12) dX9_wait_56 (by decide) ?_
        refine g_iload_n (pc := 58) 2 dX9_wait_58 rfl rfl ?_
        refine g_imul (pc := 59) dX9_wait_59 ?_
        refine g_iload_n (pc := 60) 3 dX9_wait_60 rfl rfl ?_
        refine g_iadd (pc := 61) dX9_wait_61 ?_
        refine g_iload_n (pc := 62) 4 dX9_wait_62 rfl rfl ?_
        refine a_ist (pc := 63) aM_waits dX9_wait_63 (fun s1 => ?_)
        refine g_aload_n (pc := 64) 1 dX9_wait_64 rfl rfl ?_
        refine g_dup (pc := 65) dX9_wait_65 rfl ?_
        refine gf_9_walkVersion (pc := 66) kf_X9_96 dX9_wait_66 ?_
        refine g_iconst (pc := 69) (1) dX9_wait_69 (by decide) ?_
        refine g_iadd (pc := 70) dX9_wait_70 ?_
        refine gp_9_walkVersion (pc := 71) kf_X9_96 dX9_wait_71 (fun s2 => ?_)
        refine g_iload (pc := 74) 0 dX9_wait_74 rfl ?_
        exact g_iret (pc := 76) (hro _) rfl dX9_wait_76
      · refine g_bipush (pc := 36) (-2) dX9_wait_36 (by decide) ?_
        exact g_iret (pc := 38) (hro _) rfl dX9_wait_38
def f_X9_moverAt (one : Int32) (two : Int32) (σ : St) : Option (Int32) := (if one = (12 : Int32) then (if one = two then some (3 : Int32) else (if one = (12 : Int32) then some (2 : Int32) else some (1 : Int32))) else (if two = (12 : Int32) then (if one = two then some (3 : Int32) else (if one = (12 : Int32) then some (2 : Int32) else some (1 : Int32))) else chk (inb (((12 : Int32) * one) + two) 144) (some (σ.1 16 (((12 : Int32) * one) + two).toNatClampNeg))))
abbrev rm_X9_moverAt : Room := { frames := 0, cells := 0, slots := 0, locals := 0 }
set_option maxHeartbeats 4000000 in
set_option maxRecDepth 20000 in
theorem m_X9_moverAt (l : Launch) (D : va_G) (cy : Cy) (q : Nat → Nat) (σ : St) (one : Int32) (two : Int32)  : ∀ res, f_X9_moverAt one two σ = some res → MetX (vM D cy q) l yX9_moverAt cX9_moverAt 3 (some .int) rm_X9_moverAt [.ref (q 0), .int one, .int two] σ (some (.int res), σ) := by
  let fin_ : Int32 → Option Value × St := fun r => (some (.int r), σ)
  have hro : ∀ (z : Int32) (res : Int32), some z = some res → fin_ res = fin_ z := fun z res h => by cases h; rfl
  refine MetX.of1 (fin := fin_) (lv := [(0, .ref (q 0)), (1, .int one), (2, .int two)]) (by decide) (Nat.le_of_ble_eq_true rfl) rfl ?_
  unfold f_X9_moverAt
  refine g_iload_n (pc := 0) 1 dX9_moverAt_0 rfl rfl ?_
  refine g_bipush (pc := 1) (12) dX9_moverAt_1 (by decide) ?_
  refine g_icmp_eq (pc := 3) 12 dX9_moverAt_3 (by decide) ?_ ?_
  · refine g_iload_n (pc := 12) 1 dX9_moverAt_12 rfl rfl ?_
    refine g_iload_n (pc := 13) 2 dX9_moverAt_13 rfl rfl ?_
    refine g_icmp_ne (pc := 14) 21 dX9_moverAt_14 (by decide) ?_ ?_
    · refine g_iload_n (pc := 21) 1 dX9_moverAt_21 rfl rfl ?_
      refine g_bipush (pc := 22) (12) dX9_moverAt_22 (by decide) ?_
      refine g_icmp_ne (pc := 24) 31 dX9_moverAt_24 (by decide) ?_ ?_
      · refine g_iconst (pc := 31) (1) dX9_moverAt_31 (by decide) ?_
        exact g_iret (pc := 32) (hro _) rfl dX9_moverAt_32
      · refine g_iconst (pc := 27) (2) dX9_moverAt_27 (by decide) ?_
        refine g_goto (pc := 28) 32 dX9_moverAt_28 (by decide) ?_
        exact g_iret (pc := 32) (hro _) rfl dX9_moverAt_32
    · refine g_iconst (pc := 17) (3) dX9_moverAt_17 (by decide) ?_
      refine g_goto (pc := 18) 32 dX9_moverAt_18 (by decide) ?_
      exact g_iret (pc := 32) (hro _) rfl dX9_moverAt_32
  · refine g_iload_n (pc := 6) 2 dX9_moverAt_6 rfl rfl ?_
    refine g_bipush (pc := 7) (12) dX9_moverAt_7 (by decide) ?_
    refine g_icmp_ne (pc := 9) 33 dX9_moverAt_9 (by decide) ?_ ?_
    · refine g_aload_n (pc := 33) 0 dX9_moverAt_33 rfl rfl ?_
      refine gf_9_waits (pc := 34) kf_X9_60 dX9_moverAt_34 ?_
      refine g_bipush (pc := 37) (12) dX9_moverAt_37 (by decide) ?_
      refine g_iload_n (pc := 39) 1 dX9_moverAt_39 rfl rfl ?_
      refine g_imul (pc := 40) dX9_moverAt_40 ?_
      refine g_iload_n (pc := 41) 2 dX9_moverAt_41 rfl rfl ?_
      refine g_iadd (pc := 42) dX9_moverAt_42 ?_
      refine a_ild (pc := 43) aM_waits dX9_moverAt_43 ?_
      exact g_iret (pc := 44) (hro _) rfl dX9_moverAt_44
    · refine g_iload_n (pc := 12) 1 dX9_moverAt_12 rfl rfl ?_
      refine g_iload_n (pc := 13) 2 dX9_moverAt_13 rfl rfl ?_
      refine g_icmp_ne (pc := 14) 21 dX9_moverAt_14 (by decide) ?_ ?_
      · refine g_iload_n (pc := 21) 1 dX9_moverAt_21 rfl rfl ?_
        refine g_bipush (pc := 22) (12) dX9_moverAt_22 (by decide) ?_
        refine g_icmp_ne (pc := 24) 31 dX9_moverAt_24 (by decide) ?_ ?_
        · refine g_iconst (pc := 31) (1) dX9_moverAt_31 (by decide) ?_
          exact g_iret (pc := 32) (hro _) rfl dX9_moverAt_32
        · refine g_iconst (pc := 27) (2) dX9_moverAt_27 (by decide) ?_
          refine g_goto (pc := 28) 32 dX9_moverAt_28 (by decide) ?_
          exact g_iret (pc := 32) (hro _) rfl dX9_moverAt_32
      · refine g_iconst (pc := 17) (3) dX9_moverAt_17 (by decide) ?_
        refine g_goto (pc := 18) 32 dX9_moverAt_18 (by decide) ?_
        exact g_iret (pc := 32) (hro _) rfl dX9_moverAt_32
def b_X9_saysOf_4 (one : Int32) (other : Int32) : (Int32 × Int32) → Option ((Int32 × Int32) ⊕ (Int32)) := un fun y1 y2 => (if (4 : Int32) ≤ y2 then some (.inr y1) else (f_X9_valueOf one y2).bind fun r1 => (f_X9_valueOf other y2).bind fun r2 => (if r1 = r2 then (if r1 < r2 then (if r2 < r1 then nm (y1 ||| ((((1 : Int32) <<< (((3 : Int32) * y2) &&& 31)) ||| (0 : Int32)) ||| (0 : Int32))) fun x9 => nm (y2 + (1 : Int32)) fun x10 => some (.inl (x9, x10)) else nm (y1 ||| ((((1 : Int32) <<< (((3 : Int32) * y2) &&& 31)) ||| (0 : Int32)) ||| ((4 : Int32) <<< (((3 : Int32) * y2) &&& 31)))) fun x11 => nm (y2 + (1 : Int32)) fun x12 => some (.inl (x11, x12))) else (if r2 < r1 then nm (y1 ||| ((((1 : Int32) <<< (((3 : Int32) * y2) &&& 31)) ||| ((2 : Int32) <<< (((3 : Int32) * y2) &&& 31))) ||| (0 : Int32))) fun x13 => nm (y2 + (1 : Int32)) fun x14 => some (.inl (x13, x14)) else nm (y1 ||| ((((1 : Int32) <<< (((3 : Int32) * y2) &&& 31)) ||| ((2 : Int32) <<< (((3 : Int32) * y2) &&& 31))) ||| ((4 : Int32) <<< (((3 : Int32) * y2) &&& 31)))) fun x15 => nm (y2 + (1 : Int32)) fun x16 => some (.inl (x15, x16)))) else (if r1 < r2 then (if r2 < r1 then nm (y1 ||| (((0 : Int32) ||| (0 : Int32)) ||| (0 : Int32))) fun x1 => nm (y2 + (1 : Int32)) fun x2 => some (.inl (x1, x2)) else nm (y1 ||| (((0 : Int32) ||| (0 : Int32)) ||| ((4 : Int32) <<< (((3 : Int32) * y2) &&& 31)))) fun x3 => nm (y2 + (1 : Int32)) fun x4 => some (.inl (x3, x4))) else (if r2 < r1 then nm (y1 ||| (((0 : Int32) ||| ((2 : Int32) <<< (((3 : Int32) * y2) &&& 31))) ||| (0 : Int32))) fun x5 => nm (y2 + (1 : Int32)) fun x6 => some (.inl (x5, x6)) else nm (y1 ||| (((0 : Int32) ||| ((2 : Int32) <<< (((3 : Int32) * y2) &&& 31))) ||| ((4 : Int32) <<< (((3 : Int32) * y2) &&& 31)))) fun x7 => nm (y2 + (1 : Int32)) fun x8 => some (.inl (x7, x8))))))
def f_X9_saysOf (one : Int32) (other : Int32) : Option (Int32) := (wh FU (b_X9_saysOf_4 one other) ((0 : Int32), (0 : Int32))).bind (fun z1 => some z1)
abbrev rm_X9_saysOf : Room := { frames := 1, cells := 0, slots := 0, locals := 21 }
set_option maxHeartbeats 4000000 in
set_option maxRecDepth 20000 in
theorem m_X9_saysOf (l : Launch) (v : Vw) (σ : St) (one : Int32) (other : Int32)  : ∀ res, f_X9_saysOf one other = some res → MetX v l yX9_saysOf cX9_saysOf 6 (some .int) rm_X9_saysOf [.int one, .int other] σ (some (.int res), σ) := by
  let fin_ : Int32 → Option Value × St := fun r => (some (.int r), σ)
  have hro : ∀ (z : Int32) (res : Int32), some z = some res → fin_ res = fin_ z := fun z res h => by cases h; rfl
  refine MetX.of1 (fin := fin_) (lv := [(0, .int one), (1, .int other)]) (by decide) (Nat.le_of_ble_eq_true rfl) rfl ?_
  unfold f_X9_saysOf
  refine g_iconst (pc := 0) (0) dX9_saysOf_0 (by decide) ?_
  refine g_istore_n (pc := 1) (lv' := [(2, .int (0 : Int32)), (0, .int one), (1, .int other)]) dX9_saysOf_1 rfl (Nat.le_of_ble_eq_true rfl) rfl ?_
  refine g_iconst (pc := 2) (0) dX9_saysOf_2 (by decide) ?_
  refine g_istore_n (pc := 3) (lv' := [(3, .int (0 : Int32)), (2, .int (0 : Int32)), (0, .int one), (1, .int other)]) dX9_saysOf_3 rfl (Nat.le_of_ble_eq_true rfl) rfl ?_
  refine g_sub [2, 3, 1, 0] rfl ?_
  refine g_wh2 (pc := 4) (s0 := ((0 : Int32), (0 : Int32))) (fun (w_ : Int32 × Int32) => σ) (fun (w_ : Int32 × Int32) => [(0, .int one), (1, .int other), (2, .int w_.1), (3, .int w_.2)]) (fun (w_ : Int32) => σ) (fun (w_ : Int32) => [(2, .int w_)]) 82 ?_ ?_
  · rintro z1
    try dsimp only [un, Sum.elim_inl]
    refine g_iload_n (pc := 82) 0 dX9_saysOf_82 rfl rfl ?_
    exact g_iret (pc := 83) (hro _) rfl dX9_saysOf_83
  · intro K4 hx4 ih4
    rintro ⟨y1, y2⟩
    try dsimp only [b_X9_saysOf_4, un]
    refine g_iload_n (pc := 4) 3 dX9_saysOf_4 rfl rfl ?_
    refine g_iconst (pc := 5) (4) dX9_saysOf_5 (by decide) ?_
    refine g_icmp_ge (pc := 6) 82 dX9_saysOf_6 (by decide) ?_ ?_
    · exact g_sub [2] rfl (hx4 y1)
    · refine g_iload_n (pc := 9) 0 dX9_saysOf_9 rfl rfl ?_
      refine g_iload_n (pc := 10) 3 dX9_saysOf_10 rfl rfl ?_
      refine gS_i (pc := 11) [.int one, .int y2] [] (m_X9_valueOf l v σ one y2) cw_X9_valueOf km_X9_128 ⟨rfl, rfl, by decide, by decide⟩ dX9_saysOf_11 rfl rfl (Nat.le_of_ble_eq_true rfl) (fun r1 => ?_)
      refine g_istore (pc := 14) (lv' := [(4, .int r1), (0, .int one), (1, .int other), (2, .int y1), (3, .int y2)]) dX9_saysOf_14 (Nat.le_of_ble_eq_true rfl) rfl ?_
      refine g_iload_n (pc := 16) 2 dX9_saysOf_16 rfl rfl ?_
      refine g_iload_n (pc := 17) 4 dX9_saysOf_17 rfl rfl ?_
      refine gS_i (pc := 18) [.int other, .int y2] [] (m_X9_valueOf l v σ other y2) cw_X9_valueOf km_X9_128 ⟨rfl, rfl, by decide, by decide⟩ dX9_saysOf_18 rfl rfl (Nat.le_of_ble_eq_true rfl) (fun r2 => ?_)
      refine g_istore (pc := 21) (lv' := [(5, .int r2), (4, .int r1), (0, .int one), (1, .int other), (2, .int y1), (3, .int y2)]) dX9_saysOf_21 (Nat.le_of_ble_eq_true rfl) rfl ?_
      refine g_iload_n (pc := 23) 4 dX9_saysOf_23 rfl rfl ?_
      refine g_iload (pc := 24) 1 dX9_saysOf_24 rfl ?_
      refine g_iload (pc := 26) 0 dX9_saysOf_26 rfl ?_
      refine g_icmp_ne (pc := 28) 39 dX9_saysOf_28 (by decide) ?_ ?_
      · refine g_iconst (pc := 39) (0) dX9_saysOf_39 (by decide) ?_
        refine g_iload (pc := 40) 1 dX9_saysOf_40 rfl ?_
        refine g_iload (pc := 42) 0 dX9_saysOf_42 rfl ?_
        refine g_icmp_lt (pc := 44) 55 dX9_saysOf_44 (by decide) ?_ ?_
        · refine g_iconst (pc := 55) (0) dX9_saysOf_55 (by decide) ?_
          refine g_ior (pc := 56) dX9_saysOf_56 ?_
          refine g_iload (pc := 57) 1 dX9_saysOf_57 rfl ?_
          refine g_iload (pc := 59) 0 dX9_saysOf_59 rfl ?_
          refine g_icmp_gt (pc := 61) 72 dX9_saysOf_61 (by decide) ?_ ?_
          · refine g_iconst (pc := 72) (0) dX9_saysOf_72 (by decide) ?_
            refine g_ior (pc := 73) dX9_saysOf_73 ?_
            refine g_ior (pc := 74) dX9_saysOf_74 ?_
            refine g_nmi (fun x1 => ?_)
            refine g_istore_n (pc := 75) (lv' := [(2, .int x1), (5, .int r2), (4, .int r1), (0, .int one), (1, .int other), (3, .int y2)]) dX9_saysOf_75 rfl (Nat.le_of_ble_eq_true rfl) rfl ?_
            refine g_iinc (pc := 76) (j := 5) (1) (lf := fun x2 => [(3, .int x2), (2, .int x1), (5, .int r2), (4, .int r1), (0, .int one), (1, .int other)]) dX9_saysOf_76 rfl (by decide) (Nat.le_of_ble_eq_true rfl) (fun _ => rfl) (fun x2 => ?_)
            refine g_goto (pc := 79) 4 dX9_saysOf_79 (by decide) ?_
            exact g_sub [4, 5, 1, 0] rfl (ih4 (x1, x2))
          · refine g_iconst (pc := 64) (4) dX9_saysOf_64 (by decide) ?_
            refine g_iconst (pc := 65) (3) dX9_saysOf_65 (by decide) ?_
            refine g_iload_n (pc := 66) 5 dX9_saysOf_66 rfl rfl ?_
            refine g_imul (pc := 67) dX9_saysOf_67 ?_
            refine g_ishl (pc := 68) dX9_saysOf_68 ?_
            refine g_goto (pc := 69) 73 dX9_saysOf_69 (by decide) ?_
            refine g_ior (pc := 73) dX9_saysOf_73 ?_
            refine g_ior (pc := 74) dX9_saysOf_74 ?_
            refine g_nmi (fun x3 => ?_)
            refine g_istore_n (pc := 75) (lv' := [(2, .int x3), (5, .int r2), (4, .int r1), (0, .int one), (1, .int other), (3, .int y2)]) dX9_saysOf_75 rfl (Nat.le_of_ble_eq_true rfl) rfl ?_
            refine g_iinc (pc := 76) (j := 5) (1) (lf := fun x4 => [(3, .int x4), (2, .int x3), (5, .int r2), (4, .int r1), (0, .int one), (1, .int other)]) dX9_saysOf_76 rfl (by decide) (Nat.le_of_ble_eq_true rfl) (fun _ => rfl) (fun x4 => ?_)
            refine g_goto (pc := 79) 4 dX9_saysOf_79 (by decide) ?_
            exact g_sub [4, 5, 1, 0] rfl (ih4 (x3, x4))
        · refine g_iconst (pc := 47) (2) dX9_saysOf_47 (by decide) ?_
          refine g_iconst (pc := 48) (3) dX9_saysOf_48 (by decide) ?_
          refine g_iload_n (pc := 49) 5 dX9_saysOf_49 rfl rfl ?_
          refine g_imul (pc := 50) dX9_saysOf_50 ?_
          refine g_ishl (pc := 51) dX9_saysOf_51 ?_
          refine g_goto (pc := 52) 56 dX9_saysOf_52 (by decide) ?_
          refine g_ior (pc := 56) dX9_saysOf_56 ?_
          refine g_iload (pc := 57) 1 dX9_saysOf_57 rfl ?_
          refine g_iload (pc := 59) 0 dX9_saysOf_59 rfl ?_
          refine g_icmp_gt (pc := 61) 72 dX9_saysOf_61 (by decide) ?_ ?_
          · refine g_iconst (pc := 72) (0) dX9_saysOf_72 (by decide) ?_
            refine g_ior (pc := 73) dX9_saysOf_73 ?_
            refine g_ior (pc := 74) dX9_saysOf_74 ?_
            refine g_nmi (fun x5 => ?_)
            refine g_istore_n (pc := 75) (lv' := [(2, .int x5), (5, .int r2), (4, .int r1), (0, .int one), (1, .int other), (3, .int y2)]) dX9_saysOf_75 rfl (Nat.le_of_ble_eq_true rfl) rfl ?_
            refine g_iinc (pc := 76) (j := 5) (1) (lf := fun x6 => [(3, .int x6), (2, .int x5), (5, .int r2), (4, .int r1), (0, .int one), (1, .int other)]) dX9_saysOf_76 rfl (by decide) (Nat.le_of_ble_eq_true rfl) (fun _ => rfl) (fun x6 => ?_)
            refine g_goto (pc := 79) 4 dX9_saysOf_79 (by decide) ?_
            exact g_sub [4, 5, 1, 0] rfl (ih4 (x5, x6))
          · refine g_iconst (pc := 64) (4) dX9_saysOf_64 (by decide) ?_
            refine g_iconst (pc := 65) (3) dX9_saysOf_65 (by decide) ?_
            refine g_iload_n (pc := 66) 5 dX9_saysOf_66 rfl rfl ?_
            refine g_imul (pc := 67) dX9_saysOf_67 ?_
            refine g_ishl (pc := 68) dX9_saysOf_68 ?_
            refine g_goto (pc := 69) 73 dX9_saysOf_69 (by decide) ?_
            refine g_ior (pc := 73) dX9_saysOf_73 ?_
            refine g_ior (pc := 74) dX9_saysOf_74 ?_
            refine g_nmi (fun x7 => ?_)
            refine g_istore_n (pc := 75) (lv' := [(2, .int x7), (5, .int r2), (4, .int r1), (0, .int one), (1, .int other), (3, .int y2)]) dX9_saysOf_75 rfl (Nat.le_of_ble_eq_true rfl) rfl ?_
            refine g_iinc (pc := 76) (j := 5) (1) (lf := fun x8 => [(3, .int x8), (2, .int x7), (5, .int r2), (4, .int r1), (0, .int one), (1, .int other)]) dX9_saysOf_76 rfl (by decide) (Nat.le_of_ble_eq_true rfl) (fun _ => rfl) (fun x8 => ?_)
            refine g_goto (pc := 79) 4 dX9_saysOf_79 (by decide) ?_
            exact g_sub [4, 5, 1, 0] rfl (ih4 (x7, x8))
      · refine g_iconst (pc := 31) (1) dX9_saysOf_31 (by decide) ?_
        refine g_iconst (pc := 32) (3) dX9_saysOf_32 (by decide) ?_
        refine g_iload_n (pc := 33) 5 dX9_saysOf_33 rfl rfl ?_
        refine g_imul (pc := 34) dX9_saysOf_34 ?_
        refine g_ishl (pc := 35) dX9_saysOf_35 ?_
        refine g_goto (pc := 36) 40 dX9_saysOf_36 (by decide) ?_
        refine g_iload (pc := 40) 1 dX9_saysOf_40 rfl ?_
        refine g_iload (pc := 42) 0 dX9_saysOf_42 rfl ?_
        refine g_icmp_lt (pc := 44) 55 dX9_saysOf_44 (by decide) ?_ ?_
        · refine g_iconst (pc := 55) (0) dX9_saysOf_55 (by decide) ?_
          refine g_ior (pc := 56) dX9_saysOf_56 ?_
          refine g_iload (pc := 57) 1 dX9_saysOf_57 rfl ?_
          refine g_iload (pc := 59) 0 dX9_saysOf_59 rfl ?_
          refine g_icmp_gt (pc := 61) 72 dX9_saysOf_61 (by decide) ?_ ?_
          · refine g_iconst (pc := 72) (0) dX9_saysOf_72 (by decide) ?_
            refine g_ior (pc := 73) dX9_saysOf_73 ?_
            refine g_ior (pc := 74) dX9_saysOf_74 ?_
            refine g_nmi (fun x9 => ?_)
            refine g_istore_n (pc := 75) (lv' := [(2, .int x9), (5, .int r2), (4, .int r1), (0, .int one), (1, .int other), (3, .int y2)]) dX9_saysOf_75 rfl (Nat.le_of_ble_eq_true rfl) rfl ?_
            refine g_iinc (pc := 76) (j := 5) (1) (lf := fun x10 => [(3, .int x10), (2, .int x9), (5, .int r2), (4, .int r1), (0, .int one), (1, .int other)]) dX9_saysOf_76 rfl (by decide) (Nat.le_of_ble_eq_true rfl) (fun _ => rfl) (fun x10 => ?_)
            refine g_goto (pc := 79) 4 dX9_saysOf_79 (by decide) ?_
            exact g_sub [4, 5, 1, 0] rfl (ih4 (x9, x10))
          · refine g_iconst (pc := 64) (4) dX9_saysOf_64 (by decide) ?_
            refine g_iconst (pc := 65) (3) dX9_saysOf_65 (by decide) ?_
            refine g_iload_n (pc := 66) 5 dX9_saysOf_66 rfl rfl ?_
            refine g_imul (pc := 67) dX9_saysOf_67 ?_
            refine g_ishl (pc := 68) dX9_saysOf_68 ?_
            refine g_goto (pc := 69) 73 dX9_saysOf_69 (by decide) ?_
            refine g_ior (pc := 73) dX9_saysOf_73 ?_
            refine g_ior (pc := 74) dX9_saysOf_74 ?_
            refine g_nmi (fun x11 => ?_)
            refine g_istore_n (pc := 75) (lv' := [(2, .int x11), (5, .int r2), (4, .int r1), (0, .int one), (1, .int other), (3, .int y2)]) dX9_saysOf_75 rfl (Nat.le_of_ble_eq_true rfl) rfl ?_
            refine g_iinc (pc := 76) (j := 5) (1) (lf := fun x12 => [(3, .int x12), (2, .int x11), (5, .int r2), (4, .int r1), (0, .int one), (1, .int other)]) dX9_saysOf_76 rfl (by decide) (Nat.le_of_ble_eq_true rfl) (fun _ => rfl) (fun x12 => ?_)
            refine g_goto (pc := 79) 4 dX9_saysOf_79 (by decide) ?_
            exact g_sub [4, 5, 1, 0] rfl (ih4 (x11, x12))
        · refine g_iconst (pc := 47) (2) dX9_saysOf_47 (by decide) ?_
          refine g_iconst (pc := 48) (3) dX9_saysOf_48 (by decide) ?_
          refine g_iload_n (pc := 49) 5 dX9_saysOf_49 rfl rfl ?_
          refine g_imul (pc := 50) dX9_saysOf_50 ?_
          refine g_ishl (pc := 51) dX9_saysOf_51 ?_
          refine g_goto (pc := 52) 56 dX9_saysOf_52 (by decide) ?_
          refine g_ior (pc := 56) dX9_saysOf_56 ?_
          refine g_iload (pc := 57) 1 dX9_saysOf_57 rfl ?_
          refine g_iload (pc := 59) 0 dX9_saysOf_59 rfl ?_
          refine g_icmp_gt (pc := 61) 72 dX9_saysOf_61 (by decide) ?_ ?_
          · refine g_iconst (pc := 72) (0) dX9_saysOf_72 (by decide) ?_
            refine g_ior (pc := 73) dX9_saysOf_73 ?_
            refine g_ior (pc := 74) dX9_saysOf_74 ?_
            refine g_nmi (fun x13 => ?_)
            refine g_istore_n (pc := 75) (lv' := [(2, .int x13), (5, .int r2), (4, .int r1), (0, .int one), (1, .int other), (3, .int y2)]) dX9_saysOf_75 rfl (Nat.le_of_ble_eq_true rfl) rfl ?_
            refine g_iinc (pc := 76) (j := 5) (1) (lf := fun x14 => [(3, .int x14), (2, .int x13), (5, .int r2), (4, .int r1), (0, .int one), (1, .int other)]) dX9_saysOf_76 rfl (by decide) (Nat.le_of_ble_eq_true rfl) (fun _ => rfl) (fun x14 => ?_)
            refine g_goto (pc := 79) 4 dX9_saysOf_79 (by decide) ?_
            exact g_sub [4, 5, 1, 0] rfl (ih4 (x13, x14))
          · refine g_iconst (pc := 64) (4) dX9_saysOf_64 (by decide) ?_
            refine g_iconst (pc := 65) (3) dX9_saysOf_65 (by decide) ?_
            refine g_iload_n (pc := 66) 5 dX9_saysOf_66 rfl rfl ?_
            refine g_imul (pc := 67) dX9_saysOf_67 ?_
            refine g_ishl (pc := 68) dX9_saysOf_68 ?_
            refine g_goto (pc := 69) 73 dX9_saysOf_69 (by decide) ?_
            refine g_ior (pc := 73) dX9_saysOf_73 ?_
            refine g_ior (pc := 74) dX9_saysOf_74 ?_
            refine g_nmi (fun x15 => ?_)
            refine g_istore_n (pc := 75) (lv' := [(2, .int x15), (5, .int r2), (4, .int r1), (0, .int one), (1, .int other), (3, .int y2)]) dX9_saysOf_75 rfl (Nat.le_of_ble_eq_true rfl) rfl ?_
            refine g_iinc (pc := 76) (j := 5) (1) (lf := fun x16 => [(3, .int x16), (2, .int x15), (5, .int r2), (4, .int r1), (0, .int one), (1, .int other)]) dX9_saysOf_76 rfl (by decide) (Nat.le_of_ble_eq_true rfl) (fun _ => rfl) (fun x16 => ?_)
            refine g_goto (pc := 79) 4 dX9_saysOf_79 (by decide) ?_
            exact g_sub [4, 5, 1, 0] rfl (ih4 (x15, x16))
def f_X9_standThere (σ : St) : Option (St) := nm (((13 : Int32) * (σ.1 0 27)) + (σ.1 0 30)) fun x1 => chk (inb x1 169) (nm (stI σ 19 x1.toNatClampNeg (1 : Int32)) fun s1 => chk (inb x1 169) (chk (inb (((256 : Int32) * (s1.1 0 28)) + (s1.1 0 31)) 65536) (chk (inb x1 169) (nm (stI s1 18 x1.toNatClampNeg ((s1.1 18 x1.toNatClampNeg) &&& (s1.1 20 (((256 : Int32) * (s1.1 0 28)) + (s1.1 0 31)).toNatClampNeg))) fun s2 => some s2))))
abbrev rm_X9_standThere : Room := { frames := 0, cells := 0, slots := 0, locals := 0 }
set_option maxHeartbeats 4000000 in
set_option maxRecDepth 20000 in
theorem m_X9_standThere (l : Launch) (D : va_G) (cy : Cy) (q : Nat → Nat) (σ : St)  : ∀ res, f_X9_standThere σ = some res → MetX (vM D cy q) l yX9_standThere cX9_standThere 2 none rm_X9_standThere [.ref (q 0)] σ (none, res) := by
  let fin_ : St → Option Value × St := fun r => (none, r)
  have hro : ∀ (z : St) (res : St), some z = some res → fin_ res = fin_ z := fun z res h => by cases h; rfl
  refine MetX.of1 (fin := fin_) (lv := [(0, .ref (q 0))]) (by decide) (Nat.le_of_ble_eq_true rfl) rfl ?_
  unfold f_X9_standThere
  refine g_bipush (pc := 0) (13) dX9_standThere_0 (by decide) ?_
  refine g_aload_n (pc := 2) 0 dX9_standThere_2 rfl rfl ?_
  refine gf_9_oneLine (pc := 3) kf_X9_240 dX9_standThere_3 ?_
  refine g_imul (pc := 6) dX9_standThere_6 ?_
  refine g_aload_n (pc := 7) 0 dX9_standThere_7 rfl rfl ?_
  refine gf_9_twoLine (pc := 8) kf_X9_249 dX9_standThere_8 ?_
  refine g_iadd (pc := 11) dX9_standThere_11 ?_
  refine g_nmi (fun x1 => ?_)
  refine g_istore_n (pc := 12) (lv' := [(1, .int x1), (0, .ref (q 0))]) dX9_standThere_12 rfl (Nat.le_of_ble_eq_true rfl) rfl ?_
  refine g_aload_n (pc := 13) 1 dX9_standThere_13 rfl rfl ?_
  refine gf_9_isStood (pc := 14) kf_X9_69 dX9_standThere_14 ?_
  refine g_iload_n (pc := 17) 0 dX9_standThere_17 rfl rfl ?_
  refine g_iconst (pc := 18) (1) dX9_standThere_18 (by decide) ?_
  refine a_zst (pc := 19) aM_isStood (by decide) dX9_standThere_19 (fun s1 => ?_)
  refine g_aload_n (pc := 20) 1 dX9_standThere_20 rfl rfl ?_
  refine gf_9_shapes (pc := 21) kf_X9_66 dX9_standThere_21 ?_
  refine g_iload_n (pc := 24) 0 dX9_standThere_24 rfl rfl ?_
  refine g_dup2 (pc := 25) dX9_standThere_25 rfl rfl ?_
  refine a_ild (pc := 26) aM_shapes dX9_standThere_26 ?_
  refine g_aload_n (pc := 27) 1 dX9_standThere_27 rfl rfl ?_
  refine gf_9_says (pc := 28) kf_X9_73 dX9_standThere_28 ?_
  refine g_sipush (pc := 31) (256) dX9_standThere_31 (by decide) ?_
  refine g_aload_n (pc := 34) 1 dX9_standThere_34 rfl rfl ?_
  refine gf_9_oneMemory (pc := 35) kf_X9_243 dX9_standThere_35 ?_
  refine g_imul (pc := 38) dX9_standThere_38 ?_
  refine g_aload_n (pc := 39) 1 dX9_standThere_39 rfl rfl ?_
  refine gf_9_twoMemory (pc := 40) kf_X9_252 dX9_standThere_40 ?_
  refine g_iadd (pc := 43) dX9_standThere_43 ?_
  refine a_ild (pc := 44) aM_says dX9_standThere_44 ?_
  refine g_iand (pc := 45) dX9_standThere_45 ?_
  refine a_ist (pc := 46) aM_shapes dX9_standThere_46 (fun s2 => ?_)
  exact g_vret (pc := 47) (hro _) rfl dX9_standThere_47
def b_X9_walkOne_20 (p : Int32) (q_ : Int32) : (Int32 × Int32 × St) → Option ((Int32 × Int32 × St) ⊕ (Int32 × St)) := un fun y1 => un fun y2 s2 => (if (3 : Int32) ≤ y2 then some (.inr (y1, s2)) else (if y2 = (2 : Int32) then (if y2 = (1 : Int32) then nm (y1 + (1 : Int32)) fun x1 => (f_X9_standThere s2).bind fun s3 => (f_X9_moverAt (s3.1 0 27) (s3.1 0 30) s3).bind fun r2 => some (.inl (x1, r2, s3)) else (f_X9_stepSecond q_ s2).bind fun s4 => nm (y1 + (1 : Int32)) fun x2 => (f_X9_standThere s4).bind fun s5 => (f_X9_moverAt (s5.1 0 27) (s5.1 0 30) s5).bind fun r3 => some (.inl (x2, r3, s5))) else (f_X9_stepFirst p s2).bind fun s6 => (if y2 = (1 : Int32) then nm (y1 + (1 : Int32)) fun x3 => (f_X9_standThere s6).bind fun s7 => (f_X9_moverAt (s7.1 0 27) (s7.1 0 30) s7).bind fun r4 => some (.inl (x3, r4, s7)) else (f_X9_stepSecond q_ s6).bind fun s8 => nm (y1 + (1 : Int32)) fun x4 => (f_X9_standThere s8).bind fun s9 => (f_X9_moverAt (s9.1 0 27) (s9.1 0 30) s9).bind fun r5 => some (.inl (x4, r5, s9)))))
def f_X9_walkOne (p : Int32) (q_ : Int32) (σ : St) : Option (St) := (f_X9_standThere σ).bind fun s1 => (f_X9_moverAt (s1.1 0 27) (s1.1 0 30) s1).bind fun r1 => (wh FU (b_X9_walkOne_20 p q_) ((0 : Int32), r1, s1)).bind (un fun z1 s10 => (if z1 ≤ (s10.1 0 37) then nm (stI s10 0 37 (s10.1 0 37)) fun s11 => some s11 else nm (stI s10 0 37 z1) fun s12 => some s12))
abbrev rm_X9_walkOne : Room := { frames := 2, cells := 0, slots := 0, locals := 45 }
set_option maxHeartbeats 4000000 in
set_option maxRecDepth 20000 in
theorem m_X9_walkOne (l : Launch) (D : va_G) (cy : Cy) (q : Nat → Nat) (σ : St) (p : Int32) (q_ : Int32)  : ∀ res, f_X9_walkOne p q_ σ = some res → MetX (vM D cy q) l yX9_walkOne cX9_walkOne 5 none rm_X9_walkOne [.ref (q 0), .int p, .int q_] σ (none, res) := by
  let fin_ : St → Option Value × St := fun r => (none, r)
  have hro : ∀ (z : St) (res : St), some z = some res → fin_ res = fin_ z := fun z res h => by cases h; rfl
  refine MetX.of1 (fin := fin_) (lv := [(0, .ref (q 0)), (1, .int p), (2, .int q_)]) (by decide) (Nat.le_of_ble_eq_true rfl) rfl ?_
  unfold f_X9_walkOne
  refine g_iconst (pc := 0) (0) dX9_walkOne_0 (by decide) ?_
  refine g_istore_n (pc := 1) (lv' := [(3, .int (0 : Int32)), (0, .ref (q 0)), (1, .int p), (2, .int q_)]) dX9_walkOne_1 rfl (Nat.le_of_ble_eq_true rfl) rfl ?_
  refine g_aload_n (pc := 2) 1 dX9_walkOne_2 rfl rfl ?_
  refine gV_v (pc := 3) [] [] (m_X9_standThere l D cy q σ) cw_X9_standThere km_X9_272 ⟨rfl, rfl, by decide, by decide⟩ (Nat.le_of_ble_eq_true rfl) (eM_9 (cy := cy) (σ.1 0) (σ.2 0)) rfl dX9_walkOne_3 rfl rfl (Nat.le_of_ble_eq_true rfl) (fun s1 => ?_)
  refine g_aload_n (pc := 6) 1 dX9_walkOne_6 rfl rfl ?_
  refine g_aload_n (pc := 7) 1 dX9_walkOne_7 rfl rfl ?_
  refine gf_9_oneLine (pc := 8) kf_X9_240 dX9_walkOne_8 ?_
  refine g_aload_n (pc := 11) 1 dX9_walkOne_11 rfl rfl ?_
  refine gf_9_twoLine (pc := 12) kf_X9_249 dX9_walkOne_12 ?_
  refine gV_i (pc := 15) [.int (s1.1 0 27), .int (s1.1 0 30)] [] (m_X9_moverAt l D cy q s1 (s1.1 0 27) (s1.1 0 30)) cw_X9_moverAt km_X9_275 ⟨rfl, rfl, by decide, by decide⟩ (Nat.le_of_ble_eq_true rfl) (eM_9 (cy := cy) (s1.1 0) (s1.2 0)) rfl dX9_walkOne_15 rfl rfl (Nat.le_of_ble_eq_true rfl) (fun r1 => ?_)
  refine g_istore (pc := 18) (lv' := [(4, .int r1), (3, .int (0 : Int32)), (0, .ref (q 0)), (1, .int p), (2, .int q_)]) dX9_walkOne_18 (Nat.le_of_ble_eq_true rfl) rfl ?_
  refine g_sub [2, 3, 4, 1, 0] rfl ?_
  refine g_wh2 (pc := 20) (s0 := ((0 : Int32), r1, s1)) (fun (w_ : Int32 × Int32 × St) => w_.2.2) (fun (w_ : Int32 × Int32 × St) => [(0, .ref (q 0)), (1, .int p), (2, .int q_), (3, .int w_.1), (4, .int w_.2.1)]) (fun (w_ : Int32 × St) => w_.2) (fun (w_ : Int32 × St) => [(0, .ref (q 0)), (3, .int w_.1)]) 72 ?_ ?_
  · rintro ⟨z1, s10⟩
    try dsimp only [un, Sum.elim_inl]
    refine g_aload_n (pc := 72) 0 dX9_walkOne_72 rfl rfl ?_
    refine g_iload_n (pc := 73) 1 dX9_walkOne_73 rfl rfl ?_
    refine g_aload_n (pc := 74) 0 dX9_walkOne_74 rfl rfl ?_
    refine gf_9_mostMoves (pc := 75) kf_X9_278 dX9_walkOne_75 ?_
    refine g_icmp_le (pc := 78) 85 dX9_walkOne_78 (by decide) ?_ ?_
    · refine g_aload_n (pc := 85) 0 dX9_walkOne_85 rfl rfl ?_
      refine gf_9_mostMoves (pc := 86) kf_X9_278 dX9_walkOne_86 ?_
      refine gp_9_mostMoves (pc := 89) kf_X9_278 dX9_walkOne_89 (fun s11 => ?_)
      exact g_vret (pc := 92) (hro _) rfl dX9_walkOne_92
    · refine g_iload_n (pc := 81) 1 dX9_walkOne_81 rfl rfl ?_
      refine g_goto (pc := 82) 89 dX9_walkOne_82 (by decide) ?_
      refine gp_9_mostMoves (pc := 89) kf_X9_278 dX9_walkOne_89 (fun s12 => ?_)
      exact g_vret (pc := 92) (hro _) rfl dX9_walkOne_92
  · intro K20 hx20 ih20
    rintro ⟨y1, y2, s2⟩
    try dsimp only [b_X9_walkOne_20, un]
    refine g_iload (pc := 20) 4 dX9_walkOne_20 rfl ?_
    refine g_iconst (pc := 22) (3) dX9_walkOne_22 (by decide) ?_
    refine g_icmp_ge (pc := 23) 72 dX9_walkOne_23 (by decide) ?_ ?_
    · exact g_sub [0, 3] rfl (hx20 (y1, s2))
    · refine g_iload (pc := 26) 4 dX9_walkOne_26 rfl ?_
      refine g_iconst (pc := 28) (2) dX9_walkOne_28 (by decide) ?_
      refine g_icmp_eq (pc := 29) 37 dX9_walkOne_29 (by decide) ?_ ?_
      · refine g_iload (pc := 37) 4 dX9_walkOne_37 rfl ?_
        refine g_iconst (pc := 39) (1) dX9_walkOne_39 (by decide) ?_
        refine g_icmp_eq (pc := 40) 48 dX9_walkOne_40 (by decide) ?_ ?_
        · refine g_iinc (pc := 48) (j := 3) (1) (lf := fun x1 => [(3, .int x1), (0, .ref (q 0)), (1, .int p), (2, .int q_), (4, .int y2)]) dX9_walkOne_48 rfl (by decide) (Nat.le_of_ble_eq_true rfl) (fun _ => rfl) (fun x1 => ?_)
          refine g_aload_n (pc := 51) 1 dX9_walkOne_51 rfl rfl ?_
          refine gV_v (pc := 52) [] [] (m_X9_standThere l D cy q s2) cw_X9_standThere km_X9_272 ⟨rfl, rfl, by decide, by decide⟩ (Nat.le_of_ble_eq_true rfl) (eM_9 (cy := cy) (s2.1 0) (s2.2 0)) rfl dX9_walkOne_52 rfl rfl (Nat.le_of_ble_eq_true rfl) (fun s3 => ?_)
          refine g_aload_n (pc := 55) 1 dX9_walkOne_55 rfl rfl ?_
          refine g_aload_n (pc := 56) 1 dX9_walkOne_56 rfl rfl ?_
          refine gf_9_oneLine (pc := 57) kf_X9_240 dX9_walkOne_57 ?_
          refine g_aload_n (pc := 60) 1 dX9_walkOne_60 rfl rfl ?_
          refine gf_9_twoLine (pc := 61) kf_X9_249 dX9_walkOne_61 ?_
          refine gV_i (pc := 64) [.int (s3.1 0 27), .int (s3.1 0 30)] [] (m_X9_moverAt l D cy q s3 (s3.1 0 27) (s3.1 0 30)) cw_X9_moverAt km_X9_275 ⟨rfl, rfl, by decide, by decide⟩ (Nat.le_of_ble_eq_true rfl) (eM_9 (cy := cy) (s3.1 0) (s3.2 0)) rfl dX9_walkOne_64 rfl rfl (Nat.le_of_ble_eq_true rfl) (fun r2 => ?_)
          refine g_istore (pc := 67) (lv' := [(4, .int r2), (3, .int x1), (0, .ref (q 0)), (1, .int p), (2, .int q_)]) dX9_walkOne_67 (Nat.le_of_ble_eq_true rfl) rfl ?_
          refine g_goto (pc := 69) 20 dX9_walkOne_69 (by decide) ?_
          exact g_sub [2, 3, 4, 1, 0] rfl (ih20 (x1, r2, s3))
        · refine g_aload_n (pc := 43) 0 dX9_walkOne_43 rfl rfl ?_
          refine g_iload_n (pc := 44) 2 dX9_walkOne_44 rfl rfl ?_
          refine gV_v (pc := 45) [.int q_] [] (m_X9_stepSecond l D cy q s2 q_) cw_X9_stepSecond km_X9_265 ⟨rfl, rfl, by decide, by decide⟩ (Nat.le_of_ble_eq_true rfl) (eM_9 (cy := cy) (s2.1 0) (s2.2 0)) rfl dX9_walkOne_45 rfl rfl (Nat.le_of_ble_eq_true rfl) (fun s4 => ?_)
          refine g_iinc (pc := 48) (j := 3) (1) (lf := fun x2 => [(3, .int x2), (0, .ref (q 0)), (1, .int p), (2, .int q_), (4, .int y2)]) dX9_walkOne_48 rfl (by decide) (Nat.le_of_ble_eq_true rfl) (fun _ => rfl) (fun x2 => ?_)
          refine g_aload_n (pc := 51) 1 dX9_walkOne_51 rfl rfl ?_
          refine gV_v (pc := 52) [] [] (m_X9_standThere l D cy q s4) cw_X9_standThere km_X9_272 ⟨rfl, rfl, by decide, by decide⟩ (Nat.le_of_ble_eq_true rfl) (eM_9 (cy := cy) (s4.1 0) (s4.2 0)) rfl dX9_walkOne_52 rfl rfl (Nat.le_of_ble_eq_true rfl) (fun s5 => ?_)
          refine g_aload_n (pc := 55) 1 dX9_walkOne_55 rfl rfl ?_
          refine g_aload_n (pc := 56) 1 dX9_walkOne_56 rfl rfl ?_
          refine gf_9_oneLine (pc := 57) kf_X9_240 dX9_walkOne_57 ?_
          refine g_aload_n (pc := 60) 1 dX9_walkOne_60 rfl rfl ?_
          refine gf_9_twoLine (pc := 61) kf_X9_249 dX9_walkOne_61 ?_
          refine gV_i (pc := 64) [.int (s5.1 0 27), .int (s5.1 0 30)] [] (m_X9_moverAt l D cy q s5 (s5.1 0 27) (s5.1 0 30)) cw_X9_moverAt km_X9_275 ⟨rfl, rfl, by decide, by decide⟩ (Nat.le_of_ble_eq_true rfl) (eM_9 (cy := cy) (s5.1 0) (s5.2 0)) rfl dX9_walkOne_64 rfl rfl (Nat.le_of_ble_eq_true rfl) (fun r3 => ?_)
          refine g_istore (pc := 67) (lv' := [(4, .int r3), (3, .int x2), (0, .ref (q 0)), (1, .int p), (2, .int q_)]) dX9_walkOne_67 (Nat.le_of_ble_eq_true rfl) rfl ?_
          refine g_goto (pc := 69) 20 dX9_walkOne_69 (by decide) ?_
          exact g_sub [2, 3, 4, 1, 0] rfl (ih20 (x2, r3, s5))
      · refine g_aload_n (pc := 32) 0 dX9_walkOne_32 rfl rfl ?_
        refine g_iload_n (pc := 33) 1 dX9_walkOne_33 rfl rfl ?_
        refine gV_v (pc := 34) [.int p] [] (m_X9_stepFirst l D cy q s2 p) cw_X9_stepFirst km_X9_262 ⟨rfl, rfl, by decide, by decide⟩ (Nat.le_of_ble_eq_true rfl) (eM_9 (cy := cy) (s2.1 0) (s2.2 0)) rfl dX9_walkOne_34 rfl rfl (Nat.le_of_ble_eq_true rfl) (fun s6 => ?_)
        refine g_iload (pc := 37) 4 dX9_walkOne_37 rfl ?_
        refine g_iconst (pc := 39) (1) dX9_walkOne_39 (by decide) ?_
        refine g_icmp_eq (pc := 40) 48 dX9_walkOne_40 (by decide) ?_ ?_
        · refine g_iinc (pc := 48) (j := 3) (1) (lf := fun x3 => [(3, .int x3), (0, .ref (q 0)), (1, .int p), (2, .int q_), (4, .int y2)]) dX9_walkOne_48 rfl (by decide) (Nat.le_of_ble_eq_true rfl) (fun _ => rfl) (fun x3 => ?_)
          refine g_aload_n (pc := 51) 1 dX9_walkOne_51 rfl rfl ?_
          refine gV_v (pc := 52) [] [] (m_X9_standThere l D cy q s6) cw_X9_standThere km_X9_272 ⟨rfl, rfl, by decide, by decide⟩ (Nat.le_of_ble_eq_true rfl) (eM_9 (cy := cy) (s6.1 0) (s6.2 0)) rfl dX9_walkOne_52 rfl rfl (Nat.le_of_ble_eq_true rfl) (fun s7 => ?_)
          refine g_aload_n (pc := 55) 1 dX9_walkOne_55 rfl rfl ?_
          refine g_aload_n (pc := 56) 1 dX9_walkOne_56 rfl rfl ?_
          refine gf_9_oneLine (pc := 57) kf_X9_240 dX9_walkOne_57 ?_
          refine g_aload_n (pc := 60) 1 dX9_walkOne_60 rfl rfl ?_
          refine gf_9_twoLine (pc := 61) kf_X9_249 dX9_walkOne_61 ?_
          refine gV_i (pc := 64) [.int (s7.1 0 27), .int (s7.1 0 30)] [] (m_X9_moverAt l D cy q s7 (s7.1 0 27) (s7.1 0 30)) cw_X9_moverAt km_X9_275 ⟨rfl, rfl, by decide, by decide⟩ (Nat.le_of_ble_eq_true rfl) (eM_9 (cy := cy) (s7.1 0) (s7.2 0)) rfl dX9_walkOne_64 rfl rfl (Nat.le_of_ble_eq_true rfl) (fun r4 => ?_)
          refine g_istore (pc := 67) (lv' := [(4, .int r4), (3, .int x3), (0, .ref (q 0)), (1, .int p), (2, .int q_)]) dX9_walkOne_67 (Nat.le_of_ble_eq_true rfl) rfl ?_
          refine g_goto (pc := 69) 20 dX9_walkOne_69 (by decide) ?_
          exact g_sub [2, 3, 4, 1, 0] rfl (ih20 (x3, r4, s7))
        · refine g_aload_n (pc := 43) 0 dX9_walkOne_43 rfl rfl ?_
          refine g_iload_n (pc := 44) 2 dX9_walkOne_44 rfl rfl ?_
          refine gV_v (pc := 45) [.int q_] [] (m_X9_stepSecond l D cy q s6 q_) cw_X9_stepSecond km_X9_265 ⟨rfl, rfl, by decide, by decide⟩ (Nat.le_of_ble_eq_true rfl) (eM_9 (cy := cy) (s6.1 0) (s6.2 0)) rfl dX9_walkOne_45 rfl rfl (Nat.le_of_ble_eq_true rfl) (fun s8 => ?_)
          refine g_iinc (pc := 48) (j := 3) (1) (lf := fun x4 => [(3, .int x4), (0, .ref (q 0)), (1, .int p), (2, .int q_), (4, .int y2)]) dX9_walkOne_48 rfl (by decide) (Nat.le_of_ble_eq_true rfl) (fun _ => rfl) (fun x4 => ?_)
          refine g_aload_n (pc := 51) 1 dX9_walkOne_51 rfl rfl ?_
          refine gV_v (pc := 52) [] [] (m_X9_standThere l D cy q s8) cw_X9_standThere km_X9_272 ⟨rfl, rfl, by decide, by decide⟩ (Nat.le_of_ble_eq_true rfl) (eM_9 (cy := cy) (s8.1 0) (s8.2 0)) rfl dX9_walkOne_52 rfl rfl (Nat.le_of_ble_eq_true rfl) (fun s9 => ?_)
          refine g_aload_n (pc := 55) 1 dX9_walkOne_55 rfl rfl ?_
          refine g_aload_n (pc := 56) 1 dX9_walkOne_56 rfl rfl ?_
          refine gf_9_oneLine (pc := 57) kf_X9_240 dX9_walkOne_57 ?_
          refine g_aload_n (pc := 60) 1 dX9_walkOne_60 rfl rfl ?_
          refine gf_9_twoLine (pc := 61) kf_X9_249 dX9_walkOne_61 ?_
          refine gV_i (pc := 64) [.int (s9.1 0 27), .int (s9.1 0 30)] [] (m_X9_moverAt l D cy q s9 (s9.1 0 27) (s9.1 0 30)) cw_X9_moverAt km_X9_275 ⟨rfl, rfl, by decide, by decide⟩ (Nat.le_of_ble_eq_true rfl) (eM_9 (cy := cy) (s9.1 0) (s9.2 0)) rfl dX9_walkOne_64 rfl rfl (Nat.le_of_ble_eq_true rfl) (fun r5 => ?_)
          refine g_istore (pc := 67) (lv' := [(4, .int r5), (3, .int x4), (0, .ref (q 0)), (1, .int p), (2, .int q_)]) dX9_walkOne_67 (Nat.le_of_ble_eq_true rfl) rfl ?_
          refine g_goto (pc := 69) 20 dX9_walkOne_69 (by decide) ?_
          exact g_sub [2, 3, 4, 1, 0] rfl (ih20 (x4, r5, s9))
