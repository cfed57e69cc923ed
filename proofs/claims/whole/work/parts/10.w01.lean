def f_X4_stepped (pa : Nat) (line : Int32) (memory : Int32) (σ : St) : Option (Int32) := (if line < (0 : Int32) then some ((3072 : Int32) + memory) else (if (σ.1 pa 5) ≤ line then some ((3072 : Int32) + memory) else (if line < (12 : Int32) then chk (inb line 12) (nm (σ.1 (pa + 2) line.toNatClampNeg) fun x1 => chk (inb line 12) ((f_X8_valueOf memory ((σ.1 (pa + 3) line.toNatClampNeg) &&& (3 : Int32))).bind fun r1 => chk (inb line 12) ((f_X8_valueOf memory ((σ.1 (pa + 4) line.toNatClampNeg) &&& (3 : Int32))).bind fun r2 => chk (inb line 12) ((if (σ.1 (pa + 1) line.toNatClampNeg) = (0 : Int32) then chk (inb line 12) ((f_X8_withValue memory x1 (σ.1 (pa + 3) line.toNatClampNeg)).bind fun r3 => (f_X4_stateAt pa (line + (1 : Int32)) r3 σ).bind fun r4 => some r4) else (if (σ.1 (pa + 1) line.toNatClampNeg) = (1 : Int32) then (f_X8_withValue memory x1 r1).bind fun r5 => (f_X4_stateAt pa (line + (1 : Int32)) r5 σ).bind fun r6 => some r6 else (if (σ.1 (pa + 1) line.toNatClampNeg) = (2 : Int32) then (f_X8_withValue memory x1 (r1 + r2)).bind fun r7 => (f_X4_stateAt pa (line + (1 : Int32)) r7 σ).bind fun r8 => some r8 else (if (σ.1 (pa + 1) line.toNatClampNeg) = (3 : Int32) then (f_X8_withValue memory x1 (r1 - r2)).bind fun r9 => (f_X4_stateAt pa (line + (1 : Int32)) r9 σ).bind fun r10 => some r10 else (if (σ.1 (pa + 1) line.toNatClampNeg) = (4 : Int32) then (if r2 = (0 : Int32) then some ((7168 : Int32) + memory) else chk (nz r2) ((f_X8_withValue memory x1 (r1 - r1 / r2 * r2)).bind fun r11 => (f_X4_stateAt pa (line + (1 : Int32)) r11 σ).bind fun r12 => some r12)) else (if (σ.1 (pa + 1) line.toNatClampNeg) = (5 : Int32) then (f_X8_valueOf memory x1).bind fun r13 => (if r13 ≤ (0 : Int32) then (f_X4_stateAt pa (line + (1 : Int32)) memory σ).bind fun r14 => some r14 else chk (inb line 12) ((f_X4_stateAt pa (σ.1 (pa + 3) line.toNatClampNeg) memory σ).bind fun r15 => some r15)) else (if (σ.1 (pa + 1) line.toNatClampNeg) = (6 : Int32) then (f_X4_stateAt pa (line + (1 : Int32)) memory σ).bind fun r16 => some r16 else some ((3072 : Int32) + memory)))))))))))) else some ((3072 : Int32) + memory))))
abbrev rm_X4_stepped : Room := { frames := 1, cells := 0, slots := 0, locals := 23 }
set_option maxHeartbeats 4000000 in
set_option maxRecDepth 20000 in
theorem m_X4_stepped (l : Launch) (D : va_G) (cy : Cy) (q : Nat → Nat) (σ : St) (pa : Nat) (line : Int32) (memory : Int32) (hpa : isP pa) : ∀ res, f_X4_stepped pa line memory σ = some res → MetX (vX D cy q) l yX4_stepped cX4_stepped 6 (some .int) rm_X4_stepped [.ref (q pa), .int line, .int memory] σ (some (.int res), σ) := by
  let fin_ : Int32 → Option Value × St := fun r => (some (.int r), σ)
  have hro : ∀ (z : Int32) (res : Int32), some z = some res → fin_ res = fin_ z := fun z res h => by cases h; rfl
  refine MetX.of1 (fin := fin_) (lv := [(0, .ref (q pa)), (1, .int line), (2, .int memory)]) (by decide) (Nat.le_of_ble_eq_true rfl) rfl ?_
  unfold f_X4_stepped
  refine g_iload_n (pc := 0) 1 dX4_stepped_0 rfl rfl ?_
  refine g_if_lt (pc := 1) 18 dX4_stepped_1 (by decide) ?_ ?_
  · refine g_sipush (pc := 18) (3072) dX4_stepped_18 (by decide) ?_
    refine g_iload_n (pc := 21) 2 dX4_stepped_21 rfl rfl ?_
    refine g_iadd (pc := 22) dX4_stepped_22 ?_
    exact g_iret (pc := 23) (hro _) rfl dX4_stepped_23
  · refine g_iload_n (pc := 4) 1 dX4_stepped_4 rfl rfl ?_
    refine g_aload_n (pc := 5) 0 dX4_stepped_5 rfl rfl ?_
    refine gf_4_size (pc := 6) hpa kf_X4_28 dX4_stepped_6 ?_
    refine g_icmp_ge (pc := 9) 18 dX4_stepped_9 (by decide) ?_ ?_
    · refine g_sipush (pc := 18) (3072) dX4_stepped_18 (by decide) ?_
      refine g_iload_n (pc := 21) 2 dX4_stepped_21 rfl rfl ?_
      refine g_iadd (pc := 22) dX4_stepped_22 ?_
      exact g_iret (pc := 23) (hro _) rfl dX4_stepped_23
    · refine g_iload_n (pc := 12) 1 dX4_stepped_12 rfl rfl ?_
      refine g_bipush (pc := 13) (12) dX4_stepped_13 (by decide) ?_
      refine g_icmp_lt (pc := 15) 24 dX4_stepped_15 (by decide) ?_ ?_
      · refine g_aload_n (pc := 24) 0 dX4_stepped_24 rfl rfl ?_
        refine gf_4_a (pc := 25) hpa kf_X4_19 dX4_stepped_25 ?_
        refine g_iload_n (pc := 28) 1 dX4_stepped_28 rfl rfl ?_
        refine a_ild (pc := 29) (aX_4_a hpa) dX4_stepped_29 ?_
        refine g_nmi (fun x1 => ?_)
        refine g_istore_n (pc := 30) (lv' := [(3, .int x1), (0, .ref (q pa)), (1, .int line), (2, .int memory)]) dX4_stepped_30 rfl (Nat.le_of_ble_eq_true rfl) rfl ?_
        refine g_iload_n (pc := 31) 3 dX4_stepped_31 rfl rfl ?_
        refine g_aload_n (pc := 32) 1 dX4_stepped_32 rfl rfl ?_
        refine gf_4_b (pc := 33) hpa kf_X4_22 dX4_stepped_33 ?_
        refine g_iload_n (pc := 36) 2 dX4_stepped_36 rfl rfl ?_
        refine a_ild (pc := 37) (aX_4_b hpa) dX4_stepped_37 ?_
        refine g_iconst (pc := 38) (3) dX4_stepped_38 (by decide) ?_
        refine g_iand (pc := 39) dX4_stepped_39 ?_
        refine gSN_i (pc := 40) [.int memory, .int ((σ.1 (pa + 3) line.toNatClampNeg) &&& (3 : Int32))] [] (m_X8_valueOf l (vX D cy q) σ memory ((σ.1 (pa + 3) line.toNatClampNeg) &&& (3 : Int32))) cw_X8_valueOf (fun _ h => h.2.1) ⟨rfl, rfl, by decide, by decide⟩ dX4_stepped_40 rfl rfl (Nat.le_of_ble_eq_true rfl) (fun r1 => ?_)
        refine g_istore (pc := 43) (lv' := [(4, .int r1), (3, .int x1), (0, .ref (q pa)), (1, .int line), (2, .int memory)]) dX4_stepped_43 (Nat.le_of_ble_eq_true rfl) rfl ?_
        refine g_iload_n (pc := 45) 4 dX4_stepped_45 rfl rfl ?_
        refine g_aload_n (pc := 46) 2 dX4_stepped_46 rfl rfl ?_
        refine gf_4_c (pc := 47) hpa kf_X4_25 dX4_stepped_47 ?_
        refine g_iload_n (pc := 50) 3 dX4_stepped_50 rfl rfl ?_
        refine a_ild (pc := 51) (aX_4_c hpa) dX4_stepped_51 ?_
        refine g_iconst (pc := 52) (3) dX4_stepped_52 (by decide) ?_
        refine g_iand (pc := 53) dX4_stepped_53 ?_
        refine gSN_i (pc := 54) [.int memory, .int ((σ.1 (pa + 4) line.toNatClampNeg) &&& (3 : Int32))] [] (m_X8_valueOf l (vX D cy q) σ memory ((σ.1 (pa + 4) line.toNatClampNeg) &&& (3 : Int32))) cw_X8_valueOf (fun _ h => h.2.1) ⟨rfl, rfl, by decide, by decide⟩ dX4_stepped_54 rfl rfl (Nat.le_of_ble_eq_true rfl) (fun r2 => ?_)
        refine g_istore (pc := 57) (lv' := [(5, .int r2), (4, .int r1), (3, .int x1), (0, .ref (q pa)), (1, .int line), (2, .int memory)]) dX4_stepped_57 (Nat.le_of_ble_eq_true rfl) rfl ?_
        refine g_aload_n (pc := 59) 3 dX4_stepped_59 rfl rfl ?_
        refine gf_4_act (pc := 60) hpa kf_X4_15 dX4_stepped_60 ?_
        refine g_iload_n (pc := 63) 4 dX4_stepped_63 rfl rfl ?_
        refine a_ild (pc := 64) (aX_4_act hpa) dX4_stepped_64 ?_
        refine g_if (fun c65_0 => ?_) (fun n65_0 => ?_)
        · refine g_tbl (pc := 65) (0) 108 dX4_stepped_65 (i32_eq (0) rfl c65_0) (by decide) (by decide) rfl (by decide) ?_
          refine g_aload_n (pc := 108) 3 dX4_stepped_108 rfl rfl ?_
          refine g_iload_n (pc := 109) 4 dX4_stepped_109 rfl rfl ?_
          refine g_iconst (pc := 110) (1) dX4_stepped_110 (by decide) ?_
          refine g_iadd (pc := 111) dX4_stepped_111 ?_
          refine g_iload_n (pc := 112) 5 dX4_stepped_112 rfl rfl ?_
          refine g_iload_n (pc := 113) 2 dX4_stepped_113 rfl rfl ?_
          refine g_aload_n (pc := 114) 3 dX4_stepped_114 rfl rfl ?_
          refine gf_4_b (pc := 115) hpa kf_X4_22 dX4_stepped_115 ?_
          refine g_iload_n (pc := 118) 4 dX4_stepped_118 rfl rfl ?_
          refine a_ild (pc := 119) (aX_4_b hpa) dX4_stepped_119 ?_
          refine gSN_i (pc := 120) [.int memory, .int x1, .int (σ.1 (pa + 3) line.toNatClampNeg)] [.int (line + (1 : Int32)), .ref (q pa)] (m_X8_withValue l D cy q σ memory x1 (σ.1 (pa + 3) line.toNatClampNeg)) cw_X8_withValue (fun _ h => h.2.2.1) ⟨rfl, rfl, by decide, by decide⟩ dX4_stepped_120 rfl rfl (Nat.le_of_ble_eq_true rfl) (fun r3 => ?_)
          refine gV_i (pc := 123) [.int (line + (1 : Int32)), .int r3] [] (m_X4_stateAt l D cy q σ pa (line + (1 : Int32)) r3 hpa) cw_X4_stateAt km_X4_71 ⟨rfl, rfl, by decide, by decide⟩ (by have := hpa.lt; show pa < 88; omega) (eX_4 (cy := cy) hpa (σ.1 pa) (σ.2 pa)) rfl dX4_stepped_123 rfl rfl (Nat.le_of_ble_eq_true rfl) (fun r4 => ?_)
          exact g_iret (pc := 126) (hro _) rfl dX4_stepped_126
        · refine g_if (fun c65_1 => ?_) (fun n65_1 => ?_)
          · refine g_tbl (pc := 65) (1) 127 dX4_stepped_65 (i32_eq (1) rfl c65_1) (by decide) (by decide) rfl (by decide) ?_
            refine g_aload_n (pc := 127) 3 dX4_stepped_127 rfl rfl ?_
            refine g_iload_n (pc := 128) 4 dX4_stepped_128 rfl rfl ?_
            refine g_iconst (pc := 129) (1) dX4_stepped_129 (by decide) ?_
            refine g_iadd (pc := 130) dX4_stepped_130 ?_
            refine g_iload_n (pc := 131) 5 dX4_stepped_131 rfl rfl ?_
            refine g_iload_n (pc := 132) 2 dX4_stepped_132 rfl rfl ?_
            refine g_iload (pc := 133) 1 dX4_stepped_133 rfl ?_
            refine gSN_i (pc := 135) [.int memory, .int x1, .int r1] [.int (line + (1 : Int32)), .ref (q pa)] (m_X8_withValue l D cy q σ memory x1 r1) cw_X8_withValue (fun _ h => h.2.2.1) ⟨rfl, rfl, by decide, by decide⟩ dX4_stepped_135 rfl rfl (Nat.le_of_ble_eq_true rfl) (fun r5 => ?_)
            refine gV_i (pc := 138) [.int (line + (1 : Int32)), .int r5] [] (m_X4_stateAt l D cy q σ pa (line + (1 : Int32)) r5 hpa) cw_X4_stateAt km_X4_71 ⟨rfl, rfl, by decide, by decide⟩ (by have := hpa.lt; show pa < 88; omega) (eX_4 (cy := cy) hpa (σ.1 pa) (σ.2 pa)) rfl dX4_stepped_138 rfl rfl (Nat.le_of_ble_eq_true rfl) (fun r6 => ?_)
            exact g_iret (pc := 141) (hro _) rfl dX4_stepped_141
          · refine g_if (fun c65_2 => ?_) (fun n65_2 => ?_)
            · refine g_tbl (pc := 65) (2) 142 dX4_stepped_65 (i32_eq (2) rfl c65_2) (by decide) (by decide) rfl (by decide) ?_
              refine g_aload_n (pc := 142) 3 dX4_stepped_142 rfl rfl ?_
              refine g_iload_n (pc := 143) 4 dX4_stepped_143 rfl rfl ?_
              refine g_iconst (pc := 144) (1) dX4_stepped_144 (by decide) ?_
              refine g_iadd (pc := 145) dX4_stepped_145 ?_
              refine g_iload_n (pc := 146) 5 dX4_stepped_146 rfl rfl ?_
              refine g_iload_n (pc := 147) 2 dX4_stepped_147 rfl rfl ?_
              refine g_iload (pc := 148) 1 dX4_stepped_148 rfl ?_
              refine g_iload (pc := 150) 0 dX4_stepped_150 rfl ?_
              refine g_iadd (pc := 152) dX4_stepped_152 ?_
              refine gSN_i (pc := 153) [.int memory, .int x1, .int (r1 + r2)] [.int (line + (1 : Int32)), .ref (q pa)] (m_X8_withValue l D cy q σ memory x1 (r1 + r2)) cw_X8_withValue (fun _ h => h.2.2.1) ⟨rfl, rfl, by decide, by decide⟩ dX4_stepped_153 rfl rfl (Nat.le_of_ble_eq_true rfl) (fun r7 => ?_)
              refine gV_i (pc := 156) [.int (line + (1 : Int32)), .int r7] [] (m_X4_stateAt l D cy q σ pa (line + (1 : Int32)) r7 hpa) cw_X4_stateAt km_X4_71 ⟨rfl, rfl, by decide, by decide⟩ (by have := hpa.lt; show pa < 88; omega) (eX_4 (cy := cy) hpa (σ.1 pa) (σ.2 pa)) rfl dX4_stepped_156 rfl rfl (Nat.le_of_ble_eq_true rfl) (fun r8 => ?_)
              exact g_iret (pc := 159) (hro _) rfl dX4_stepped_159
            · refine g_if (fun c65_3 => ?_) (fun n65_3 => ?_)
              · refine g_tbl (pc := 65) (3) 160 dX4_stepped_65 (i32_eq (3) rfl c65_3) (by decide) (by decide) rfl (by decide) ?_
                refine g_aload_n (pc := 160) 3 dX4_stepped_160 rfl rfl ?_
                refine g_iload_n (pc := 161) 4 dX4_stepped_161 rfl rfl ?_
                refine g_iconst (pc := 162) (1) dX4_stepped_162 (by decide) ?_
                refine g_iadd (pc := 163) dX4_stepped_163 ?_
                refine g_iload_n (pc := 164) 5 dX4_stepped_164 rfl rfl ?_
                refine g_iload_n (pc := 165) 2 dX4_stepped_165 rfl rfl ?_
                refine g_iload (pc := 166) 1 dX4_stepped_166 rfl ?_
                refine g_iload (pc := 168) 0 dX4_stepped_168 rfl ?_
                refine g_isub (pc := 170) dX4_stepped_170 ?_
                refine gSN_i (pc := 171) [.int memory, .int x1, .int (r1 - r2)] [.int (line + (1 : Int32)), .ref (q pa)] (m_X8_withValue l D cy q σ memory x1 (r1 - r2)) cw_X8_withValue (fun _ h => h.2.2.1) ⟨rfl, rfl, by decide, by decide⟩ dX4_stepped_171 rfl rfl (Nat.le_of_ble_eq_true rfl) (fun r9 => ?_)
                refine gV_i (pc := 174) [.int (line + (1 : Int32)), .int r9] [] (m_X4_stateAt l D cy q σ pa (line + (1 : Int32)) r9 hpa) cw_X4_stateAt km_X4_71 ⟨rfl, rfl, by decide, by decide⟩ (by have := hpa.lt; show pa < 88; omega) (eX_4 (cy := cy) hpa (σ.1 pa) (σ.2 pa)) rfl dX4_stepped_174 rfl rfl (Nat.le_of_ble_eq_true rfl) (fun r10 => ?_)
                exact g_iret (pc := 177) (hro _) rfl dX4_stepped_177
              · refine g_if (fun c65_4 => ?_) (fun n65_4 => ?_)
                · refine g_tbl (pc := 65) (4) 178 dX4_stepped_65 (i32_eq (4) rfl c65_4) (by decide) (by decide) rfl (by decide) ?_
                  refine g_iload (pc := 178) 0 dX4_stepped_178 rfl ?_
                  refine g_if_ne (pc := 180) 189 dX4_stepped_180 (by decide) ?_ ?_
                  · refine g_aload_n (pc := 189) 3 dX4_stepped_189 rfl rfl ?_
                    refine g_iload_n (pc := 190) 4 dX4_stepped_190 rfl rfl ?_
                    refine g_iconst (pc := 191) (1) dX4_stepped_191 (by decide) ?_
                    refine g_iadd (pc := 192) dX4_stepped_192 ?_
                    refine g_iload_n (pc := 193) 5 dX4_stepped_193 rfl rfl ?_
                    refine g_iload_n (pc := 194) 2 dX4_stepped_194 rfl rfl ?_
                    refine g_iload (pc := 195) 1 dX4_stepped_195 rfl ?_
                    refine g_iload (pc := 197) 0 dX4_stepped_197 rfl ?_
                    refine g_irem (pc := 199) dX4_stepped_199 ?_
                    refine gSN_i (pc := 200) [.int memory, .int x1, .int (r1 - r1 / r2 * r2)] [.int (line + (1 : Int32)), .ref (q pa)] (m_X8_withValue l D cy q σ memory x1 (r1 - r1 / r2 * r2)) cw_X8_withValue (fun _ h => h.2.2.1) ⟨rfl, rfl, by decide, by decide⟩ dX4_stepped_200 rfl rfl (Nat.le_of_ble_eq_true rfl) (fun r11 => ?_)
                    refine gV_i (pc := 203) [.int (line + (1 : Int32)), .int r11] [] (m_X4_stateAt l D cy q σ pa (line + (1 : Int32)) r11 hpa) cw_X4_stateAt km_X4_71 ⟨rfl, rfl, by decide, by decide⟩ (by have := hpa.lt; show pa < 88; omega) (eX_4 (cy := cy) hpa (σ.1 pa) (σ.2 pa)) rfl dX4_stepped_203 rfl rfl (Nat.le_of_ble_eq_true rfl) (fun r12 => ?_)
                    exact g_iret (pc := 206) (hro _) rfl dX4_stepped_206
                  · refine g_sipush (pc := 183) (7168) dX4_stepped_183 (by decide) ?_
                    refine g_iload_n (pc := 186) 5 dX4_stepped_186 rfl rfl ?_
                    refine g_iadd (pc := 187) dX4_stepped_187 ?_
                    exact g_iret (pc := 188) (hro _) rfl dX4_stepped_188
                · refine g_if (fun c65_5 => ?_) (fun n65_5 => ?_)
                  · refine g_tbl (pc := 65) (5) 207 dX4_stepped_65 (i32_eq (5) rfl c65_5) (by decide) (by decide) rfl (by decide) ?_
                    refine g_aload_n (pc := 207) 3 dX4_stepped_207 rfl rfl ?_
                    refine g_iload_n (pc := 208) 5 dX4_stepped_208 rfl rfl ?_
                    refine g_iload_n (pc := 209) 2 dX4_stepped_209 rfl rfl ?_
                    refine gSN_i (pc := 210) [.int memory, .int x1] [.ref (q pa)] (m_X8_valueOf l (vX D cy q) σ memory x1) cw_X8_valueOf (fun _ h => h.2.1) ⟨rfl, rfl, by decide, by decide⟩ dX4_stepped_210 rfl rfl (Nat.le_of_ble_eq_true rfl) (fun r13 => ?_)
                    refine g_if_le (pc := 213) 225 dX4_stepped_213 (by decide) ?_ ?_
                    · refine g_iload_n (pc := 225) 4 dX4_stepped_225 rfl rfl ?_
                      refine g_iconst (pc := 226) (1) dX4_stepped_226 (by decide) ?_
                      refine g_iadd (pc := 227) dX4_stepped_227 ?_
                      refine g_iload_n (pc := 228) 5 dX4_stepped_228 rfl rfl ?_
                      refine gV_i (pc := 229) [.int (line + (1 : Int32)), .int memory] [] (m_X4_stateAt l D cy q σ pa (line + (1 : Int32)) memory hpa) cw_X4_stateAt km_X4_71 ⟨rfl, rfl, by decide, by decide⟩ (by have := hpa.lt; show pa < 88; omega) (eX_4 (cy := cy) hpa (σ.1 pa) (σ.2 pa)) rfl dX4_stepped_229 rfl rfl (Nat.le_of_ble_eq_true rfl) (fun r14 => ?_)
                      exact g_iret (pc := 232) (hro _) rfl dX4_stepped_232
                    · refine g_aload_n (pc := 216) 3 dX4_stepped_216 rfl rfl ?_
                      refine gf_4_b (pc := 217) hpa kf_X4_22 dX4_stepped_217 ?_
                      refine g_iload_n (pc := 220) 4 dX4_stepped_220 rfl rfl ?_
                      refine a_ild (pc := 221) (aX_4_b hpa) dX4_stepped_221 ?_
                      refine g_goto (pc := 222) 228 dX4_stepped_222 (by decide) ?_
                      refine g_iload_n (pc := 228) 5 dX4_stepped_228 rfl rfl ?_
                      refine gV_i (pc := 229) [.int (σ.1 (pa + 3) line.toNatClampNeg), .int memory] [] (m_X4_stateAt l D cy q σ pa (σ.1 (pa + 3) line.toNatClampNeg) memory hpa) cw_X4_stateAt km_X4_71 ⟨rfl, rfl, by decide, by decide⟩ (by have := hpa.lt; show pa < 88; omega) (eX_4 (cy := cy) hpa (σ.1 pa) (σ.2 pa)) rfl dX4_stepped_229 rfl rfl (Nat.le_of_ble_eq_true rfl) (fun r15 => ?_)
                      exact g_iret (pc := 232) (hro _) rfl dX4_stepped_232
                  · refine g_if (fun c65_6 => ?_) (fun n65_6 => ?_)
                    · refine g_tbl (pc := 65) (6) 233 dX4_stepped_65 (i32_eq (6) rfl c65_6) (by decide) (by decide) rfl (by decide) ?_
                      refine g_aload_n (pc := 233) 3 dX4_stepped_233 rfl rfl ?_
                      refine g_iload_n (pc := 234) 4 dX4_stepped_234 rfl rfl ?_
                      refine g_iconst (pc := 235) (1) dX4_stepped_235 (by decide) ?_
                      refine g_iadd (pc := 236) dX4_stepped_236 ?_
                      refine g_iload_n (pc := 237) 5 dX4_stepped_237 rfl rfl ?_
                      refine gV_i (pc := 238) [.int (line + (1 : Int32)), .int memory] [] (m_X4_stateAt l D cy q σ pa (line + (1 : Int32)) memory hpa) cw_X4_stateAt km_X4_71 ⟨rfl, rfl, by decide, by decide⟩ (by have := hpa.lt; show pa < 88; omega) (eX_4 (cy := cy) hpa (σ.1 pa) (σ.2 pa)) rfl dX4_stepped_238 rfl rfl (Nat.le_of_ble_eq_true rfl) (fun r16 => ?_)
                      exact g_iret (pc := 241) (hro _) rfl dX4_stepped_241
                    · refine g_tblOut (pc := 65) 242 dX4_stepped_65 (by have e0 := i32_ne (0) rfl n65_0; have e1 := i32_ne (1) rfl n65_1; have e2 := i32_ne (2) rfl n65_2; have e3 := i32_ne (3) rfl n65_3; have e4 := i32_ne (4) rfl n65_4; have e5 := i32_ne (5) rfl n65_5; have e6 := i32_ne (6) rfl n65_6; omega) (by decide) ?_
                      refine g_sipush (pc := 242) (3072) dX4_stepped_242 (by decide) ?_
                      refine g_iload_n (pc := 245) 5 dX4_stepped_245 rfl rfl ?_
                      refine g_iadd (pc := 246) dX4_stepped_246 ?_
                      exact g_iret (pc := 247) (hro _) rfl dX4_stepped_247
      · refine g_sipush (pc := 18) (3072) dX4_stepped_18 (by decide) ?_
        refine g_iload_n (pc := 21) 2 dX4_stepped_21 rfl rfl ?_
        refine g_iadd (pc := 22) dX4_stepped_22 ?_
        exact g_iret (pc := 23) (hro _) rfl dX4_stepped_23
def f_X4_steppedState (pa : Nat) (line : Int32) (memory : Int32) (σ : St) : Option (Int32) := (f_X4_stepped pa line memory σ).bind fun r1 => some (r1 &&& (4095 : Int32))
abbrev rm_X4_steppedState : Room := { frames := 2, cells := 0, slots := 0, locals := 48 }
set_option maxHeartbeats 4000000 in
set_option maxRecDepth 20000 in
theorem m_X4_steppedState (l : Launch) (D : va_G) (cy : Cy) (q : Nat → Nat) (σ : St) (pa : Nat) (line : Int32) (memory : Int32) (hpa : isP pa) : ∀ res, f_X4_steppedState pa line memory σ = some res → MetX (vX D cy q) l yX4_steppedState cX4_steppedState 3 (some .int) rm_X4_steppedState [.ref (q pa), .int line, .int memory] σ (some (.int res), σ) := by
  let fin_ : Int32 → Option Value × St := fun r => (some (.int r), σ)
  have hro : ∀ (z : Int32) (res : Int32), some z = some res → fin_ res = fin_ z := fun z res h => by cases h; rfl
  refine MetX.of1 (fin := fin_) (lv := [(0, .ref (q pa)), (1, .int line), (2, .int memory)]) (by decide) (Nat.le_of_ble_eq_true rfl) rfl ?_
  unfold f_X4_steppedState
  refine g_aload_n (pc := 0) 0 dX4_steppedState_0 rfl rfl ?_
  refine g_iload_n (pc := 1) 1 dX4_steppedState_1 rfl rfl ?_
  refine g_iload_n (pc := 2) 2 dX4_steppedState_2 rfl rfl ?_
  refine gV_i (pc := 3) [.int line, .int memory] [] (m_X4_stepped l D cy q σ pa line memory hpa) cw_X4_stepped km_X4_74 ⟨rfl, rfl, by decide, by decide⟩ (by have := hpa.lt; show pa < 88; omega) (eX_4 (cy := cy) hpa (σ.1 pa) (σ.2 pa)) rfl dX4_steppedState_3 rfl rfl (Nat.le_of_ble_eq_true rfl) (fun r1 => ?_)
  refine g_sipush (pc := 6) (4095) dX4_steppedState_6 (by decide) ?_
  refine g_iand (pc := 9) dX4_steppedState_9 ?_
  exact g_iret (pc := 10) (hro _) rfl dX4_steppedState_10
def b_X2_reach_41 (p : Nat) (q_ : Nat) : (Int32 × St) → Option ((Int32 × St) ⊕ (St)) := un fun y1 s4 => (if (s4.1 84 2) ≤ y1 then some (.inr s4) else (if (43264 : Int32) ≤ y1 then some (.inr s4) else chk (inb y1 43264) (chk (nz (256 : Int32)) (nm ((s4.1 85 y1.toNatClampNeg) - (s4.1 85 y1.toNatClampNeg) / (256 : Int32) * (256 : Int32)) fun x1 => chk (inb y1 43264) (chk (nz (256 : Int32)) (chk (nz (13 : Int32)) (nm (((s4.1 85 y1.toNatClampNeg) / (256 : Int32)) / (13 : Int32)) fun x2 => chk (inb y1 43264) (chk (nz (256 : Int32)) (chk (nz (13 : Int32)) (nm (((s4.1 85 y1.toNatClampNeg) / (256 : Int32)) - ((s4.1 85 y1.toNatClampNeg) / (256 : Int32)) / (13 : Int32) * (13 : Int32)) fun x3 => (if x2 = (12 : Int32) then (if x3 = (12 : Int32) then nm (y1 + (1 : Int32)) fun x4 => some (.inl (x4, s4)) else (f_X4_steppedState q_ x3 x1 s4).bind fun r3 => chk (nz (256 : Int32)) (chk (nz (256 : Int32)) ((f_X2_add x2 (r3 / (256 : Int32)) (r3 - r3 / (256 : Int32) * (256 : Int32)) s4).bind fun s5 => nm (y1 + (1 : Int32)) fun x5 => some (.inl (x5, s5))))) else (f_X4_steppedState p x2 x1 s4).bind fun r4 => chk (nz (256 : Int32)) (chk (nz (256 : Int32)) ((f_X2_add (r4 / (256 : Int32)) x3 (r4 - r4 / (256 : Int32) * (256 : Int32)) s4).bind fun s6 => (if x3 = (12 : Int32) then nm (y1 + (1 : Int32)) fun x6 => some (.inl (x6, s6)) else (f_X4_steppedState q_ x3 x1 s6).bind fun r5 => chk (nz (256 : Int32)) (chk (nz (256 : Int32)) ((f_X2_add x2 (r5 / (256 : Int32)) (r5 - r5 / (256 : Int32) * (256 : Int32)) s6).bind fun s7 => nm (y1 + (1 : Int32)) fun x7 => some (.inl (x7, s7))))))))))))))))))
def f_X2_reach (p : Nat) (q_ : Nat) (memory : Int32) (σ : St) : Option (St) := (f_J7_fill_d0a16 86 676 (0 : Int64) σ).bind fun s1 => nm (stI s1 84 2 (0 : Int32)) fun s2 => (f_X4_stateAt p (0 : Int32) memory s2).bind fun r1 => chk (nz (256 : Int32)) ((f_X4_stateAt q_ (0 : Int32) memory s2).bind fun r2 => chk (nz (256 : Int32)) ((f_X2_add (r1 / (256 : Int32)) (r2 / (256 : Int32)) memory s2).bind fun s3 => (wh FU (b_X2_reach_41 p q_) ((0 : Int32), s3)).bind (fun s8 => some s8)))
abbrev rm_X2_reach : Room := { frames := 3, cells := 0, slots := 0, locals := 70 }
set_option maxHeartbeats 4000000 in
set_option maxRecDepth 20000 in
theorem m_X2_reach (l : Launch) (D : va_G) (cy : Cy) (q : Nat → Nat) (σ : St) (p : Nat) (q_ : Nat) (memory : Int32) (hp : isP p) (hq_ : isP q_) : ∀ res, f_X2_reach p q_ memory σ = some res → MetX (vX D cy q) l yX2_reach cX2_reach 9 none rm_X2_reach [.ref (q 84), .ref (q p), .ref (q q_), .int memory] σ (none, res) := by
  let fin_ : St → Option Value × St := fun r => (none, r)
  have hro : ∀ (z : St) (res : St), some z = some res → fin_ res = fin_ z := fun z res h => by cases h; rfl
  refine MetX.of1 (fin := fin_) (lv := [(0, .ref (q 84)), (1, .ref (q p)), (2, .ref (q q_)), (3, .int memory)]) (by decide) (Nat.le_of_ble_eq_true rfl) rfl ?_
  unfold f_X2_reach
  refine g_aload_n (pc := 0) 0 dX2_reach_0 rfl rfl ?_
  refine gf_2_seen (pc := 1) kf_X2_23 dX2_reach_1 ?_
  refine g_lconst (pc := 4) (0) dX2_reach_4 (by decide) ?_
  refine gS_v (pc := 5) [.ref (q 86), .long (0 : Int64)] [] (m_J7_fill_d0a16 l (vX D cy q) σ 86 676 (0 : Int64) aX_2_seen) cw_J7_fill_d0a16 km_X2_27 ⟨rfl, rfl, by decide, by decide⟩ dX2_reach_5 rfl rfl (Nat.le_of_ble_eq_true rfl) (fun s1 => ?_)
  refine g_aload_n (pc := 8) 0 dX2_reach_8 rfl rfl ?_
  refine g_iconst (pc := 9) (0) dX2_reach_9 (by decide) ?_
  refine gp_2_reached (pc := 10) kf_X2_20 dX2_reach_10 (fun s2 => ?_)
  refine g_aload_n (pc := 13) 0 dX2_reach_13 rfl rfl ?_
  refine g_aload_n (pc := 14) 1 dX2_reach_14 rfl rfl ?_
  refine g_iconst (pc := 15) (0) dX2_reach_15 (by decide) ?_
  refine g_iload_n (pc := 16) 3 dX2_reach_16 rfl rfl ?_
  refine gVN_i (pc := 17) [.int (0 : Int32), .int memory] [.ref (q 84)] (m_X4_stateAt l D cy q s2 p (0 : Int32) memory hp) cw_X4_stateAt (fun _ h => h.2.2.2.2) ⟨rfl, rfl, by decide, by decide⟩ (by have := hp.lt; show p < 88; omega) (eX_4 (cy := cy) hp (s2.1 p) (s2.2 p)) rfl dX2_reach_17 rfl rfl (Nat.le_of_ble_eq_true rfl) (fun r1 => ?_)
  refine g_sipush (pc := 20) (256) dX2_reach_20 (by decide) ?_
  refine g_idiv (pc := 23) dX2_reach_23 ?_
  refine g_aload_n (pc := 24) 2 dX2_reach_24 rfl rfl ?_
  refine g_iconst (pc := 25) (0) dX2_reach_25 (by decide) ?_
  refine g_iload_n (pc := 26) 3 dX2_reach_26 rfl rfl ?_
  refine gVN_i (pc := 27) [.int (0 : Int32), .int memory] [.int (r1 / (256 : Int32)), .ref (q 84)] (m_X4_stateAt l D cy q s2 q_ (0 : Int32) memory hq_) cw_X4_stateAt (fun _ h => h.2.2.2.2) ⟨rfl, rfl, by decide, by decide⟩ (by have := hq_.lt; show q_ < 88; omega) (eX_4 (cy := cy) hq_ (s2.1 q_) (s2.2 q_)) rfl dX2_reach_27 rfl rfl (Nat.le_of_ble_eq_true rfl) (fun r2 => ?_)
  refine g_sipush (pc := 30) (256) dX2_reach_30 (by decide) ?_
  refine g_idiv (pc := 33) dX2_reach_33 ?_
  refine g_iload_n (pc := 34) 3 dX2_reach_34 rfl rfl ?_
  refine gV_v (pc := 35) [.int (r1 / (256 : Int32)), .int (r2 / (256 : Int32)), .int memory] [] (m_X2_add l D cy q s2 (r1 / (256 : Int32)) (r2 / (256 : Int32)) memory) cw_X2_add km_X2_39 ⟨rfl, rfl, by decide, by decide⟩ (Nat.le_of_ble_eq_true rfl) (eX_2 (cy := cy) (s2.1 84) (s2.2 84)) rfl dX2_reach_35 rfl rfl (Nat.le_of_ble_eq_true rfl) (fun s3 => ?_)
  refine g_iconst (pc := 38) (0) dX2_reach_38 (by decide) ?_
  refine g_istore (pc := 39) (lv' := [(4, .int (0 : Int32)), (0, .ref (q 84)), (1, .ref (q p)), (2, .ref (q q_)), (3, .int memory)]) dX2_reach_39 (Nat.le_of_ble_eq_true rfl) rfl ?_
  refine g_sub [1, 2, 3, 0] rfl ?_
  refine g_wh2 (pc := 41) (s0 := ((0 : Int32), s3)) (fun (w_ : Int32 × St) => w_.2) (fun (w_ : Int32 × St) => [(0, .ref (q 84)), (1, .ref (q p)), (2, .ref (q q_)), (4, .int w_.1)]) (fun (w_ : St) => w_) (fun (w_ : St) => []) 178 ?_ ?_
  · rintro s8
    try dsimp only [un, Sum.elim_inl]
    exact g_vret (pc := 178) (hro _) rfl dX2_reach_178
  · intro K41 hx41 ih41
    rintro ⟨y1, s4⟩
    try dsimp only [b_X2_reach_41, un]
    refine g_iload (pc := 41) 3 dX2_reach_41 rfl ?_
    refine g_aload_n (pc := 43) 0 dX2_reach_43 rfl rfl ?_
    refine gf_2_reached (pc := 44) kf_X2_20 dX2_reach_44 ?_
    refine g_icmp_ge (pc := 47) 178 dX2_reach_47 (by decide) ?_ ?_
    · exact g_sub [] rfl (hx41 s4)
    · refine g_iload (pc := 50) 3 dX2_reach_50 rfl ?_
      refine g_ldc (pc := 52) dX2_reach_52 ki_X2_15 ?_
      refine g_icmp_ge (pc := 54) 178 dX2_reach_54 (by decide) ?_ ?_
      · exact g_sub [] rfl (hx41 s4)
      · refine g_aload_n (pc := 57) 0 dX2_reach_57 rfl rfl ?_
        refine gf_2_queue (pc := 58) kf_X2_16 dX2_reach_58 ?_
        refine g_iload (pc := 61) 3 dX2_reach_61 rfl ?_
        refine a_ild (pc := 63) aX_2_queue dX2_reach_63 ?_
        refine g_sipush (pc := 64) (256) dX2_reach_64 (by decide) ?_
        refine g_irem (pc := 67) dX2_reach_67 ?_
        refine g_nmi (fun x1 => ?_)
        refine g_istore (pc := 68) (lv' := [(5, .int x1), (0, .ref (q 84)), (1, .ref (q p)), (2, .ref (q q_)), (4, .int y1)]) dX2_reach_68 (Nat.le_of_ble_eq_true rfl) rfl ?_
        refine g_aload_n (pc := 70) 1 dX2_reach_70 rfl rfl ?_
        refine gf_2_queue (pc := 71) kf_X2_16 dX2_reach_71 ?_
        refine g_iload (pc := 74) 4 dX2_reach_74 rfl ?_
        refine a_ild (pc := 76) aX_2_queue dX2_reach_76 ?_
        refine g_sipush (pc := 77) (256) dX2_reach_77 (by decide) ?_
        refine g_idiv (pc := 80) dX2_reach_80 ?_
        refine g_bipush (pc := 81) (13) dX2_reach_81 (by decide) ?_
        refine g_idiv (pc := 83) dX2_reach_83 ?_
        refine g_nmi (fun x2 => ?_)
        refine g_istore (pc := 84) (lv' := [(6, .int x2), (5, .int x1), (0, .ref (q 84)), (1, .ref (q p)), (2, .ref (q q_)), (4, .int y1)]) dX2_reach_84 (Nat.le_of_ble_eq_true rfl) rfl ?_
        refine g_aload_n (pc := 86) 2 dX2_reach_86 rfl rfl ?_
        refine gf_2_queue (pc := 87) kf_X2_16 dX2_reach_87 ?_
        refine g_iload (pc := 90) 5 dX2_reach_90 rfl ?_
        refine a_ild (pc := 92) aX_2_queue dX2_reach_92 ?_
        refine g_sipush (pc := 93) (256) dX2_reach_93 (by decide) ?_
        refine g_idiv (pc := 96) dX2_reach_96 ?_
        refine g_bipush (pc := 97) (13) dX2_reach_97 (by decide) ?_
        refine g_irem (pc := 99) dX2_reach_99 ?_
        refine g_nmi (fun x3 => ?_)
        refine g_istore (pc := 100) (lv' := [(7, .int x3), (6, .int x2), (5, .int x1), (0, .ref (q 84)), (1, .ref (q p)), (2, .ref (q q_)), (4, .int y1)]) dX2_reach_100 (Nat.le_of_ble_eq_true rfl) rfl ?_
        refine g_iload (pc := 102) 1 dX2_reach_102 rfl ?_
        refine g_bipush (pc := 104) (12) dX2_reach_104 (by decide) ?_
        refine g_icmp_eq (pc := 106) 137 dX2_reach_106 (by decide) ?_ ?_
        · refine g_iload (pc := 137) 0 dX2_reach_137 rfl ?_
          refine g_bipush (pc := 139) (12) dX2_reach_139 (by decide) ?_
          refine g_icmp_eq (pc := 141) 172 dX2_reach_141 (by decide) ?_ ?_
          · refine g_iinc (pc := 172) (j := 6) (1) (lf := fun x4 => [(4, .int x4), (7, .int x3), (6, .int x2), (5, .int x1), (0, .ref (q 84)), (1, .ref (q p)), (2, .ref (q q_))]) dX2_reach_172 rfl (by decide) (Nat.le_of_ble_eq_true rfl) (fun _ => rfl) (fun x4 => ?_)
            refine g_goto (pc := 175) 41 dX2_reach_175 (by decide) ?_
            exact g_sub [4, 5, 6, 0] rfl (ih41 (x4, s4))
          · refine g_aload_n (pc := 144) 5 dX2_reach_144 rfl rfl ?_
            refine g_iload (pc := 145) 0 dX2_reach_145 rfl ?_
            refine g_iload (pc := 147) 2 dX2_reach_147 rfl ?_
            refine gV_i (pc := 149) [.int x3, .int x1] [] (m_X4_steppedState l D cy q s4 q_ x3 x1 hq_) cw_X4_steppedState km_X2_43 ⟨rfl, rfl, by decide, by decide⟩ (by have := hq_.lt; show q_ < 88; omega) (eX_4 (cy := cy) hq_ (s4.1 q_) (s4.2 q_)) rfl dX2_reach_149 rfl rfl (Nat.le_of_ble_eq_true rfl) (fun r3 => ?_)
            refine g_istore (pc := 152) (lv' := [(8, .int r3), (7, .int x3), (6, .int x2), (5, .int x1), (0, .ref (q 84)), (1, .ref (q p)), (2, .ref (q q_)), (4, .int y1)]) dX2_reach_152 (Nat.le_of_ble_eq_true rfl) rfl ?_
            refine g_aload_n (pc := 154) 4 dX2_reach_154 rfl rfl ?_
            refine g_iload (pc := 155) 2 dX2_reach_155 rfl ?_
            refine g_iload (pc := 157) 0 dX2_reach_157 rfl ?_
            refine g_sipush (pc := 159) (256) dX2_reach_159 (by decide) ?_
            refine g_idiv (pc := 162) dX2_reach_162 ?_
            refine g_iload (pc := 163) 0 dX2_reach_163 rfl ?_
            refine g_sipush (pc := 165) (256) dX2_reach_165 (by decide) ?_
            refine g_irem (pc := 168) dX2_reach_168 ?_
            refine gV_v (pc := 169) [.int x2, .int (r3 / (256 : Int32)), .int (r3 - r3 / (256 : Int32) * (256 : Int32))] [] (m_X2_add l D cy q s4 x2 (r3 / (256 : Int32)) (r3 - r3 / (256 : Int32) * (256 : Int32))) cw_X2_add km_X2_39 ⟨rfl, rfl, by decide, by decide⟩ (Nat.le_of_ble_eq_true rfl) (eX_2 (cy := cy) (s4.1 84) (s4.2 84)) rfl dX2_reach_169 rfl rfl (Nat.le_of_ble_eq_true rfl) (fun s5 => ?_)
            refine g_iinc (pc := 172) (j := 7) (1) (lf := fun x5 => [(4, .int x5), (8, .int r3), (7, .int x3), (6, .int x2), (5, .int x1), (0, .ref (q 84)), (1, .ref (q p)), (2, .ref (q q_))]) dX2_reach_172 rfl (by decide) (Nat.le_of_ble_eq_true rfl) (fun _ => rfl) (fun x5 => ?_)
            refine g_goto (pc := 175) 41 dX2_reach_175 (by decide) ?_
            exact g_sub [5, 6, 7, 0] rfl (ih41 (x5, s5))
        · refine g_aload_n (pc := 109) 4 dX2_reach_109 rfl rfl ?_
          refine g_iload (pc := 110) 1 dX2_reach_110 rfl ?_
          refine g_iload (pc := 112) 2 dX2_reach_112 rfl ?_
          refine gV_i (pc := 114) [.int x2, .int x1] [] (m_X4_steppedState l D cy q s4 p x2 x1 hp) cw_X4_steppedState km_X2_43 ⟨rfl, rfl, by decide, by decide⟩ (by have := hp.lt; show p < 88; omega) (eX_4 (cy := cy) hp (s4.1 p) (s4.2 p)) rfl dX2_reach_114 rfl rfl (Nat.le_of_ble_eq_true rfl) (fun r4 => ?_)
          refine g_istore (pc := 117) (lv' := [(8, .int r4), (7, .int x3), (6, .int x2), (5, .int x1), (0, .ref (q 84)), (1, .ref (q p)), (2, .ref (q q_)), (4, .int y1)]) dX2_reach_117 (Nat.le_of_ble_eq_true rfl) rfl ?_
          refine g_aload_n (pc := 119) 4 dX2_reach_119 rfl rfl ?_
          refine g_iload (pc := 120) 0 dX2_reach_120 rfl ?_
          refine g_sipush (pc := 122) (256) dX2_reach_122 (by decide) ?_
          refine g_idiv (pc := 125) dX2_reach_125 ?_
          refine g_iload (pc := 126) 1 dX2_reach_126 rfl ?_
          refine g_iload (pc := 128) 0 dX2_reach_128 rfl ?_
          refine g_sipush (pc := 130) (256) dX2_reach_130 (by decide) ?_
          refine g_irem (pc := 133) dX2_reach_133 ?_
          refine gV_v (pc := 134) [.int (r4 / (256 : Int32)), .int x3, .int (r4 - r4 / (256 : Int32) * (256 : Int32))] [] (m_X2_add l D cy q s4 (r4 / (256 : Int32)) x3 (r4 - r4 / (256 : Int32) * (256 : Int32))) cw_X2_add km_X2_39 ⟨rfl, rfl, by decide, by decide⟩ (Nat.le_of_ble_eq_true rfl) (eX_2 (cy := cy) (s4.1 84) (s4.2 84)) rfl dX2_reach_134 rfl rfl (Nat.le_of_ble_eq_true rfl) (fun s6 => ?_)
          refine g_iload (pc := 137) 1 dX2_reach_137 rfl ?_
          refine g_bipush (pc := 139) (12) dX2_reach_139 (by decide) ?_
          refine g_icmp_eq (pc := 141) 172 dX2_reach_141 (by decide) ?_ ?_
          · refine g_iinc (pc := 172) (j := 7) (1) (lf := fun x6 => [(4, .int x6), (8, .int r4), (7, .int x3), (6, .int x2), (5, .int x1), (0, .ref (q 84)), (1, .ref (q p)), (2, .ref (q q_))]) dX2_reach_172 rfl (by decide) (Nat.le_of_ble_eq_true rfl) (fun _ => rfl) (fun x6 => ?_)
            refine g_goto (pc := 175) 41 dX2_reach_175 (by decide) ?_
            exact g_sub [5, 6, 7, 0] rfl (ih41 (x6, s6))
          · refine g_aload_n (pc := 144) 6 dX2_reach_144 rfl rfl ?_
            refine g_iload (pc := 145) 1 dX2_reach_145 rfl ?_
            refine g_iload (pc := 147) 3 dX2_reach_147 rfl ?_
            refine gV_i (pc := 149) [.int x3, .int x1] [] (m_X4_steppedState l D cy q s6 q_ x3 x1 hq_) cw_X4_steppedState km_X2_43 ⟨rfl, rfl, by decide, by decide⟩ (by have := hq_.lt; show q_ < 88; omega) (eX_4 (cy := cy) hq_ (s6.1 q_) (s6.2 q_)) rfl dX2_reach_149 rfl rfl (Nat.le_of_ble_eq_true rfl) (fun r5 => ?_)
            refine g_istore (pc := 152) (lv' := [(8, .int r5), (7, .int x3), (6, .int x2), (5, .int x1), (0, .ref (q 84)), (1, .ref (q p)), (2, .ref (q q_)), (4, .int y1)]) dX2_reach_152 (Nat.le_of_ble_eq_true rfl) rfl ?_
            refine g_aload_n (pc := 154) 4 dX2_reach_154 rfl rfl ?_
            refine g_iload (pc := 155) 2 dX2_reach_155 rfl ?_
            refine g_iload (pc := 157) 0 dX2_reach_157 rfl ?_
            refine g_sipush (pc := 159) (256) dX2_reach_159 (by decide) ?_
            refine g_idiv (pc := 162) dX2_reach_162 ?_
            refine g_iload (pc := 163) 0 dX2_reach_163 rfl ?_
            refine g_sipush (pc := 165) (256) dX2_reach_165 (by decide) ?_
            refine g_irem (pc := 168) dX2_reach_168 ?_
            refine gV_v (pc := 169) [.int x2, .int (r5 / (256 : Int32)), .int (r5 - r5 / (256 : Int32) * (256 : Int32))] [] (m_X2_add l D cy q s6 x2 (r5 / (256 : Int32)) (r5 - r5 / (256 : Int32) * (256 : Int32))) cw_X2_add km_X2_39 ⟨rfl, rfl, by decide, by decide⟩ (Nat.le_of_ble_eq_true rfl) (eX_2 (cy := cy) (s6.1 84) (s6.2 84)) rfl dX2_reach_169 rfl rfl (Nat.le_of_ble_eq_true rfl) (fun s7 => ?_)
            refine g_iinc (pc := 172) (j := 7) (1) (lf := fun x7 => [(4, .int x7), (8, .int r5), (7, .int x3), (6, .int x2), (5, .int x1), (0, .ref (q 84)), (1, .ref (q p)), (2, .ref (q q_))]) dX2_reach_172 rfl (by decide) (Nat.le_of_ble_eq_true rfl) (fun _ => rfl) (fun x7 => ?_)
            refine g_goto (pc := 175) 41 dX2_reach_175 (by decide) ?_
            exact g_sub [5, 6, 7, 0] rfl (ih41 (x7, s7))
def f_X2_isEnd (memory : Int32) (σ : St) : Option (Int32) := (f_X2_isSeen ((43008 : Int32) + memory) σ).bind fun r1 => chk (isb r1) (some r1)
abbrev rm_X2_isEnd : Room := { frames := 1, cells := 0, slots := 0, locals := 21 }
set_option maxHeartbeats 4000000 in
set_option maxRecDepth 20000 in
theorem m_X2_isEnd (l : Launch) (D : va_G) (cy : Cy) (q : Nat → Nat) (σ : St) (memory : Int32)  : ∀ res, f_X2_isEnd memory σ = some res → MetX (vX D cy q) l yX2_isEnd cX2_isEnd 2 (some .boolean) rm_X2_isEnd [.ref (q 84), .int memory] σ (some (.int res), σ) := by
  let fin_ : Int32 → Option Value × St := fun r => (some (.int r), σ)
  have hro : ∀ (z : Int32) (res : Int32), some z = some res → fin_ res = fin_ z := fun z res h => by cases h; rfl
  refine MetX.of1 (fin := fin_) (lv := [(0, .ref (q 84)), (1, .int memory)]) (by decide) (Nat.le_of_ble_eq_true rfl) rfl ?_
  unfold f_X2_isEnd
  refine g_aload_n (pc := 0) 0 dX2_isEnd_0 rfl rfl ?_
  refine g_ldc (pc := 1) dX2_isEnd_1 ki_X2_50 ?_
  refine g_iload_n (pc := 3) 1 dX2_isEnd_3 rfl rfl ?_
  refine g_iadd (pc := 4) dX2_isEnd_4 ?_
  refine gV_i (pc := 5) [.int ((43008 : Int32) + memory)] [] (m_X2_isSeen l D cy q σ ((43008 : Int32) + memory)) cw_X2_isSeen km_X2_46 ⟨rfl, rfl, by decide, by decide⟩ (Nat.le_of_ble_eq_true rfl) (eX_2 (cy := cy) (σ.1 84) (σ.2 84)) rfl dX2_isEnd_5 rfl rfl (Nat.le_of_ble_eq_true rfl) (fun r1 => ?_)
  exact g_chk fun hb => g_zret (pc := 8) hb (hro _) rfl dX2_isEnd_8
def b_X2_countEnds_4 (σ : St) : (Int32 × Int32) → Option ((Int32 × Int32) ⊕ (Int32)) := un fun y1 y2 => (if (256 : Int32) ≤ y2 then some (.inr y1) else (f_X2_isEnd y2 σ).bind fun r1 => (if r1 = (0 : Int32) then nm (y1 + (0 : Int32)) fun x1 => nm (y2 + (1 : Int32)) fun x2 => some (.inl (x1, x2)) else nm (y1 + (1 : Int32)) fun x3 => nm (y2 + (1 : Int32)) fun x4 => some (.inl (x3, x4))))
def f_X2_countEnds (σ : St) : Option (Int32) := (wh FU (b_X2_countEnds_4 σ) ((0 : Int32), (0 : Int32))).bind (fun z1 => some z1)
abbrev rm_X2_countEnds : Room := { frames := 2, cells := 0, slots := 0, locals := 42 }
set_option maxHeartbeats 4000000 in
set_option maxRecDepth 20000 in
theorem m_X2_countEnds (l : Launch) (D : va_G) (cy : Cy) (q : Nat → Nat) (σ : St)  : ∀ res, f_X2_countEnds σ = some res → MetX (vX D cy q) l yX2_countEnds cX2_countEnds 3 (some .int) rm_X2_countEnds [.ref (q 84)] σ (some (.int res), σ) := by
  let fin_ : Int32 → Option Value × St := fun r => (some (.int r), σ)
  have hro : ∀ (z : Int32) (res : Int32), some z = some res → fin_ res = fin_ z := fun z res h => by cases h; rfl
  refine MetX.of1 (fin := fin_) (lv := [(0, .ref (q 84))]) (by decide) (Nat.le_of_ble_eq_true rfl) rfl ?_
  unfold f_X2_countEnds
  refine g_iconst (pc := 0) (0) dX2_countEnds_0 (by decide) ?_
  refine g_istore_n (pc := 1) (lv' := [(1, .int (0 : Int32)), (0, .ref (q 84))]) dX2_countEnds_1 rfl (Nat.le_of_ble_eq_true rfl) rfl ?_
  refine g_iconst (pc := 2) (0) dX2_countEnds_2 (by decide) ?_
  refine g_istore_n (pc := 3) (lv' := [(2, .int (0 : Int32)), (1, .int (0 : Int32)), (0, .ref (q 84))]) dX2_countEnds_3 rfl (Nat.le_of_ble_eq_true rfl) rfl ?_
  refine g_sub [2, 1, 0] rfl ?_
  refine g_wh2 (pc := 4) (s0 := ((0 : Int32), (0 : Int32))) (fun (w_ : Int32 × Int32) => σ) (fun (w_ : Int32 × Int32) => [(0, .ref (q 84)), (1, .int w_.1), (2, .int w_.2)]) (fun (w_ : Int32) => σ) (fun (w_ : Int32) => [(1, .int w_)]) 33 ?_ ?_
  · rintro z1
    try dsimp only [un, Sum.elim_inl]
    refine g_iload_n (pc := 33) 0 dX2_countEnds_33 rfl rfl ?_
    exact g_iret (pc := 34) (hro _) rfl dX2_countEnds_34
  · intro K4 hx4 ih4
    rintro ⟨y1, y2⟩
    try dsimp only [b_X2_countEnds_4, un]
    refine g_iload_n (pc := 4) 2 dX2_countEnds_4 rfl rfl ?_
    refine g_sipush (pc := 5) (256) dX2_countEnds_5 (by decide) ?_
    refine g_icmp_ge (pc := 8) 33 dX2_countEnds_8 (by decide) ?_ ?_
    · exact g_sub [1] rfl (hx4 y1)
    · refine g_iload_n (pc := 11) 1 dX2_countEnds_11 rfl rfl ?_
      refine g_aload_n (pc := 12) 0 dX2_countEnds_12 rfl rfl ?_
      refine g_iload_n (pc := 13) 2 dX2_countEnds_13 rfl rfl ?_
      refine gV_i (pc := 14) [.int y2] [.int y1] (m_X2_isEnd l D cy q σ y2) cw_X2_isEnd km_X2_51 ⟨rfl, rfl, by decide, by decide⟩ (Nat.le_of_ble_eq_true rfl) (eX_2 (cy := cy) (σ.1 84) (σ.2 84)) rfl dX2_countEnds_14 rfl rfl (Nat.le_of_ble_eq_true rfl) (fun r1 => ?_)
      refine g_if_eq (pc := 17) 24 dX2_countEnds_17 (by decide) ?_ ?_
      · refine g_iconst (pc := 24) (0) dX2_countEnds_24 (by decide) ?_
        refine g_iadd (pc := 25) dX2_countEnds_25 ?_
        refine g_nmi (fun x1 => ?_)
        refine g_istore_n (pc := 26) (lv' := [(1, .int x1), (0, .ref (q 84)), (2, .int y2)]) dX2_countEnds_26 rfl (Nat.le_of_ble_eq_true rfl) rfl ?_
        refine g_iinc (pc := 27) (j := 2) (1) (lf := fun x2 => [(2, .int x2), (1, .int x1), (0, .ref (q 84))]) dX2_countEnds_27 rfl (by decide) (Nat.le_of_ble_eq_true rfl) (fun _ => rfl) (fun x2 => ?_)
        refine g_goto (pc := 30) 4 dX2_countEnds_30 (by decide) ?_
        exact g_sub [2, 1, 0] rfl (ih4 (x1, x2))
      · refine g_iconst (pc := 20) (1) dX2_countEnds_20 (by decide) ?_
        refine g_goto (pc := 21) 25 dX2_countEnds_21 (by decide) ?_
        refine g_iadd (pc := 25) dX2_countEnds_25 ?_
        refine g_nmi (fun x3 => ?_)
        refine g_istore_n (pc := 26) (lv' := [(1, .int x3), (0, .ref (q 84)), (2, .int y2)]) dX2_countEnds_26 rfl (Nat.le_of_ble_eq_true rfl) rfl ?_
        refine g_iinc (pc := 27) (j := 2) (1) (lf := fun x4 => [(2, .int x4), (1, .int x3), (0, .ref (q 84))]) dX2_countEnds_27 rfl (by decide) (Nat.le_of_ble_eq_true rfl) (fun _ => rfl) (fun x4 => ?_)
        refine g_goto (pc := 30) 4 dX2_countEnds_30 (by decide) ?_
        exact g_sub [2, 1, 0] rfl (ih4 (x3, x4))
def b_X2_leastEnd_2 (σ : St) : (Int32) → Option ((Int32) ⊕ ((Unit) ⊕ (Int32))) := fun y1 => (if (256 : Int32) ≤ y1 then some (.inr (.inl ())) else (f_X2_isEnd y1 σ).bind fun r1 => (if r1 = (0 : Int32) then nm (y1 + (1 : Int32)) fun x1 => some (.inl x1) else some (.inr (.inr y1))))
def f_X2_leastEnd (σ : St) : Option (Int32) := (wh FU (b_X2_leastEnd_2 σ) (0 : Int32)).bind (Sum.elim (fun _ => some (-6 : Int32)) (fun z => some z))
abbrev rm_X2_leastEnd : Room := { frames := 2, cells := 0, slots := 0, locals := 42 }
set_option maxHeartbeats 4000000 in
set_option maxRecDepth 20000 in
theorem m_X2_leastEnd (l : Launch) (D : va_G) (cy : Cy) (q : Nat → Nat) (σ : St)  : ∀ res, f_X2_leastEnd σ = some res → MetX (vX D cy q) l yX2_leastEnd cX2_leastEnd 2 (some .int) rm_X2_leastEnd [.ref (q 84)] σ (some (.int res), σ) := by
  let fin_ : Int32 → Option Value × St := fun r => (some (.int r), σ)
  have hro : ∀ (z : Int32) (res : Int32), some z = some res → fin_ res = fin_ z := fun z res h => by cases h; rfl
  refine MetX.of1 (fin := fin_) (lv := [(0, .ref (q 84))]) (by decide) (Nat.le_of_ble_eq_true rfl) rfl ?_
  unfold f_X2_leastEnd
  refine g_iconst (pc := 0) (0) dX2_leastEnd_0 (by decide) ?_
  refine g_istore_n (pc := 1) (lv' := [(1, .int (0 : Int32)), (0, .ref (q 84))]) dX2_leastEnd_1 rfl (Nat.le_of_ble_eq_true rfl) rfl ?_
  refine g_sub [1, 0] rfl ?_
  refine g_whr (pc := 2) (s0 := (0 : Int32)) fin_ (fun (w_ : Int32) => σ) (fun (w_ : Int32) => [(0, .ref (q 84)), (1, .int w_)]) (fun (w_ : Unit) => σ) (fun (w_ : Unit) => []) 25 (fun z => z) (fun _ => rfl) hro ?_ ?_
  · rintro _
    try dsimp only [un, Sum.elim_inl]
    refine g_bipush (pc := 25) (-6) dX2_leastEnd_25 (by decide) ?_
    exact g_iret (pc := 27) (hro _) rfl dX2_leastEnd_27
  · intro K2 hr2 hx2 ih2
    rintro y1
    try dsimp only [b_X2_leastEnd_2, un]
    refine g_iload_n (pc := 2) 1 dX2_leastEnd_2 rfl rfl ?_
    refine g_sipush (pc := 3) (256) dX2_leastEnd_3 (by decide) ?_
    refine g_icmp_ge (pc := 6) 25 dX2_leastEnd_6 (by decide) ?_ ?_
    · exact g_sub [] rfl (hx2 ())
    · refine g_aload_n (pc := 9) 0 dX2_leastEnd_9 rfl rfl ?_
      refine g_iload_n (pc := 10) 1 dX2_leastEnd_10 rfl rfl ?_
      refine gV_i (pc := 11) [.int y1] [] (m_X2_isEnd l D cy q σ y1) cw_X2_isEnd km_X2_51 ⟨rfl, rfl, by decide, by decide⟩ (Nat.le_of_ble_eq_true rfl) (eX_2 (cy := cy) (σ.1 84) (σ.2 84)) rfl dX2_leastEnd_11 rfl rfl (Nat.le_of_ble_eq_true rfl) (fun r1 => ?_)
      refine g_if_eq (pc := 14) 19 dX2_leastEnd_14 (by decide) ?_ ?_
      · refine g_iinc (pc := 19) (j := 1) (1) (lf := fun x1 => [(1, .int x1), (0, .ref (q 84))]) dX2_leastEnd_19 rfl (by decide) (Nat.le_of_ble_eq_true rfl) (fun _ => rfl) (fun x1 => ?_)
        refine g_goto (pc := 22) 2 dX2_leastEnd_22 (by decide) ?_
        exact g_sub [1, 0] rfl (ih2 x1)
      · refine g_iload_n (pc := 17) 1 dX2_leastEnd_17 rfl rfl ?_
        exact g_iret (pc := 18) (hr2 _) rfl dX2_leastEnd_18
def b_X4_shownUnder_11 (pa : Nat) (start : Int32) (quiet : Int32) (σ : St) (x1 : Int32) : (Int64 × Int32) → Option ((Int64 × Int32) ⊕ (Int64)) := un fun y1 y2 => chk (inb start 256) ((if (σ.1 (pa + 10) start.toNatClampNeg) ≤ y2 then some (.inr y1) else chk (inb (x1 + y2) 6400) (nm (σ.1 (pa + 6) (x1 + y2).toNatClampNeg) fun x2 => chk (nz (256 : Int32)) (nm (x2 / (256 : Int32)) fun x3 => (if (12 : Int32) ≤ x3 then nm (y2 + (1 : Int32)) fun x4 => some (.inl (y1, x4)) else chk (inb x3 12) ((if (σ.1 (pa + 1) x3.toNatClampNeg) = (6 : Int32) then (if ((quiet >>> (x3 &&& 31)) &&& (1 : Int32)) = (0 : Int32) then chk (nz (256 : Int32)) (chk (inb x3 12) ((f_X8_valueOf (x2 - x2 / (256 : Int32) * (256 : Int32)) (σ.1 (pa + 2) x3.toNatClampNeg)).bind fun r1 => nm ((y1 <<< ((2 : Int32).toInt64 &&& 63)) ||| r1.toInt64) fun x7 => nm (y2 + (1 : Int32)) fun x8 => some (.inl (x7, x8)))) else nm (y2 + (1 : Int32)) fun x6 => some (.inl (y1, x6))) else nm (y2 + (1 : Int32)) fun x5 => some (.inl (y1, x5)))))))))
def f_X4_shownUnder (pa : Nat) (start : Int32) (quiet : Int32) (σ : St) : Option (Int64) := nm (start * (25 : Int32)) fun x1 => (wh FU (b_X4_shownUnder_11 pa start quiet σ x1) ((1 : Int64), (0 : Int32))).bind (fun z1 => some z1)
abbrev rm_X4_shownUnder : Room := { frames := 1, cells := 0, slots := 0, locals := 21 }
set_option maxHeartbeats 4000000 in
set_option maxRecDepth 20000 in
theorem m_X4_shownUnder (l : Launch) (D : va_G) (cy : Cy) (q : Nat → Nat) (σ : St) (pa : Nat) (start : Int32) (quiet : Int32) (hpa : isP pa) : ∀ res, f_X4_shownUnder pa start quiet σ = some res → MetX (vX D cy q) l yX4_shownUnder cX4_shownUnder 9 (some .long) rm_X4_shownUnder [.ref (q pa), .int start, .int quiet] σ (some (.long res), σ) := by
  let fin_ : Int64 → Option Value × St := fun r => (some (.long r), σ)
  have hro : ∀ (z : Int64) (res : Int64), some z = some res → fin_ res = fin_ z := fun z res h => by cases h; rfl
  refine MetX.of1 (fin := fin_) (lv := [(0, .ref (q pa)), (1, .int start), (2, .int quiet)]) (by decide) (Nat.le_of_ble_eq_true rfl) rfl ?_
  unfold f_X4_shownUnder
  refine g_lconst (pc := 0) (1) dX4_shownUnder_0 (by decide) ?_
  refine g_lstore_n (pc := 1) (lv' := [(3, .long (1 : Int64)), (0, .ref (q pa)), (1, .int start), (2, .int quiet)]) dX4_shownUnder_1 rfl (Nat.le_of_ble_eq_true rfl) rfl ?_
  refine g_iload_n (pc := 2) 2 dX4_shownUnder_2 rfl rfl ?_
  refine g_bipush (pc := 3) (25) dX4_shownUnder_3 (by decide) ?_
  refine g_imul (pc := 5) dX4_shownUnder_5 ?_
  refine g_nmi (fun x1 => ?_)
  refine g_istore (pc := 6) (lv' := [(5, .int x1), (3, .long (1 : Int64)), (0, .ref (q pa)), (1, .int start), (2, .int quiet)]) dX4_shownUnder_6 (Nat.le_of_ble_eq_true rfl) rfl ?_
  refine g_iconst (pc := 8) (0) dX4_shownUnder_8 (by decide) ?_
  refine g_istore (pc := 9) (lv' := [(6, .int (0 : Int32)), (5, .int x1), (3, .long (1 : Int64)), (0, .ref (q pa)), (1, .int start), (2, .int quiet)]) dX4_shownUnder_9 (Nat.le_of_ble_eq_true rfl) rfl ?_
  refine g_sub [3, 4, 5, 2, 1, 0] rfl ?_
  refine g_wh2 (pc := 11) (s0 := ((1 : Int64), (0 : Int32))) (fun (w_ : Int64 × Int32) => σ) (fun (w_ : Int64 × Int32) => [(0, .ref (q pa)), (1, .int start), (2, .int quiet), (3, .long w_.1), (5, .int x1), (6, .int w_.2)]) (fun (w_ : Int64) => σ) (fun (w_ : Int64) => [(3, .long w_)]) 98 ?_ ?_
  · rintro z1
    try dsimp only [un, Sum.elim_inl]
    refine g_lload_n (pc := 98) 0 dX4_shownUnder_98 rfl rfl ?_
    exact g_lret (pc := 99) (hro _) rfl dX4_shownUnder_99
  · intro K11 hx11 ih11
    rintro ⟨y1, y2⟩
    try dsimp only [b_X4_shownUnder_11, un]
    refine g_iload (pc := 11) 5 dX4_shownUnder_11 rfl ?_
    refine g_aload_n (pc := 13) 0 dX4_shownUnder_13 rfl rfl ?_
    refine gf_4_stepsOf (pc := 14) hpa kf_X4_53 dX4_shownUnder_14 ?_
    refine g_iload_n (pc := 17) 1 dX4_shownUnder_17 rfl rfl ?_
    refine a_ild (pc := 18) (aX_4_stepsOf hpa) dX4_shownUnder_18 ?_
    refine g_icmp_ge (pc := 19) 98 dX4_shownUnder_19 (by decide) ?_ ?_
    · exact g_sub [3] rfl (hx11 y1)
    · refine g_aload_n (pc := 22) 0 dX4_shownUnder_22 rfl rfl ?_
      refine gf_4_states (pc := 23) hpa kf_X4_41 dX4_shownUnder_23 ?_
      refine g_iload (pc := 26) 4 dX4_shownUnder_26 rfl ?_
      refine g_iload (pc := 28) 5 dX4_shownUnder_28 rfl ?_
      refine g_iadd (pc := 30) dX4_shownUnder_30 ?_
      refine a_ild (pc := 31) (aX_4_states hpa) dX4_shownUnder_31 ?_
      refine g_nmi (fun x2 => ?_)
      refine g_istore (pc := 32) (lv' := [(7, .int x2), (0, .ref (q pa)), (1, .int start), (2, .int quiet), (3, .long y1), (5, .int x1), (6, .int y2)]) dX4_shownUnder_32 (Nat.le_of_ble_eq_true rfl) rfl ?_
      refine g_iload (pc := 34) 0 dX4_shownUnder_34 rfl ?_
      refine g_sipush (pc := 36) (256) dX4_shownUnder_36 (by decide) ?_
      refine g_idiv (pc := 39) dX4_shownUnder_39 ?_
      refine g_nmi (fun x3 => ?_)
      refine g_istore (pc := 40) (lv' := [(8, .int x3), (7, .int x2), (0, .ref (q pa)), (1, .int start), (2, .int quiet), (3, .long y1), (5, .int x1), (6, .int y2)]) dX4_shownUnder_40 (Nat.le_of_ble_eq_true rfl) rfl ?_
      refine g_iload (pc := 42) 0 dX4_shownUnder_42 rfl ?_
      refine g_bipush (pc := 44) (12) dX4_shownUnder_44 (by decide) ?_
      refine g_icmp_ge (pc := 46) 92 dX4_shownUnder_46 (by decide) ?_ ?_
      · refine g_iinc (pc := 92) (j := 7) (1) (lf := fun x4 => [(6, .int x4), (8, .int x3), (7, .int x2), (0, .ref (q pa)), (1, .int start), (2, .int quiet), (3, .long y1), (5, .int x1)]) dX4_shownUnder_92 rfl (by decide) (Nat.le_of_ble_eq_true rfl) (fun _ => rfl) (fun x4 => ?_)
        refine g_goto (pc := 95) 11 dX4_shownUnder_95 (by decide) ?_
        exact g_sub [3, 4, 5, 6, 7, 0] rfl (ih11 (y1, x4))
      · refine g_aload_n (pc := 49) 2 dX4_shownUnder_49 rfl rfl ?_
        refine gf_4_act (pc := 50) hpa kf_X4_15 dX4_shownUnder_50 ?_
        refine g_iload (pc := 53) 0 dX4_shownUnder_53 rfl ?_
        refine a_ild (pc := 55) (aX_4_act hpa) dX4_shownUnder_55 ?_
        refine g_bipush (pc := 56) (6) dX4_shownUnder_56 (by decide) ?_
        refine g_icmp_ne (pc := 58) 92 dX4_shownUnder_58 (by decide) ?_ ?_
        · refine g_iinc (pc := 92) (j := 7) (1) (lf := fun x5 => [(6, .int x5), (8, .int x3), (7, .int x2), (0, .ref (q pa)), (1, .int start), (2, .int quiet), (3, .long y1), (5, .int x1)]) dX4_shownUnder_92 rfl (by decide) (Nat.le_of_ble_eq_true rfl) (fun _ => rfl) (fun x5 => ?_)
          refine g_goto (pc := 95) 11 dX4_shownUnder_95 (by decide) ?_
          exact g_sub [3, 4, 5, 6, 7, 0] rfl (ih11 (y1, x5))
        · refine g_iload_n (pc := 61) 4 dX4_shownUnder_61 rfl rfl ?_
          refine g_iload (pc := 62) 0 dX4_shownUnder_62 rfl ?_
          refine g_ishr (pc := 64) dX4_shownUnder_64 ?_
          refine g_iconst (pc := 65) (1) dX4_shownUnder_65 (by decide) ?_
          refine g_iand (pc := 66) dX4_shownUnder_66 ?_
          refine g_if_ne (pc := 67) 92 dX4_shownUnder_67 (by decide) ?_ ?_
          · refine g_iinc (pc := 92) (j := 7) (1) (lf := fun x6 => [(6, .int x6), (8, .int x3), (7, .int x2), (0, .ref (q pa)), (1, .int start), (2, .int quiet), (3, .long y1), (5, .int x1)]) dX4_shownUnder_92 rfl (by decide) (Nat.le_of_ble_eq_true rfl) (fun _ => rfl) (fun x6 => ?_)
            refine g_goto (pc := 95) 11 dX4_shownUnder_95 (by decide) ?_
            exact g_sub [3, 4, 5, 6, 7, 0] rfl (ih11 (y1, x6))
          · refine g_lload_n (pc := 70) 5 dX4_shownUnder_70 rfl rfl ?_
            refine g_iconst (pc := 71) (2) dX4_shownUnder_71 (by decide) ?_
            refine g_lshl (pc := 72) dX4_shownUnder_72 ?_
            refine g_iload (pc := 73) 1 dX4_shownUnder_73 rfl ?_
            refine g_sipush (pc := 75) (256) dX4_shownUnder_75 (by decide) ?_
            refine g_irem (pc := 78) dX4_shownUnder_78 ?_
            refine g_aload_n (pc := 79) 2 dX4_shownUnder_79 rfl rfl ?_
            refine gf_4_a (pc := 80) hpa kf_X4_19 dX4_shownUnder_80 ?_
            refine g_iload (pc := 83) 0 dX4_shownUnder_83 rfl ?_
            refine a_ild (pc := 85) (aX_4_a hpa) dX4_shownUnder_85 ?_
            refine gSN_i (pc := 86) [.int (x2 - x2 / (256 : Int32) * (256 : Int32)), .int (σ.1 (pa + 2) x3.toNatClampNeg)] [.long (y1 <<< ((2 : Int32).toInt64 &&& 63))] (m_X8_valueOf l (vX D cy q) σ (x2 - x2 / (256 : Int32) * (256 : Int32)) (σ.1 (pa + 2) x3.toNatClampNeg)) cw_X8_valueOf (fun _ h => h.2.1) ⟨rfl, rfl, by decide, by decide⟩ dX4_shownUnder_86 rfl rfl (Nat.le_of_ble_eq_true rfl) (fun r1 => ?_)
            refine g_i2l (pc := 89) dX4_shownUnder_89 ?_
            refine g_lor (pc := 90) dX4_shownUnder_90 ?_
            refine g_nml (fun x7 => ?_)
            refine g_lstore_n (pc := 91) (lv' := [(3, .long x7), (8, .int x3), (7, .int x2), (0, .ref (q pa)), (1, .int start), (2, .int quiet), (5, .int x1), (6, .int y2)]) dX4_shownUnder_91 rfl (Nat.le_of_ble_eq_true rfl) rfl ?_
            refine g_iinc (pc := 92) (j := 7) (1) (lf := fun x8 => [(6, .int x8), (3, .long x7), (8, .int x3), (7, .int x2), (0, .ref (q pa)), (1, .int start), (2, .int quiet), (5, .int x1)]) dX4_shownUnder_92 rfl (by decide) (Nat.le_of_ble_eq_true rfl) (fun _ => rfl) (fun x8 => ?_)
            refine g_goto (pc := 95) 11 dX4_shownUnder_95 (by decide) ?_
            exact g_sub [4, 5, 6, 1, 7, 0] rfl (ih11 (x7, x8))
def b_X4_countShown_2 (shown : Int64) : (Int32) → Option ((Int32) ⊕ (Int32)) := fun y1 => (if (24 : Int32) ≤ y1 then some (.inr y1) else (if (lg_cmp (shown >>> (((2 : Int32) * y1).toInt64 &&& 63)) (1 : Int64)) = (0 : Int32) then some (.inr y1) else nm (y1 + (1 : Int32)) fun x1 => some (.inl x1)))
def f_X4_countShown (shown : Int64) : Option (Int32) := (wh FU (b_X4_countShown_2 shown) (0 : Int32)).bind (fun z1 => some z1)
abbrev rm_X4_countShown : Room := { frames := 0, cells := 0, slots := 0, locals := 0 }
set_option maxHeartbeats 4000000 in
set_option maxRecDepth 20000 in
theorem m_X4_countShown (l : Launch) (D : va_G) (cy : Cy) (q : Nat → Nat) (σ : St) (shown : Int64)  : ∀ res, f_X4_countShown shown = some res → MetX (vX D cy q) l yX4_countShown cX4_countShown 3 (some .int) rm_X4_countShown [.long shown] σ (some (.int res), σ) := by
  let fin_ : Int32 → Option Value × St := fun r => (some (.int r), σ)
  have hro : ∀ (z : Int32) (res : Int32), some z = some res → fin_ res = fin_ z := fun z res h => by cases h; rfl
  refine MetX.of1 (fin := fin_) (lv := [(0, .long shown)]) (by decide) (Nat.le_of_ble_eq_true rfl) rfl ?_
  unfold f_X4_countShown
  refine g_iconst (pc := 0) (0) dX4_countShown_0 (by decide) ?_
  refine g_istore_n (pc := 1) (lv' := [(2, .int (0 : Int32)), (0, .long shown)]) dX4_countShown_1 rfl (Nat.le_of_ble_eq_true rfl) rfl ?_
  refine g_sub [1, 0] rfl ?_
  refine g_wh2 (pc := 2) (s0 := (0 : Int32)) (fun (w_ : Int32) => σ) (fun (w_ : Int32) => [(0, .long shown), (2, .int w_)]) (fun (w_ : Int32) => σ) (fun (w_ : Int32) => [(2, .int w_)]) 24 ?_ ?_
  · rintro z1
    try dsimp only [un, Sum.elim_inl]
    refine g_iload_n (pc := 24) 0 dX4_countShown_24 rfl rfl ?_
    exact g_iret (pc := 25) (hro _) rfl dX4_countShown_25
  · intro K2 hx2 ih2
    rintro y1
    try dsimp only [b_X4_countShown_2, un]
    refine g_iload_n (pc := 2) 1 dX4_countShown_2 rfl rfl ?_
    refine g_bipush (pc := 3) (24) dX4_countShown_3 (by decide) ?_
    refine g_icmp_ge (pc := 5) 24 dX4_countShown_5 (by decide) ?_ ?_
    · exact g_sub [1] rfl (hx2 y1)
    · refine g_lload_n (pc := 8) 0 dX4_countShown_8 rfl rfl ?_
      refine g_iconst (pc := 9) (2) dX4_countShown_9 (by decide) ?_
      refine g_iload_n (pc := 10) 1 dX4_countShown_10 rfl rfl ?_
      refine g_imul (pc := 11) dX4_countShown_11 ?_
      refine g_lshr (pc := 12) dX4_countShown_12 ?_
      refine g_lconst (pc := 13) (1) dX4_countShown_13 (by decide) ?_
      refine g_lcmp (pc := 14) dX4_countShown_14 ?_
      refine g_if_eq (pc := 15) 24 dX4_countShown_15 (by decide) ?_ ?_
      · exact g_sub [1] rfl (hx2 y1)
      · refine g_iinc (pc := 18) (j := 1) (1) (lf := fun x1 => [(2, .int x1), (0, .long shown)]) dX4_countShown_18 rfl (by decide) (Nat.le_of_ble_eq_true rfl) (fun _ => rfl) (fun x1 => ?_)
        refine g_goto (pc := 21) 2 dX4_countShown_21 (by decide) ?_
        exact g_sub [1, 0] rfl (ih2 x1)
def b_X4_trace_50 (pa : Nat) (x1 : Int32) : (Int32 × Int32 × Int32 × St) → Option ((Int32 × Int32 × Int32 × St) ⊕ (Int32 × Int32 × Int32 × St)) := un fun y1 => un fun y2 => un fun y3 s2 => (if (24 : Int32) ≤ y3 then some (.inr (y1, y2, y3, s2)) else chk (nz (256 : Int32)) ((if (12 : Int32) ≤ (y1 / (256 : Int32)) then some (.inr (y1, y2, y3, s2)) else chk (nz (256 : Int32)) (chk (nz (256 : Int32)) ((f_X4_stepped pa (y1 / (256 : Int32)) (y1 - y1 / (256 : Int32) * (256 : Int32)) s2).bind fun r2 => (if r2 < (4096 : Int32) then nm (r2 &&& (4095 : Int32)) fun x2 => nm (y3 + (1 : Int32)) fun x3 => chk (inb (x1 + x3) 6400) (nm (stI s2 (pa + 6) (x1 + x3).toNatClampNeg x2) fun s3 => some (.inl (x2, (0 : Int32), x3, s3))) else nm (r2 &&& (4095 : Int32)) fun x4 => nm (y3 + (1 : Int32)) fun x5 => chk (inb (x1 + x5) 6400) (nm (stI s2 (pa + 6) (x1 + x5).toNatClampNeg x4) fun s4 => some (.inl (x4, (1 : Int32), x5, s4)))))))))
def f_X4_trace (pa : Nat) (start : Int32) (σ : St) : Option (St) := (if start < (0 : Int32) then some σ else (if (256 : Int32) ≤ start then some σ else chk (inb start 256) ((if (σ.1 (pa + 5) start.toNatClampNeg) = (σ.1 pa 7) then some σ else nm (start * (25 : Int32)) fun x1 => (f_X4_stateAt pa (0 : Int32) start σ).bind fun r1 => chk (inb x1 6400) (nm (stI σ (pa + 6) x1.toNatClampNeg r1) fun s1 => (wh FU (b_X4_trace_50 pa x1) (r1, (0 : Int32), (0 : Int32), s1)).bind (un fun z1 => un fun z2 => un fun z3 s5 => chk (nz (256 : Int32)) ((if (12 : Int32) ≤ (z1 / (256 : Int32)) then chk (nz (256 : Int32)) (nm (z1 - z1 / (256 : Int32) * (256 : Int32)) fun x6 => chk (inb (x1 + z3) 6400) (nm (stI s5 (pa + 6) (x1 + z3).toNatClampNeg ((3072 : Int32) + x6)) fun s6 => (if z2 = (0 : Int32) then chk (inb start 256) (nm (stI s6 (pa + 7) start.toNatClampNeg (0 : Int32)) fun s7 => chk (inb start 256) (nm (stI s7 (pa + 8) start.toNatClampNeg x6) fun s8 => chk (inb x6 256) (chk (inb start 256) (nm (stI s8 (pa + 9) start.toNatClampNeg (s8.1 1 x6.toNatClampNeg)) fun s9 => chk (inb start 256) (nm (stI s9 (pa + 10) start.toNatClampNeg z3) fun s10 => (f_X4_shownUnder pa start (s10.1 pa 6) s10).bind fun r3 => (f_X4_countShown r3).bind fun r4 => chk (inb start 256) (nm (stI s10 (pa + 11) start.toNatClampNeg r4) fun s11 => chk (inb start 256) (nm (stL s11 (pa + 12) start.toNatClampNeg ((r3 ||| ((0 : Int32).toInt64 <<< ((50 : Int32).toInt64 &&& 63))) ||| (z3.toInt64 <<< ((52 : Int32).toInt64 &&& 63)))) fun s12 => chk (inb start 256) (nm (stI s12 (pa + 5) start.toNatClampNeg (s12.1 pa 7)) fun s13 => some s13)))))))) else chk (inb start 256) (nm (stI s6 (pa + 7) start.toNatClampNeg (1 : Int32)) fun s14 => chk (inb start 256) (nm (stI s14 (pa + 8) start.toNatClampNeg x6) fun s15 => chk (inb x6 256) (chk (inb start 256) (nm (stI s15 (pa + 9) start.toNatClampNeg (s15.1 1 x6.toNatClampNeg)) fun s16 => chk (inb start 256) (nm (stI s16 (pa + 10) start.toNatClampNeg z3) fun s17 => (f_X4_shownUnder pa start (s17.1 pa 6) s17).bind fun r5 => (f_X4_countShown r5).bind fun r6 => chk (inb start 256) (nm (stI s17 (pa + 11) start.toNatClampNeg r6) fun s18 => chk (inb start 256) (nm (stL s18 (pa + 12) start.toNatClampNeg ((r5 ||| ((1 : Int32).toInt64 <<< ((50 : Int32).toInt64 &&& 63))) ||| (z3.toInt64 <<< ((52 : Int32).toInt64 &&& 63)))) fun s19 => chk (inb start 256) (nm (stI s19 (pa + 5) start.toNatClampNeg (s19.1 pa 7)) fun s20 => some s20))))))))))) else chk (nz (256 : Int32)) (nm (z1 - z1 / (256 : Int32) * (256 : Int32)) fun x7 => chk (inb (x1 + z3) 6400) (nm (stI s5 (pa + 6) (x1 + z3).toNatClampNeg ((3072 : Int32) + x7)) fun s21 => chk (inb start 256) (nm (stI s21 (pa + 7) start.toNatClampNeg (2 : Int32)) fun s22 => chk (inb start 256) (nm (stI s22 (pa + 8) start.toNatClampNeg x7) fun s23 => chk (inb x7 256) (chk (inb start 256) (nm (stI s23 (pa + 9) start.toNatClampNeg (s23.1 1 x7.toNatClampNeg)) fun s24 => chk (inb start 256) (nm (stI s24 (pa + 10) start.toNatClampNeg z3) fun s25 => (f_X4_shownUnder pa start (s25.1 pa 6) s25).bind fun r7 => (f_X4_countShown r7).bind fun r8 => chk (inb start 256) (nm (stI s25 (pa + 11) start.toNatClampNeg r8) fun s26 => chk (inb start 256) (nm (stL s26 (pa + 12) start.toNatClampNeg ((r7 ||| ((2 : Int32).toInt64 <<< ((50 : Int32).toInt64 &&& 63))) ||| (z3.toInt64 <<< ((52 : Int32).toInt64 &&& 63)))) fun s27 => chk (inb start 256) (nm (stI s27 (pa + 5) start.toNatClampNeg (s27.1 pa 7)) fun s28 => some s28))))))))))))))))))
abbrev rm_X4_trace : Room := { frames := 2, cells := 0, slots := 0, locals := 49 }
set_option maxHeartbeats 4000000 in
set_option maxRecDepth 20000 in
theorem m_X4_trace (l : Launch) (D : va_G) (cy : Cy) (q : Nat → Nat) (σ : St) (pa : Nat) (start : Int32) (hpa : isP pa) : ∀ res, f_X4_trace pa start σ = some res → MetX (vX D cy q) l yX4_trace cX4_trace 11 none rm_X4_trace [.ref (q pa), .int start] σ (none, res) := by
  let fin_ : St → Option Value × St := fun r => (none, r)
  have hro : ∀ (z : St) (res : St), some z = some res → fin_ res = fin_ z := fun z res h => by cases h; rfl
  refine MetX.of1 (fin := fin_) (lv := [(0, .ref (q pa)), (1, .int start)]) (by decide) (Nat.le_of_ble_eq_true rfl) rfl ?_
  unfold f_X4_trace
  refine g_iload_n (pc := 0) 1 dX4_trace_0 rfl rfl ?_
  refine g_if_lt (pc := 1) 24 dX4_trace_1 (by decide) ?_ ?_
  · exact g_vret (pc := 24) (hro _) rfl dX4_trace_24
  · refine g_iload_n (pc := 4) 1 dX4_trace_4 rfl rfl ?_
    refine g_sipush (pc := 5) (256) dX4_trace_5 (by decide) ?_
    refine g_icmp_ge (pc := 8) 24 dX4_trace_8 (by decide) ?_ ?_
    · exact g_vret (pc := 24) (hro _) rfl dX4_trace_24
    · refine g_aload_n (pc := 11) 0 dX4_trace_11 rfl rfl ?_
      refine gf_4_madeAt (pc := 12) hpa kf_X4_38 dX4_trace_12 ?_
      refine g_iload_n (pc := 15) 1 dX4_trace_15 rfl rfl ?_
      refine a_ild (pc := 16) (aX_4_madeAt hpa) dX4_trace_16 ?_
      refine g_aload_n (pc := 17) 0 dX4_trace_17 rfl rfl ?_
      refine gf_4_age (pc := 18) hpa kf_X4_35 dX4_trace_18 ?_
      refine g_icmp_ne (pc := 21) 25 dX4_trace_21 (by decide) ?_ ?_
      · refine g_iload_n (pc := 25) 1 dX4_trace_25 rfl rfl ?_
        refine g_bipush (pc := 26) (25) dX4_trace_26 (by decide) ?_
        refine g_imul (pc := 28) dX4_trace_28 ?_
        refine g_nmi (fun x1 => ?_)
        refine g_istore_n (pc := 29) (lv' := [(2, .int x1), (0, .ref (q pa)), (1, .int start)]) dX4_trace_29 rfl (Nat.le_of_ble_eq_true rfl) rfl ?_
        refine g_aload_n (pc := 30) 1 dX4_trace_30 rfl rfl ?_
        refine g_iconst (pc := 31) (0) dX4_trace_31 (by decide) ?_
        refine g_iload_n (pc := 32) 2 dX4_trace_32 rfl rfl ?_
        refine gV_i (pc := 33) [.int (0 : Int32), .int start] [] (m_X4_stateAt l D cy q σ pa (0 : Int32) start hpa) cw_X4_stateAt km_X4_71 ⟨rfl, rfl, by decide, by decide⟩ (by have := hpa.lt; show pa < 88; omega) (eX_4 (cy := cy) hpa (σ.1 pa) (σ.2 pa)) rfl dX4_trace_33 rfl rfl (Nat.le_of_ble_eq_true rfl) (fun r1 => ?_)
        refine g_istore_n (pc := 36) (lv' := [(3, .int r1), (2, .int x1), (0, .ref (q pa)), (1, .int start)]) dX4_trace_36 rfl (Nat.le_of_ble_eq_true rfl) rfl ?_
        refine g_iconst (pc := 37) (0) dX4_trace_37 (by decide) ?_
        refine g_istore (pc := 38) (lv' := [(4, .int (0 : Int32)), (3, .int r1), (2, .int x1), (0, .ref (q pa)), (1, .int start)]) dX4_trace_38 (Nat.le_of_ble_eq_true rfl) rfl ?_
        refine g_iconst (pc := 40) (0) dX4_trace_40 (by decide) ?_
        refine g_istore (pc := 41) (lv' := [(5, .int (0 : Int32)), (4, .int (0 : Int32)), (3, .int r1), (2, .int x1), (0, .ref (q pa)), (1, .int start)]) dX4_trace_41 (Nat.le_of_ble_eq_true rfl) rfl ?_
        refine g_aload_n (pc := 43) 4 dX4_trace_43 rfl rfl ?_
        refine gf_4_states (pc := 44) hpa kf_X4_41 dX4_trace_44 ?_
        refine g_iload_n (pc := 47) 3 dX4_trace_47 rfl rfl ?_
        refine g_iload_n (pc := 48) 2 dX4_trace_48 rfl rfl ?_
        refine a_ist (pc := 49) (aX_4_states hpa) dX4_trace_49 (fun s1 => ?_)
        refine g_sub [4, 5, 3, 2, 1, 0] rfl ?_
        refine g_wh2 (pc := 50) (s0 := (r1, (0 : Int32), (0 : Int32), s1)) (fun (w_ : Int32 × Int32 × Int32 × St) => w_.2.2.2) (fun (w_ : Int32 × Int32 × Int32 × St) => [(0, .ref (q pa)), (1, .int start), (2, .int x1), (3, .int w_.1), (4, .int w_.2.1), (5, .int w_.2.2.1)]) (fun (w_ : Int32 × Int32 × Int32 × St) => w_.2.2.2) (fun (w_ : Int32 × Int32 × Int32 × St) => [(0, .ref (q pa)), (1, .int start), (2, .int x1), (3, .int w_.1), (4, .int w_.2.1), (5, .int w_.2.2.1)]) 121 ?_ ?_
        · rintro ⟨z1, z2, z3, s5⟩
          try dsimp only [un, Sum.elim_inl]
          refine g_iload_n (pc := 121) 3 dX4_trace_121 rfl rfl ?_
          refine g_sipush (pc := 122) (256) dX4_trace_122 (by decide) ?_
          refine g_idiv (pc := 125) dX4_trace_125 ?_
          refine g_bipush (pc := 126) (12) dX4_trace_126 (by decide) ?_
          refine g_icmp_ge (pc := 128) 135 dX4_trace_128 (by decide) ?_ ?_
          · refine g_iconst (pc := 135) (0) dX4_trace_135 (by decide) ?_
            refine g_istore (pc := 136) (lv' := [(6, .int (0 : Int32)), (0, .ref (q pa)), (1, .int start), (2, .int x1), (3, .int z1), (4, .int z2), (5, .int z3)]) dX4_trace_136 (Nat.le_of_ble_eq_true rfl) rfl ?_
            refine g_iload_n (pc := 138) 4 dX4_trace_138 rfl rfl ?_
            refine g_sipush (pc := 139) (256) dX4_trace_139 (by decide) ?_
            refine g_irem (pc := 142) dX4_trace_142 ?_
            refine g_nmi (fun x6 => ?_)
            refine g_istore (pc := 143) (lv' := [(7, .int x6), (6, .int (0 : Int32)), (0, .ref (q pa)), (1, .int start), (2, .int x1), (3, .int z1), (4, .int z2), (5, .int z3)]) dX4_trace_143 (Nat.le_of_ble_eq_true rfl) rfl ?_
            refine g_aload_n (pc := 145) 2 dX4_trace_145 rfl rfl ?_
            refine gf_4_states (pc := 146) hpa kf_X4_41 dX4_trace_146 ?_
            refine g_iload_n (pc := 149) 4 dX4_trace_149 rfl rfl ?_
            refine g_iload (pc := 150) 7 dX4_trace_150 rfl ?_
            refine g_iadd (pc := 152) dX4_trace_152 ?_
            refine g_sipush (pc := 153) (3072) dX4_trace_153 (by decide) ?_
            refine g_iload (pc := 156) 0 dX4_trace_156 rfl ?_
            refine g_iadd (pc := 158) dX4_trace_158 ?_
            refine a_ist (pc := 159) (aX_4_states hpa) dX4_trace_159 (fun s6 => ?_)
            refine g_iload (pc := 160) 1 dX4_trace_160 rfl ?_
            refine g_ifeq_y (pc := 162) 169 (by decide) dX4_trace_162 (by decide) ?_
            refine g_iload (pc := 169) 6 dX4_trace_169 rfl ?_
            refine g_if_eq (pc := 171) 178 dX4_trace_171 (by decide) ?_ ?_
            · refine g_iconst (pc := 178) (0) dX4_trace_178 (by decide) ?_
              refine g_istore (pc := 179) (lv' := [(8, .int (0 : Int32)), (7, .int x6), (6, .int (0 : Int32)), (0, .ref (q pa)), (1, .int start), (2, .int x1), (3, .int z1), (4, .int z2), (5, .int z3)]) dX4_trace_179 (Nat.le_of_ble_eq_true rfl) rfl ?_
              refine g_aload_n (pc := 181) 3 dX4_trace_181 rfl rfl ?_
              refine gf_4_endOf (pc := 182) hpa kf_X4_44 dX4_trace_182 ?_
              refine g_iload_n (pc := 185) 4 dX4_trace_185 rfl rfl ?_
              refine g_iload (pc := 186) 0 dX4_trace_186 rfl ?_
              refine a_ist (pc := 188) (aX_4_endOf hpa) dX4_trace_188 (fun s7 => ?_)
              refine g_aload_n (pc := 189) 3 dX4_trace_189 rfl rfl ?_
              refine gf_4_lastOf (pc := 190) hpa kf_X4_47 dX4_trace_190 ?_
              refine g_iload_n (pc := 193) 4 dX4_trace_193 rfl rfl ?_
              refine g_iload (pc := 194) 1 dX4_trace_194 rfl ?_
              refine a_ist (pc := 196) (aX_4_lastOf hpa) dX4_trace_196 (fun s8 => ?_)
              refine g_aload_n (pc := 197) 3 dX4_trace_197 rfl rfl ?_
              refine gf_4_hotOf (pc := 198) hpa kf_X4_50 dX4_trace_198 ?_
              refine g_iload_n (pc := 201) 4 dX4_trace_201 rfl rfl ?_
              refine g_aload_n (pc := 202) 3 dX4_trace_202 rfl rfl ?_
              refine gf_4_forms (pc := 203) hpa kf_X4_9 dX4_trace_203 ?_
              refine gf_1_hot (pc := 206) kf_X4_81 dX4_trace_206 ?_
              refine g_iload (pc := 209) 1 dX4_trace_209 rfl ?_
              refine a_ild (pc := 211) aX_1_hot dX4_trace_211 ?_
              refine a_ist (pc := 212) (aX_4_hotOf hpa) dX4_trace_212 (fun s9 => ?_)
              refine g_aload_n (pc := 213) 3 dX4_trace_213 rfl rfl ?_
              refine gf_4_stepsOf (pc := 214) hpa kf_X4_53 dX4_trace_214 ?_
              refine g_iload_n (pc := 217) 4 dX4_trace_217 rfl rfl ?_
              refine g_iload (pc := 218) 8 dX4_trace_218 rfl ?_
              refine a_ist (pc := 220) (aX_4_stepsOf hpa) dX4_trace_220 (fun s10 => ?_)
              refine g_aload_n (pc := 221) 3 dX4_trace_221 rfl rfl ?_
              refine g_iload_n (pc := 222) 4 dX4_trace_222 rfl rfl ?_
              refine g_aload_n (pc := 223) 3 dX4_trace_223 rfl rfl ?_
              refine gf_4_hushed (pc := 224) hpa kf_X4_32 dX4_trace_224 ?_
              refine gV_l (pc := 227) [.int start, .int (s10.1 pa 6)] [] (m_X4_shownUnder l D cy q s10 pa start (s10.1 pa 6) hpa) cw_X4_shownUnder km_X4_86 ⟨rfl, rfl, by decide, by decide⟩ (by have := hpa.lt; show pa < 88; omega) (eX_4 (cy := cy) hpa (s10.1 pa) (s10.2 pa)) rfl dX4_trace_227 rfl rfl (Nat.le_of_ble_eq_true rfl) (fun r3 => ?_)
              refine g_lstore (pc := 230) (lv' := [(9, .long r3), (8, .int (0 : Int32)), (7, .int x6), (6, .int (0 : Int32)), (0, .ref (q pa)), (1, .int start), (2, .int x1), (3, .int z1), (4, .int z2), (5, .int z3)]) dX4_trace_230 (Nat.le_of_ble_eq_true rfl) rfl ?_
              refine g_aload_n (pc := 232) 4 dX4_trace_232 rfl rfl ?_
              refine gf_4_showedOf (pc := 233) hpa kf_X4_56 dX4_trace_233 ?_
              refine g_iload_n (pc := 236) 5 dX4_trace_236 rfl rfl ?_
              refine g_lload (pc := 237) 0 dX4_trace_237 rfl ?_
              refine gS_i (pc := 239) [.long r3] [.int start, .ref (q (pa + 11))] (m_X4_countShown l D cy q s10 r3) cw_X4_countShown km_X4_90 ⟨rfl, rfl, by decide, by decide⟩ dX4_trace_239 rfl rfl (Nat.le_of_ble_eq_true rfl) (fun r4 => ?_)
              refine a_ist (pc := 242) (aX_4_showedOf hpa) dX4_trace_242 (fun s11 => ?_)
              refine g_aload_n (pc := 243) 4 dX4_trace_243 rfl rfl ?_
              refine gf_4_comesTo (pc := 244) hpa kf_X4_59 dX4_trace_244 ?_
              refine g_iload_n (pc := 247) 5 dX4_trace_247 rfl rfl ?_
              refine g_lload (pc := 248) 0 dX4_trace_248 rfl ?_
              refine g_iload (pc := 250) 1 dX4_trace_250 rfl ?_
              refine g_i2l (pc := 252) dX4_trace_252 ?_
              refine g_bipush (pc := 253) (50) dX4_trace_253 (by decide) ?_
              refine g_lshl (pc := 255) dX4_trace_255 ?_
              refine g_lor (pc := 256) dX4_trace_256 ?_
              refine g_iload (pc := 257) 9 dX4_trace_257 rfl ?_
              refine g_i2l (pc := 259) dX4_trace_259 ?_
              refine g_bipush (pc := 260) (52) dX4_trace_260 (by decide) ?_
              refine g_lshl (pc := 262) dX4_trace_262 ?_
              refine g_lor (pc := 263) dX4_trace_263 ?_
              refine a_lst (pc := 264) (aX_4_comesTo hpa) dX4_trace_264 (fun s12 => ?_)
              refine g_aload_n (pc := 265) 4 dX4_trace_265 rfl rfl ?_
              refine gf_4_madeAt (pc := 266) hpa kf_X4_38 dX4_trace_266 ?_
              refine g_iload_n (pc := 269) 5 dX4_trace_269 rfl rfl ?_
              refine g_aload_n (pc := 270) 4 dX4_trace_270 rfl rfl ?_
              refine gf_4_age (pc := 271) hpa kf_X4_35 dX4_trace_271 ?_
              refine a_ist (pc := 274) (aX_4_madeAt hpa) dX4_trace_274 (fun s13 => ?_)
              exact g_vret (pc := 275) (hro _) rfl dX4_trace_275
            · refine g_iconst (pc := 174) (1) dX4_trace_174 (by decide) ?_
              refine g_goto (pc := 175) 179 dX4_trace_175 (by decide) ?_
              refine g_istore (pc := 179) (lv' := [(8, .int (1 : Int32)), (7, .int x6), (6, .int (0 : Int32)), (0, .ref (q pa)), (1, .int start), (2, .int x1), (3, .int z1), (4, .int z2), (5, .int z3)]) dX4_trace_179 (Nat.le_of_ble_eq_true rfl) rfl ?_
              refine g_aload_n (pc := 181) 3 dX4_trace_181 rfl rfl ?_
              refine gf_4_endOf (pc := 182) hpa kf_X4_44 dX4_trace_182 ?_
              refine g_iload_n (pc := 185) 4 dX4_trace_185 rfl rfl ?_
              refine g_iload (pc := 186) 0 dX4_trace_186 rfl ?_
              refine a_ist (pc := 188) (aX_4_endOf hpa) dX4_trace_188 (fun s14 => ?_)
              refine g_aload_n (pc := 189) 3 dX4_trace_189 rfl rfl ?_
              refine gf_4_lastOf (pc := 190) hpa kf_X4_47 dX4_trace_190 ?_
              refine g_iload_n (pc := 193) 4 dX4_trace_193 rfl rfl ?_
              refine g_iload (pc := 194) 1 dX4_trace_194 rfl ?_
              refine a_ist (pc := 196) (aX_4_lastOf hpa) dX4_trace_196 (fun s15 => ?_)
              refine g_aload_n (pc := 197) 3 dX4_trace_197 rfl rfl ?_
              refine gf_4_hotOf (pc := 198) hpa kf_X4_50 dX4_trace_198 ?_
              refine g_iload_n (pc := 201) 4 dX4_trace_201 rfl rfl ?_
              refine g_aload_n (pc := 202) 3 dX4_trace_202 rfl rfl ?_
              refine gf_4_forms (pc := 203) hpa kf_X4_9 dX4_trace_203 ?_
              refine gf_1_hot (pc := 206) kf_X4_81 dX4_trace_206 ?_
              refine g_iload (pc := 209) 1 dX4_trace_209 rfl ?_
              refine a_ild (pc := 211) aX_1_hot dX4_trace_211 ?_
              refine a_ist (pc := 212) (aX_4_hotOf hpa) dX4_trace_212 (fun s16 => ?_)
              refine g_aload_n (pc := 213) 3 dX4_trace_213 rfl rfl ?_
              refine gf_4_stepsOf (pc := 214) hpa kf_X4_53 dX4_trace_214 ?_
              refine g_iload_n (pc := 217) 4 dX4_trace_217 rfl rfl ?_
              refine g_iload (pc := 218) 8 dX4_trace_218 rfl ?_
              refine a_ist (pc := 220) (aX_4_stepsOf hpa) dX4_trace_220 (fun s17 => ?_)
              refine g_aload_n (pc := 221) 3 dX4_trace_221 rfl rfl ?_
              refine g_iload_n (pc := 222) 4 dX4_trace_222 rfl rfl ?_
              refine g_aload_n (pc := 223) 3 dX4_trace_223 rfl rfl ?_
              refine gf_4_hushed (pc := 224) hpa kf_X4_32 dX4_trace_224 ?_
              refine gV_l (pc := 227) [.int start, .int (s17.1 pa 6)] [] (m_X4_shownUnder l D cy q s17 pa start (s17.1 pa 6) hpa) cw_X4_shownUnder km_X4_86 ⟨rfl, rfl, by decide, by decide⟩ (by have := hpa.lt; show pa < 88; omega) (eX_4 (cy := cy) hpa (s17.1 pa) (s17.2 pa)) rfl dX4_trace_227 rfl rfl (Nat.le_of_ble_eq_true rfl) (fun r5 => ?_)
              refine g_lstore (pc := 230) (lv' := [(9, .long r5), (8, .int (1 : Int32)), (7, .int x6), (6, .int (0 : Int32)), (0, .ref (q pa)), (1, .int start), (2, .int x1), (3, .int z1), (4, .int z2), (5, .int z3)]) dX4_trace_230 (Nat.le_of_ble_eq_true rfl) rfl ?_
              refine g_aload_n (pc := 232) 4 dX4_trace_232 rfl rfl ?_
              refine gf_4_showedOf (pc := 233) hpa kf_X4_56 dX4_trace_233 ?_
              refine g_iload_n (pc := 236) 5 dX4_trace_236 rfl rfl ?_
              refine g_lload (pc := 237) 0 dX4_trace_237 rfl ?_
              refine gS_i (pc := 239) [.long r5] [.int start, .ref (q (pa + 11))] (m_X4_countShown l D cy q s17 r5) cw_X4_countShown km_X4_90 ⟨rfl, rfl, by decide, by decide⟩ dX4_trace_239 rfl rfl (Nat.le_of_ble_eq_true rfl) (fun r6 => ?_)
              refine a_ist (pc := 242) (aX_4_showedOf hpa) dX4_trace_242 (fun s18 => ?_)
              refine g_aload_n (pc := 243) 4 dX4_trace_243 rfl rfl ?_
              refine gf_4_comesTo (pc := 244) hpa kf_X4_59 dX4_trace_244 ?_
              refine g_iload_n (pc := 247) 5 dX4_trace_247 rfl rfl ?_
              refine g_lload (pc := 248) 0 dX4_trace_248 rfl ?_
              refine g_iload (pc := 250) 1 dX4_trace_250 rfl ?_
              refine g_i2l (pc := 252) dX4_trace_252 ?_
              refine g_bipush (pc := 253) (50) dX4_trace_253 (by decide) ?_
              refine g_lshl (pc := 255) dX4_trace_255 ?_
              refine g_lor (pc := 256) dX4_trace_256 ?_
              refine g_iload (pc := 257) 9 dX4_trace_257 rfl ?_
              refine g_i2l (pc := 259) dX4_trace_259 ?_
              refine g_bipush (pc := 260) (52) dX4_trace_260 (by decide) ?_
              refine g_lshl (pc := 262) dX4_trace_262 ?_
              refine g_lor (pc := 263) dX4_trace_263 ?_
              refine a_lst (pc := 264) (aX_4_comesTo hpa) dX4_trace_264 (fun s19 => ?_)
              refine g_aload_n (pc := 265) 4 dX4_trace_265 rfl rfl ?_
              refine gf_4_madeAt (pc := 266) hpa kf_X4_38 dX4_trace_266 ?_
              refine g_iload_n (pc := 269) 5 dX4_trace_269 rfl rfl ?_
              refine g_aload_n (pc := 270) 4 dX4_trace_270 rfl rfl ?_
              refine gf_4_age (pc := 271) hpa kf_X4_35 dX4_trace_271 ?_
              refine a_ist (pc := 274) (aX_4_madeAt hpa) dX4_trace_274 (fun s20 => ?_)
              exact g_vret (pc := 275) (hro _) rfl dX4_trace_275
          · refine g_iconst (pc := 131) (1) dX4_trace_131 (by decide) ?_
            refine g_goto (pc := 132) 136 dX4_trace_132 (by decide) ?_
            refine g_istore (pc := 136) (lv' := [(6, .int (1 : Int32)), (0, .ref (q pa)), (1, .int start), (2, .int x1), (3, .int z1), (4, .int z2), (5, .int z3)]) dX4_trace_136 (Nat.le_of_ble_eq_true rfl) rfl ?_
            refine g_iload_n (pc := 138) 4 dX4_trace_138 rfl rfl ?_
            refine g_sipush (pc := 139) (256) dX4_trace_139 (by decide) ?_
            refine g_irem (pc := 142) dX4_trace_142 ?_
            refine g_nmi (fun x7 => ?_)
            refine g_istore (pc := 143) (lv' := [(7, .int x7), (6, .int (1 : Int32)), (0, .ref (q pa)), (1, .int start), (2, .int x1), (3, .int z1), (4, .int z2), (5, .int z3)]) dX4_trace_143 (Nat.le_of_ble_eq_true rfl) rfl ?_
            refine g_aload_n (pc := 145) 2 dX4_trace_145 rfl rfl ?_
            refine gf_4_states (pc := 146) hpa kf_X4_41 dX4_trace_146 ?_
            refine g_iload_n (pc := 149) 4 dX4_trace_149 rfl rfl ?_
            refine g_iload (pc := 150) 7 dX4_trace_150 rfl ?_
            refine g_iadd (pc := 152) dX4_trace_152 ?_
            refine g_sipush (pc := 153) (3072) dX4_trace_153 (by decide) ?_
            refine g_iload (pc := 156) 0 dX4_trace_156 rfl ?_
            refine g_iadd (pc := 158) dX4_trace_158 ?_
            refine a_ist (pc := 159) (aX_4_states hpa) dX4_trace_159 (fun s21 => ?_)
            refine g_iload (pc := 160) 1 dX4_trace_160 rfl ?_
            refine g_ifeq_n (pc := 162) 169 (by decide) dX4_trace_162 (by decide) ?_
            refine g_iconst (pc := 165) (2) dX4_trace_165 (by decide) ?_
            refine g_goto (pc := 166) 179 dX4_trace_166 (by decide) ?_
            refine g_istore (pc := 179) (lv' := [(8, .int (2 : Int32)), (7, .int x7), (6, .int (1 : Int32)), (0, .ref (q pa)), (1, .int start), (2, .int x1), (3, .int z1), (4, .int z2), (5, .int z3)]) dX4_trace_179 (Nat.le_of_ble_eq_true rfl) rfl ?_
            refine g_aload_n (pc := 181) 3 dX4_trace_181 rfl rfl ?_
            refine gf_4_endOf (pc := 182) hpa kf_X4_44 dX4_trace_182 ?_
            refine g_iload_n (pc := 185) 4 dX4_trace_185 rfl rfl ?_
            refine g_iload (pc := 186) 0 dX4_trace_186 rfl ?_
            refine a_ist (pc := 188) (aX_4_endOf hpa) dX4_trace_188 (fun s22 => ?_)
            refine g_aload_n (pc := 189) 3 dX4_trace_189 rfl rfl ?_
            refine gf_4_lastOf (pc := 190) hpa kf_X4_47 dX4_trace_190 ?_
            refine g_iload_n (pc := 193) 4 dX4_trace_193 rfl rfl ?_
            refine g_iload (pc := 194) 1 dX4_trace_194 rfl ?_
            refine a_ist (pc := 196) (aX_4_lastOf hpa) dX4_trace_196 (fun s23 => ?_)
            refine g_aload_n (pc := 197) 3 dX4_trace_197 rfl rfl ?_
            refine gf_4_hotOf (pc := 198) hpa kf_X4_50 dX4_trace_198 ?_
            refine g_iload_n (pc := 201) 4 dX4_trace_201 rfl rfl ?_
            refine g_aload_n (pc := 202) 3 dX4_trace_202 rfl rfl ?_
            refine gf_4_forms (pc := 203) hpa kf_X4_9 dX4_trace_203 ?_
            refine gf_1_hot (pc := 206) kf_X4_81 dX4_trace_206 ?_
            refine g_iload (pc := 209) 1 dX4_trace_209 rfl ?_
            refine a_ild (pc := 211) aX_1_hot dX4_trace_211 ?_
            refine a_ist (pc := 212) (aX_4_hotOf hpa) dX4_trace_212 (fun s24 => ?_)
            refine g_aload_n (pc := 213) 3 dX4_trace_213 rfl rfl ?_
            refine gf_4_stepsOf (pc := 214) hpa kf_X4_53 dX4_trace_214 ?_
            refine g_iload_n (pc := 217) 4 dX4_trace_217 rfl rfl ?_
            refine g_iload (pc := 218) 8 dX4_trace_218 rfl ?_
            refine a_ist (pc := 220) (aX_4_stepsOf hpa) dX4_trace_220 (fun s25 => ?_)
            refine g_aload_n (pc := 221) 3 dX4_trace_221 rfl rfl ?_
            refine g_iload_n (pc := 222) 4 dX4_trace_222 rfl rfl ?_
            refine g_aload_n (pc := 223) 3 dX4_trace_223 rfl rfl ?_
            refine gf_4_hushed (pc := 224) hpa kf_X4_32 dX4_trace_224 ?_
            refine gV_l (pc := 227) [.int start, .int (s25.1 pa 6)] [] (m_X4_shownUnder l D cy q s25 pa start (s25.1 pa 6) hpa) cw_X4_shownUnder km_X4_86 ⟨rfl, rfl, by decide, by decide⟩ (by have := hpa.lt; show pa < 88; omega) (eX_4 (cy := cy) hpa (s25.1 pa) (s25.2 pa)) rfl dX4_trace_227 rfl rfl (Nat.le_of_ble_eq_true rfl) (fun r7 => ?_)
            refine g_lstore (pc := 230) (lv' := [(9, .long r7), (8, .int (2 : Int32)), (7, .int x7), (6, .int (1 : Int32)), (0, .ref (q pa)), (1, .int start), (2, .int x1), (3, .int z1), (4, .int z2), (5, .int z3)]) dX4_trace_230 (Nat.le_of_ble_eq_true rfl) rfl ?_
            refine g_aload_n (pc := 232) 4 dX4_trace_232 rfl rfl ?_
            refine gf_4_showedOf (pc := 233) hpa kf_X4_56 dX4_trace_233 ?_
            refine g_iload_n (pc := 236) 5 dX4_trace_236 rfl rfl ?_
            refine g_lload (pc := 237) 0 dX4_trace_237 rfl ?_
            refine gS_i (pc := 239) [.long r7] [.int start, .ref (q (pa + 11))] (m_X4_countShown l D cy q s25 r7) cw_X4_countShown km_X4_90 ⟨rfl, rfl, by decide, by decide⟩ dX4_trace_239 rfl rfl (Nat.le_of_ble_eq_true rfl) (fun r8 => ?_)
            refine a_ist (pc := 242) (aX_4_showedOf hpa) dX4_trace_242 (fun s26 => ?_)
            refine g_aload_n (pc := 243) 4 dX4_trace_243 rfl rfl ?_
            refine gf_4_comesTo (pc := 244) hpa kf_X4_59 dX4_trace_244 ?_
            refine g_iload_n (pc := 247) 5 dX4_trace_247 rfl rfl ?_
            refine g_lload (pc := 248) 0 dX4_trace_248 rfl ?_
            refine g_iload (pc := 250) 1 dX4_trace_250 rfl ?_
            refine g_i2l (pc := 252) dX4_trace_252 ?_
            refine g_bipush (pc := 253) (50) dX4_trace_253 (by decide) ?_
            refine g_lshl (pc := 255) dX4_trace_255 ?_
            refine g_lor (pc := 256) dX4_trace_256 ?_
            refine g_iload (pc := 257) 9 dX4_trace_257 rfl ?_
            refine g_i2l (pc := 259) dX4_trace_259 ?_
            refine g_bipush (pc := 260) (52) dX4_trace_260 (by decide) ?_
            refine g_lshl (pc := 262) dX4_trace_262 ?_
            refine g_lor (pc := 263) dX4_trace_263 ?_
            refine a_lst (pc := 264) (aX_4_comesTo hpa) dX4_trace_264 (fun s27 => ?_)
            refine g_aload_n (pc := 265) 4 dX4_trace_265 rfl rfl ?_
            refine gf_4_madeAt (pc := 266) hpa kf_X4_38 dX4_trace_266 ?_
            refine g_iload_n (pc := 269) 5 dX4_trace_269 rfl rfl ?_
            refine g_aload_n (pc := 270) 4 dX4_trace_270 rfl rfl ?_
            refine gf_4_age (pc := 271) hpa kf_X4_35 dX4_trace_271 ?_
            refine a_ist (pc := 274) (aX_4_madeAt hpa) dX4_trace_274 (fun s28 => ?_)
            exact g_vret (pc := 275) (hro _) rfl dX4_trace_275
        · intro K50 hx50 ih50
          rintro ⟨y1, y2, y3, s2⟩
          try dsimp only [b_X4_trace_50, un]
          refine g_iload (pc := 50) 5 dX4_trace_50 rfl ?_
          refine g_bipush (pc := 52) (24) dX4_trace_52 (by decide) ?_
          refine g_icmp_ge (pc := 54) 121 dX4_trace_54 (by decide) ?_ ?_
          · exact g_sub [0, 1, 2, 3, 4, 5] rfl (hx50 (y1, y2, y3, s2))
          · refine g_iload_n (pc := 57) 3 dX4_trace_57 rfl rfl ?_
            refine g_sipush (pc := 58) (256) dX4_trace_58 (by decide) ?_
            refine g_idiv (pc := 61) dX4_trace_61 ?_
            refine g_bipush (pc := 62) (12) dX4_trace_62 (by decide) ?_
            refine g_icmp_ge (pc := 64) 121 dX4_trace_64 (by decide) ?_ ?_
            · exact g_sub [0, 1, 2, 3, 4, 5] rfl (hx50 (y1, y2, y3, s2))
            · refine g_aload_n (pc := 67) 0 dX4_trace_67 rfl rfl ?_
              refine g_iload_n (pc := 68) 3 dX4_trace_68 rfl rfl ?_
              refine g_sipush (pc := 69) (256) dX4_trace_69 (by decide) ?_
              refine g_idiv (pc := 72) dX4_trace_72 ?_
              refine g_iload_n (pc := 73) 3 dX4_trace_73 rfl rfl ?_
              refine g_sipush (pc := 74) (256) dX4_trace_74 (by decide) ?_
              refine g_irem (pc := 77) dX4_trace_77 ?_
              refine gV_i (pc := 78) [.int (y1 / (256 : Int32)), .int (y1 - y1 / (256 : Int32) * (256 : Int32))] [] (m_X4_stepped l D cy q s2 pa (y1 / (256 : Int32)) (y1 - y1 / (256 : Int32) * (256 : Int32)) hpa) cw_X4_stepped km_X4_74 ⟨rfl, rfl, by decide, by decide⟩ (by have := hpa.lt; show pa < 88; omega) (eX_4 (cy := cy) hpa (s2.1 pa) (s2.2 pa)) rfl dX4_trace_78 rfl rfl (Nat.le_of_ble_eq_true rfl) (fun r2 => ?_)
              refine g_istore (pc := 81) (lv' := [(6, .int r2), (0, .ref (q pa)), (1, .int start), (2, .int x1), (3, .int y1), (4, .int y2), (5, .int y3)]) dX4_trace_81 (Nat.le_of_ble_eq_true rfl) rfl ?_
              refine g_iload (pc := 83) 0 dX4_trace_83 rfl ?_
              refine g_sipush (pc := 85) (4096) dX4_trace_85 (by decide) ?_
              refine g_icmp_lt (pc := 88) 95 dX4_trace_88 (by decide) ?_ ?_
              · refine g_iconst (pc := 95) (0) dX4_trace_95 (by decide) ?_
                refine g_istore (pc := 96) (lv' := [(4, .int (0 : Int32)), (6, .int r2), (0, .ref (q pa)), (1, .int start), (2, .int x1), (3, .int y1), (5, .int y3)]) dX4_trace_96 (Nat.le_of_ble_eq_true rfl) rfl ?_
                refine g_iload (pc := 98) 1 dX4_trace_98 rfl ?_
                refine g_sipush (pc := 100) (4095) dX4_trace_100 (by decide) ?_
                refine g_iand (pc := 103) dX4_trace_103 ?_
                refine g_nmi (fun x2 => ?_)
                refine g_istore_n (pc := 104) (lv' := [(3, .int x2), (4, .int (0 : Int32)), (6, .int r2), (0, .ref (q pa)), (1, .int start), (2, .int x1), (5, .int y3)]) dX4_trace_104 rfl (Nat.le_of_ble_eq_true rfl) rfl ?_
                refine g_iinc (pc := 105) (j := 6) (1) (lf := fun x3 => [(5, .int x3), (3, .int x2), (4, .int (0 : Int32)), (6, .int r2), (0, .ref (q pa)), (1, .int start), (2, .int x1)]) dX4_trace_105 rfl (by decide) (Nat.le_of_ble_eq_true rfl) (fun _ => rfl) (fun x3 => ?_)
                refine g_aload_n (pc := 108) 4 dX4_trace_108 rfl rfl ?_
                refine gf_4_states (pc := 109) hpa kf_X4_41 dX4_trace_109 ?_
                refine g_iload_n (pc := 112) 6 dX4_trace_112 rfl rfl ?_
                refine g_iload (pc := 113) 0 dX4_trace_113 rfl ?_
                refine g_iadd (pc := 115) dX4_trace_115 ?_
                refine g_iload_n (pc := 116) 1 dX4_trace_116 rfl rfl ?_
                refine a_ist (pc := 117) (aX_4_states hpa) dX4_trace_117 (fun s3 => ?_)
                refine g_goto (pc := 118) 50 dX4_trace_118 (by decide) ?_
                exact g_sub [4, 5, 6, 1, 2, 0] rfl (ih50 (x2, (0 : Int32), x3, s3))
              · refine g_iconst (pc := 91) (1) dX4_trace_91 (by decide) ?_
                refine g_goto (pc := 92) 96 dX4_trace_92 (by decide) ?_
                refine g_istore (pc := 96) (lv' := [(4, .int (1 : Int32)), (6, .int r2), (0, .ref (q pa)), (1, .int start), (2, .int x1), (3, .int y1), (5, .int y3)]) dX4_trace_96 (Nat.le_of_ble_eq_true rfl) rfl ?_
                refine g_iload (pc := 98) 1 dX4_trace_98 rfl ?_
                refine g_sipush (pc := 100) (4095) dX4_trace_100 (by decide) ?_
                refine g_iand (pc := 103) dX4_trace_103 ?_
                refine g_nmi (fun x4 => ?_)
                refine g_istore_n (pc := 104) (lv' := [(3, .int x4), (4, .int (1 : Int32)), (6, .int r2), (0, .ref (q pa)), (1, .int start), (2, .int x1), (5, .int y3)]) dX4_trace_104 rfl (Nat.le_of_ble_eq_true rfl) rfl ?_
                refine g_iinc (pc := 105) (j := 6) (1) (lf := fun x5 => [(5, .int x5), (3, .int x4), (4, .int (1 : Int32)), (6, .int r2), (0, .ref (q pa)), (1, .int start), (2, .int x1)]) dX4_trace_105 rfl (by decide) (Nat.le_of_ble_eq_true rfl) (fun _ => rfl) (fun x5 => ?_)
                refine g_aload_n (pc := 108) 4 dX4_trace_108 rfl rfl ?_
                refine gf_4_states (pc := 109) hpa kf_X4_41 dX4_trace_109 ?_
                refine g_iload_n (pc := 112) 6 dX4_trace_112 rfl rfl ?_
                refine g_iload (pc := 113) 0 dX4_trace_113 rfl ?_
                refine g_iadd (pc := 115) dX4_trace_115 ?_
                refine g_iload_n (pc := 116) 1 dX4_trace_116 rfl rfl ?_
                refine a_ist (pc := 117) (aX_4_states hpa) dX4_trace_117 (fun s4 => ?_)
                refine g_goto (pc := 118) 50 dX4_trace_118 (by decide) ?_
                exact g_sub [4, 5, 6, 1, 2, 0] rfl (ih50 (x4, (1 : Int32), x5, s4))
      · exact g_vret (pc := 24) (hro _) rfl dX4_trace_24
