/-! ===== the law: its calls, its loop, its entry ===== -/
def AnsE (fX fM : St → Option (Int32 × St)) (R : Nat → St → St → Prop) (k : Nat) (σX σM : St) : Prop := ∃ r σX1 σM1, fX σX = some (r, σX1) ∧ fM σM = some (r, σM1) ∧ R (k + 1) σX1 σM1
def AnsI (fX fM : St → Option Int32) (R : Nat → St → St → Prop) (k : Nat) (σX σM : St) : Prop := ∃ r, fX σX = some r ∧ fM σM = some r ∧ R (k + 1) σX σM
def Ok_line (R : Nat → St → St → Prop) : Prop := ∀ (k : Nat) (σX σM : St) (a1 a2 a3 a4 a5 : Int32) , k < 512 → R k σX σM → AnsE (f_X8_line a1 a2 a3 a4 a5) (f_X9_line a1 a2 a3 a4 a5) R k σX σM
def Ok_change (R : Nat → St → St → Prop) : Prop := ∀ (k : Nat) (σX σM : St) (a1 a2 a3 a4 a5 a6 : Int32) , k < 512 → R k σX σM → AnsE (f_X8_change a1 a2 a3 a4 a5 a6) (f_X9_change a1 a2 a3 a4 a5 a6) R k σX σM
def Ok_clear (R : Nat → St → St → Prop) : Prop := ∀ (k : Nat) (σX σM : St) (a1 : Int32) , k < 512 → R k σX σM → AnsE (f_X8_clear a1) (f_X9_clear a1) R k σX σM
def Ok_silent (R : Nat → St → St → Prop) : Prop := ∀ (k : Nat) (σX σM : St) (a1 a2 : Int32) , k < 512 → R k σX σM → AnsE (f_X8_silent a1 a2) (f_X9_silent a1 a2) R k σX σM
def Ok_run (R : Nat → St → St → Prop) : Prop := ∀ (k : Nat) (σX σM : St) (a1 a2 a3 : Int32) , k < 512 → R k σX σM → AnsE (f_X8_run a1 a2 a3) (f_X9_run a1 a2 a3) R k σX σM
def Ok_say (R : Nat → St → St → Prop) : Prop := ∀ (k : Nat) (σX σM : St) (a1 : Int32) , k < 512 → R k σX σM → AnsE (f_X8_say a1) (f_X9_say a1) R k σX σM
def Ok_wipe (R : Nat → St → St → Prop) : Prop := ∀ (k : Nat) (σX σM : St) , k < 512 → R k σX σM → AnsE (f_X8_wipe) (f_X9_wipe) R k σX σM
def Ok_fault (R : Nat → St → St → Prop) : Prop := ∀ (k : Nat) (σX σM : St) , k < 512 → R k σX σM → AnsI (f_X8_fault) (f_X9_fault) R k σX σM
def Ok_saying (R : Nat → St → St → Prop) : Prop := ∀ (k : Nat) (σX σM : St) , k < 512 → R k σX σM → AnsE (f_X8_saying) (f_X9_saying) R k σX σM
def Ok_pair (R : Nat → St → St → Prop) : Prop := ∀ (k : Nat) (σX σM : St) (a1 a2 a3 a4 a5 a6 : Int32) , k < 512 → R k σX σM → AnsE (f_X8_pair a1 a2 a3 a4 a5 a6) (f_X9_pair a1 a2 a3 a4 a5 a6) R k σX σM
def Ok_holds (R : Nat → St → St → Prop) : Prop := ∀ (k : Nat) (σX σM : St) (a1 a2 a3 a4 : Int32) , k < 512 → R k σX σM → AnsE (f_X8_holds a1 a2 a3 a4) (f_X9_holds a1 a2 a3 a4) R k σX σM
def Ok_part (R : Nat → St → St → Prop) : Prop := ∀ (k : Nat) (σX σM : St) (a1 a2 a3 a4 : Int32) , k < 512 → R k σX σM → AnsE (f_X8_part a1 a2 a3 a4) (f_X9_part a1 a2 a3 a4) R k σX σM
def Ok_wait (R : Nat → St → St → Prop) : Prop := ∀ (k : Nat) (σX σM : St) (a1 a2 a3 : Int32) , k < 512 → R k σX σM → AnsE (f_X8_wait a1 a2 a3) (f_X9_wait a1 a2 a3) R k σX σM
def Ok_walk (R : Nat → St → St → Prop) : Prop := ∀ (k : Nat) (σX σM : St) (a1 a2 a3 a4 : Int32) , k < 512 → R k σX σM → AnsE (f_X8_walk a1 a2 a3 a4) (f_X9_walk a1 a2 a3 a4) R k σX σM
def Ok_shape (R : Nat → St → St → Prop) : Prop := ∀ (k : Nat) (σX σM : St) (a1 a2 a3 a4 a5 : Int32) , k < 512 → R k σX σM → AnsE (f_X8_shape a1 a2 a3 a4 a5) (f_X9_shape a1 a2 a3 a4 a5) R k σX σM
def Ok_tell (R : Nat → St → St → Prop) : Prop := ∀ (k : Nat) (σX σM : St) (a1 a2 a3 : Int32) , k < 512 → R k σX σM → AnsE (f_X8_tell a1 a2 a3) (f_X9_tell a1 a2 a3) R k σX σM
def Ok_fails (R : Nat → St → St → Prop) : Prop := ∀ (k : Nat) (σX σM : St) (a1 a2 a3 : Int32) , k < 512 → R k σX σM → AnsE (f_X8_fails a1 a2 a3) (f_X9_fails a1 a2 a3) R k σX σM
def Ok_so (R : Nat → St → St → Prop) : Prop := ∀ (k : Nat) (σX σM : St) (a1 a2 a3 : Int32) , k < 512 → R k σX σM → AnsE (f_X8_so a1 a2 a3) (f_X9_so a1 a2 a3) R k σX σM
def Ok_fit (R : Nat → St → St → Prop) : Prop := ∀ (k : Nat) (σX σM : St) (a1 a2 a3 a4 a5 : Int32) , k < 512 → R k σX σM → AnsE (f_X8_fit a1 a2 a3 a4 a5) (f_X9_fit a1 a2 a3 a4 a5) R k σX σM
def Ok_far (R : Nat → St → St → Prop) : Prop := ∀ (k : Nat) (σX σM : St) (a1 a2 a3 a4 : Int32) , k < 512 → R k σX σM → AnsE (f_X8_far a1 a2 a3 a4) (f_X9_far a1 a2 a3 a4) R k σX σM
def Ok_changed (R : Nat → St → St → Prop) : Prop := ∀ (k : Nat) (σX σM : St) (a1 a2 a3 : Int32) , k < 512 → R k σX σM → AnsE (f_X8_changed a1 a2 a3) (f_X9_changed a1 a2 a3) R k σX σM
def Ok_orders (R : Nat → St → St → Prop) : Prop := ∀ (k : Nat) (σX σM : St) (a1 a2 a3 a4 : Int32) , k < 512 → R k σX σM → AnsE (f_X8_orders a1 a2 a3 a4) (f_X9_orders a1 a2 a3 a4) R k σX σM
def Ok_told (R : Nat → St → St → Prop) : Prop := ∀ (k : Nat) (σX σM : St) (a1 : Int32) , k < 512 → R k σX σM → AnsI (f_X8_told a1) (f_X9_told a1) R k σX σM
def StepOK (R : Nat → St → St → Prop) : Prop := (∀ k σX σM, R k σX σM → R (k + 1) σX σM) ∧ Ok_line R ∧ Ok_change R ∧ Ok_clear R ∧ Ok_silent R ∧ Ok_run R ∧ Ok_say R ∧ Ok_wipe R ∧ Ok_fault R ∧ Ok_saying R ∧ Ok_pair R ∧ Ok_holds R ∧ Ok_part R ∧ Ok_wait R ∧ Ok_walk R ∧ Ok_shape R ∧ Ok_tell R ∧ Ok_fails R ∧ Ok_so R ∧ Ok_fit R ∧ Ok_far R ∧ Ok_changed R ∧ Ok_orders R ∧ Ok_told R
theorem ea1 (k : Nat) : nI (7 * k) + (1 : Int32) = nI (7 * k + 1) := by rw [L1, nI_add]
theorem ea2 (k : Nat) : nI (7 * k) + (2 : Int32) = nI (7 * k + 2) := by rw [L2, nI_add]
theorem ea3 (k : Nat) : nI (7 * k) + (3 : Int32) = nI (7 * k + 3) := by rw [L3, nI_add]
theorem ea4 (k : Nat) : nI (7 * k) + (4 : Int32) = nI (7 * k + 4) := by rw [L4, nI_add]
theorem ea5 (k : Nat) : nI (7 * k) + (5 : Int32) = nI (7 * k + 5) := by rw [L5, nI_add]
theorem ea6 (k : Nat) : nI (7 * k) + (6 : Int32) = nI (7 * k + 6) := by rw [L6, nI_add]
set_option maxHeartbeats 4000000 in
theorem lc_line {l : Launch} {D : va_G} {cy : Cy} {b L : Nat} {xs : Nat → Int32} {qx qm : Nat → Nat} {nc ns k : Nat} {σX σM σX1 σM1 : St} {r : Int32} (hL : L ≤ 3584) (hk : 7 * k + 7 ≤ L) (hf : nc ≤ room_1.cells ∧ ns ≤ room_1.slots) (eX : f_X8_line (xs (7 * k + 1)) (xs (7 * k + 2)) (xs (7 * k + 3)) (xs (7 * k + 4)) (xs (7 * k + 5)) σX = some (r, σX1)) (eM : f_X9_line (xs (7 * k + 1)) (xs (7 * k + 2)) (xs (7 * k + 3)) (xs (7 * k + 4)) (xs (7 * k + 5)) σM = some (r, σM1)) (h : GL l D cy b L xs (wd (vM D cy qm) σM1 ++ wd (vX D cy qx) σX1) nc ns 1143 [(3, .int (nI (7 * k))), (2, .ref (qm 0)), (1, .ref (qx 87)), (0, .ref b)] []) : GL l D cy b L xs (wd (vM D cy qm) σM ++ wd (vX D cy qx) σX) nc ns 140 [(3, .int (nI (7 * k))), (2, .ref (qm 0)), (1, .ref (qx 87)), (0, .ref b)] [] := by
  refine e_aload_n (pc := 140) 2 dL_law_140 rfl rfl ?_
  refine e_aload_n (pc := 141) 3 dL_law_141 rfl rfl ?_
  refine e_iload_n (pc := 142) 0 dL_law_142 rfl rfl ?_
  refine e_iconst (pc := 143) (1) dL_law_143 (by decide) ?_
  refine e_iadd (pc := 144) (nI (7 * k + 1)) (ea1 k) dL_law_144 ?_
  refine e_sld (pc := 145) rfl (show 7 * k + 1 < L by omega) hL dL_law_145 ?_
  refine e_aload_n (pc := 146) 3 dL_law_146 rfl rfl ?_
  refine e_iload_n (pc := 147) 0 dL_law_147 rfl rfl ?_
  refine e_iconst (pc := 148) (2) dL_law_148 (by decide) ?_
  refine e_iadd (pc := 149) (nI (7 * k + 2)) (ea2 k) dL_law_149 ?_
  refine e_sld (pc := 150) rfl (show 7 * k + 2 < L by omega) hL dL_law_150 ?_
  refine e_aload_n (pc := 151) 3 dL_law_151 rfl rfl ?_
  refine e_iload_n (pc := 152) 0 dL_law_152 rfl rfl ?_
  refine e_iconst (pc := 153) (3) dL_law_153 (by decide) ?_
  refine e_iadd (pc := 154) (nI (7 * k + 3)) (ea3 k) dL_law_154 ?_
  refine e_sld (pc := 155) rfl (show 7 * k + 3 < L by omega) hL dL_law_155 ?_
  refine e_aload_n (pc := 156) 3 dL_law_156 rfl rfl ?_
  refine e_iload_n (pc := 157) 0 dL_law_157 rfl rfl ?_
  refine e_iconst (pc := 158) (4) dL_law_158 (by decide) ?_
  refine e_iadd (pc := 159) (nI (7 * k + 4)) (ea4 k) dL_law_159 ?_
  refine e_sld (pc := 160) rfl (show 7 * k + 4 < L by omega) hL dL_law_160 ?_
  refine e_aload_n (pc := 161) 3 dL_law_161 rfl rfl ?_
  refine e_iload_n (pc := 162) 0 dL_law_162 rfl rfl ?_
  refine e_iconst (pc := 163) (5) dL_law_163 (by decide) ?_
  refine e_iadd (pc := 164) (nI (7 * k + 5)) (ea5 k) dL_law_164 ?_
  refine e_sld (pc := 165) rfl (show 7 * k + 5 < L by omega) hL dL_law_165 ?_
  refine e_call (pc := 166) (As := [.int (xs (7 * k + 1)), .int (xs (7 * k + 2)), .int (xs (7 * k + 3)), .int (xs (7 * k + 4)), .int (xs (7 * k + 5))]) (rest := []) (k := 87) (v := vX D cy qx) rfl rfl (m_X8_line l D cy qx σX (xs (7 * k + 1)) (xs (7 * k + 2)) (xs (7 * k + 3)) (xs (7 * k + 4)) (xs (7 * k + 5)) _ eX) cw_X8_line km_L_13 ⟨rfl, rfl, by decide, by decide⟩ (Nat.le_of_ble_eq_true rfl) (eX_8 (cy := cy) (σX.1 87) (σX.2 87)) rfl dL_law_166 rfl rfl (Nat.le_of_ble_eq_true rfl) hf ?_
  refine e_aload_n (pc := 169) 1 dL_law_169 rfl rfl ?_
  refine e_aload_n (pc := 170) 3 dL_law_170 rfl rfl ?_
  refine e_iload_n (pc := 171) 0 dL_law_171 rfl rfl ?_
  refine e_iconst (pc := 172) (1) dL_law_172 (by decide) ?_
  refine e_iadd (pc := 173) (nI (7 * k + 1)) (ea1 k) dL_law_173 ?_
  refine e_sld (pc := 174) rfl (show 7 * k + 1 < L by omega) hL dL_law_174 ?_
  refine e_aload_n (pc := 175) 3 dL_law_175 rfl rfl ?_
  refine e_iload_n (pc := 176) 0 dL_law_176 rfl rfl ?_
  refine e_iconst (pc := 177) (2) dL_law_177 (by decide) ?_
  refine e_iadd (pc := 178) (nI (7 * k + 2)) (ea2 k) dL_law_178 ?_
  refine e_sld (pc := 179) rfl (show 7 * k + 2 < L by omega) hL dL_law_179 ?_
  refine e_aload_n (pc := 180) 3 dL_law_180 rfl rfl ?_
  refine e_iload_n (pc := 181) 0 dL_law_181 rfl rfl ?_
  refine e_iconst (pc := 182) (3) dL_law_182 (by decide) ?_
  refine e_iadd (pc := 183) (nI (7 * k + 3)) (ea3 k) dL_law_183 ?_
  refine e_sld (pc := 184) rfl (show 7 * k + 3 < L by omega) hL dL_law_184 ?_
  refine e_aload_n (pc := 185) 3 dL_law_185 rfl rfl ?_
  refine e_iload_n (pc := 186) 0 dL_law_186 rfl rfl ?_
  refine e_iconst (pc := 187) (4) dL_law_187 (by decide) ?_
  refine e_iadd (pc := 188) (nI (7 * k + 4)) (ea4 k) dL_law_188 ?_
  refine e_sld (pc := 189) rfl (show 7 * k + 4 < L by omega) hL dL_law_189 ?_
  refine e_aload_n (pc := 190) 3 dL_law_190 rfl rfl ?_
  refine e_iload_n (pc := 191) 0 dL_law_191 rfl rfl ?_
  refine e_iconst (pc := 192) (5) dL_law_192 (by decide) ?_
  refine e_iadd (pc := 193) (nI (7 * k + 5)) (ea5 k) dL_law_193 ?_
  refine e_sld (pc := 194) rfl (show 7 * k + 5 < L by omega) hL dL_law_194 ?_
  refine e_perm List.perm_append_comm ?_
  refine e_call (pc := 195) (As := [.int (xs (7 * k + 1)), .int (xs (7 * k + 2)), .int (xs (7 * k + 3)), .int (xs (7 * k + 4)), .int (xs (7 * k + 5))]) (rest := [.int r]) (k := 0) (v := vM D cy qm) rfl rfl (m_X9_line l D cy qm σM (xs (7 * k + 1)) (xs (7 * k + 2)) (xs (7 * k + 3)) (xs (7 * k + 4)) (xs (7 * k + 5)) _ eM) cw_X9_line km_L_17 ⟨rfl, rfl, by decide, by decide⟩ (Nat.le_of_ble_eq_true rfl) (eM_9 (cy := cy) (σM.1 0) (σM.2 0)) rfl dL_law_195 rfl rfl (Nat.le_of_ble_eq_true rfl) hf ?_
  refine e_perm List.perm_append_comm ?_
  exact e_eq_y (pc := 198) 1143 dL_law_198 (by decide) h
set_option maxHeartbeats 4000000 in
theorem lc_change {l : Launch} {D : va_G} {cy : Cy} {b L : Nat} {xs : Nat → Int32} {qx qm : Nat → Nat} {nc ns k : Nat} {σX σM σX1 σM1 : St} {r : Int32} (hL : L ≤ 3584) (hk : 7 * k + 7 ≤ L) (hf : nc ≤ room_1.cells ∧ ns ≤ room_1.slots) (eX : f_X8_change (xs (7 * k + 1)) (xs (7 * k + 2)) (xs (7 * k + 3)) (xs (7 * k + 4)) (xs (7 * k + 5)) (xs (7 * k + 6)) σX = some (r, σX1)) (eM : f_X9_change (xs (7 * k + 1)) (xs (7 * k + 2)) (xs (7 * k + 3)) (xs (7 * k + 4)) (xs (7 * k + 5)) (xs (7 * k + 6)) σM = some (r, σM1)) (h : GL l D cy b L xs (wd (vM D cy qm) σM1 ++ wd (vX D cy qx) σX1) nc ns 1143 [(3, .int (nI (7 * k))), (2, .ref (qm 0)), (1, .ref (qx 87)), (0, .ref b)] []) : GL l D cy b L xs (wd (vM D cy qm) σM ++ wd (vX D cy qx) σX) nc ns 203 [(3, .int (nI (7 * k))), (2, .ref (qm 0)), (1, .ref (qx 87)), (0, .ref b)] [] := by
  refine e_aload_n (pc := 203) 2 dL_law_203 rfl rfl ?_
  refine e_aload_n (pc := 204) 3 dL_law_204 rfl rfl ?_
  refine e_iload_n (pc := 205) 0 dL_law_205 rfl rfl ?_
  refine e_iconst (pc := 206) (1) dL_law_206 (by decide) ?_
  refine e_iadd (pc := 207) (nI (7 * k + 1)) (ea1 k) dL_law_207 ?_
  refine e_sld (pc := 208) rfl (show 7 * k + 1 < L by omega) hL dL_law_208 ?_
  refine e_aload_n (pc := 209) 3 dL_law_209 rfl rfl ?_
  refine e_iload_n (pc := 210) 0 dL_law_210 rfl rfl ?_
  refine e_iconst (pc := 211) (2) dL_law_211 (by decide) ?_
  refine e_iadd (pc := 212) (nI (7 * k + 2)) (ea2 k) dL_law_212 ?_
  refine e_sld (pc := 213) rfl (show 7 * k + 2 < L by omega) hL dL_law_213 ?_
  refine e_aload_n (pc := 214) 3 dL_law_214 rfl rfl ?_
  refine e_iload_n (pc := 215) 0 dL_law_215 rfl rfl ?_
  refine e_iconst (pc := 216) (3) dL_law_216 (by decide) ?_
  refine e_iadd (pc := 217) (nI (7 * k + 3)) (ea3 k) dL_law_217 ?_
  refine e_sld (pc := 218) rfl (show 7 * k + 3 < L by omega) hL dL_law_218 ?_
  refine e_aload_n (pc := 219) 3 dL_law_219 rfl rfl ?_
  refine e_iload_n (pc := 220) 0 dL_law_220 rfl rfl ?_
  refine e_iconst (pc := 221) (4) dL_law_221 (by decide) ?_
  refine e_iadd (pc := 222) (nI (7 * k + 4)) (ea4 k) dL_law_222 ?_
  refine e_sld (pc := 223) rfl (show 7 * k + 4 < L by omega) hL dL_law_223 ?_
  refine e_aload_n (pc := 224) 3 dL_law_224 rfl rfl ?_
  refine e_iload_n (pc := 225) 0 dL_law_225 rfl rfl ?_
  refine e_iconst (pc := 226) (5) dL_law_226 (by decide) ?_
  refine e_iadd (pc := 227) (nI (7 * k + 5)) (ea5 k) dL_law_227 ?_
  refine e_sld (pc := 228) rfl (show 7 * k + 5 < L by omega) hL dL_law_228 ?_
  refine e_aload_n (pc := 229) 3 dL_law_229 rfl rfl ?_
  refine e_iload_n (pc := 230) 0 dL_law_230 rfl rfl ?_
  refine e_bipush (pc := 231) (6) dL_law_231 (by decide) ?_
  refine e_iadd (pc := 233) (nI (7 * k + 6)) (ea6 k) dL_law_233 ?_
  refine e_sld (pc := 234) rfl (show 7 * k + 6 < L by omega) hL dL_law_234 ?_
  refine e_call (pc := 235) (As := [.int (xs (7 * k + 1)), .int (xs (7 * k + 2)), .int (xs (7 * k + 3)), .int (xs (7 * k + 4)), .int (xs (7 * k + 5)), .int (xs (7 * k + 6))]) (rest := []) (k := 87) (v := vX D cy qx) rfl rfl (m_X8_change l D cy qx σX (xs (7 * k + 1)) (xs (7 * k + 2)) (xs (7 * k + 3)) (xs (7 * k + 4)) (xs (7 * k + 5)) (xs (7 * k + 6)) _ eX) cw_X8_change km_L_18 ⟨rfl, rfl, by decide, by decide⟩ (Nat.le_of_ble_eq_true rfl) (eX_8 (cy := cy) (σX.1 87) (σX.2 87)) rfl dL_law_235 rfl rfl (Nat.le_of_ble_eq_true rfl) hf ?_
  refine e_aload_n (pc := 238) 1 dL_law_238 rfl rfl ?_
  refine e_aload_n (pc := 239) 3 dL_law_239 rfl rfl ?_
  refine e_iload_n (pc := 240) 0 dL_law_240 rfl rfl ?_
  refine e_iconst (pc := 241) (1) dL_law_241 (by decide) ?_
  refine e_iadd (pc := 242) (nI (7 * k + 1)) (ea1 k) dL_law_242 ?_
  refine e_sld (pc := 243) rfl (show 7 * k + 1 < L by omega) hL dL_law_243 ?_
  refine e_aload_n (pc := 244) 3 dL_law_244 rfl rfl ?_
  refine e_iload_n (pc := 245) 0 dL_law_245 rfl rfl ?_
  refine e_iconst (pc := 246) (2) dL_law_246 (by decide) ?_
  refine e_iadd (pc := 247) (nI (7 * k + 2)) (ea2 k) dL_law_247 ?_
  refine e_sld (pc := 248) rfl (show 7 * k + 2 < L by omega) hL dL_law_248 ?_
  refine e_aload_n (pc := 249) 3 dL_law_249 rfl rfl ?_
  refine e_iload_n (pc := 250) 0 dL_law_250 rfl rfl ?_
  refine e_iconst (pc := 251) (3) dL_law_251 (by decide) ?_
  refine e_iadd (pc := 252) (nI (7 * k + 3)) (ea3 k) dL_law_252 ?_
  refine e_sld (pc := 253) rfl (show 7 * k + 3 < L by omega) hL dL_law_253 ?_
  refine e_aload_n (pc := 254) 3 dL_law_254 rfl rfl ?_
  refine e_iload_n (pc := 255) 0 dL_law_255 rfl rfl ?_
  refine e_iconst (pc := 256) (4) dL_law_256 (by decide) ?_
  refine e_iadd (pc := 257) (nI (7 * k + 4)) (ea4 k) dL_law_257 ?_
  refine e_sld (pc := 258) rfl (show 7 * k + 4 < L by omega) hL dL_law_258 ?_
  refine e_aload_n (pc := 259) 3 dL_law_259 rfl rfl ?_
  refine e_iload_n (pc := 260) 0 dL_law_260 rfl rfl ?_
  refine e_iconst (pc := 261) (5) dL_law_261 (by decide) ?_
  refine e_iadd (pc := 262) (nI (7 * k + 5)) (ea5 k) dL_law_262 ?_
  refine e_sld (pc := 263) rfl (show 7 * k + 5 < L by omega) hL dL_law_263 ?_
  refine e_aload_n (pc := 264) 3 dL_law_264 rfl rfl ?_
  refine e_iload_n (pc := 265) 0 dL_law_265 rfl rfl ?_
  refine e_bipush (pc := 266) (6) dL_law_266 (by decide) ?_
  refine e_iadd (pc := 268) (nI (7 * k + 6)) (ea6 k) dL_law_268 ?_
  refine e_sld (pc := 269) rfl (show 7 * k + 6 < L by omega) hL dL_law_269 ?_
  refine e_perm List.perm_append_comm ?_
  refine e_call (pc := 270) (As := [.int (xs (7 * k + 1)), .int (xs (7 * k + 2)), .int (xs (7 * k + 3)), .int (xs (7 * k + 4)), .int (xs (7 * k + 5)), .int (xs (7 * k + 6))]) (rest := [.int r]) (k := 0) (v := vM D cy qm) rfl rfl (m_X9_change l D cy qm σM (xs (7 * k + 1)) (xs (7 * k + 2)) (xs (7 * k + 3)) (xs (7 * k + 4)) (xs (7 * k + 5)) (xs (7 * k + 6)) _ eM) cw_X9_change km_L_22 ⟨rfl, rfl, by decide, by decide⟩ (Nat.le_of_ble_eq_true rfl) (eM_9 (cy := cy) (σM.1 0) (σM.2 0)) rfl dL_law_270 rfl rfl (Nat.le_of_ble_eq_true rfl) hf ?_
  refine e_perm List.perm_append_comm ?_
  exact e_eq_y (pc := 273) 1143 dL_law_273 (by decide) h
set_option maxHeartbeats 4000000 in
theorem lc_clear {l : Launch} {D : va_G} {cy : Cy} {b L : Nat} {xs : Nat → Int32} {qx qm : Nat → Nat} {nc ns k : Nat} {σX σM σX1 σM1 : St} {r : Int32} (hL : L ≤ 3584) (hk : 7 * k + 7 ≤ L) (hf : nc ≤ room_1.cells ∧ ns ≤ room_1.slots) (eX : f_X8_clear (xs (7 * k + 1)) σX = some (r, σX1)) (eM : f_X9_clear (xs (7 * k + 1)) σM = some (r, σM1)) (h : GL l D cy b L xs (wd (vM D cy qm) σM1 ++ wd (vX D cy qx) σX1) nc ns 1143 [(3, .int (nI (7 * k))), (2, .ref (qm 0)), (1, .ref (qx 87)), (0, .ref b)] []) : GL l D cy b L xs (wd (vM D cy qm) σM ++ wd (vX D cy qx) σX) nc ns 278 [(3, .int (nI (7 * k))), (2, .ref (qm 0)), (1, .ref (qx 87)), (0, .ref b)] [] := by
  refine e_aload_n (pc := 278) 2 dL_law_278 rfl rfl ?_
  refine e_aload_n (pc := 279) 3 dL_law_279 rfl rfl ?_
  refine e_iload_n (pc := 280) 0 dL_law_280 rfl rfl ?_
  refine e_iconst (pc := 281) (1) dL_law_281 (by decide) ?_
  refine e_iadd (pc := 282) (nI (7 * k + 1)) (ea1 k) dL_law_282 ?_
  refine e_sld (pc := 283) rfl (show 7 * k + 1 < L by omega) hL dL_law_283 ?_
  refine e_call (pc := 284) (As := [.int (xs (7 * k + 1))]) (rest := []) (k := 87) (v := vX D cy qx) rfl rfl (m_X8_clear l D cy qx σX (xs (7 * k + 1)) _ eX) cw_X8_clear km_L_23 ⟨rfl, rfl, by decide, by decide⟩ (Nat.le_of_ble_eq_true rfl) (eX_8 (cy := cy) (σX.1 87) (σX.2 87)) rfl dL_law_284 rfl rfl (Nat.le_of_ble_eq_true rfl) hf ?_
  refine e_aload_n (pc := 287) 1 dL_law_287 rfl rfl ?_
  refine e_aload_n (pc := 288) 3 dL_law_288 rfl rfl ?_
  refine e_iload_n (pc := 289) 0 dL_law_289 rfl rfl ?_
  refine e_iconst (pc := 290) (1) dL_law_290 (by decide) ?_
  refine e_iadd (pc := 291) (nI (7 * k + 1)) (ea1 k) dL_law_291 ?_
  refine e_sld (pc := 292) rfl (show 7 * k + 1 < L by omega) hL dL_law_292 ?_
  refine e_perm List.perm_append_comm ?_
  refine e_call (pc := 293) (As := [.int (xs (7 * k + 1))]) (rest := [.int r]) (k := 0) (v := vM D cy qm) rfl rfl (m_X9_clear l D cy qm σM (xs (7 * k + 1)) _ eM) cw_X9_clear km_L_27 ⟨rfl, rfl, by decide, by decide⟩ (Nat.le_of_ble_eq_true rfl) (eM_9 (cy := cy) (σM.1 0) (σM.2 0)) rfl dL_law_293 rfl rfl (Nat.le_of_ble_eq_true rfl) hf ?_
  refine e_perm List.perm_append_comm ?_
  exact e_eq_y (pc := 296) 1143 dL_law_296 (by decide) h
set_option maxHeartbeats 4000000 in
theorem lc_silent {l : Launch} {D : va_G} {cy : Cy} {b L : Nat} {xs : Nat → Int32} {qx qm : Nat → Nat} {nc ns k : Nat} {σX σM σX1 σM1 : St} {r : Int32} (hL : L ≤ 3584) (hk : 7 * k + 7 ≤ L) (hf : nc ≤ room_1.cells ∧ ns ≤ room_1.slots) (eX : f_X8_silent (xs (7 * k + 1)) (xs (7 * k + 2)) σX = some (r, σX1)) (eM : f_X9_silent (xs (7 * k + 1)) (xs (7 * k + 2)) σM = some (r, σM1)) (h : GL l D cy b L xs (wd (vM D cy qm) σM1 ++ wd (vX D cy qx) σX1) nc ns 1143 [(3, .int (nI (7 * k))), (2, .ref (qm 0)), (1, .ref (qx 87)), (0, .ref b)] []) : GL l D cy b L xs (wd (vM D cy qm) σM ++ wd (vX D cy qx) σX) nc ns 301 [(3, .int (nI (7 * k))), (2, .ref (qm 0)), (1, .ref (qx 87)), (0, .ref b)] [] := by
  refine e_aload_n (pc := 301) 2 dL_law_301 rfl rfl ?_
  refine e_aload_n (pc := 302) 3 dL_law_302 rfl rfl ?_
  refine e_iload_n (pc := 303) 0 dL_law_303 rfl rfl ?_
  refine e_iconst (pc := 304) (1) dL_law_304 (by decide) ?_
  refine e_iadd (pc := 305) (nI (7 * k + 1)) (ea1 k) dL_law_305 ?_
  refine e_sld (pc := 306) rfl (show 7 * k + 1 < L by omega) hL dL_law_306 ?_
  refine e_aload_n (pc := 307) 3 dL_law_307 rfl rfl ?_
  refine e_iload_n (pc := 308) 0 dL_law_308 rfl rfl ?_
  refine e_iconst (pc := 309) (2) dL_law_309 (by decide) ?_
  refine e_iadd (pc := 310) (nI (7 * k + 2)) (ea2 k) dL_law_310 ?_
  refine e_sld (pc := 311) rfl (show 7 * k + 2 < L by omega) hL dL_law_311 ?_
  refine e_call (pc := 312) (As := [.int (xs (7 * k + 1)), .int (xs (7 * k + 2))]) (rest := []) (k := 87) (v := vX D cy qx) rfl rfl (m_X8_silent l D cy qx σX (xs (7 * k + 1)) (xs (7 * k + 2)) _ eX) cw_X8_silent km_L_28 ⟨rfl, rfl, by decide, by decide⟩ (Nat.le_of_ble_eq_true rfl) (eX_8 (cy := cy) (σX.1 87) (σX.2 87)) rfl dL_law_312 rfl rfl (Nat.le_of_ble_eq_true rfl) hf ?_
  refine e_aload_n (pc := 315) 1 dL_law_315 rfl rfl ?_
  refine e_aload_n (pc := 316) 3 dL_law_316 rfl rfl ?_
  refine e_iload_n (pc := 317) 0 dL_law_317 rfl rfl ?_
  refine e_iconst (pc := 318) (1) dL_law_318 (by decide) ?_
  refine e_iadd (pc := 319) (nI (7 * k + 1)) (ea1 k) dL_law_319 ?_
  refine e_sld (pc := 320) rfl (show 7 * k + 1 < L by omega) hL dL_law_320 ?_
  refine e_aload_n (pc := 321) 3 dL_law_321 rfl rfl ?_
  refine e_iload_n (pc := 322) 0 dL_law_322 rfl rfl ?_
  refine e_iconst (pc := 323) (2) dL_law_323 (by decide) ?_
  refine e_iadd (pc := 324) (nI (7 * k + 2)) (ea2 k) dL_law_324 ?_
  refine e_sld (pc := 325) rfl (show 7 * k + 2 < L by omega) hL dL_law_325 ?_
  refine e_perm List.perm_append_comm ?_
  refine e_call (pc := 326) (As := [.int (xs (7 * k + 1)), .int (xs (7 * k + 2))]) (rest := [.int r]) (k := 0) (v := vM D cy qm) rfl rfl (m_X9_silent l D cy qm σM (xs (7 * k + 1)) (xs (7 * k + 2)) _ eM) cw_X9_silent km_L_32 ⟨rfl, rfl, by decide, by decide⟩ (Nat.le_of_ble_eq_true rfl) (eM_9 (cy := cy) (σM.1 0) (σM.2 0)) rfl dL_law_326 rfl rfl (Nat.le_of_ble_eq_true rfl) hf ?_
  refine e_perm List.perm_append_comm ?_
  exact e_eq_y (pc := 329) 1143 dL_law_329 (by decide) h
set_option maxHeartbeats 4000000 in
theorem lc_run {l : Launch} {D : va_G} {cy : Cy} {b L : Nat} {xs : Nat → Int32} {qx qm : Nat → Nat} {nc ns k : Nat} {σX σM σX1 σM1 : St} {r : Int32} (hL : L ≤ 3584) (hk : 7 * k + 7 ≤ L) (hf : nc ≤ room_1.cells ∧ ns ≤ room_1.slots) (eX : f_X8_run (xs (7 * k + 1)) (xs (7 * k + 2)) (xs (7 * k + 3)) σX = some (r, σX1)) (eM : f_X9_run (xs (7 * k + 1)) (xs (7 * k + 2)) (xs (7 * k + 3)) σM = some (r, σM1)) (h : GL l D cy b L xs (wd (vM D cy qm) σM1 ++ wd (vX D cy qx) σX1) nc ns 1143 [(3, .int (nI (7 * k))), (2, .ref (qm 0)), (1, .ref (qx 87)), (0, .ref b)] []) : GL l D cy b L xs (wd (vM D cy qm) σM ++ wd (vX D cy qx) σX) nc ns 334 [(3, .int (nI (7 * k))), (2, .ref (qm 0)), (1, .ref (qx 87)), (0, .ref b)] [] := by
  refine e_aload_n (pc := 334) 2 dL_law_334 rfl rfl ?_
  refine e_aload_n (pc := 335) 3 dL_law_335 rfl rfl ?_
  refine e_iload_n (pc := 336) 0 dL_law_336 rfl rfl ?_
  refine e_iconst (pc := 337) (1) dL_law_337 (by decide) ?_
  refine e_iadd (pc := 338) (nI (7 * k + 1)) (ea1 k) dL_law_338 ?_
  refine e_sld (pc := 339) rfl (show 7 * k + 1 < L by omega) hL dL_law_339 ?_
  refine e_aload_n (pc := 340) 3 dL_law_340 rfl rfl ?_
  refine e_iload_n (pc := 341) 0 dL_law_341 rfl rfl ?_
  refine e_iconst (pc := 342) (2) dL_law_342 (by decide) ?_
  refine e_iadd (pc := 343) (nI (7 * k + 2)) (ea2 k) dL_law_343 ?_
  refine e_sld (pc := 344) rfl (show 7 * k + 2 < L by omega) hL dL_law_344 ?_
  refine e_aload_n (pc := 345) 3 dL_law_345 rfl rfl ?_
  refine e_iload_n (pc := 346) 0 dL_law_346 rfl rfl ?_
  refine e_iconst (pc := 347) (3) dL_law_347 (by decide) ?_
  refine e_iadd (pc := 348) (nI (7 * k + 3)) (ea3 k) dL_law_348 ?_
  refine e_sld (pc := 349) rfl (show 7 * k + 3 < L by omega) hL dL_law_349 ?_
  refine e_call (pc := 350) (As := [.int (xs (7 * k + 1)), .int (xs (7 * k + 2)), .int (xs (7 * k + 3))]) (rest := []) (k := 87) (v := vX D cy qx) rfl rfl (m_X8_run l D cy qx σX (xs (7 * k + 1)) (xs (7 * k + 2)) (xs (7 * k + 3)) _ eX) cw_X8_run km_L_33 ⟨rfl, rfl, by decide, by decide⟩ (Nat.le_of_ble_eq_true rfl) (eX_8 (cy := cy) (σX.1 87) (σX.2 87)) rfl dL_law_350 rfl rfl (Nat.le_of_ble_eq_true rfl) hf ?_
  refine e_aload_n (pc := 353) 1 dL_law_353 rfl rfl ?_
  refine e_aload_n (pc := 354) 3 dL_law_354 rfl rfl ?_
  refine e_iload_n (pc := 355) 0 dL_law_355 rfl rfl ?_
  refine e_iconst (pc := 356) (1) dL_law_356 (by decide) ?_
  refine e_iadd (pc := 357) (nI (7 * k + 1)) (ea1 k) dL_law_357 ?_
  refine e_sld (pc := 358) rfl (show 7 * k + 1 < L by omega) hL dL_law_358 ?_
  refine e_aload_n (pc := 359) 3 dL_law_359 rfl rfl ?_
  refine e_iload_n (pc := 360) 0 dL_law_360 rfl rfl ?_
  refine e_iconst (pc := 361) (2) dL_law_361 (by decide) ?_
  refine e_iadd (pc := 362) (nI (7 * k + 2)) (ea2 k) dL_law_362 ?_
  refine e_sld (pc := 363) rfl (show 7 * k + 2 < L by omega) hL dL_law_363 ?_
  refine e_aload_n (pc := 364) 3 dL_law_364 rfl rfl ?_
  refine e_iload_n (pc := 365) 0 dL_law_365 rfl rfl ?_
  refine e_iconst (pc := 366) (3) dL_law_366 (by decide) ?_
  refine e_iadd (pc := 367) (nI (7 * k + 3)) (ea3 k) dL_law_367 ?_
  refine e_sld (pc := 368) rfl (show 7 * k + 3 < L by omega) hL dL_law_368 ?_
  refine e_perm List.perm_append_comm ?_
  refine e_call (pc := 369) (As := [.int (xs (7 * k + 1)), .int (xs (7 * k + 2)), .int (xs (7 * k + 3))]) (rest := [.int r]) (k := 0) (v := vM D cy qm) rfl rfl (m_X9_run l D cy qm σM (xs (7 * k + 1)) (xs (7 * k + 2)) (xs (7 * k + 3)) _ eM) cw_X9_run km_L_37 ⟨rfl, rfl, by decide, by decide⟩ (Nat.le_of_ble_eq_true rfl) (eM_9 (cy := cy) (σM.1 0) (σM.2 0)) rfl dL_law_369 rfl rfl (Nat.le_of_ble_eq_true rfl) hf ?_
  refine e_perm List.perm_append_comm ?_
  exact e_eq_y (pc := 372) 1143 dL_law_372 (by decide) h
set_option maxHeartbeats 4000000 in
theorem lc_say {l : Launch} {D : va_G} {cy : Cy} {b L : Nat} {xs : Nat → Int32} {qx qm : Nat → Nat} {nc ns k : Nat} {σX σM σX1 σM1 : St} {r : Int32} (hL : L ≤ 3584) (hk : 7 * k + 7 ≤ L) (hf : nc ≤ room_1.cells ∧ ns ≤ room_1.slots) (eX : f_X8_say (xs (7 * k + 1)) σX = some (r, σX1)) (eM : f_X9_say (xs (7 * k + 1)) σM = some (r, σM1)) (h : GL l D cy b L xs (wd (vM D cy qm) σM1 ++ wd (vX D cy qx) σX1) nc ns 1143 [(3, .int (nI (7 * k))), (2, .ref (qm 0)), (1, .ref (qx 87)), (0, .ref b)] []) : GL l D cy b L xs (wd (vM D cy qm) σM ++ wd (vX D cy qx) σX) nc ns 377 [(3, .int (nI (7 * k))), (2, .ref (qm 0)), (1, .ref (qx 87)), (0, .ref b)] [] := by
  refine e_aload_n (pc := 377) 2 dL_law_377 rfl rfl ?_
  refine e_aload_n (pc := 378) 3 dL_law_378 rfl rfl ?_
  refine e_iload_n (pc := 379) 0 dL_law_379 rfl rfl ?_
  refine e_iconst (pc := 380) (1) dL_law_380 (by decide) ?_
  refine e_iadd (pc := 381) (nI (7 * k + 1)) (ea1 k) dL_law_381 ?_
  refine e_sld (pc := 382) rfl (show 7 * k + 1 < L by omega) hL dL_law_382 ?_
  refine e_call (pc := 383) (As := [.int (xs (7 * k + 1))]) (rest := []) (k := 87) (v := vX D cy qx) rfl rfl (m_X8_say l D cy qx σX (xs (7 * k + 1)) _ eX) cw_X8_say km_L_38 ⟨rfl, rfl, by decide, by decide⟩ (Nat.le_of_ble_eq_true rfl) (eX_8 (cy := cy) (σX.1 87) (σX.2 87)) rfl dL_law_383 rfl rfl (Nat.le_of_ble_eq_true rfl) hf ?_
  refine e_aload_n (pc := 386) 1 dL_law_386 rfl rfl ?_
  refine e_aload_n (pc := 387) 3 dL_law_387 rfl rfl ?_
  refine e_iload_n (pc := 388) 0 dL_law_388 rfl rfl ?_
  refine e_iconst (pc := 389) (1) dL_law_389 (by decide) ?_
  refine e_iadd (pc := 390) (nI (7 * k + 1)) (ea1 k) dL_law_390 ?_
  refine e_sld (pc := 391) rfl (show 7 * k + 1 < L by omega) hL dL_law_391 ?_
  refine e_perm List.perm_append_comm ?_
  refine e_call (pc := 392) (As := [.int (xs (7 * k + 1))]) (rest := [.int r]) (k := 0) (v := vM D cy qm) rfl rfl (m_X9_say l D cy qm σM (xs (7 * k + 1)) _ eM) cw_X9_say km_L_41 ⟨rfl, rfl, by decide, by decide⟩ (Nat.le_of_ble_eq_true rfl) (eM_9 (cy := cy) (σM.1 0) (σM.2 0)) rfl dL_law_392 rfl rfl (Nat.le_of_ble_eq_true rfl) hf ?_
  refine e_perm List.perm_append_comm ?_
  exact e_eq_y (pc := 395) 1143 dL_law_395 (by decide) h
set_option maxHeartbeats 4000000 in
theorem lc_wipe {l : Launch} {D : va_G} {cy : Cy} {b L : Nat} {xs : Nat → Int32} {qx qm : Nat → Nat} {nc ns k : Nat} {σX σM σX1 σM1 : St} {r : Int32} (hL : L ≤ 3584) (hk : 7 * k + 7 ≤ L) (hf : nc ≤ room_1.cells ∧ ns ≤ room_1.slots) (eX : f_X8_wipe  σX = some (r, σX1)) (eM : f_X9_wipe  σM = some (r, σM1)) (h : GL l D cy b L xs (wd (vM D cy qm) σM1 ++ wd (vX D cy qx) σX1) nc ns 1143 [(3, .int (nI (7 * k))), (2, .ref (qm 0)), (1, .ref (qx 87)), (0, .ref b)] []) : GL l D cy b L xs (wd (vM D cy qm) σM ++ wd (vX D cy qx) σX) nc ns 400 [(3, .int (nI (7 * k))), (2, .ref (qm 0)), (1, .ref (qx 87)), (0, .ref b)] [] := by
  refine e_aload_n (pc := 400) 2 dL_law_400 rfl rfl ?_
  refine e_call (pc := 401) (As := []) (rest := []) (k := 87) (v := vX D cy qx) rfl rfl (m_X8_wipe l D cy qx σX  _ eX) cw_X8_wipe km_L_42 ⟨rfl, rfl, by decide, by decide⟩ (Nat.le_of_ble_eq_true rfl) (eX_8 (cy := cy) (σX.1 87) (σX.2 87)) rfl dL_law_401 rfl rfl (Nat.le_of_ble_eq_true rfl) hf ?_
  refine e_aload_n (pc := 404) 1 dL_law_404 rfl rfl ?_
  refine e_perm List.perm_append_comm ?_
  refine e_call (pc := 405) (As := []) (rest := [.int r]) (k := 0) (v := vM D cy qm) rfl rfl (m_X9_wipe l D cy qm σM  _ eM) cw_X9_wipe km_L_46 ⟨rfl, rfl, by decide, by decide⟩ (Nat.le_of_ble_eq_true rfl) (eM_9 (cy := cy) (σM.1 0) (σM.2 0)) rfl dL_law_405 rfl rfl (Nat.le_of_ble_eq_true rfl) hf ?_
  refine e_perm List.perm_append_comm ?_
  exact e_eq_y (pc := 408) 1143 dL_law_408 (by decide) h
set_option maxHeartbeats 4000000 in
theorem lc_fault {l : Launch} {D : va_G} {cy : Cy} {b L : Nat} {xs : Nat → Int32} {qx qm : Nat → Nat} {nc ns k : Nat} {σX σM : St} {r : Int32} (hL : L ≤ 3584) (hk : 7 * k + 7 ≤ L) (hf : nc ≤ room_1.cells ∧ ns ≤ room_1.slots) (eX : f_X8_fault  σX = some r) (eM : f_X9_fault  σM = some r) (h : GL l D cy b L xs (wd (vM D cy qm) σM ++ wd (vX D cy qx) σX) nc ns 1143 [(3, .int (nI (7 * k))), (2, .ref (qm 0)), (1, .ref (qx 87)), (0, .ref b)] []) : GL l D cy b L xs (wd (vM D cy qm) σM ++ wd (vX D cy qx) σX) nc ns 413 [(3, .int (nI (7 * k))), (2, .ref (qm 0)), (1, .ref (qx 87)), (0, .ref b)] [] := by
  refine e_aload_n (pc := 413) 2 dL_law_413 rfl rfl ?_
  refine e_call (pc := 414) (As := []) (rest := []) (k := 87) (v := vX D cy qx) rfl rfl (m_X8_fault l D cy qx σX  _ eX) cw_X8_fault km_L_47 ⟨rfl, rfl, by decide, by decide⟩ (Nat.le_of_ble_eq_true rfl) (eX_8 (cy := cy) (σX.1 87) (σX.2 87)) rfl dL_law_414 rfl rfl (Nat.le_of_ble_eq_true rfl) hf ?_
  refine e_aload_n (pc := 417) 1 dL_law_417 rfl rfl ?_
  refine e_perm List.perm_append_comm ?_
  refine e_call (pc := 418) (As := []) (rest := [.int r]) (k := 0) (v := vM D cy qm) rfl rfl (m_X9_fault l D cy qm σM  _ eM) cw_X9_fault km_L_50 ⟨rfl, rfl, by decide, by decide⟩ (Nat.le_of_ble_eq_true rfl) (eM_9 (cy := cy) (σM.1 0) (σM.2 0)) rfl dL_law_418 rfl rfl (Nat.le_of_ble_eq_true rfl) hf ?_
  refine e_perm List.perm_append_comm ?_
  exact e_eq_y (pc := 421) 1143 dL_law_421 (by decide) h
set_option maxHeartbeats 4000000 in
theorem lc_saying {l : Launch} {D : va_G} {cy : Cy} {b L : Nat} {xs : Nat → Int32} {qx qm : Nat → Nat} {nc ns k : Nat} {σX σM σX1 σM1 : St} {r : Int32} (hL : L ≤ 3584) (hk : 7 * k + 7 ≤ L) (hf : nc ≤ room_1.cells ∧ ns ≤ room_1.slots) (eX : f_X8_saying  σX = some (r, σX1)) (eM : f_X9_saying  σM = some (r, σM1)) (h : GL l D cy b L xs (wd (vM D cy qm) σM1 ++ wd (vX D cy qx) σX1) nc ns 1143 [(3, .int (nI (7 * k))), (2, .ref (qm 0)), (1, .ref (qx 87)), (0, .ref b)] []) : GL l D cy b L xs (wd (vM D cy qm) σM ++ wd (vX D cy qx) σX) nc ns 426 [(3, .int (nI (7 * k))), (2, .ref (qm 0)), (1, .ref (qx 87)), (0, .ref b)] [] := by
  refine e_aload_n (pc := 426) 2 dL_law_426 rfl rfl ?_
  refine e_call (pc := 427) (As := []) (rest := []) (k := 87) (v := vX D cy qx) rfl rfl (m_X8_saying l D cy qx σX  _ eX) cw_X8_saying km_L_51 ⟨rfl, rfl, by decide, by decide⟩ (Nat.le_of_ble_eq_true rfl) (eX_8 (cy := cy) (σX.1 87) (σX.2 87)) rfl dL_law_427 rfl rfl (Nat.le_of_ble_eq_true rfl) hf ?_
  refine e_aload_n (pc := 430) 1 dL_law_430 rfl rfl ?_
  refine e_perm List.perm_append_comm ?_
  refine e_call (pc := 431) (As := []) (rest := [.int r]) (k := 0) (v := vM D cy qm) rfl rfl (m_X9_saying l D cy qm σM  _ eM) cw_X9_saying km_L_54 ⟨rfl, rfl, by decide, by decide⟩ (Nat.le_of_ble_eq_true rfl) (eM_9 (cy := cy) (σM.1 0) (σM.2 0)) rfl dL_law_431 rfl rfl (Nat.le_of_ble_eq_true rfl) hf ?_
  refine e_perm List.perm_append_comm ?_
  exact e_eq_y (pc := 434) 1143 dL_law_434 (by decide) h
set_option maxHeartbeats 4000000 in
theorem lc_pair {l : Launch} {D : va_G} {cy : Cy} {b L : Nat} {xs : Nat → Int32} {qx qm : Nat → Nat} {nc ns k : Nat} {σX σM σX1 σM1 : St} {r : Int32} (hL : L ≤ 3584) (hk : 7 * k + 7 ≤ L) (hf : nc ≤ room_1.cells ∧ ns ≤ room_1.slots) (eX : f_X8_pair (xs (7 * k + 1)) (xs (7 * k + 2)) (xs (7 * k + 3)) (xs (7 * k + 4)) (xs (7 * k + 5)) (xs (7 * k + 6)) σX = some (r, σX1)) (eM : f_X9_pair (xs (7 * k + 1)) (xs (7 * k + 2)) (xs (7 * k + 3)) (xs (7 * k + 4)) (xs (7 * k + 5)) (xs (7 * k + 6)) σM = some (r, σM1)) (h : GL l D cy b L xs (wd (vM D cy qm) σM1 ++ wd (vX D cy qx) σX1) nc ns 1143 [(3, .int (nI (7 * k))), (2, .ref (qm 0)), (1, .ref (qx 87)), (0, .ref b)] []) : GL l D cy b L xs (wd (vM D cy qm) σM ++ wd (vX D cy qx) σX) nc ns 439 [(3, .int (nI (7 * k))), (2, .ref (qm 0)), (1, .ref (qx 87)), (0, .ref b)] [] := by
  refine e_aload_n (pc := 439) 2 dL_law_439 rfl rfl ?_
  refine e_aload_n (pc := 440) 3 dL_law_440 rfl rfl ?_
  refine e_iload_n (pc := 441) 0 dL_law_441 rfl rfl ?_
  refine e_iconst (pc := 442) (1) dL_law_442 (by decide) ?_
  refine e_iadd (pc := 443) (nI (7 * k + 1)) (ea1 k) dL_law_443 ?_
  refine e_sld (pc := 444) rfl (show 7 * k + 1 < L by omega) hL dL_law_444 ?_
  refine e_aload_n (pc := 445) 3 dL_law_445 rfl rfl ?_
  refine e_iload_n (pc := 446) 0 dL_law_446 rfl rfl ?_
  refine e_iconst (pc := 447) (2) dL_law_447 (by decide) ?_
  refine e_iadd (pc := 448) (nI (7 * k + 2)) (ea2 k) dL_law_448 ?_
  refine e_sld (pc := 449) rfl (show 7 * k + 2 < L by omega) hL dL_law_449 ?_
  refine e_aload_n (pc := 450) 3 dL_law_450 rfl rfl ?_
  refine e_iload_n (pc := 451) 0 dL_law_451 rfl rfl ?_
  refine e_iconst (pc := 452) (3) dL_law_452 (by decide) ?_
  refine e_iadd (pc := 453) (nI (7 * k + 3)) (ea3 k) dL_law_453 ?_
  refine e_sld (pc := 454) rfl (show 7 * k + 3 < L by omega) hL dL_law_454 ?_
  refine e_aload_n (pc := 455) 3 dL_law_455 rfl rfl ?_
  refine e_iload_n (pc := 456) 0 dL_law_456 rfl rfl ?_
  refine e_iconst (pc := 457) (4) dL_law_457 (by decide) ?_
  refine e_iadd (pc := 458) (nI (7 * k + 4)) (ea4 k) dL_law_458 ?_
  refine e_sld (pc := 459) rfl (show 7 * k + 4 < L by omega) hL dL_law_459 ?_
  refine e_aload_n (pc := 460) 3 dL_law_460 rfl rfl ?_
  refine e_iload_n (pc := 461) 0 dL_law_461 rfl rfl ?_
  refine e_iconst (pc := 462) (5) dL_law_462 (by decide) ?_
  refine e_iadd (pc := 463) (nI (7 * k + 5)) (ea5 k) dL_law_463 ?_
  refine e_sld (pc := 464) rfl (show 7 * k + 5 < L by omega) hL dL_law_464 ?_
  refine e_aload_n (pc := 465) 3 dL_law_465 rfl rfl ?_
  refine e_iload_n (pc := 466) 0 dL_law_466 rfl rfl ?_
  refine e_bipush (pc := 467) (6) dL_law_467 (by decide) ?_
  refine e_iadd (pc := 469) (nI (7 * k + 6)) (ea6 k) dL_law_469 ?_
  refine e_sld (pc := 470) rfl (show 7 * k + 6 < L by omega) hL dL_law_470 ?_
  refine e_call (pc := 471) (As := [.int (xs (7 * k + 1)), .int (xs (7 * k + 2)), .int (xs (7 * k + 3)), .int (xs (7 * k + 4)), .int (xs (7 * k + 5)), .int (xs (7 * k + 6))]) (rest := []) (k := 87) (v := vX D cy qx) rfl rfl (m_X8_pair l D cy qx σX (xs (7 * k + 1)) (xs (7 * k + 2)) (xs (7 * k + 3)) (xs (7 * k + 4)) (xs (7 * k + 5)) (xs (7 * k + 6)) _ eX) cw_X8_pair km_L_55 ⟨rfl, rfl, by decide, by decide⟩ (Nat.le_of_ble_eq_true rfl) (eX_8 (cy := cy) (σX.1 87) (σX.2 87)) rfl dL_law_471 rfl rfl (Nat.le_of_ble_eq_true rfl) hf ?_
  refine e_aload_n (pc := 474) 1 dL_law_474 rfl rfl ?_
  refine e_aload_n (pc := 475) 3 dL_law_475 rfl rfl ?_
  refine e_iload_n (pc := 476) 0 dL_law_476 rfl rfl ?_
  refine e_iconst (pc := 477) (1) dL_law_477 (by decide) ?_
  refine e_iadd (pc := 478) (nI (7 * k + 1)) (ea1 k) dL_law_478 ?_
  refine e_sld (pc := 479) rfl (show 7 * k + 1 < L by omega) hL dL_law_479 ?_
  refine e_aload_n (pc := 480) 3 dL_law_480 rfl rfl ?_
  refine e_iload_n (pc := 481) 0 dL_law_481 rfl rfl ?_
  refine e_iconst (pc := 482) (2) dL_law_482 (by decide) ?_
  refine e_iadd (pc := 483) (nI (7 * k + 2)) (ea2 k) dL_law_483 ?_
  refine e_sld (pc := 484) rfl (show 7 * k + 2 < L by omega) hL dL_law_484 ?_
  refine e_aload_n (pc := 485) 3 dL_law_485 rfl rfl ?_
  refine e_iload_n (pc := 486) 0 dL_law_486 rfl rfl ?_
  refine e_iconst (pc := 487) (3) dL_law_487 (by decide) ?_
  refine e_iadd (pc := 488) (nI (7 * k + 3)) (ea3 k) dL_law_488 ?_
  refine e_sld (pc := 489) rfl (show 7 * k + 3 < L by omega) hL dL_law_489 ?_
  refine e_aload_n (pc := 490) 3 dL_law_490 rfl rfl ?_
  refine e_iload_n (pc := 491) 0 dL_law_491 rfl rfl ?_
  refine e_iconst (pc := 492) (4) dL_law_492 (by decide) ?_
  refine e_iadd (pc := 493) (nI (7 * k + 4)) (ea4 k) dL_law_493 ?_
  refine e_sld (pc := 494) rfl (show 7 * k + 4 < L by omega) hL dL_law_494 ?_
  refine e_aload_n (pc := 495) 3 dL_law_495 rfl rfl ?_
  refine e_iload_n (pc := 496) 0 dL_law_496 rfl rfl ?_
  refine e_iconst (pc := 497) (5) dL_law_497 (by decide) ?_
  refine e_iadd (pc := 498) (nI (7 * k + 5)) (ea5 k) dL_law_498 ?_
  refine e_sld (pc := 499) rfl (show 7 * k + 5 < L by omega) hL dL_law_499 ?_
  refine e_aload_n (pc := 500) 3 dL_law_500 rfl rfl ?_
  refine e_iload_n (pc := 501) 0 dL_law_501 rfl rfl ?_
  refine e_bipush (pc := 502) (6) dL_law_502 (by decide) ?_
  refine e_iadd (pc := 504) (nI (7 * k + 6)) (ea6 k) dL_law_504 ?_
  refine e_sld (pc := 505) rfl (show 7 * k + 6 < L by omega) hL dL_law_505 ?_
  refine e_perm List.perm_append_comm ?_
  refine e_call (pc := 506) (As := [.int (xs (7 * k + 1)), .int (xs (7 * k + 2)), .int (xs (7 * k + 3)), .int (xs (7 * k + 4)), .int (xs (7 * k + 5)), .int (xs (7 * k + 6))]) (rest := [.int r]) (k := 0) (v := vM D cy qm) rfl rfl (m_X9_pair l D cy qm σM (xs (7 * k + 1)) (xs (7 * k + 2)) (xs (7 * k + 3)) (xs (7 * k + 4)) (xs (7 * k + 5)) (xs (7 * k + 6)) _ eM) cw_X9_pair km_L_58 ⟨rfl, rfl, by decide, by decide⟩ (Nat.le_of_ble_eq_true rfl) (eM_9 (cy := cy) (σM.1 0) (σM.2 0)) rfl dL_law_506 rfl rfl (Nat.le_of_ble_eq_true rfl) hf ?_
  refine e_perm List.perm_append_comm ?_
  exact e_eq_y (pc := 509) 1143 dL_law_509 (by decide) h
set_option maxHeartbeats 4000000 in
theorem lc_holds {l : Launch} {D : va_G} {cy : Cy} {b L : Nat} {xs : Nat → Int32} {qx qm : Nat → Nat} {nc ns k : Nat} {σX σM σX1 σM1 : St} {r : Int32} (hL : L ≤ 3584) (hk : 7 * k + 7 ≤ L) (hf : nc ≤ room_1.cells ∧ ns ≤ room_1.slots) (eX : f_X8_holds (xs (7 * k + 1)) (xs (7 * k + 2)) (xs (7 * k + 3)) (xs (7 * k + 4)) σX = some (r, σX1)) (eM : f_X9_holds (xs (7 * k + 1)) (xs (7 * k + 2)) (xs (7 * k + 3)) (xs (7 * k + 4)) σM = some (r, σM1)) (h : GL l D cy b L xs (wd (vM D cy qm) σM1 ++ wd (vX D cy qx) σX1) nc ns 1143 [(3, .int (nI (7 * k))), (2, .ref (qm 0)), (1, .ref (qx 87)), (0, .ref b)] []) : GL l D cy b L xs (wd (vM D cy qm) σM ++ wd (vX D cy qx) σX) nc ns 514 [(3, .int (nI (7 * k))), (2, .ref (qm 0)), (1, .ref (qx 87)), (0, .ref b)] [] := by
  refine e_aload_n (pc := 514) 2 dL_law_514 rfl rfl ?_
  refine e_aload_n (pc := 515) 3 dL_law_515 rfl rfl ?_
  refine e_iload_n (pc := 516) 0 dL_law_516 rfl rfl ?_
  refine e_iconst (pc := 517) (1) dL_law_517 (by decide) ?_
  refine e_iadd (pc := 518) (nI (7 * k + 1)) (ea1 k) dL_law_518 ?_
  refine e_sld (pc := 519) rfl (show 7 * k + 1 < L by omega) hL dL_law_519 ?_
  refine e_aload_n (pc := 520) 3 dL_law_520 rfl rfl ?_
  refine e_iload_n (pc := 521) 0 dL_law_521 rfl rfl ?_
  refine e_iconst (pc := 522) (2) dL_law_522 (by decide) ?_
  refine e_iadd (pc := 523) (nI (7 * k + 2)) (ea2 k) dL_law_523 ?_
  refine e_sld (pc := 524) rfl (show 7 * k + 2 < L by omega) hL dL_law_524 ?_
  refine e_aload_n (pc := 525) 3 dL_law_525 rfl rfl ?_
  refine e_iload_n (pc := 526) 0 dL_law_526 rfl rfl ?_
  refine e_iconst (pc := 527) (3) dL_law_527 (by decide) ?_
  refine e_iadd (pc := 528) (nI (7 * k + 3)) (ea3 k) dL_law_528 ?_
  refine e_sld (pc := 529) rfl (show 7 * k + 3 < L by omega) hL dL_law_529 ?_
  refine e_aload_n (pc := 530) 3 dL_law_530 rfl rfl ?_
  refine e_iload_n (pc := 531) 0 dL_law_531 rfl rfl ?_
  refine e_iconst (pc := 532) (4) dL_law_532 (by decide) ?_
  refine e_iadd (pc := 533) (nI (7 * k + 4)) (ea4 k) dL_law_533 ?_
  refine e_sld (pc := 534) rfl (show 7 * k + 4 < L by omega) hL dL_law_534 ?_
  refine e_call (pc := 535) (As := [.int (xs (7 * k + 1)), .int (xs (7 * k + 2)), .int (xs (7 * k + 3)), .int (xs (7 * k + 4))]) (rest := []) (k := 87) (v := vX D cy qx) rfl rfl (m_X8_holds l D cy qx σX (xs (7 * k + 1)) (xs (7 * k + 2)) (xs (7 * k + 3)) (xs (7 * k + 4)) _ eX) cw_X8_holds km_L_59 ⟨rfl, rfl, by decide, by decide⟩ (Nat.le_of_ble_eq_true rfl) (eX_8 (cy := cy) (σX.1 87) (σX.2 87)) rfl dL_law_535 rfl rfl (Nat.le_of_ble_eq_true rfl) hf ?_
  refine e_aload_n (pc := 538) 1 dL_law_538 rfl rfl ?_
  refine e_aload_n (pc := 539) 3 dL_law_539 rfl rfl ?_
  refine e_iload_n (pc := 540) 0 dL_law_540 rfl rfl ?_
  refine e_iconst (pc := 541) (1) dL_law_541 (by decide) ?_
  refine e_iadd (pc := 542) (nI (7 * k + 1)) (ea1 k) dL_law_542 ?_
  refine e_sld (pc := 543) rfl (show 7 * k + 1 < L by omega) hL dL_law_543 ?_
  refine e_aload_n (pc := 544) 3 dL_law_544 rfl rfl ?_
  refine e_iload_n (pc := 545) 0 dL_law_545 rfl rfl ?_
  refine e_iconst (pc := 546) (2) dL_law_546 (by decide) ?_
  refine e_iadd (pc := 547) (nI (7 * k + 2)) (ea2 k) dL_law_547 ?_
  refine e_sld (pc := 548) rfl (show 7 * k + 2 < L by omega) hL dL_law_548 ?_
  refine e_aload_n (pc := 549) 3 dL_law_549 rfl rfl ?_
  refine e_iload_n (pc := 550) 0 dL_law_550 rfl rfl ?_
  refine e_iconst (pc := 551) (3) dL_law_551 (by decide) ?_
  refine e_iadd (pc := 552) (nI (7 * k + 3)) (ea3 k) dL_law_552 ?_
  refine e_sld (pc := 553) rfl (show 7 * k + 3 < L by omega) hL dL_law_553 ?_
  refine e_aload_n (pc := 554) 3 dL_law_554 rfl rfl ?_
  refine e_iload_n (pc := 555) 0 dL_law_555 rfl rfl ?_
  refine e_iconst (pc := 556) (4) dL_law_556 (by decide) ?_
  refine e_iadd (pc := 557) (nI (7 * k + 4)) (ea4 k) dL_law_557 ?_
  refine e_sld (pc := 558) rfl (show 7 * k + 4 < L by omega) hL dL_law_558 ?_
  refine e_perm List.perm_append_comm ?_
  refine e_call (pc := 559) (As := [.int (xs (7 * k + 1)), .int (xs (7 * k + 2)), .int (xs (7 * k + 3)), .int (xs (7 * k + 4))]) (rest := [.int r]) (k := 0) (v := vM D cy qm) rfl rfl (m_X9_holds l D cy qm σM (xs (7 * k + 1)) (xs (7 * k + 2)) (xs (7 * k + 3)) (xs (7 * k + 4)) _ eM) cw_X9_holds km_L_63 ⟨rfl, rfl, by decide, by decide⟩ (Nat.le_of_ble_eq_true rfl) (eM_9 (cy := cy) (σM.1 0) (σM.2 0)) rfl dL_law_559 rfl rfl (Nat.le_of_ble_eq_true rfl) hf ?_
  refine e_perm List.perm_append_comm ?_
  exact e_eq_y (pc := 562) 1143 dL_law_562 (by decide) h
set_option maxHeartbeats 4000000 in
theorem lc_part {l : Launch} {D : va_G} {cy : Cy} {b L : Nat} {xs : Nat → Int32} {qx qm : Nat → Nat} {nc ns k : Nat} {σX σM σX1 σM1 : St} {r : Int32} (hL : L ≤ 3584) (hk : 7 * k + 7 ≤ L) (hf : nc ≤ room_1.cells ∧ ns ≤ room_1.slots) (eX : f_X8_part (xs (7 * k + 1)) (xs (7 * k + 2)) (xs (7 * k + 3)) (xs (7 * k + 4)) σX = some (r, σX1)) (eM : f_X9_part (xs (7 * k + 1)) (xs (7 * k + 2)) (xs (7 * k + 3)) (xs (7 * k + 4)) σM = some (r, σM1)) (h : GL l D cy b L xs (wd (vM D cy qm) σM1 ++ wd (vX D cy qx) σX1) nc ns 1143 [(3, .int (nI (7 * k))), (2, .ref (qm 0)), (1, .ref (qx 87)), (0, .ref b)] []) : GL l D cy b L xs (wd (vM D cy qm) σM ++ wd (vX D cy qx) σX) nc ns 567 [(3, .int (nI (7 * k))), (2, .ref (qm 0)), (1, .ref (qx 87)), (0, .ref b)] [] := by
  refine e_aload_n (pc := 567) 2 dL_law_567 rfl rfl ?_
  refine e_aload_n (pc := 568) 3 dL_law_568 rfl rfl ?_
  refine e_iload_n (pc := 569) 0 dL_law_569 rfl rfl ?_
  refine e_iconst (pc := 570) (1) dL_law_570 (by decide) ?_
  refine e_iadd (pc := 571) (nI (7 * k + 1)) (ea1 k) dL_law_571 ?_
  refine e_sld (pc := 572) rfl (show 7 * k + 1 < L by omega) hL dL_law_572 ?_
  refine e_aload_n (pc := 573) 3 dL_law_573 rfl rfl ?_
  refine e_iload_n (pc := 574) 0 dL_law_574 rfl rfl ?_
  refine e_iconst (pc := 575) (2) dL_law_575 (by decide) ?_
  refine e_iadd (pc := 576) (nI (7 * k + 2)) (ea2 k) dL_law_576 ?_
  refine e_sld (pc := 577) rfl (show 7 * k + 2 < L by omega) hL dL_law_577 ?_
  refine e_aload_n (pc := 578) 3 dL_law_578 rfl rfl ?_
  refine e_iload_n (pc := 579) 0 dL_law_579 rfl rfl ?_
  refine e_iconst (pc := 580) (3) dL_law_580 (by decide) ?_
  refine e_iadd (pc := 581) (nI (7 * k + 3)) (ea3 k) dL_law_581 ?_
  refine e_sld (pc := 582) rfl (show 7 * k + 3 < L by omega) hL dL_law_582 ?_
  refine e_aload_n (pc := 583) 3 dL_law_583 rfl rfl ?_
  refine e_iload_n (pc := 584) 0 dL_law_584 rfl rfl ?_
  refine e_iconst (pc := 585) (4) dL_law_585 (by decide) ?_
  refine e_iadd (pc := 586) (nI (7 * k + 4)) (ea4 k) dL_law_586 ?_
  refine e_sld (pc := 587) rfl (show 7 * k + 4 < L by omega) hL dL_law_587 ?_
  refine e_call (pc := 588) (As := [.int (xs (7 * k + 1)), .int (xs (7 * k + 2)), .int (xs (7 * k + 3)), .int (xs (7 * k + 4))]) (rest := []) (k := 87) (v := vX D cy qx) rfl rfl (m_X8_part l D cy qx σX (xs (7 * k + 1)) (xs (7 * k + 2)) (xs (7 * k + 3)) (xs (7 * k + 4)) _ eX) cw_X8_part km_L_64 ⟨rfl, rfl, by decide, by decide⟩ (Nat.le_of_ble_eq_true rfl) (eX_8 (cy := cy) (σX.1 87) (σX.2 87)) rfl dL_law_588 rfl rfl (Nat.le_of_ble_eq_true rfl) hf ?_
  refine e_aload_n (pc := 591) 1 dL_law_591 rfl rfl ?_
  refine e_aload_n (pc := 592) 3 dL_law_592 rfl rfl ?_
  refine e_iload_n (pc := 593) 0 dL_law_593 rfl rfl ?_
  refine e_iconst (pc := 594) (1) dL_law_594 (by decide) ?_
  refine e_iadd (pc := 595) (nI (7 * k + 1)) (ea1 k) dL_law_595 ?_
  refine e_sld (pc := 596) rfl (show 7 * k + 1 < L by omega) hL dL_law_596 ?_
  refine e_aload_n (pc := 597) 3 dL_law_597 rfl rfl ?_
  refine e_iload_n (pc := 598) 0 dL_law_598 rfl rfl ?_
  refine e_iconst (pc := 599) (2) dL_law_599 (by decide) ?_
  refine e_iadd (pc := 600) (nI (7 * k + 2)) (ea2 k) dL_law_600 ?_
  refine e_sld (pc := 601) rfl (show 7 * k + 2 < L by omega) hL dL_law_601 ?_
  refine e_aload_n (pc := 602) 3 dL_law_602 rfl rfl ?_
  refine e_iload_n (pc := 603) 0 dL_law_603 rfl rfl ?_
  refine e_iconst (pc := 604) (3) dL_law_604 (by decide) ?_
  refine e_iadd (pc := 605) (nI (7 * k + 3)) (ea3 k) dL_law_605 ?_
  refine e_sld (pc := 606) rfl (show 7 * k + 3 < L by omega) hL dL_law_606 ?_
  refine e_aload_n (pc := 607) 3 dL_law_607 rfl rfl ?_
  refine e_iload_n (pc := 608) 0 dL_law_608 rfl rfl ?_
  refine e_iconst (pc := 609) (4) dL_law_609 (by decide) ?_
  refine e_iadd (pc := 610) (nI (7 * k + 4)) (ea4 k) dL_law_610 ?_
  refine e_sld (pc := 611) rfl (show 7 * k + 4 < L by omega) hL dL_law_611 ?_
  refine e_perm List.perm_append_comm ?_
  refine e_call (pc := 612) (As := [.int (xs (7 * k + 1)), .int (xs (7 * k + 2)), .int (xs (7 * k + 3)), .int (xs (7 * k + 4))]) (rest := [.int r]) (k := 0) (v := vM D cy qm) rfl rfl (m_X9_part l D cy qm σM (xs (7 * k + 1)) (xs (7 * k + 2)) (xs (7 * k + 3)) (xs (7 * k + 4)) _ eM) cw_X9_part km_L_67 ⟨rfl, rfl, by decide, by decide⟩ (Nat.le_of_ble_eq_true rfl) (eM_9 (cy := cy) (σM.1 0) (σM.2 0)) rfl dL_law_612 rfl rfl (Nat.le_of_ble_eq_true rfl) hf ?_
  refine e_perm List.perm_append_comm ?_
  exact e_eq_y (pc := 615) 1143 dL_law_615 (by decide) h
set_option maxHeartbeats 4000000 in
theorem lc_wait {l : Launch} {D : va_G} {cy : Cy} {b L : Nat} {xs : Nat → Int32} {qx qm : Nat → Nat} {nc ns k : Nat} {σX σM σX1 σM1 : St} {r : Int32} (hL : L ≤ 3584) (hk : 7 * k + 7 ≤ L) (hf : nc ≤ room_1.cells ∧ ns ≤ room_1.slots) (eX : f_X8_wait (xs (7 * k + 1)) (xs (7 * k + 2)) (xs (7 * k + 3)) σX = some (r, σX1)) (eM : f_X9_wait (xs (7 * k + 1)) (xs (7 * k + 2)) (xs (7 * k + 3)) σM = some (r, σM1)) (h : GL l D cy b L xs (wd (vM D cy qm) σM1 ++ wd (vX D cy qx) σX1) nc ns 1143 [(3, .int (nI (7 * k))), (2, .ref (qm 0)), (1, .ref (qx 87)), (0, .ref b)] []) : GL l D cy b L xs (wd (vM D cy qm) σM ++ wd (vX D cy qx) σX) nc ns 620 [(3, .int (nI (7 * k))), (2, .ref (qm 0)), (1, .ref (qx 87)), (0, .ref b)] [] := by
  refine e_aload_n (pc := 620) 2 dL_law_620 rfl rfl ?_
  refine e_aload_n (pc := 621) 3 dL_law_621 rfl rfl ?_
  refine e_iload_n (pc := 622) 0 dL_law_622 rfl rfl ?_
  refine e_iconst (pc := 623) (1) dL_law_623 (by decide) ?_
  refine e_iadd (pc := 624) (nI (7 * k + 1)) (ea1 k) dL_law_624 ?_
  refine e_sld (pc := 625) rfl (show 7 * k + 1 < L by omega) hL dL_law_625 ?_
  refine e_aload_n (pc := 626) 3 dL_law_626 rfl rfl ?_
  refine e_iload_n (pc := 627) 0 dL_law_627 rfl rfl ?_
  refine e_iconst (pc := 628) (2) dL_law_628 (by decide) ?_
  refine e_iadd (pc := 629) (nI (7 * k + 2)) (ea2 k) dL_law_629 ?_
  refine e_sld (pc := 630) rfl (show 7 * k + 2 < L by omega) hL dL_law_630 ?_
  refine e_aload_n (pc := 631) 3 dL_law_631 rfl rfl ?_
  refine e_iload_n (pc := 632) 0 dL_law_632 rfl rfl ?_
  refine e_iconst (pc := 633) (3) dL_law_633 (by decide) ?_
  refine e_iadd (pc := 634) (nI (7 * k + 3)) (ea3 k) dL_law_634 ?_
  refine e_sld (pc := 635) rfl (show 7 * k + 3 < L by omega) hL dL_law_635 ?_
  refine e_call (pc := 636) (As := [.int (xs (7 * k + 1)), .int (xs (7 * k + 2)), .int (xs (7 * k + 3))]) (rest := []) (k := 87) (v := vX D cy qx) rfl rfl (m_X8_wait l D cy qx σX (xs (7 * k + 1)) (xs (7 * k + 2)) (xs (7 * k + 3)) _ eX) cw_X8_wait km_L_68 ⟨rfl, rfl, by decide, by decide⟩ (Nat.le_of_ble_eq_true rfl) (eX_8 (cy := cy) (σX.1 87) (σX.2 87)) rfl dL_law_636 rfl rfl (Nat.le_of_ble_eq_true rfl) hf ?_
  refine e_aload_n (pc := 639) 1 dL_law_639 rfl rfl ?_
  refine e_aload_n (pc := 640) 3 dL_law_640 rfl rfl ?_
  refine e_iload_n (pc := 641) 0 dL_law_641 rfl rfl ?_
  refine e_iconst (pc := 642) (1) dL_law_642 (by decide) ?_
  refine e_iadd (pc := 643) (nI (7 * k + 1)) (ea1 k) dL_law_643 ?_
  refine e_sld (pc := 644) rfl (show 7 * k + 1 < L by omega) hL dL_law_644 ?_
  refine e_aload_n (pc := 645) 3 dL_law_645 rfl rfl ?_
  refine e_iload_n (pc := 646) 0 dL_law_646 rfl rfl ?_
  refine e_iconst (pc := 647) (2) dL_law_647 (by decide) ?_
  refine e_iadd (pc := 648) (nI (7 * k + 2)) (ea2 k) dL_law_648 ?_
  refine e_sld (pc := 649) rfl (show 7 * k + 2 < L by omega) hL dL_law_649 ?_
  refine e_aload_n (pc := 650) 3 dL_law_650 rfl rfl ?_
  refine e_iload_n (pc := 651) 0 dL_law_651 rfl rfl ?_
  refine e_iconst (pc := 652) (3) dL_law_652 (by decide) ?_
  refine e_iadd (pc := 653) (nI (7 * k + 3)) (ea3 k) dL_law_653 ?_
  refine e_sld (pc := 654) rfl (show 7 * k + 3 < L by omega) hL dL_law_654 ?_
  refine e_perm List.perm_append_comm ?_
  refine e_call (pc := 655) (As := [.int (xs (7 * k + 1)), .int (xs (7 * k + 2)), .int (xs (7 * k + 3))]) (rest := [.int r]) (k := 0) (v := vM D cy qm) rfl rfl (m_X9_wait l D cy qm σM (xs (7 * k + 1)) (xs (7 * k + 2)) (xs (7 * k + 3)) _ eM) cw_X9_wait km_L_71 ⟨rfl, rfl, by decide, by decide⟩ (Nat.le_of_ble_eq_true rfl) (eM_9 (cy := cy) (σM.1 0) (σM.2 0)) rfl dL_law_655 rfl rfl (Nat.le_of_ble_eq_true rfl) hf ?_
  refine e_perm List.perm_append_comm ?_
  exact e_eq_y (pc := 658) 1143 dL_law_658 (by decide) h
set_option maxHeartbeats 4000000 in
theorem lc_walk {l : Launch} {D : va_G} {cy : Cy} {b L : Nat} {xs : Nat → Int32} {qx qm : Nat → Nat} {nc ns k : Nat} {σX σM σX1 σM1 : St} {r : Int32} (hL : L ≤ 3584) (hk : 7 * k + 7 ≤ L) (hf : nc ≤ room_1.cells ∧ ns ≤ room_1.slots) (eX : f_X8_walk (xs (7 * k + 1)) (xs (7 * k + 2)) (xs (7 * k + 3)) (xs (7 * k + 4)) σX = some (r, σX1)) (eM : f_X9_walk (xs (7 * k + 1)) (xs (7 * k + 2)) (xs (7 * k + 3)) (xs (7 * k + 4)) σM = some (r, σM1)) (h : GL l D cy b L xs (wd (vM D cy qm) σM1 ++ wd (vX D cy qx) σX1) nc ns 1143 [(3, .int (nI (7 * k))), (2, .ref (qm 0)), (1, .ref (qx 87)), (0, .ref b)] []) : GL l D cy b L xs (wd (vM D cy qm) σM ++ wd (vX D cy qx) σX) nc ns 663 [(3, .int (nI (7 * k))), (2, .ref (qm 0)), (1, .ref (qx 87)), (0, .ref b)] [] := by
  refine e_aload_n (pc := 663) 2 dL_law_663 rfl rfl ?_
  refine e_aload_n (pc := 664) 3 dL_law_664 rfl rfl ?_
  refine e_iload_n (pc := 665) 0 dL_law_665 rfl rfl ?_
  refine e_iconst (pc := 666) (1) dL_law_666 (by decide) ?_
  refine e_iadd (pc := 667) (nI (7 * k + 1)) (ea1 k) dL_law_667 ?_
  refine e_sld (pc := 668) rfl (show 7 * k + 1 < L by omega) hL dL_law_668 ?_
  refine e_aload_n (pc := 669) 3 dL_law_669 rfl rfl ?_
  refine e_iload_n (pc := 670) 0 dL_law_670 rfl rfl ?_
  refine e_iconst (pc := 671) (2) dL_law_671 (by decide) ?_
  refine e_iadd (pc := 672) (nI (7 * k + 2)) (ea2 k) dL_law_672 ?_
  refine e_sld (pc := 673) rfl (show 7 * k + 2 < L by omega) hL dL_law_673 ?_
  refine e_aload_n (pc := 674) 3 dL_law_674 rfl rfl ?_
  refine e_iload_n (pc := 675) 0 dL_law_675 rfl rfl ?_
  refine e_iconst (pc := 676) (3) dL_law_676 (by decide) ?_
  refine e_iadd (pc := 677) (nI (7 * k + 3)) (ea3 k) dL_law_677 ?_
  refine e_sld (pc := 678) rfl (show 7 * k + 3 < L by omega) hL dL_law_678 ?_
  refine e_aload_n (pc := 679) 3 dL_law_679 rfl rfl ?_
  refine e_iload_n (pc := 680) 0 dL_law_680 rfl rfl ?_
  refine e_iconst (pc := 681) (4) dL_law_681 (by decide) ?_
  refine e_iadd (pc := 682) (nI (7 * k + 4)) (ea4 k) dL_law_682 ?_
  refine e_sld (pc := 683) rfl (show 7 * k + 4 < L by omega) hL dL_law_683 ?_
  refine e_call (pc := 684) (As := [.int (xs (7 * k + 1)), .int (xs (7 * k + 2)), .int (xs (7 * k + 3)), .int (xs (7 * k + 4))]) (rest := []) (k := 87) (v := vX D cy qx) rfl rfl (m_X8_walk l D cy qx σX (xs (7 * k + 1)) (xs (7 * k + 2)) (xs (7 * k + 3)) (xs (7 * k + 4)) _ eX) cw_X8_walk km_L_72 ⟨rfl, rfl, by decide, by decide⟩ (Nat.le_of_ble_eq_true rfl) (eX_8 (cy := cy) (σX.1 87) (σX.2 87)) rfl dL_law_684 rfl rfl (Nat.le_of_ble_eq_true rfl) hf ?_
  refine e_aload_n (pc := 687) 1 dL_law_687 rfl rfl ?_
  refine e_aload_n (pc := 688) 3 dL_law_688 rfl rfl ?_
  refine e_iload_n (pc := 689) 0 dL_law_689 rfl rfl ?_
  refine e_iconst (pc := 690) (1) dL_law_690 (by decide) ?_
  refine e_iadd (pc := 691) (nI (7 * k + 1)) (ea1 k) dL_law_691 ?_
  refine e_sld (pc := 692) rfl (show 7 * k + 1 < L by omega) hL dL_law_692 ?_
  refine e_aload_n (pc := 693) 3 dL_law_693 rfl rfl ?_
  refine e_iload_n (pc := 694) 0 dL_law_694 rfl rfl ?_
  refine e_iconst (pc := 695) (2) dL_law_695 (by decide) ?_
  refine e_iadd (pc := 696) (nI (7 * k + 2)) (ea2 k) dL_law_696 ?_
  refine e_sld (pc := 697) rfl (show 7 * k + 2 < L by omega) hL dL_law_697 ?_
  refine e_aload_n (pc := 698) 3 dL_law_698 rfl rfl ?_
  refine e_iload_n (pc := 699) 0 dL_law_699 rfl rfl ?_
  refine e_iconst (pc := 700) (3) dL_law_700 (by decide) ?_
  refine e_iadd (pc := 701) (nI (7 * k + 3)) (ea3 k) dL_law_701 ?_
  refine e_sld (pc := 702) rfl (show 7 * k + 3 < L by omega) hL dL_law_702 ?_
  refine e_aload_n (pc := 703) 3 dL_law_703 rfl rfl ?_
  refine e_iload_n (pc := 704) 0 dL_law_704 rfl rfl ?_
  refine e_iconst (pc := 705) (4) dL_law_705 (by decide) ?_
  refine e_iadd (pc := 706) (nI (7 * k + 4)) (ea4 k) dL_law_706 ?_
  refine e_sld (pc := 707) rfl (show 7 * k + 4 < L by omega) hL dL_law_707 ?_
  refine e_perm List.perm_append_comm ?_
  refine e_call (pc := 708) (As := [.int (xs (7 * k + 1)), .int (xs (7 * k + 2)), .int (xs (7 * k + 3)), .int (xs (7 * k + 4))]) (rest := [.int r]) (k := 0) (v := vM D cy qm) rfl rfl (m_X9_walk l D cy qm σM (xs (7 * k + 1)) (xs (7 * k + 2)) (xs (7 * k + 3)) (xs (7 * k + 4)) _ eM) cw_X9_walk km_L_75 ⟨rfl, rfl, by decide, by decide⟩ (Nat.le_of_ble_eq_true rfl) (eM_9 (cy := cy) (σM.1 0) (σM.2 0)) rfl dL_law_708 rfl rfl (Nat.le_of_ble_eq_true rfl) hf ?_
  refine e_perm List.perm_append_comm ?_
  exact e_eq_y (pc := 711) 1143 dL_law_711 (by decide) h
set_option maxHeartbeats 4000000 in
theorem lc_shape {l : Launch} {D : va_G} {cy : Cy} {b L : Nat} {xs : Nat → Int32} {qx qm : Nat → Nat} {nc ns k : Nat} {σX σM σX1 σM1 : St} {r : Int32} (hL : L ≤ 3584) (hk : 7 * k + 7 ≤ L) (hf : nc ≤ room_1.cells ∧ ns ≤ room_1.slots) (eX : f_X8_shape (xs (7 * k + 1)) (xs (7 * k + 2)) (xs (7 * k + 3)) (xs (7 * k + 4)) (xs (7 * k + 5)) σX = some (r, σX1)) (eM : f_X9_shape (xs (7 * k + 1)) (xs (7 * k + 2)) (xs (7 * k + 3)) (xs (7 * k + 4)) (xs (7 * k + 5)) σM = some (r, σM1)) (h : GL l D cy b L xs (wd (vM D cy qm) σM1 ++ wd (vX D cy qx) σX1) nc ns 1143 [(3, .int (nI (7 * k))), (2, .ref (qm 0)), (1, .ref (qx 87)), (0, .ref b)] []) : GL l D cy b L xs (wd (vM D cy qm) σM ++ wd (vX D cy qx) σX) nc ns 716 [(3, .int (nI (7 * k))), (2, .ref (qm 0)), (1, .ref (qx 87)), (0, .ref b)] [] := by
  refine e_aload_n (pc := 716) 2 dL_law_716 rfl rfl ?_
  refine e_aload_n (pc := 717) 3 dL_law_717 rfl rfl ?_
  refine e_iload_n (pc := 718) 0 dL_law_718 rfl rfl ?_
  refine e_iconst (pc := 719) (1) dL_law_719 (by decide) ?_
  refine e_iadd (pc := 720) (nI (7 * k + 1)) (ea1 k) dL_law_720 ?_
  refine e_sld (pc := 721) rfl (show 7 * k + 1 < L by omega) hL dL_law_721 ?_
  refine e_aload_n (pc := 722) 3 dL_law_722 rfl rfl ?_
  refine e_iload_n (pc := 723) 0 dL_law_723 rfl rfl ?_
  refine e_iconst (pc := 724) (2) dL_law_724 (by decide) ?_
  refine e_iadd (pc := 725) (nI (7 * k + 2)) (ea2 k) dL_law_725 ?_
  refine e_sld (pc := 726) rfl (show 7 * k + 2 < L by omega) hL dL_law_726 ?_
  refine e_aload_n (pc := 727) 3 dL_law_727 rfl rfl ?_
  refine e_iload_n (pc := 728) 0 dL_law_728 rfl rfl ?_
  refine e_iconst (pc := 729) (3) dL_law_729 (by decide) ?_
  refine e_iadd (pc := 730) (nI (7 * k + 3)) (ea3 k) dL_law_730 ?_
  refine e_sld (pc := 731) rfl (show 7 * k + 3 < L by omega) hL dL_law_731 ?_
  refine e_aload_n (pc := 732) 3 dL_law_732 rfl rfl ?_
  refine e_iload_n (pc := 733) 0 dL_law_733 rfl rfl ?_
  refine e_iconst (pc := 734) (4) dL_law_734 (by decide) ?_
  refine e_iadd (pc := 735) (nI (7 * k + 4)) (ea4 k) dL_law_735 ?_
  refine e_sld (pc := 736) rfl (show 7 * k + 4 < L by omega) hL dL_law_736 ?_
  refine e_aload_n (pc := 737) 3 dL_law_737 rfl rfl ?_
  refine e_iload_n (pc := 738) 0 dL_law_738 rfl rfl ?_
  refine e_iconst (pc := 739) (5) dL_law_739 (by decide) ?_
  refine e_iadd (pc := 740) (nI (7 * k + 5)) (ea5 k) dL_law_740 ?_
  refine e_sld (pc := 741) rfl (show 7 * k + 5 < L by omega) hL dL_law_741 ?_
  refine e_call (pc := 742) (As := [.int (xs (7 * k + 1)), .int (xs (7 * k + 2)), .int (xs (7 * k + 3)), .int (xs (7 * k + 4)), .int (xs (7 * k + 5))]) (rest := []) (k := 87) (v := vX D cy qx) rfl rfl (m_X8_shape l D cy qx σX (xs (7 * k + 1)) (xs (7 * k + 2)) (xs (7 * k + 3)) (xs (7 * k + 4)) (xs (7 * k + 5)) _ eX) cw_X8_shape km_L_76 ⟨rfl, rfl, by decide, by decide⟩ (Nat.le_of_ble_eq_true rfl) (eX_8 (cy := cy) (σX.1 87) (σX.2 87)) rfl dL_law_742 rfl rfl (Nat.le_of_ble_eq_true rfl) hf ?_
  refine e_aload_n (pc := 745) 1 dL_law_745 rfl rfl ?_
  refine e_aload_n (pc := 746) 3 dL_law_746 rfl rfl ?_
  refine e_iload_n (pc := 747) 0 dL_law_747 rfl rfl ?_
  refine e_iconst (pc := 748) (1) dL_law_748 (by decide) ?_
  refine e_iadd (pc := 749) (nI (7 * k + 1)) (ea1 k) dL_law_749 ?_
  refine e_sld (pc := 750) rfl (show 7 * k + 1 < L by omega) hL dL_law_750 ?_
  refine e_aload_n (pc := 751) 3 dL_law_751 rfl rfl ?_
  refine e_iload_n (pc := 752) 0 dL_law_752 rfl rfl ?_
  refine e_iconst (pc := 753) (2) dL_law_753 (by decide) ?_
  refine e_iadd (pc := 754) (nI (7 * k + 2)) (ea2 k) dL_law_754 ?_
  refine e_sld (pc := 755) rfl (show 7 * k + 2 < L by omega) hL dL_law_755 ?_
  refine e_aload_n (pc := 756) 3 dL_law_756 rfl rfl ?_
  refine e_iload_n (pc := 757) 0 dL_law_757 rfl rfl ?_
  refine e_iconst (pc := 758) (3) dL_law_758 (by decide) ?_
  refine e_iadd (pc := 759) (nI (7 * k + 3)) (ea3 k) dL_law_759 ?_
  refine e_sld (pc := 760) rfl (show 7 * k + 3 < L by omega) hL dL_law_760 ?_
  refine e_aload_n (pc := 761) 3 dL_law_761 rfl rfl ?_
  refine e_iload_n (pc := 762) 0 dL_law_762 rfl rfl ?_
  refine e_iconst (pc := 763) (4) dL_law_763 (by decide) ?_
  refine e_iadd (pc := 764) (nI (7 * k + 4)) (ea4 k) dL_law_764 ?_
  refine e_sld (pc := 765) rfl (show 7 * k + 4 < L by omega) hL dL_law_765 ?_
  refine e_aload_n (pc := 766) 3 dL_law_766 rfl rfl ?_
  refine e_iload_n (pc := 767) 0 dL_law_767 rfl rfl ?_
  refine e_iconst (pc := 768) (5) dL_law_768 (by decide) ?_
  refine e_iadd (pc := 769) (nI (7 * k + 5)) (ea5 k) dL_law_769 ?_
  refine e_sld (pc := 770) rfl (show 7 * k + 5 < L by omega) hL dL_law_770 ?_
  refine e_perm List.perm_append_comm ?_
  refine e_call (pc := 771) (As := [.int (xs (7 * k + 1)), .int (xs (7 * k + 2)), .int (xs (7 * k + 3)), .int (xs (7 * k + 4)), .int (xs (7 * k + 5))]) (rest := [.int r]) (k := 0) (v := vM D cy qm) rfl rfl (m_X9_shape l D cy qm σM (xs (7 * k + 1)) (xs (7 * k + 2)) (xs (7 * k + 3)) (xs (7 * k + 4)) (xs (7 * k + 5)) _ eM) cw_X9_shape km_L_79 ⟨rfl, rfl, by decide, by decide⟩ (Nat.le_of_ble_eq_true rfl) (eM_9 (cy := cy) (σM.1 0) (σM.2 0)) rfl dL_law_771 rfl rfl (Nat.le_of_ble_eq_true rfl) hf ?_
  refine e_perm List.perm_append_comm ?_
  exact e_eq_y (pc := 774) 1143 dL_law_774 (by decide) h
set_option maxHeartbeats 4000000 in
theorem lc_tell {l : Launch} {D : va_G} {cy : Cy} {b L : Nat} {xs : Nat → Int32} {qx qm : Nat → Nat} {nc ns k : Nat} {σX σM σX1 σM1 : St} {r : Int32} (hL : L ≤ 3584) (hk : 7 * k + 7 ≤ L) (hf : nc ≤ room_1.cells ∧ ns ≤ room_1.slots) (eX : f_X8_tell (xs (7 * k + 1)) (xs (7 * k + 2)) (xs (7 * k + 3)) σX = some (r, σX1)) (eM : f_X9_tell (xs (7 * k + 1)) (xs (7 * k + 2)) (xs (7 * k + 3)) σM = some (r, σM1)) (h : GL l D cy b L xs (wd (vM D cy qm) σM1 ++ wd (vX D cy qx) σX1) nc ns 1143 [(3, .int (nI (7 * k))), (2, .ref (qm 0)), (1, .ref (qx 87)), (0, .ref b)] []) : GL l D cy b L xs (wd (vM D cy qm) σM ++ wd (vX D cy qx) σX) nc ns 779 [(3, .int (nI (7 * k))), (2, .ref (qm 0)), (1, .ref (qx 87)), (0, .ref b)] [] := by
  refine e_aload_n (pc := 779) 2 dL_law_779 rfl rfl ?_
  refine e_aload_n (pc := 780) 3 dL_law_780 rfl rfl ?_
  refine e_iload_n (pc := 781) 0 dL_law_781 rfl rfl ?_
  refine e_iconst (pc := 782) (1) dL_law_782 (by decide) ?_
  refine e_iadd (pc := 783) (nI (7 * k + 1)) (ea1 k) dL_law_783 ?_
  refine e_sld (pc := 784) rfl (show 7 * k + 1 < L by omega) hL dL_law_784 ?_
  refine e_aload_n (pc := 785) 3 dL_law_785 rfl rfl ?_
  refine e_iload_n (pc := 786) 0 dL_law_786 rfl rfl ?_
  refine e_iconst (pc := 787) (2) dL_law_787 (by decide) ?_
  refine e_iadd (pc := 788) (nI (7 * k + 2)) (ea2 k) dL_law_788 ?_
  refine e_sld (pc := 789) rfl (show 7 * k + 2 < L by omega) hL dL_law_789 ?_
  refine e_aload_n (pc := 790) 3 dL_law_790 rfl rfl ?_
  refine e_iload_n (pc := 791) 0 dL_law_791 rfl rfl ?_
  refine e_iconst (pc := 792) (3) dL_law_792 (by decide) ?_
  refine e_iadd (pc := 793) (nI (7 * k + 3)) (ea3 k) dL_law_793 ?_
  refine e_sld (pc := 794) rfl (show 7 * k + 3 < L by omega) hL dL_law_794 ?_
  refine e_call (pc := 795) (As := [.int (xs (7 * k + 1)), .int (xs (7 * k + 2)), .int (xs (7 * k + 3))]) (rest := []) (k := 87) (v := vX D cy qx) rfl rfl (m_X8_tell l D cy qx σX (xs (7 * k + 1)) (xs (7 * k + 2)) (xs (7 * k + 3)) _ eX) cw_X8_tell km_L_80 ⟨rfl, rfl, by decide, by decide⟩ (Nat.le_of_ble_eq_true rfl) (eX_8 (cy := cy) (σX.1 87) (σX.2 87)) rfl dL_law_795 rfl rfl (Nat.le_of_ble_eq_true rfl) hf ?_
  refine e_aload_n (pc := 798) 1 dL_law_798 rfl rfl ?_
  refine e_aload_n (pc := 799) 3 dL_law_799 rfl rfl ?_
  refine e_iload_n (pc := 800) 0 dL_law_800 rfl rfl ?_
  refine e_iconst (pc := 801) (1) dL_law_801 (by decide) ?_
  refine e_iadd (pc := 802) (nI (7 * k + 1)) (ea1 k) dL_law_802 ?_
  refine e_sld (pc := 803) rfl (show 7 * k + 1 < L by omega) hL dL_law_803 ?_
  refine e_aload_n (pc := 804) 3 dL_law_804 rfl rfl ?_
  refine e_iload_n (pc := 805) 0 dL_law_805 rfl rfl ?_
  refine e_iconst (pc := 806) (2) dL_law_806 (by decide) ?_
  refine e_iadd (pc := 807) (nI (7 * k + 2)) (ea2 k) dL_law_807 ?_
  refine e_sld (pc := 808) rfl (show 7 * k + 2 < L by omega) hL dL_law_808 ?_
  refine e_aload_n (pc := 809) 3 dL_law_809 rfl rfl ?_
  refine e_iload_n (pc := 810) 0 dL_law_810 rfl rfl ?_
  refine e_iconst (pc := 811) (3) dL_law_811 (by decide) ?_
  refine e_iadd (pc := 812) (nI (7 * k + 3)) (ea3 k) dL_law_812 ?_
  refine e_sld (pc := 813) rfl (show 7 * k + 3 < L by omega) hL dL_law_813 ?_
  refine e_perm List.perm_append_comm ?_
  refine e_call (pc := 814) (As := [.int (xs (7 * k + 1)), .int (xs (7 * k + 2)), .int (xs (7 * k + 3))]) (rest := [.int r]) (k := 0) (v := vM D cy qm) rfl rfl (m_X9_tell l D cy qm σM (xs (7 * k + 1)) (xs (7 * k + 2)) (xs (7 * k + 3)) _ eM) cw_X9_tell km_L_83 ⟨rfl, rfl, by decide, by decide⟩ (Nat.le_of_ble_eq_true rfl) (eM_9 (cy := cy) (σM.1 0) (σM.2 0)) rfl dL_law_814 rfl rfl (Nat.le_of_ble_eq_true rfl) hf ?_
  refine e_perm List.perm_append_comm ?_
  exact e_eq_y (pc := 817) 1143 dL_law_817 (by decide) h
set_option maxHeartbeats 4000000 in
theorem lc_fails {l : Launch} {D : va_G} {cy : Cy} {b L : Nat} {xs : Nat → Int32} {qx qm : Nat → Nat} {nc ns k : Nat} {σX σM σX1 σM1 : St} {r : Int32} (hL : L ≤ 3584) (hk : 7 * k + 7 ≤ L) (hf : nc ≤ room_1.cells ∧ ns ≤ room_1.slots) (eX : f_X8_fails (xs (7 * k + 1)) (xs (7 * k + 2)) (xs (7 * k + 3)) σX = some (r, σX1)) (eM : f_X9_fails (xs (7 * k + 1)) (xs (7 * k + 2)) (xs (7 * k + 3)) σM = some (r, σM1)) (h : GL l D cy b L xs (wd (vM D cy qm) σM1 ++ wd (vX D cy qx) σX1) nc ns 1143 [(3, .int (nI (7 * k))), (2, .ref (qm 0)), (1, .ref (qx 87)), (0, .ref b)] []) : GL l D cy b L xs (wd (vM D cy qm) σM ++ wd (vX D cy qx) σX) nc ns 822 [(3, .int (nI (7 * k))), (2, .ref (qm 0)), (1, .ref (qx 87)), (0, .ref b)] [] := by
  refine e_aload_n (pc := 822) 2 dL_law_822 rfl rfl ?_
  refine e_aload_n (pc := 823) 3 dL_law_823 rfl rfl ?_
  refine e_iload_n (pc := 824) 0 dL_law_824 rfl rfl ?_
  refine e_iconst (pc := 825) (1) dL_law_825 (by decide) ?_
  refine e_iadd (pc := 826) (nI (7 * k + 1)) (ea1 k) dL_law_826 ?_
  refine e_sld (pc := 827) rfl (show 7 * k + 1 < L by omega) hL dL_law_827 ?_
  refine e_aload_n (pc := 828) 3 dL_law_828 rfl rfl ?_
  refine e_iload_n (pc := 829) 0 dL_law_829 rfl rfl ?_
  refine e_iconst (pc := 830) (2) dL_law_830 (by decide) ?_
  refine e_iadd (pc := 831) (nI (7 * k + 2)) (ea2 k) dL_law_831 ?_
  refine e_sld (pc := 832) rfl (show 7 * k + 2 < L by omega) hL dL_law_832 ?_
  refine e_aload_n (pc := 833) 3 dL_law_833 rfl rfl ?_
  refine e_iload_n (pc := 834) 0 dL_law_834 rfl rfl ?_
  refine e_iconst (pc := 835) (3) dL_law_835 (by decide) ?_
  refine e_iadd (pc := 836) (nI (7 * k + 3)) (ea3 k) dL_law_836 ?_
  refine e_sld (pc := 837) rfl (show 7 * k + 3 < L by omega) hL dL_law_837 ?_
  refine e_call (pc := 838) (As := [.int (xs (7 * k + 1)), .int (xs (7 * k + 2)), .int (xs (7 * k + 3))]) (rest := []) (k := 87) (v := vX D cy qx) rfl rfl (m_X8_fails l D cy qx σX (xs (7 * k + 1)) (xs (7 * k + 2)) (xs (7 * k + 3)) _ eX) cw_X8_fails km_L_84 ⟨rfl, rfl, by decide, by decide⟩ (Nat.le_of_ble_eq_true rfl) (eX_8 (cy := cy) (σX.1 87) (σX.2 87)) rfl dL_law_838 rfl rfl (Nat.le_of_ble_eq_true rfl) hf ?_
  refine e_aload_n (pc := 841) 1 dL_law_841 rfl rfl ?_
  refine e_aload_n (pc := 842) 3 dL_law_842 rfl rfl ?_
  refine e_iload_n (pc := 843) 0 dL_law_843 rfl rfl ?_
  refine e_iconst (pc := 844) (1) dL_law_844 (by decide) ?_
  refine e_iadd (pc := 845) (nI (7 * k + 1)) (ea1 k) dL_law_845 ?_
  refine e_sld (pc := 846) rfl (show 7 * k + 1 < L by omega) hL dL_law_846 ?_
  refine e_aload_n (pc := 847) 3 dL_law_847 rfl rfl ?_
  refine e_iload_n (pc := 848) 0 dL_law_848 rfl rfl ?_
  refine e_iconst (pc := 849) (2) dL_law_849 (by decide) ?_
  refine e_iadd (pc := 850) (nI (7 * k + 2)) (ea2 k) dL_law_850 ?_
  refine e_sld (pc := 851) rfl (show 7 * k + 2 < L by omega) hL dL_law_851 ?_
  refine e_aload_n (pc := 852) 3 dL_law_852 rfl rfl ?_
  refine e_iload_n (pc := 853) 0 dL_law_853 rfl rfl ?_
  refine e_iconst (pc := 854) (3) dL_law_854 (by decide) ?_
  refine e_iadd (pc := 855) (nI (7 * k + 3)) (ea3 k) dL_law_855 ?_
  refine e_sld (pc := 856) rfl (show 7 * k + 3 < L by omega) hL dL_law_856 ?_
  refine e_perm List.perm_append_comm ?_
  refine e_call (pc := 857) (As := [.int (xs (7 * k + 1)), .int (xs (7 * k + 2)), .int (xs (7 * k + 3))]) (rest := [.int r]) (k := 0) (v := vM D cy qm) rfl rfl (m_X9_fails l D cy qm σM (xs (7 * k + 1)) (xs (7 * k + 2)) (xs (7 * k + 3)) _ eM) cw_X9_fails km_L_87 ⟨rfl, rfl, by decide, by decide⟩ (Nat.le_of_ble_eq_true rfl) (eM_9 (cy := cy) (σM.1 0) (σM.2 0)) rfl dL_law_857 rfl rfl (Nat.le_of_ble_eq_true rfl) hf ?_
  refine e_perm List.perm_append_comm ?_
  exact e_eq_y (pc := 860) 1143 dL_law_860 (by decide) h
set_option maxHeartbeats 4000000 in
theorem lc_so {l : Launch} {D : va_G} {cy : Cy} {b L : Nat} {xs : Nat → Int32} {qx qm : Nat → Nat} {nc ns k : Nat} {σX σM σX1 σM1 : St} {r : Int32} (hL : L ≤ 3584) (hk : 7 * k + 7 ≤ L) (hf : nc ≤ room_1.cells ∧ ns ≤ room_1.slots) (eX : f_X8_so (xs (7 * k + 1)) (xs (7 * k + 2)) (xs (7 * k + 3)) σX = some (r, σX1)) (eM : f_X9_so (xs (7 * k + 1)) (xs (7 * k + 2)) (xs (7 * k + 3)) σM = some (r, σM1)) (h : GL l D cy b L xs (wd (vM D cy qm) σM1 ++ wd (vX D cy qx) σX1) nc ns 1143 [(3, .int (nI (7 * k))), (2, .ref (qm 0)), (1, .ref (qx 87)), (0, .ref b)] []) : GL l D cy b L xs (wd (vM D cy qm) σM ++ wd (vX D cy qx) σX) nc ns 865 [(3, .int (nI (7 * k))), (2, .ref (qm 0)), (1, .ref (qx 87)), (0, .ref b)] [] := by
  refine e_aload_n (pc := 865) 2 dL_law_865 rfl rfl ?_
  refine e_aload_n (pc := 866) 3 dL_law_866 rfl rfl ?_
  refine e_iload_n (pc := 867) 0 dL_law_867 rfl rfl ?_
  refine e_iconst (pc := 868) (1) dL_law_868 (by decide) ?_
  refine e_iadd (pc := 869) (nI (7 * k + 1)) (ea1 k) dL_law_869 ?_
  refine e_sld (pc := 870) rfl (show 7 * k + 1 < L by omega) hL dL_law_870 ?_
  refine e_aload_n (pc := 871) 3 dL_law_871 rfl rfl ?_
  refine e_iload_n (pc := 872) 0 dL_law_872 rfl rfl ?_
  refine e_iconst (pc := 873) (2) dL_law_873 (by decide) ?_
  refine e_iadd (pc := 874) (nI (7 * k + 2)) (ea2 k) dL_law_874 ?_
  refine e_sld (pc := 875) rfl (show 7 * k + 2 < L by omega) hL dL_law_875 ?_
  refine e_aload_n (pc := 876) 3 dL_law_876 rfl rfl ?_
  refine e_iload_n (pc := 877) 0 dL_law_877 rfl rfl ?_
  refine e_iconst (pc := 878) (3) dL_law_878 (by decide) ?_
  refine e_iadd (pc := 879) (nI (7 * k + 3)) (ea3 k) dL_law_879 ?_
  refine e_sld (pc := 880) rfl (show 7 * k + 3 < L by omega) hL dL_law_880 ?_
  refine e_call (pc := 881) (As := [.int (xs (7 * k + 1)), .int (xs (7 * k + 2)), .int (xs (7 * k + 3))]) (rest := []) (k := 87) (v := vX D cy qx) rfl rfl (m_X8_so l D cy qx σX (xs (7 * k + 1)) (xs (7 * k + 2)) (xs (7 * k + 3)) _ eX) cw_X8_so km_L_88 ⟨rfl, rfl, by decide, by decide⟩ (Nat.le_of_ble_eq_true rfl) (eX_8 (cy := cy) (σX.1 87) (σX.2 87)) rfl dL_law_881 rfl rfl (Nat.le_of_ble_eq_true rfl) hf ?_
  refine e_aload_n (pc := 884) 1 dL_law_884 rfl rfl ?_
  refine e_aload_n (pc := 885) 3 dL_law_885 rfl rfl ?_
  refine e_iload_n (pc := 886) 0 dL_law_886 rfl rfl ?_
  refine e_iconst (pc := 887) (1) dL_law_887 (by decide) ?_
  refine e_iadd (pc := 888) (nI (7 * k + 1)) (ea1 k) dL_law_888 ?_
  refine e_sld (pc := 889) rfl (show 7 * k + 1 < L by omega) hL dL_law_889 ?_
  refine e_aload_n (pc := 890) 3 dL_law_890 rfl rfl ?_
  refine e_iload_n (pc := 891) 0 dL_law_891 rfl rfl ?_
  refine e_iconst (pc := 892) (2) dL_law_892 (by decide) ?_
  refine e_iadd (pc := 893) (nI (7 * k + 2)) (ea2 k) dL_law_893 ?_
  refine e_sld (pc := 894) rfl (show 7 * k + 2 < L by omega) hL dL_law_894 ?_
  refine e_aload_n (pc := 895) 3 dL_law_895 rfl rfl ?_
  refine e_iload_n (pc := 896) 0 dL_law_896 rfl rfl ?_
  refine e_iconst (pc := 897) (3) dL_law_897 (by decide) ?_
  refine e_iadd (pc := 898) (nI (7 * k + 3)) (ea3 k) dL_law_898 ?_
  refine e_sld (pc := 899) rfl (show 7 * k + 3 < L by omega) hL dL_law_899 ?_
  refine e_perm List.perm_append_comm ?_
  refine e_call (pc := 900) (As := [.int (xs (7 * k + 1)), .int (xs (7 * k + 2)), .int (xs (7 * k + 3))]) (rest := [.int r]) (k := 0) (v := vM D cy qm) rfl rfl (m_X9_so l D cy qm σM (xs (7 * k + 1)) (xs (7 * k + 2)) (xs (7 * k + 3)) _ eM) cw_X9_so km_L_91 ⟨rfl, rfl, by decide, by decide⟩ (Nat.le_of_ble_eq_true rfl) (eM_9 (cy := cy) (σM.1 0) (σM.2 0)) rfl dL_law_900 rfl rfl (Nat.le_of_ble_eq_true rfl) hf ?_
  refine e_perm List.perm_append_comm ?_
  exact e_eq_y (pc := 903) 1143 dL_law_903 (by decide) h
set_option maxHeartbeats 4000000 in
theorem lc_fit {l : Launch} {D : va_G} {cy : Cy} {b L : Nat} {xs : Nat → Int32} {qx qm : Nat → Nat} {nc ns k : Nat} {σX σM σX1 σM1 : St} {r : Int32} (hL : L ≤ 3584) (hk : 7 * k + 7 ≤ L) (hf : nc ≤ room_1.cells ∧ ns ≤ room_1.slots) (eX : f_X8_fit (xs (7 * k + 1)) (xs (7 * k + 2)) (xs (7 * k + 3)) (xs (7 * k + 4)) (xs (7 * k + 5)) σX = some (r, σX1)) (eM : f_X9_fit (xs (7 * k + 1)) (xs (7 * k + 2)) (xs (7 * k + 3)) (xs (7 * k + 4)) (xs (7 * k + 5)) σM = some (r, σM1)) (h : GL l D cy b L xs (wd (vM D cy qm) σM1 ++ wd (vX D cy qx) σX1) nc ns 1143 [(3, .int (nI (7 * k))), (2, .ref (qm 0)), (1, .ref (qx 87)), (0, .ref b)] []) : GL l D cy b L xs (wd (vM D cy qm) σM ++ wd (vX D cy qx) σX) nc ns 908 [(3, .int (nI (7 * k))), (2, .ref (qm 0)), (1, .ref (qx 87)), (0, .ref b)] [] := by
  refine e_aload_n (pc := 908) 2 dL_law_908 rfl rfl ?_
  refine e_aload_n (pc := 909) 3 dL_law_909 rfl rfl ?_
  refine e_iload_n (pc := 910) 0 dL_law_910 rfl rfl ?_
  refine e_iconst (pc := 911) (1) dL_law_911 (by decide) ?_
  refine e_iadd (pc := 912) (nI (7 * k + 1)) (ea1 k) dL_law_912 ?_
  refine e_sld (pc := 913) rfl (show 7 * k + 1 < L by omega) hL dL_law_913 ?_
  refine e_aload_n (pc := 914) 3 dL_law_914 rfl rfl ?_
  refine e_iload_n (pc := 915) 0 dL_law_915 rfl rfl ?_
  refine e_iconst (pc := 916) (2) dL_law_916 (by decide) ?_
  refine e_iadd (pc := 917) (nI (7 * k + 2)) (ea2 k) dL_law_917 ?_
  refine e_sld (pc := 918) rfl (show 7 * k + 2 < L by omega) hL dL_law_918 ?_
  refine e_aload_n (pc := 919) 3 dL_law_919 rfl rfl ?_
  refine e_iload_n (pc := 920) 0 dL_law_920 rfl rfl ?_
  refine e_iconst (pc := 921) (3) dL_law_921 (by decide) ?_
  refine e_iadd (pc := 922) (nI (7 * k + 3)) (ea3 k) dL_law_922 ?_
  refine e_sld (pc := 923) rfl (show 7 * k + 3 < L by omega) hL dL_law_923 ?_
  refine e_aload_n (pc := 924) 3 dL_law_924 rfl rfl ?_
  refine e_iload_n (pc := 925) 0 dL_law_925 rfl rfl ?_
  refine e_iconst (pc := 926) (4) dL_law_926 (by decide) ?_
  refine e_iadd (pc := 927) (nI (7 * k + 4)) (ea4 k) dL_law_927 ?_
  refine e_sld (pc := 928) rfl (show 7 * k + 4 < L by omega) hL dL_law_928 ?_
  refine e_aload_n (pc := 929) 3 dL_law_929 rfl rfl ?_
  refine e_iload_n (pc := 930) 0 dL_law_930 rfl rfl ?_
  refine e_iconst (pc := 931) (5) dL_law_931 (by decide) ?_
  refine e_iadd (pc := 932) (nI (7 * k + 5)) (ea5 k) dL_law_932 ?_
  refine e_sld (pc := 933) rfl (show 7 * k + 5 < L by omega) hL dL_law_933 ?_
  refine e_call (pc := 934) (As := [.int (xs (7 * k + 1)), .int (xs (7 * k + 2)), .int (xs (7 * k + 3)), .int (xs (7 * k + 4)), .int (xs (7 * k + 5))]) (rest := []) (k := 87) (v := vX D cy qx) rfl rfl (m_X8_fit l D cy qx σX (xs (7 * k + 1)) (xs (7 * k + 2)) (xs (7 * k + 3)) (xs (7 * k + 4)) (xs (7 * k + 5)) _ eX) cw_X8_fit km_L_92 ⟨rfl, rfl, by decide, by decide⟩ (Nat.le_of_ble_eq_true rfl) (eX_8 (cy := cy) (σX.1 87) (σX.2 87)) rfl dL_law_934 rfl rfl (Nat.le_of_ble_eq_true rfl) hf ?_
  refine e_aload_n (pc := 937) 1 dL_law_937 rfl rfl ?_
  refine e_aload_n (pc := 938) 3 dL_law_938 rfl rfl ?_
  refine e_iload_n (pc := 939) 0 dL_law_939 rfl rfl ?_
  refine e_iconst (pc := 940) (1) dL_law_940 (by decide) ?_
  refine e_iadd (pc := 941) (nI (7 * k + 1)) (ea1 k) dL_law_941 ?_
  refine e_sld (pc := 942) rfl (show 7 * k + 1 < L by omega) hL dL_law_942 ?_
  refine e_aload_n (pc := 943) 3 dL_law_943 rfl rfl ?_
  refine e_iload_n (pc := 944) 0 dL_law_944 rfl rfl ?_
  refine e_iconst (pc := 945) (2) dL_law_945 (by decide) ?_
  refine e_iadd (pc := 946) (nI (7 * k + 2)) (ea2 k) dL_law_946 ?_
  refine e_sld (pc := 947) rfl (show 7 * k + 2 < L by omega) hL dL_law_947 ?_
  refine e_aload_n (pc := 948) 3 dL_law_948 rfl rfl ?_
  refine e_iload_n (pc := 949) 0 dL_law_949 rfl rfl ?_
  refine e_iconst (pc := 950) (3) dL_law_950 (by decide) ?_
  refine e_iadd (pc := 951) (nI (7 * k + 3)) (ea3 k) dL_law_951 ?_
  refine e_sld (pc := 952) rfl (show 7 * k + 3 < L by omega) hL dL_law_952 ?_
  refine e_aload_n (pc := 953) 3 dL_law_953 rfl rfl ?_
  refine e_iload_n (pc := 954) 0 dL_law_954 rfl rfl ?_
  refine e_iconst (pc := 955) (4) dL_law_955 (by decide) ?_
  refine e_iadd (pc := 956) (nI (7 * k + 4)) (ea4 k) dL_law_956 ?_
  refine e_sld (pc := 957) rfl (show 7 * k + 4 < L by omega) hL dL_law_957 ?_
  refine e_aload_n (pc := 958) 3 dL_law_958 rfl rfl ?_
  refine e_iload_n (pc := 959) 0 dL_law_959 rfl rfl ?_
  refine e_iconst (pc := 960) (5) dL_law_960 (by decide) ?_
  refine e_iadd (pc := 961) (nI (7 * k + 5)) (ea5 k) dL_law_961 ?_
  refine e_sld (pc := 962) rfl (show 7 * k + 5 < L by omega) hL dL_law_962 ?_
  refine e_perm List.perm_append_comm ?_
  refine e_call (pc := 963) (As := [.int (xs (7 * k + 1)), .int (xs (7 * k + 2)), .int (xs (7 * k + 3)), .int (xs (7 * k + 4)), .int (xs (7 * k + 5))]) (rest := [.int r]) (k := 0) (v := vM D cy qm) rfl rfl (m_X9_fit l D cy qm σM (xs (7 * k + 1)) (xs (7 * k + 2)) (xs (7 * k + 3)) (xs (7 * k + 4)) (xs (7 * k + 5)) _ eM) cw_X9_fit km_L_95 ⟨rfl, rfl, by decide, by decide⟩ (Nat.le_of_ble_eq_true rfl) (eM_9 (cy := cy) (σM.1 0) (σM.2 0)) rfl dL_law_963 rfl rfl (Nat.le_of_ble_eq_true rfl) hf ?_
  refine e_perm List.perm_append_comm ?_
  exact e_eq_y (pc := 966) 1143 dL_law_966 (by decide) h
set_option maxHeartbeats 4000000 in
theorem lc_far {l : Launch} {D : va_G} {cy : Cy} {b L : Nat} {xs : Nat → Int32} {qx qm : Nat → Nat} {nc ns k : Nat} {σX σM σX1 σM1 : St} {r : Int32} (hL : L ≤ 3584) (hk : 7 * k + 7 ≤ L) (hf : nc ≤ room_1.cells ∧ ns ≤ room_1.slots) (eX : f_X8_far (xs (7 * k + 1)) (xs (7 * k + 2)) (xs (7 * k + 3)) (xs (7 * k + 4)) σX = some (r, σX1)) (eM : f_X9_far (xs (7 * k + 1)) (xs (7 * k + 2)) (xs (7 * k + 3)) (xs (7 * k + 4)) σM = some (r, σM1)) (h : GL l D cy b L xs (wd (vM D cy qm) σM1 ++ wd (vX D cy qx) σX1) nc ns 1143 [(3, .int (nI (7 * k))), (2, .ref (qm 0)), (1, .ref (qx 87)), (0, .ref b)] []) : GL l D cy b L xs (wd (vM D cy qm) σM ++ wd (vX D cy qx) σX) nc ns 971 [(3, .int (nI (7 * k))), (2, .ref (qm 0)), (1, .ref (qx 87)), (0, .ref b)] [] := by
  refine e_aload_n (pc := 971) 2 dL_law_971 rfl rfl ?_
  refine e_aload_n (pc := 972) 3 dL_law_972 rfl rfl ?_
  refine e_iload_n (pc := 973) 0 dL_law_973 rfl rfl ?_
  refine e_iconst (pc := 974) (1) dL_law_974 (by decide) ?_
  refine e_iadd (pc := 975) (nI (7 * k + 1)) (ea1 k) dL_law_975 ?_
  refine e_sld (pc := 976) rfl (show 7 * k + 1 < L by omega) hL dL_law_976 ?_
  refine e_aload_n (pc := 977) 3 dL_law_977 rfl rfl ?_
  refine e_iload_n (pc := 978) 0 dL_law_978 rfl rfl ?_
  refine e_iconst (pc := 979) (2) dL_law_979 (by decide) ?_
  refine e_iadd (pc := 980) (nI (7 * k + 2)) (ea2 k) dL_law_980 ?_
  refine e_sld (pc := 981) rfl (show 7 * k + 2 < L by omega) hL dL_law_981 ?_
  refine e_aload_n (pc := 982) 3 dL_law_982 rfl rfl ?_
  refine e_iload_n (pc := 983) 0 dL_law_983 rfl rfl ?_
  refine e_iconst (pc := 984) (3) dL_law_984 (by decide) ?_
  refine e_iadd (pc := 985) (nI (7 * k + 3)) (ea3 k) dL_law_985 ?_
  refine e_sld (pc := 986) rfl (show 7 * k + 3 < L by omega) hL dL_law_986 ?_
  refine e_aload_n (pc := 987) 3 dL_law_987 rfl rfl ?_
  refine e_iload_n (pc := 988) 0 dL_law_988 rfl rfl ?_
  refine e_iconst (pc := 989) (4) dL_law_989 (by decide) ?_
  refine e_iadd (pc := 990) (nI (7 * k + 4)) (ea4 k) dL_law_990 ?_
  refine e_sld (pc := 991) rfl (show 7 * k + 4 < L by omega) hL dL_law_991 ?_
  refine e_call (pc := 992) (As := [.int (xs (7 * k + 1)), .int (xs (7 * k + 2)), .int (xs (7 * k + 3)), .int (xs (7 * k + 4))]) (rest := []) (k := 87) (v := vX D cy qx) rfl rfl (m_X8_far l D cy qx σX (xs (7 * k + 1)) (xs (7 * k + 2)) (xs (7 * k + 3)) (xs (7 * k + 4)) _ eX) cw_X8_far km_L_96 ⟨rfl, rfl, by decide, by decide⟩ (Nat.le_of_ble_eq_true rfl) (eX_8 (cy := cy) (σX.1 87) (σX.2 87)) rfl dL_law_992 rfl rfl (Nat.le_of_ble_eq_true rfl) hf ?_
  refine e_aload_n (pc := 995) 1 dL_law_995 rfl rfl ?_
  refine e_aload_n (pc := 996) 3 dL_law_996 rfl rfl ?_
  refine e_iload_n (pc := 997) 0 dL_law_997 rfl rfl ?_
  refine e_iconst (pc := 998) (1) dL_law_998 (by decide) ?_
  refine e_iadd (pc := 999) (nI (7 * k + 1)) (ea1 k) dL_law_999 ?_
  refine e_sld (pc := 1000) rfl (show 7 * k + 1 < L by omega) hL dL_law_1000 ?_
  refine e_aload_n (pc := 1001) 3 dL_law_1001 rfl rfl ?_
  refine e_iload_n (pc := 1002) 0 dL_law_1002 rfl rfl ?_
  refine e_iconst (pc := 1003) (2) dL_law_1003 (by decide) ?_
  refine e_iadd (pc := 1004) (nI (7 * k + 2)) (ea2 k) dL_law_1004 ?_
  refine e_sld (pc := 1005) rfl (show 7 * k + 2 < L by omega) hL dL_law_1005 ?_
  refine e_aload_n (pc := 1006) 3 dL_law_1006 rfl rfl ?_
  refine e_iload_n (pc := 1007) 0 dL_law_1007 rfl rfl ?_
  refine e_iconst (pc := 1008) (3) dL_law_1008 (by decide) ?_
  refine e_iadd (pc := 1009) (nI (7 * k + 3)) (ea3 k) dL_law_1009 ?_
  refine e_sld (pc := 1010) rfl (show 7 * k + 3 < L by omega) hL dL_law_1010 ?_
  refine e_aload_n (pc := 1011) 3 dL_law_1011 rfl rfl ?_
  refine e_iload_n (pc := 1012) 0 dL_law_1012 rfl rfl ?_
  refine e_iconst (pc := 1013) (4) dL_law_1013 (by decide) ?_
  refine e_iadd (pc := 1014) (nI (7 * k + 4)) (ea4 k) dL_law_1014 ?_
  refine e_sld (pc := 1015) rfl (show 7 * k + 4 < L by omega) hL dL_law_1015 ?_
  refine e_perm List.perm_append_comm ?_
  refine e_call (pc := 1016) (As := [.int (xs (7 * k + 1)), .int (xs (7 * k + 2)), .int (xs (7 * k + 3)), .int (xs (7 * k + 4))]) (rest := [.int r]) (k := 0) (v := vM D cy qm) rfl rfl (m_X9_far l D cy qm σM (xs (7 * k + 1)) (xs (7 * k + 2)) (xs (7 * k + 3)) (xs (7 * k + 4)) _ eM) cw_X9_far km_L_99 ⟨rfl, rfl, by decide, by decide⟩ (Nat.le_of_ble_eq_true rfl) (eM_9 (cy := cy) (σM.1 0) (σM.2 0)) rfl dL_law_1016 rfl rfl (Nat.le_of_ble_eq_true rfl) hf ?_
  refine e_perm List.perm_append_comm ?_
  exact e_eq_y (pc := 1019) 1143 dL_law_1019 (by decide) h
set_option maxHeartbeats 4000000 in
theorem lc_changed {l : Launch} {D : va_G} {cy : Cy} {b L : Nat} {xs : Nat → Int32} {qx qm : Nat → Nat} {nc ns k : Nat} {σX σM σX1 σM1 : St} {r : Int32} (hL : L ≤ 3584) (hk : 7 * k + 7 ≤ L) (hf : nc ≤ room_1.cells ∧ ns ≤ room_1.slots) (eX : f_X8_changed (xs (7 * k + 1)) (xs (7 * k + 2)) (xs (7 * k + 3)) σX = some (r, σX1)) (eM : f_X9_changed (xs (7 * k + 1)) (xs (7 * k + 2)) (xs (7 * k + 3)) σM = some (r, σM1)) (h : GL l D cy b L xs (wd (vM D cy qm) σM1 ++ wd (vX D cy qx) σX1) nc ns 1143 [(3, .int (nI (7 * k))), (2, .ref (qm 0)), (1, .ref (qx 87)), (0, .ref b)] []) : GL l D cy b L xs (wd (vM D cy qm) σM ++ wd (vX D cy qx) σX) nc ns 1024 [(3, .int (nI (7 * k))), (2, .ref (qm 0)), (1, .ref (qx 87)), (0, .ref b)] [] := by
  refine e_aload_n (pc := 1024) 2 dL_law_1024 rfl rfl ?_
  refine e_aload_n (pc := 1025) 3 dL_law_1025 rfl rfl ?_
  refine e_iload_n (pc := 1026) 0 dL_law_1026 rfl rfl ?_
  refine e_iconst (pc := 1027) (1) dL_law_1027 (by decide) ?_
  refine e_iadd (pc := 1028) (nI (7 * k + 1)) (ea1 k) dL_law_1028 ?_
  refine e_sld (pc := 1029) rfl (show 7 * k + 1 < L by omega) hL dL_law_1029 ?_
  refine e_aload_n (pc := 1030) 3 dL_law_1030 rfl rfl ?_
  refine e_iload_n (pc := 1031) 0 dL_law_1031 rfl rfl ?_
  refine e_iconst (pc := 1032) (2) dL_law_1032 (by decide) ?_
  refine e_iadd (pc := 1033) (nI (7 * k + 2)) (ea2 k) dL_law_1033 ?_
  refine e_sld (pc := 1034) rfl (show 7 * k + 2 < L by omega) hL dL_law_1034 ?_
  refine e_aload_n (pc := 1035) 3 dL_law_1035 rfl rfl ?_
  refine e_iload_n (pc := 1036) 0 dL_law_1036 rfl rfl ?_
  refine e_iconst (pc := 1037) (3) dL_law_1037 (by decide) ?_
  refine e_iadd (pc := 1038) (nI (7 * k + 3)) (ea3 k) dL_law_1038 ?_
  refine e_sld (pc := 1039) rfl (show 7 * k + 3 < L by omega) hL dL_law_1039 ?_
  refine e_call (pc := 1040) (As := [.int (xs (7 * k + 1)), .int (xs (7 * k + 2)), .int (xs (7 * k + 3))]) (rest := []) (k := 87) (v := vX D cy qx) rfl rfl (m_X8_changed l D cy qx σX (xs (7 * k + 1)) (xs (7 * k + 2)) (xs (7 * k + 3)) _ eX) cw_X8_changed km_L_100 ⟨rfl, rfl, by decide, by decide⟩ (Nat.le_of_ble_eq_true rfl) (eX_8 (cy := cy) (σX.1 87) (σX.2 87)) rfl dL_law_1040 rfl rfl (Nat.le_of_ble_eq_true rfl) hf ?_
  refine e_aload_n (pc := 1043) 1 dL_law_1043 rfl rfl ?_
  refine e_aload_n (pc := 1044) 3 dL_law_1044 rfl rfl ?_
  refine e_iload_n (pc := 1045) 0 dL_law_1045 rfl rfl ?_
  refine e_iconst (pc := 1046) (1) dL_law_1046 (by decide) ?_
  refine e_iadd (pc := 1047) (nI (7 * k + 1)) (ea1 k) dL_law_1047 ?_
  refine e_sld (pc := 1048) rfl (show 7 * k + 1 < L by omega) hL dL_law_1048 ?_
  refine e_aload_n (pc := 1049) 3 dL_law_1049 rfl rfl ?_
  refine e_iload_n (pc := 1050) 0 dL_law_1050 rfl rfl ?_
  refine e_iconst (pc := 1051) (2) dL_law_1051 (by decide) ?_
  refine e_iadd (pc := 1052) (nI (7 * k + 2)) (ea2 k) dL_law_1052 ?_
  refine e_sld (pc := 1053) rfl (show 7 * k + 2 < L by omega) hL dL_law_1053 ?_
  refine e_aload_n (pc := 1054) 3 dL_law_1054 rfl rfl ?_
  refine e_iload_n (pc := 1055) 0 dL_law_1055 rfl rfl ?_
  refine e_iconst (pc := 1056) (3) dL_law_1056 (by decide) ?_
  refine e_iadd (pc := 1057) (nI (7 * k + 3)) (ea3 k) dL_law_1057 ?_
  refine e_sld (pc := 1058) rfl (show 7 * k + 3 < L by omega) hL dL_law_1058 ?_
  refine e_perm List.perm_append_comm ?_
  refine e_call (pc := 1059) (As := [.int (xs (7 * k + 1)), .int (xs (7 * k + 2)), .int (xs (7 * k + 3))]) (rest := [.int r]) (k := 0) (v := vM D cy qm) rfl rfl (m_X9_changed l D cy qm σM (xs (7 * k + 1)) (xs (7 * k + 2)) (xs (7 * k + 3)) _ eM) cw_X9_changed km_L_103 ⟨rfl, rfl, by decide, by decide⟩ (Nat.le_of_ble_eq_true rfl) (eM_9 (cy := cy) (σM.1 0) (σM.2 0)) rfl dL_law_1059 rfl rfl (Nat.le_of_ble_eq_true rfl) hf ?_
  refine e_perm List.perm_append_comm ?_
  exact e_eq_y (pc := 1062) 1143 dL_law_1062 (by decide) h
set_option maxHeartbeats 4000000 in
theorem lc_orders {l : Launch} {D : va_G} {cy : Cy} {b L : Nat} {xs : Nat → Int32} {qx qm : Nat → Nat} {nc ns k : Nat} {σX σM σX1 σM1 : St} {r : Int32} (hL : L ≤ 3584) (hk : 7 * k + 7 ≤ L) (hf : nc ≤ room_1.cells ∧ ns ≤ room_1.slots) (eX : f_X8_orders (xs (7 * k + 1)) (xs (7 * k + 2)) (xs (7 * k + 3)) (xs (7 * k + 4)) σX = some (r, σX1)) (eM : f_X9_orders (xs (7 * k + 1)) (xs (7 * k + 2)) (xs (7 * k + 3)) (xs (7 * k + 4)) σM = some (r, σM1)) (h : GL l D cy b L xs (wd (vM D cy qm) σM1 ++ wd (vX D cy qx) σX1) nc ns 1143 [(3, .int (nI (7 * k))), (2, .ref (qm 0)), (1, .ref (qx 87)), (0, .ref b)] []) : GL l D cy b L xs (wd (vM D cy qm) σM ++ wd (vX D cy qx) σX) nc ns 1067 [(3, .int (nI (7 * k))), (2, .ref (qm 0)), (1, .ref (qx 87)), (0, .ref b)] [] := by
  refine e_aload_n (pc := 1067) 2 dL_law_1067 rfl rfl ?_
  refine e_aload_n (pc := 1068) 3 dL_law_1068 rfl rfl ?_
  refine e_iload_n (pc := 1069) 0 dL_law_1069 rfl rfl ?_
  refine e_iconst (pc := 1070) (1) dL_law_1070 (by decide) ?_
  refine e_iadd (pc := 1071) (nI (7 * k + 1)) (ea1 k) dL_law_1071 ?_
  refine e_sld (pc := 1072) rfl (show 7 * k + 1 < L by omega) hL dL_law_1072 ?_
  refine e_aload_n (pc := 1073) 3 dL_law_1073 rfl rfl ?_
  refine e_iload_n (pc := 1074) 0 dL_law_1074 rfl rfl ?_
  refine e_iconst (pc := 1075) (2) dL_law_1075 (by decide) ?_
  refine e_iadd (pc := 1076) (nI (7 * k + 2)) (ea2 k) dL_law_1076 ?_
  refine e_sld (pc := 1077) rfl (show 7 * k + 2 < L by omega) hL dL_law_1077 ?_
  refine e_aload_n (pc := 1078) 3 dL_law_1078 rfl rfl ?_
  refine e_iload_n (pc := 1079) 0 dL_law_1079 rfl rfl ?_
  refine e_iconst (pc := 1080) (3) dL_law_1080 (by decide) ?_
  refine e_iadd (pc := 1081) (nI (7 * k + 3)) (ea3 k) dL_law_1081 ?_
  refine e_sld (pc := 1082) rfl (show 7 * k + 3 < L by omega) hL dL_law_1082 ?_
  refine e_aload_n (pc := 1083) 3 dL_law_1083 rfl rfl ?_
  refine e_iload_n (pc := 1084) 0 dL_law_1084 rfl rfl ?_
  refine e_iconst (pc := 1085) (4) dL_law_1085 (by decide) ?_
  refine e_iadd (pc := 1086) (nI (7 * k + 4)) (ea4 k) dL_law_1086 ?_
  refine e_sld (pc := 1087) rfl (show 7 * k + 4 < L by omega) hL dL_law_1087 ?_
  refine e_call (pc := 1088) (As := [.int (xs (7 * k + 1)), .int (xs (7 * k + 2)), .int (xs (7 * k + 3)), .int (xs (7 * k + 4))]) (rest := []) (k := 87) (v := vX D cy qx) rfl rfl (m_X8_orders l D cy qx σX (xs (7 * k + 1)) (xs (7 * k + 2)) (xs (7 * k + 3)) (xs (7 * k + 4)) _ eX) cw_X8_orders km_L_104 ⟨rfl, rfl, by decide, by decide⟩ (Nat.le_of_ble_eq_true rfl) (eX_8 (cy := cy) (σX.1 87) (σX.2 87)) rfl dL_law_1088 rfl rfl (Nat.le_of_ble_eq_true rfl) hf ?_
  refine e_aload_n (pc := 1091) 1 dL_law_1091 rfl rfl ?_
  refine e_aload_n (pc := 1092) 3 dL_law_1092 rfl rfl ?_
  refine e_iload_n (pc := 1093) 0 dL_law_1093 rfl rfl ?_
  refine e_iconst (pc := 1094) (1) dL_law_1094 (by decide) ?_
  refine e_iadd (pc := 1095) (nI (7 * k + 1)) (ea1 k) dL_law_1095 ?_
  refine e_sld (pc := 1096) rfl (show 7 * k + 1 < L by omega) hL dL_law_1096 ?_
  refine e_aload_n (pc := 1097) 3 dL_law_1097 rfl rfl ?_
  refine e_iload_n (pc := 1098) 0 dL_law_1098 rfl rfl ?_
  refine e_iconst (pc := 1099) (2) dL_law_1099 (by decide) ?_
  refine e_iadd (pc := 1100) (nI (7 * k + 2)) (ea2 k) dL_law_1100 ?_
  refine e_sld (pc := 1101) rfl (show 7 * k + 2 < L by omega) hL dL_law_1101 ?_
  refine e_aload_n (pc := 1102) 3 dL_law_1102 rfl rfl ?_
  refine e_iload_n (pc := 1103) 0 dL_law_1103 rfl rfl ?_
  refine e_iconst (pc := 1104) (3) dL_law_1104 (by decide) ?_
  refine e_iadd (pc := 1105) (nI (7 * k + 3)) (ea3 k) dL_law_1105 ?_
  refine e_sld (pc := 1106) rfl (show 7 * k + 3 < L by omega) hL dL_law_1106 ?_
  refine e_aload_n (pc := 1107) 3 dL_law_1107 rfl rfl ?_
  refine e_iload_n (pc := 1108) 0 dL_law_1108 rfl rfl ?_
  refine e_iconst (pc := 1109) (4) dL_law_1109 (by decide) ?_
  refine e_iadd (pc := 1110) (nI (7 * k + 4)) (ea4 k) dL_law_1110 ?_
  refine e_sld (pc := 1111) rfl (show 7 * k + 4 < L by omega) hL dL_law_1111 ?_
  refine e_perm List.perm_append_comm ?_
  refine e_call (pc := 1112) (As := [.int (xs (7 * k + 1)), .int (xs (7 * k + 2)), .int (xs (7 * k + 3)), .int (xs (7 * k + 4))]) (rest := [.int r]) (k := 0) (v := vM D cy qm) rfl rfl (m_X9_orders l D cy qm σM (xs (7 * k + 1)) (xs (7 * k + 2)) (xs (7 * k + 3)) (xs (7 * k + 4)) _ eM) cw_X9_orders km_L_107 ⟨rfl, rfl, by decide, by decide⟩ (Nat.le_of_ble_eq_true rfl) (eM_9 (cy := cy) (σM.1 0) (σM.2 0)) rfl dL_law_1112 rfl rfl (Nat.le_of_ble_eq_true rfl) hf ?_
  refine e_perm List.perm_append_comm ?_
  exact e_eq_y (pc := 1115) 1143 dL_law_1115 (by decide) h
set_option maxHeartbeats 4000000 in
theorem lc_told {l : Launch} {D : va_G} {cy : Cy} {b L : Nat} {xs : Nat → Int32} {qx qm : Nat → Nat} {nc ns k : Nat} {σX σM : St} {r : Int32} (hL : L ≤ 3584) (hk : 7 * k + 7 ≤ L) (hf : nc ≤ room_1.cells ∧ ns ≤ room_1.slots) (eX : f_X8_told (xs (7 * k + 1)) σX = some r) (eM : f_X9_told (xs (7 * k + 1)) σM = some r) (h : GL l D cy b L xs (wd (vM D cy qm) σM ++ wd (vX D cy qx) σX) nc ns 1143 [(3, .int (nI (7 * k))), (2, .ref (qm 0)), (1, .ref (qx 87)), (0, .ref b)] []) : GL l D cy b L xs (wd (vM D cy qm) σM ++ wd (vX D cy qx) σX) nc ns 1120 [(3, .int (nI (7 * k))), (2, .ref (qm 0)), (1, .ref (qx 87)), (0, .ref b)] [] := by
  refine e_aload_n (pc := 1120) 2 dL_law_1120 rfl rfl ?_
  refine e_aload_n (pc := 1121) 3 dL_law_1121 rfl rfl ?_
  refine e_iload_n (pc := 1122) 0 dL_law_1122 rfl rfl ?_
  refine e_iconst (pc := 1123) (1) dL_law_1123 (by decide) ?_
  refine e_iadd (pc := 1124) (nI (7 * k + 1)) (ea1 k) dL_law_1124 ?_
  refine e_sld (pc := 1125) rfl (show 7 * k + 1 < L by omega) hL dL_law_1125 ?_
  refine e_call (pc := 1126) (As := [.int (xs (7 * k + 1))]) (rest := []) (k := 87) (v := vX D cy qx) rfl rfl (m_X8_told l D cy qx σX (xs (7 * k + 1)) _ eX) cw_X8_told km_L_108 ⟨rfl, rfl, by decide, by decide⟩ (Nat.le_of_ble_eq_true rfl) (eX_8 (cy := cy) (σX.1 87) (σX.2 87)) rfl dL_law_1126 rfl rfl (Nat.le_of_ble_eq_true rfl) hf ?_
  refine e_aload_n (pc := 1129) 1 dL_law_1129 rfl rfl ?_
  refine e_aload_n (pc := 1130) 3 dL_law_1130 rfl rfl ?_
  refine e_iload_n (pc := 1131) 0 dL_law_1131 rfl rfl ?_
  refine e_iconst (pc := 1132) (1) dL_law_1132 (by decide) ?_
  refine e_iadd (pc := 1133) (nI (7 * k + 1)) (ea1 k) dL_law_1133 ?_
  refine e_sld (pc := 1134) rfl (show 7 * k + 1 < L by omega) hL dL_law_1134 ?_
  refine e_perm List.perm_append_comm ?_
  refine e_call (pc := 1135) (As := [.int (xs (7 * k + 1))]) (rest := [.int r]) (k := 0) (v := vM D cy qm) rfl rfl (m_X9_told l D cy qm σM (xs (7 * k + 1)) _ eM) cw_X9_told km_L_111 ⟨rfl, rfl, by decide, by decide⟩ (Nat.le_of_ble_eq_true rfl) (eM_9 (cy := cy) (σM.1 0) (σM.2 0)) rfl dL_law_1135 rfl rfl (Nat.le_of_ble_eq_true rfl) hf ?_
  refine e_perm List.perm_append_comm ?_
  exact e_eq_y (pc := 1138) 1143 dL_law_1138 (by decide) h
theorem lt_toInt {x y : Int32} (h : ¬ x < y) : y.toInt ≤ x.toInt := by rw [Int32.lt_iff_toInt_lt] at h; omega
set_option maxHeartbeats 4000000 in
set_option maxRecDepth 20000 in
theorem law_loop {R : Nat → St → St → Prop} (hS : StepOK R) {l : Launch} {D : va_G} {cy : Cy} {b L : Nat} {xs : Nat → Int32} {qx qm : Nat → Nat} {nc ns : Nat} (hL : L ≤ 3584) (hf : nc ≤ room_1.cells ∧ ns ≤ room_1.slots) : ∀ (n k : Nat) (σX σM : St), 7 * k ≤ L → L < 7 * k + n → R k σX σM → GL l D cy b L xs (wd (vM D cy qm) σM ++ wd (vX D cy qx) σX) nc ns 18 [(3, .int (nI (7 * k))), (2, .ref (qm 0)), (1, .ref (qx 87)), (0, .ref b)] [] := by
  intro n
  induction n with
  | zero => intro k σX σM h1 h2; omega
  | succ n ih =>
    intro k σX σM h1 h2 hR
    refine e_iload_n (pc := 18) 0 dL_law_18 rfl rfl ?_
    refine e_aload_n (pc := 19) 3 dL_law_19 rfl rfl ?_
    refine e_slen (pc := 20) dL_law_20 ?_
    refine e_bipush (pc := 21) (7) dL_law_21 (by decide) ?_
    refine e_isub (pc := 23) dL_law_23 ?_
    refine e_gt (pc := 24) 1149 dL_law_24 (by decide) (fun _ => ?_) (fun hgt => ?_)
    · refine e_iconst (pc := 1149) (1) dL_law_1149 (by decide) ?_
      exact e_ret (pc := 1150) hf dL_law_1150
    · have hk : 7 * k + 7 ≤ L := by
        have h3 := lt_toInt hgt
        rw [L7, pk_sub_toInt (show L < 2 ^ 30 by omega) (by decide), nI_toInt (show 7 * k < 2 ^ 31 by omega)] at h3
        omega
      have next : ∀ σX1 σM1, R (k + 1) σX1 σM1 → GL l D cy b L xs (wd (vM D cy qm) σM1 ++ wd (vX D cy qx) σX1) nc ns 1143 [(3, .int (nI (7 * k))), (2, .ref (qm 0)), (1, .ref (qx 87)), (0, .ref b)] [] := by
        intro σX1 σM1 hR1
        refine e_iinc (pc := 1143) (j := 0) (nI (7 * (k + 1))) (lv' := [(3, .int (nI (7 * (k + 1)))), (2, .ref (qm 0)), (1, .ref (qx 87)), (0, .ref b)]) dL_law_1143 rfl (by rw [show Int32.ofInt 7 = nI 7 from rfl, nI_add]; congr 1) (by decide) rfl ?_
        refine e_goto (pc := 1146) 18 dL_law_1146 (by decide) ?_
        exact ih (k + 1) σX1 σM1 (by omega) (by omega) hR1
      have hk5 : k < 512 := by omega
      refine e_aload_n (pc := 27) 3 dL_law_27 rfl rfl ?_
      refine e_iload_n (pc := 28) 0 dL_law_28 rfl rfl ?_
      refine e_sld (pc := 29) rfl (show 7 * k < L by omega) hL dL_law_29 ?_
      refine e_bipush (pc := 30) (31) dL_law_30 (by decide) ?_
      refine e_iand (pc := 32) dL_law_32 ?_
      generalize xs (7 * k) &&& 31 = x0
      by_cases c0 : x0 = 0
      · refine e_tbl (pc := 33) (0) 140 dL_law_33 (i32_eq (0) rfl c0) (by decide) (by decide) rfl (by decide) ?_
        obtain ⟨r, σX1, σM1, eX, eM, hR1⟩ := hS.2.1 k σX σM (xs (7 * k + 1)) (xs (7 * k + 2)) (xs (7 * k + 3)) (xs (7 * k + 4)) (xs (7 * k + 5)) hk5 hR
        exact lc_line hL hk hf eX eM (next _ _ hR1)
      by_cases c1 : x0 = 1
      · refine e_tbl (pc := 33) (1) 203 dL_law_33 (i32_eq (1) rfl c1) (by decide) (by decide) rfl (by decide) ?_
        obtain ⟨r, σX1, σM1, eX, eM, hR1⟩ := hS.2.2.1 k σX σM (xs (7 * k + 1)) (xs (7 * k + 2)) (xs (7 * k + 3)) (xs (7 * k + 4)) (xs (7 * k + 5)) (xs (7 * k + 6)) hk5 hR
        exact lc_change hL hk hf eX eM (next _ _ hR1)
      by_cases c2 : x0 = 2
      · refine e_tbl (pc := 33) (2) 278 dL_law_33 (i32_eq (2) rfl c2) (by decide) (by decide) rfl (by decide) ?_
        obtain ⟨r, σX1, σM1, eX, eM, hR1⟩ := hS.2.2.2.1 k σX σM (xs (7 * k + 1)) hk5 hR
        exact lc_clear hL hk hf eX eM (next _ _ hR1)
      by_cases c3 : x0 = 3
      · refine e_tbl (pc := 33) (3) 301 dL_law_33 (i32_eq (3) rfl c3) (by decide) (by decide) rfl (by decide) ?_
        obtain ⟨r, σX1, σM1, eX, eM, hR1⟩ := hS.2.2.2.2.1 k σX σM (xs (7 * k + 1)) (xs (7 * k + 2)) hk5 hR
        exact lc_silent hL hk hf eX eM (next _ _ hR1)
      by_cases c4 : x0 = 4
      · refine e_tbl (pc := 33) (4) 334 dL_law_33 (i32_eq (4) rfl c4) (by decide) (by decide) rfl (by decide) ?_
        obtain ⟨r, σX1, σM1, eX, eM, hR1⟩ := hS.2.2.2.2.2.1 k σX σM (xs (7 * k + 1)) (xs (7 * k + 2)) (xs (7 * k + 3)) hk5 hR
        exact lc_run hL hk hf eX eM (next _ _ hR1)
      by_cases c5 : x0 = 5
      · refine e_tbl (pc := 33) (5) 377 dL_law_33 (i32_eq (5) rfl c5) (by decide) (by decide) rfl (by decide) ?_
        obtain ⟨r, σX1, σM1, eX, eM, hR1⟩ := hS.2.2.2.2.2.2.1 k σX σM (xs (7 * k + 1)) hk5 hR
        exact lc_say hL hk hf eX eM (next _ _ hR1)
      by_cases c6 : x0 = 6
      · refine e_tbl (pc := 33) (6) 400 dL_law_33 (i32_eq (6) rfl c6) (by decide) (by decide) rfl (by decide) ?_
        obtain ⟨r, σX1, σM1, eX, eM, hR1⟩ := hS.2.2.2.2.2.2.2.1 k σX σM  hk5 hR
        exact lc_wipe hL hk hf eX eM (next _ _ hR1)
      by_cases c7 : x0 = 7
      · refine e_tbl (pc := 33) (7) 413 dL_law_33 (i32_eq (7) rfl c7) (by decide) (by decide) rfl (by decide) ?_
        obtain ⟨r, eX, eM, hR1⟩ := hS.2.2.2.2.2.2.2.2.1 k σX σM  hk5 hR
        exact lc_fault hL hk hf eX eM (next _ _ hR1)
      by_cases c8 : x0 = 8
      · refine e_tbl (pc := 33) (8) 426 dL_law_33 (i32_eq (8) rfl c8) (by decide) (by decide) rfl (by decide) ?_
        obtain ⟨r, σX1, σM1, eX, eM, hR1⟩ := hS.2.2.2.2.2.2.2.2.2.1 k σX σM  hk5 hR
        exact lc_saying hL hk hf eX eM (next _ _ hR1)
      by_cases c9 : x0 = 9
      · refine e_tbl (pc := 33) (9) 439 dL_law_33 (i32_eq (9) rfl c9) (by decide) (by decide) rfl (by decide) ?_
        obtain ⟨r, σX1, σM1, eX, eM, hR1⟩ := hS.2.2.2.2.2.2.2.2.2.2.1 k σX σM (xs (7 * k + 1)) (xs (7 * k + 2)) (xs (7 * k + 3)) (xs (7 * k + 4)) (xs (7 * k + 5)) (xs (7 * k + 6)) hk5 hR
        exact lc_pair hL hk hf eX eM (next _ _ hR1)
      by_cases c10 : x0 = 10
      · refine e_tbl (pc := 33) (10) 514 dL_law_33 (i32_eq (10) rfl c10) (by decide) (by decide) rfl (by decide) ?_
        obtain ⟨r, σX1, σM1, eX, eM, hR1⟩ := hS.2.2.2.2.2.2.2.2.2.2.2.1 k σX σM (xs (7 * k + 1)) (xs (7 * k + 2)) (xs (7 * k + 3)) (xs (7 * k + 4)) hk5 hR
        exact lc_holds hL hk hf eX eM (next _ _ hR1)
      by_cases c11 : x0 = 11
      · refine e_tbl (pc := 33) (11) 567 dL_law_33 (i32_eq (11) rfl c11) (by decide) (by decide) rfl (by decide) ?_
        obtain ⟨r, σX1, σM1, eX, eM, hR1⟩ := hS.2.2.2.2.2.2.2.2.2.2.2.2.1 k σX σM (xs (7 * k + 1)) (xs (7 * k + 2)) (xs (7 * k + 3)) (xs (7 * k + 4)) hk5 hR
        exact lc_part hL hk hf eX eM (next _ _ hR1)
      by_cases c12 : x0 = 12
      · refine e_tbl (pc := 33) (12) 620 dL_law_33 (i32_eq (12) rfl c12) (by decide) (by decide) rfl (by decide) ?_
        obtain ⟨r, σX1, σM1, eX, eM, hR1⟩ := hS.2.2.2.2.2.2.2.2.2.2.2.2.2.1 k σX σM (xs (7 * k + 1)) (xs (7 * k + 2)) (xs (7 * k + 3)) hk5 hR
        exact lc_wait hL hk hf eX eM (next _ _ hR1)
      by_cases c13 : x0 = 13
      · refine e_tbl (pc := 33) (13) 663 dL_law_33 (i32_eq (13) rfl c13) (by decide) (by decide) rfl (by decide) ?_
        obtain ⟨r, σX1, σM1, eX, eM, hR1⟩ := hS.2.2.2.2.2.2.2.2.2.2.2.2.2.2.1 k σX σM (xs (7 * k + 1)) (xs (7 * k + 2)) (xs (7 * k + 3)) (xs (7 * k + 4)) hk5 hR
        exact lc_walk hL hk hf eX eM (next _ _ hR1)
      by_cases c14 : x0 = 14
      · refine e_tbl (pc := 33) (14) 716 dL_law_33 (i32_eq (14) rfl c14) (by decide) (by decide) rfl (by decide) ?_
        obtain ⟨r, σX1, σM1, eX, eM, hR1⟩ := hS.2.2.2.2.2.2.2.2.2.2.2.2.2.2.2.1 k σX σM (xs (7 * k + 1)) (xs (7 * k + 2)) (xs (7 * k + 3)) (xs (7 * k + 4)) (xs (7 * k + 5)) hk5 hR
        exact lc_shape hL hk hf eX eM (next _ _ hR1)
      by_cases c15 : x0 = 15
      · refine e_tbl (pc := 33) (15) 779 dL_law_33 (i32_eq (15) rfl c15) (by decide) (by decide) rfl (by decide) ?_
        obtain ⟨r, σX1, σM1, eX, eM, hR1⟩ := hS.2.2.2.2.2.2.2.2.2.2.2.2.2.2.2.2.1 k σX σM (xs (7 * k + 1)) (xs (7 * k + 2)) (xs (7 * k + 3)) hk5 hR
        exact lc_tell hL hk hf eX eM (next _ _ hR1)
      by_cases c16 : x0 = 16
      · refine e_tbl (pc := 33) (16) 822 dL_law_33 (i32_eq (16) rfl c16) (by decide) (by decide) rfl (by decide) ?_
        obtain ⟨r, σX1, σM1, eX, eM, hR1⟩ := hS.2.2.2.2.2.2.2.2.2.2.2.2.2.2.2.2.2.1 k σX σM (xs (7 * k + 1)) (xs (7 * k + 2)) (xs (7 * k + 3)) hk5 hR
        exact lc_fails hL hk hf eX eM (next _ _ hR1)
      by_cases c17 : x0 = 17
      · refine e_tbl (pc := 33) (17) 865 dL_law_33 (i32_eq (17) rfl c17) (by decide) (by decide) rfl (by decide) ?_
        obtain ⟨r, σX1, σM1, eX, eM, hR1⟩ := hS.2.2.2.2.2.2.2.2.2.2.2.2.2.2.2.2.2.2.1 k σX σM (xs (7 * k + 1)) (xs (7 * k + 2)) (xs (7 * k + 3)) hk5 hR
        exact lc_so hL hk hf eX eM (next _ _ hR1)
      by_cases c18 : x0 = 18
      · refine e_tbl (pc := 33) (18) 908 dL_law_33 (i32_eq (18) rfl c18) (by decide) (by decide) rfl (by decide) ?_
        obtain ⟨r, σX1, σM1, eX, eM, hR1⟩ := hS.2.2.2.2.2.2.2.2.2.2.2.2.2.2.2.2.2.2.2.1 k σX σM (xs (7 * k + 1)) (xs (7 * k + 2)) (xs (7 * k + 3)) (xs (7 * k + 4)) (xs (7 * k + 5)) hk5 hR
        exact lc_fit hL hk hf eX eM (next _ _ hR1)
      by_cases c19 : x0 = 19
      · refine e_tbl (pc := 33) (19) 971 dL_law_33 (i32_eq (19) rfl c19) (by decide) (by decide) rfl (by decide) ?_
        obtain ⟨r, σX1, σM1, eX, eM, hR1⟩ := hS.2.2.2.2.2.2.2.2.2.2.2.2.2.2.2.2.2.2.2.2.1 k σX σM (xs (7 * k + 1)) (xs (7 * k + 2)) (xs (7 * k + 3)) (xs (7 * k + 4)) hk5 hR
        exact lc_far hL hk hf eX eM (next _ _ hR1)
      by_cases c20 : x0 = 20
      · refine e_tbl (pc := 33) (20) 1024 dL_law_33 (i32_eq (20) rfl c20) (by decide) (by decide) rfl (by decide) ?_
        obtain ⟨r, σX1, σM1, eX, eM, hR1⟩ := hS.2.2.2.2.2.2.2.2.2.2.2.2.2.2.2.2.2.2.2.2.2.1 k σX σM (xs (7 * k + 1)) (xs (7 * k + 2)) (xs (7 * k + 3)) hk5 hR
        exact lc_changed hL hk hf eX eM (next _ _ hR1)
      by_cases c21 : x0 = 21
      · refine e_tbl (pc := 33) (21) 1067 dL_law_33 (i32_eq (21) rfl c21) (by decide) (by decide) rfl (by decide) ?_
        obtain ⟨r, σX1, σM1, eX, eM, hR1⟩ := hS.2.2.2.2.2.2.2.2.2.2.2.2.2.2.2.2.2.2.2.2.2.2.1 k σX σM (xs (7 * k + 1)) (xs (7 * k + 2)) (xs (7 * k + 3)) (xs (7 * k + 4)) hk5 hR
        exact lc_orders hL hk hf eX eM (next _ _ hR1)
      by_cases c22 : x0 = 22
      · refine e_tbl (pc := 33) (22) 1120 dL_law_33 (i32_eq (22) rfl c22) (by decide) (by decide) rfl (by decide) ?_
        obtain ⟨r, eX, eM, hR1⟩ := hS.2.2.2.2.2.2.2.2.2.2.2.2.2.2.2.2.2.2.2.2.2.2.2 k σX σM (xs (7 * k + 1)) hk5 hR
        exact lc_told hL hk hf eX eM (next _ _ hR1)
      refine e_tblOut (pc := 33) 1143 dL_law_33 (by have q0 := i32_ne (0) rfl c0; have q1 := i32_ne (1) rfl c1; have q2 := i32_ne (2) rfl c2; have q3 := i32_ne (3) rfl c3; have q4 := i32_ne (4) rfl c4; have q5 := i32_ne (5) rfl c5; have q6 := i32_ne (6) rfl c6; have q7 := i32_ne (7) rfl c7; have q8 := i32_ne (8) rfl c8; have q9 := i32_ne (9) rfl c9; have q10 := i32_ne (10) rfl c10; have q11 := i32_ne (11) rfl c11; have q12 := i32_ne (12) rfl c12; have q13 := i32_ne (13) rfl c13; have q14 := i32_ne (14) rfl c14; have q15 := i32_ne (15) rfl c15; have q16 := i32_ne (16) rfl c16; have q17 := i32_ne (17) rfl c17; have q18 := i32_ne (18) rfl c18; have q19 := i32_ne (19) rfl c19; have q20 := i32_ne (20) rfl c20; have q21 := i32_ne (21) rfl c21; have q22 := i32_ne (22) rfl c22; omega) (by decide) ?_
      exact next σX σM (hS.1 k σX σM hR)
theorem TY_ok {s : State} {b : Nat} (hts : ∀ w ∈ lw_tbl, w.before #[Value.ref b] s = true) : ∃ cy : Cy, (∀ (k : Nat) (q : ClassId × FieldType), (TY cy)[k]? = some q → ArrOfT s q.1 q.2 ∧ va_RA s q.1 q.2) := by
  have pr : ∀ ty : FieldType, (∀ C, ty ≠ .object C) → (Cond.arrayClass ty).before #[Value.ref b] s = true → ∃ c : ClassId, ArrOfT s c ty ∧ s.vm.findClass ("[" ++ ty.toString) = some c := by
    intro ty _ h
    obtain ⟨c, kc, comp, h1, h2, h3⟩ := Cond.arrayClass_spec h
    exact ⟨c, fun n z => ⟨fun k h => (by cases h), kc, h2, comp, h3⟩, h1⟩
  have ob : ∀ C : String, (Cond.arrayOver (.object C)).before #[Value.ref b] s = true → ∃ c : ClassId, ArrOfT s c (.object C) ∧ va_RA s c (.object C) := by
    intro C h
    obtain ⟨comp, c, kc, h1, h2, h3, h4, h5⟩ := Cond.arrayOver_spec h
    exact ⟨c, fun n z => ⟨fun k h => (by cases h), kc, h3, comp, h4⟩, kc, comp, h3, h4, h1, h5⟩
  obtain ⟨c1, a1, b1⟩ := pr .int (by intro C h; cases h) (hts _ (in_t1 (List.mem_of_getElem? (i := 42) rfl)))
  obtain ⟨c2, a2, b2⟩ := pr .long (by intro C h; cases h) (hts _ (in_t1 (List.mem_of_getElem? (i := 112) rfl)))
  obtain ⟨c3, a3, b3⟩ := pr .boolean (by intro C h; cases h) (hts _ (in_t4 (List.mem_of_getElem? (i := 121) rfl)))
  obtain ⟨c4, a4, b4⟩ := ob RX4 (hts _ (in_t1 (List.mem_of_getElem? (i := 44) rfl)))
  obtain ⟨c5, a5, b5⟩ := ob RX5 (hts _ (in_t1 (List.mem_of_getElem? (i := 114) rfl)))
  refine ⟨(c1, c2, c3, c4, c5), fun k q hq => ?_⟩
  match k, hq with
  | 0, hq => cases hq; exact ⟨a1, b1⟩
  | 1, hq => cases hq; exact ⟨a2, b2⟩
  | 2, hq => cases hq; exact ⟨a3, b3⟩
  | 3, hq => cases hq; exact ⟨a4, b4⟩
  | 4, hq => cases hq; exact ⟨a5, b5⟩
  | k + 5, hq => cases hq
theorem Nst_ok {s : State} {b : Nat} (hts : ∀ w ∈ lw_tbl, w.before #[Value.ref b] s = true) : Nst s := ⟨va_Nw.of rfl (hts _ (in_t1 (List.mem_of_getElem? (i := 29) rfl))), va_Nw.of rfl (hts _ (in_t2 (List.mem_of_getElem? (i := 119) rfl))), va_Nw.of rfl (hts _ (in_t2 (List.mem_of_getElem? (i := 120) rfl))), va_Nw.of rfl (hts _ (in_t2 (List.mem_of_getElem? (i := 193) rfl))), va_Nw.of rfl (hts _ (in_t3 (List.mem_of_getElem? (i := 177) rfl)))⟩
theorem in_of {C1 : String} {T : u_T} {n : Nat} (h : ∀ w ∈ u_ws C1 T n, w ∈ WSl) : ∀ w ∈ u_ws C1 T n, w ∈ lw_tbl := fun w hw => (List.mem_filter.mp (h w hw)).1
set_option maxHeartbeats 4000000 in
set_option maxRecDepth 20000 in
theorem whole_of {R : Nat → St → St → Prop} (hSt : StepOK R) (hI : ∀ σX σM, InitX σX → InitM σM → R 0 σX σM) {p : Program} {e : Env} {s : State} {m : MethodId} {below : List Frame} {meth : Method} {c : Code} (l : Launch) {b L : Nat} {xs : Nat → Int32} (hL : L ≤ 3584) (C0 : lw_At p s m meth c b L xs) : W p l e room_1 s m #[Value.ref b] below meth c s.heap [] 0 0 (lw_Z below #[Value.ref b] s) (entryFrame m ([Value.ref b] : List Value).toArray 4) := by
  obtain ⟨hx, hb, hr, hml, hown, hts, hX, hbl, hlocks, hgv⟩ := id C0
  obtain ⟨cy, hcy⟩ := TY_ok hts
  obtain ⟨c0, i0, hn0⟩ := u_known (C := RX0) (T := TX0) (N := 5) (n := 5) hts (in_of inX0) (WSl_tbl hts _ kn_X0.1)
  obtain ⟨c1, i1, hn1⟩ := u_known (C := RX1) (T := TX1) (N := 2) (n := 2) hts (in_of inX1) (WSl_tbl hts _ kn_X1.1)
  obtain ⟨c2, i2, hn2⟩ := u_known (C := RX2) (T := TX2) (N := 4) (n := 4) hts (in_of inX2) (WSl_tbl hts _ kn_X2.1)
  obtain ⟨c3, i3, hn3⟩ := u_known (C := RX3) (T := TX3) (N := 6) (n := 6) hts (in_of inX3) (WSl_tbl hts _ kn_X3.1)
  obtain ⟨c4, i4, hn4⟩ := u_known (C := RX4) (T := TX4) (N := 16) (n := 16) hts (in_of inX4) (WSl_tbl hts _ kn_X4.1)
  obtain ⟨c5, i5, hn5⟩ := u_known (C := RX5) (T := TX5) (N := 4) (n := 4) hts (in_of inX5) (WSl_tbl hts _ kn_X5.1)
  obtain ⟨c6, i6, hn6⟩ := u_known (C := RX6) (T := TX6) (N := 3) (n := 3) hts (in_of inX6) (WSl_tbl hts _ kn_X6.1)
  obtain ⟨c7, i7, hn7⟩ := u_known (C := RX7) (T := TX7) (N := 11) (n := 11) hts (in_of inX7) (WSl_tbl hts _ kn_X7.1)
  obtain ⟨c8, i8, hn8⟩ := u_known (C := RX8) (T := TX8) (N := 9) (n := 9) hts (in_of inX8) (WSl_tbl hts _ kn_X8.1)
  obtain ⟨c9, i9, hn9⟩ := u_known (C := RX9) (T := TX9) (N := 47) (n := 47) hts (in_of inX9) (WSl_tbl hts _ kn_X9.1)
  obtain ⟨dC, dI, hKc⟩ : ∃ (dC : Nat → ClassId) (dI : Nat → Nat → Nat), ∀ (k : Nat) (q : vw_C), vwCl[k]? = some q → u_Kn s q.1 q.2.1 q.2.2 (dC k) (dI k) := by
    refine ⟨fun k => match k with | 0 => c0 | 1 => c1 | 2 => c2 | 3 => c3 | 4 => c4 | 5 => c5 | 6 => c6 | 7 => c7 | 8 => c8 | _ => c9, fun k => match k with | 0 => i0 | 1 => i1 | 2 => i2 | 3 => i3 | 4 => i4 | 5 => i5 | 6 => i6 | 7 => i7 | 8 => i8 | _ => i9, ?_⟩
    intro k q hq
    match k, hq with
    | 0, hq => cases hq; exact hn0
    | 1, hq => cases hq; exact hn1
    | 2, hq => cases hq; exact hn2
    | 3, hq => cases hq; exact hn3
    | 4, hq => cases hq; exact hn4
    | 5, hq => cases hq; exact hn5
    | 6, hq => cases hq; exact hn6
    | 7, hq => cases hq; exact hn7
    | 8, hq => cases hq; exact hn8
    | 9, hq => cases hq; exact hn9
    | k + 10, hq => cases hq
  have hK : Ka (dC, dI) cy s := ⟨⟨hKc, hcy⟩, Nst_ok hts, va_AO.of (hts _ (in_t1 (List.mem_of_getElem? (i := 44) rfl))), va_AO.of (hts _ (in_t1 (List.mem_of_getElem? (i := 114) rfl)))⟩
  have hP : va_P (dC, dI) vwCl [] s.heap := fun k q h => (by cases h)
  have hD : va_D (fun q : Nat => s.heap.size ≤ q) [] := ⟨fun i j p q h => (by cases h), fun k q h => (by cases h)⟩
  have hl := lv_entry ([.ref b]) (n := 4) (Nat.le_of_ble_eq_true rfl)
  rw [lg_entry_eq]
  refine (?_ : GL l (dC, dI) cy b L xs [] 0 0 0 [(0, .ref b)] []) p e s m below meth c s.heap [] _ C0 hK hP hD va_S.rf hl
  clear C0 hx hb hr hml hown hts hX hbl hlocks hgv hKc hK hP hD hl hcy
  refine e_new (pc := 0) (ci := 8) (C1 := RX8) (T := TX8) (N := 9) [.null, .null, .int 0, .null, .null, .null, .null, .null, .null] inX8 tyX8 tyX8_ok kc_L_7 kn_X8.1 kn_X8.2 rfl df_X8 (Nat.le_of_ble_eq_true rfl) (Nat.le_of_ble_eq_true rfl) dL_law_0 (fun ax => ?_)
  refine e_dup (pc := 3) dL_law_3 rfl ?_
  refine e_init (pc := 4) (n := 0) (As := []) (rest := [.ref ax]) (wr := []) (wc := [(ax, .inr (8, [.null, .null, .int 0, .null, .null, .null, .null, .null, .null]))]) (c_X8_init l (dC, dI) cy ax) ci_X8_init (by decide +kernel) km_L_9 ⟨by decide, by decide⟩ ⟨Nat.le_of_ble_eq_true rfl, Nat.le_of_ble_eq_true rfl⟩ dL_law_4 rfl rfl rfl (Nat.le_of_ble_eq_true rfl) ?_
  rintro w1 ⟨qx, σX, hp, rfl, hIX⟩
  refine e_perm hp ?_
  refine e_astore_n (pc := 7) (lv' := [(1, .ref (qx 87)), (0, .ref b)]) dL_law_7 rfl (by decide) rfl ?_
  refine e_new (pc := 8) (ci := 9) (C1 := RX9) (T := TX9) (N := 47) [.null, .null, .null, .null, .null, .null, .null, .int 0, .int 0, .int 0, .int 0, .int 0, .null, .null, .null, .null, .null, .null, .null, .null, .int 0, .int 0, .int 0, .int 0, .int 0, .int 0, .int 0, .int 0, .int 0, .int 0, .int 0, .int 0, .int 0, .null, .null, .null, .null, .int 0, .null, .int 0, .int 0, .int 0, .int 0, .int 0, .null, .null, .int 0] inX9 tyX9 tyX9_ok kc_L_10 kn_X9.1 kn_X9.2 rfl df_X9 (Nat.le_of_ble_eq_true rfl) (Nat.le_of_ble_eq_true rfl) dL_law_8 (fun am => ?_)
  refine e_dup (pc := 11) dL_law_11 rfl ?_
  refine e_init (pc := 12) (n := 0) (As := []) (rest := [.ref am]) (wr := wd (vX (dC, dI) cy qx) σX) (wc := [(am, .inr (9, [.null, .null, .null, .null, .null, .null, .null, .int 0, .int 0, .int 0, .int 0, .int 0, .null, .null, .null, .null, .null, .null, .null, .null, .int 0, .int 0, .int 0, .int 0, .int 0, .int 0, .int 0, .int 0, .int 0, .int 0, .int 0, .int 0, .int 0, .null, .null, .null, .null, .int 0, .null, .int 0, .int 0, .int 0, .int 0, .int 0, .null, .null, .int 0]))]) (c_X9_init l (dC, dI) cy am) ci_X9_init (by decide +kernel) km_L_12 ⟨by decide, by decide⟩ ⟨Nat.le_of_ble_eq_true rfl, Nat.le_of_ble_eq_true rfl⟩ dL_law_12 rfl rfl rfl (Nat.le_of_ble_eq_true rfl) ?_
  rintro w2 ⟨qm, σM, rfl, rfl, hIM⟩
  refine e_perm List.perm_append_comm ?_
  refine e_astore_n (pc := 15) (lv' := [(2, .ref (qm 0)), (1, .ref (qx 87)), (0, .ref b)]) dL_law_15 rfl (by decide) rfl ?_
  refine e_iconst (pc := 16) (0) dL_law_16 (by decide) ?_
  refine e_istore_n (pc := 17) (lv' := [(3, .int 0), (2, .ref (qm 0)), (1, .ref (qx 87)), (0, .ref b)]) dL_law_17 rfl (by decide) rfl ?_
  exact law_loop hSt hL ⟨Nat.le_of_ble_eq_true rfl, Nat.le_of_ble_eq_true rfl⟩ (L + 1) 0 σX σM (by omega) (by omega) (hI σX σM hIX hIM)
