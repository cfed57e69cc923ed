def b_X9_fails_34 (p : Int32) (q_ : Int32) : (Int32 × St) → Option ((Int32 × St) ⊕ ((St) ⊕ (Int32 × St))) := un fun y1 s2 => (if (168 : Int32) ≤ y1 then some (.inr (.inl s2)) else chk (inb y1 169) ((if (s2.1 19 y1.toNatClampNeg) = (0 : Int32) then nm (y1 + (1 : Int32)) fun x1 => some (.inl (x1, s2)) else chk (nz (13 : Int32)) (chk (nz (13 : Int32)) ((f_X9_isKept p q_ (y1 / (13 : Int32)) (y1 - y1 / (13 : Int32) * (13 : Int32)) s2).bind (un fun r4 s3 => (if r4 = (0 : Int32) then chk (nz (13 : Int32)) (chk (nz (13 : Int32)) (some (.inr (.inr ((((100 : Int32) * (y1 / (13 : Int32))) + (y1 - y1 / (13 : Int32) * (13 : Int32))), s3))))) else nm (y1 + (1 : Int32)) fun x2 => some (.inl (x2, s3)))))))))
def f_X9_fails (saying : Int32) (p : Int32) (q_ : Int32) (σ : St) : Option (Int32 × St) := (f_X9_isSaying saying σ).bind fun r1 => (if r1 = (0 : Int32) then some ((-1 : Int32), σ) else (f_X9_isProgram p).bind fun r2 => (if r2 = (0 : Int32) then some ((-1 : Int32), σ) else (f_X9_isProgram q_).bind fun r3 => (if r3 = (0 : Int32) then some ((-1 : Int32), σ) else (f_X9_walkAll saying p q_ σ).bind fun s1 => (wh FU (b_X9_fails_34 p q_) ((0 : Int32), s1)).bind (Sum.elim (fun s4 => some ((-6 : Int32), s4)) (fun z => some z)))))
abbrev rm_X9_fails : Room := { frames := 5, cells := 0, slots := 0, locals := 120 }
set_option maxHeartbeats 4000000 in
set_option maxRecDepth 20000 in
theorem m_X9_fails (l : Launch) (D : va_G) (cy : Cy) (q : Nat → Nat) (σ : St) (saying : Int32) (p : Int32) (q_ : Int32)  : ∀ res, f_X9_fails saying p q_ σ = some res → MetX (vM D cy q) l yX9_fails cX9_fails 5 (some .int) rm_X9_fails [.ref (q 0), .int saying, .int p, .int q_] σ (some (.int res.1), res.2) := by
  let fin_ : (Int32 × St) → Option Value × St := fun r => (some (.int r.1), r.2)
  have hro : ∀ (z : Int32 × St) (res : Int32 × St), some z = some res → fin_ res = fin_ z := fun z res h => by cases h; rfl
  refine MetX.of1 (fin := fin_) (lv := [(0, .ref (q 0)), (1, .int saying), (2, .int p), (3, .int q_)]) (by decide) (Nat.le_of_ble_eq_true rfl) rfl ?_
  unfold f_X9_fails
  refine g_aload_n (pc := 0) 0 dX9_fails_0 rfl rfl ?_
  refine g_iload_n (pc := 1) 1 dX9_fails_1 rfl rfl ?_
  refine gV_i (pc := 2) [.int saying] [] (m_X9_isSaying l D cy q σ saying) cw_X9_isSaying km_X9_209 ⟨rfl, rfl, by decide, by decide⟩ (Nat.le_of_ble_eq_true rfl) (eM_9 (cy := cy) (σ.1 0) (σ.2 0)) rfl dX9_fails_2 rfl rfl (Nat.le_of_ble_eq_true rfl) (fun r1 => ?_)
  refine g_if_eq (pc := 5) 22 dX9_fails_5 (by decide) ?_ ?_
  · refine g_iconst (pc := 22) (-1) dX9_fails_22 (by decide) ?_
    exact g_iret (pc := 23) (hro _) rfl dX9_fails_23
  · refine g_iload_n (pc := 8) 2 dX9_fails_8 rfl rfl ?_
    refine gS_i (pc := 9) [.int p] [] (m_X9_isProgram l D cy q σ p) cw_X9_isProgram km_X9_111 ⟨rfl, rfl, by decide, by decide⟩ dX9_fails_9 rfl rfl (Nat.le_of_ble_eq_true rfl) (fun r2 => ?_)
    refine g_if_eq (pc := 12) 22 dX9_fails_12 (by decide) ?_ ?_
    · refine g_iconst (pc := 22) (-1) dX9_fails_22 (by decide) ?_
      exact g_iret (pc := 23) (hro _) rfl dX9_fails_23
    · refine g_iload_n (pc := 15) 3 dX9_fails_15 rfl rfl ?_
      refine gS_i (pc := 16) [.int q_] [] (m_X9_isProgram l D cy q σ q_) cw_X9_isProgram km_X9_111 ⟨rfl, rfl, by decide, by decide⟩ dX9_fails_16 rfl rfl (Nat.le_of_ble_eq_true rfl) (fun r3 => ?_)
      refine g_if_ne (pc := 19) 24 dX9_fails_19 (by decide) ?_ ?_
      · refine g_aload_n (pc := 24) 0 dX9_fails_24 rfl rfl ?_
        refine g_iload_n (pc := 25) 1 dX9_fails_25 rfl rfl ?_
        refine g_iload_n (pc := 26) 2 dX9_fails_26 rfl rfl ?_
        refine g_iload_n (pc := 27) 3 dX9_fails_27 rfl rfl ?_
        refine gV_v (pc := 28) [.int saying, .int p, .int q_] [] (m_X9_walkAll l D cy q σ saying p q_) cw_X9_walkAll km_X9_287 ⟨rfl, rfl, by decide, by decide⟩ (Nat.le_of_ble_eq_true rfl) (eM_9 (cy := cy) (σ.1 0) (σ.2 0)) rfl dX9_fails_28 rfl rfl (Nat.le_of_ble_eq_true rfl) (fun s1 => ?_)
        refine g_iconst (pc := 31) (0) dX9_fails_31 (by decide) ?_
        refine g_istore (pc := 32) (lv' := [(4, .int (0 : Int32)), (0, .ref (q 0)), (1, .int saying), (2, .int p), (3, .int q_)]) dX9_fails_32 (Nat.le_of_ble_eq_true rfl) rfl ?_
        refine g_sub [1, 3, 4, 0] rfl ?_
        refine g_whr (pc := 34) (s0 := ((0 : Int32), s1)) fin_ (fun (w_ : Int32 × St) => w_.2) (fun (w_ : Int32 × St) => [(0, .ref (q 0)), (2, .int p), (3, .int q_), (4, .int w_.1)]) (fun (w_ : St) => w_) (fun (w_ : St) => []) 92 (fun z => z) (fun _ => rfl) hro ?_ ?_
        · rintro s4
          try dsimp only [un, Sum.elim_inl]
          refine g_bipush (pc := 92) (-6) dX9_fails_92 (by decide) ?_
          exact g_iret (pc := 94) (hro _) rfl dX9_fails_94
        · intro K34 hr34 hx34 ih34
          rintro ⟨y1, s2⟩
          try dsimp only [b_X9_fails_34, un]
          refine g_iload (pc := 34) 3 dX9_fails_34 rfl ?_
          refine g_sipush (pc := 36) (168) dX9_fails_36 (by decide) ?_
          refine g_icmp_ge (pc := 39) 92 dX9_fails_39 (by decide) ?_ ?_
          · exact g_sub [] rfl (hx34 s2)
          · refine g_aload_n (pc := 42) 0 dX9_fails_42 rfl rfl ?_
            refine gf_9_isStood (pc := 43) kf_X9_69 dX9_fails_43 ?_
            refine g_iload (pc := 46) 3 dX9_fails_46 rfl ?_
            refine a_zld (pc := 48) aM_isStood dX9_fails_48 ?_
            refine g_if_eq (pc := 49) 86 dX9_fails_49 (by decide) ?_ ?_
            · refine g_iinc (pc := 86) (j := 3) (1) (lf := fun x1 => [(4, .int x1), (0, .ref (q 0)), (2, .int p), (3, .int q_)]) dX9_fails_86 rfl (by decide) (Nat.le_of_ble_eq_true rfl) (fun _ => rfl) (fun x1 => ?_)
              refine g_goto (pc := 89) 34 dX9_fails_89 (by decide) ?_
              exact g_sub [1, 2, 3, 0] rfl (ih34 (x1, s2))
            · refine g_aload_n (pc := 52) 0 dX9_fails_52 rfl rfl ?_
              refine g_iload_n (pc := 53) 1 dX9_fails_53 rfl rfl ?_
              refine g_iload_n (pc := 54) 2 dX9_fails_54 rfl rfl ?_
              refine g_iload (pc := 55) 3 dX9_fails_55 rfl ?_
              refine g_bipush (pc := 57) (13) dX9_fails_57 (by decide) ?_
              refine g_idiv (pc := 59) dX9_fails_59 ?_
              refine g_iload (pc := 60) 3 dX9_fails_60 rfl ?_
              refine g_bipush (pc := 62) (13) dX9_fails_62 (by decide) ?_
              refine g_irem (pc := 64) dX9_fails_64 ?_
              refine gV_e (pc := 65) [.int p, .int q_, .int (y1 / (13 : Int32)), .int (y1 - y1 / (13 : Int32) * (13 : Int32))] [] (m_X9_isKept l D cy q s2 p q_ (y1 / (13 : Int32)) (y1 - y1 / (13 : Int32) * (13 : Int32))) cw_X9_isKept km_X9_294 ⟨rfl, rfl, by decide, by decide⟩ (Nat.le_of_ble_eq_true rfl) (eM_9 (cy := cy) (s2.1 0) (s2.2 0)) rfl dX9_fails_65 rfl rfl (Nat.le_of_ble_eq_true rfl) (fun r4 s3 => ?_)
              refine g_if_ne (pc := 68) 86 dX9_fails_68 (by decide) ?_ ?_
              · refine g_iinc (pc := 86) (j := 3) (1) (lf := fun x2 => [(4, .int x2), (0, .ref (q 0)), (2, .int p), (3, .int q_)]) dX9_fails_86 rfl (by decide) (Nat.le_of_ble_eq_true rfl) (fun _ => rfl) (fun x2 => ?_)
                refine g_goto (pc := 89) 34 dX9_fails_89 (by decide) ?_
                exact g_sub [1, 2, 3, 0] rfl (ih34 (x2, s3))
              · refine g_bipush (pc := 71) (100) dX9_fails_71 (by decide) ?_
                refine g_iload (pc := 73) 3 dX9_fails_73 rfl ?_
                refine g_bipush (pc := 75) (13) dX9_fails_75 (by decide) ?_
                refine g_idiv (pc := 77) dX9_fails_77 ?_
                refine g_imul (pc := 78) dX9_fails_78 ?_
                refine g_iload (pc := 79) 3 dX9_fails_79 rfl ?_
                refine g_bipush (pc := 81) (13) dX9_fails_81 (by decide) ?_
                refine g_irem (pc := 83) dX9_fails_83 ?_
                refine g_iadd (pc := 84) dX9_fails_84 ?_
                exact g_iret (pc := 85) (hr34 _) rfl dX9_fails_85
      · refine g_iconst (pc := 22) (-1) dX9_fails_22 (by decide) ?_
        exact g_iret (pc := 23) (hro _) rfl dX9_fails_23
def b_X9_noneBroken_18 (s : Int32) (σ : St) (y2 : Int32) : (Int32 × Int32) → Option ((Int32 × Int32) ⊕ (Int32)) := un fun y3 y4 => (if (256 : Int32) ≤ y4 then some (.inr y3) else (if y3 = (0 : Int32) then some (.inr y3) else (f_X9_isMeant s y2 y4 σ).bind fun r1 => (if r1 = (0 : Int32) then nm (y4 + (1 : Int32)) fun x1 => some (.inl ((1 : Int32), x1)) else (f_X9_isAsSaid s y2 ((256 : Int32) + y4) σ).bind fun r2 => (if r2 = (0 : Int32) then nm (y4 + (1 : Int32)) fun x2 => some (.inl ((0 : Int32), x2)) else nm (y4 + (1 : Int32)) fun x3 => some (.inl ((1 : Int32), x3))))))
def b_X9_noneBroken_4 (s : Int32) (σ : St) : (Int32 × Int32) → Option ((Int32 × Int32) ⊕ (Int32)) := un fun y1 y2 => (if (256 : Int32) ≤ y2 then some (.inr y1) else (if y1 = (0 : Int32) then some (.inr y1) else (wh FU (b_X9_noneBroken_18 s σ y2) (y1, (0 : Int32))).bind (fun z1 => nm (y2 + (1 : Int32)) fun x4 => some (.inl (z1, x4)))))
def f_X9_noneBroken (s : Int32) (σ : St) : Option (Int32) := (wh FU (b_X9_noneBroken_4 s σ) ((1 : Int32), (0 : Int32))).bind (fun z2 => chk (isb z2) (some z2))
abbrev rm_X9_noneBroken : Room := { frames := 4, cells := 0, slots := 0, locals := 99 }
set_option maxHeartbeats 4000000 in
set_option maxRecDepth 20000 in
theorem m_X9_noneBroken (l : Launch) (D : va_G) (cy : Cy) (q : Nat → Nat) (σ : St) (s : Int32)  : ∀ res, f_X9_noneBroken s σ = some res → MetX (vM D cy q) l yX9_noneBroken cX9_noneBroken 5 (some .boolean) rm_X9_noneBroken [.ref (q 0), .int s] σ (some (.int res), σ) := by
  let fin_ : Int32 → Option Value × St := fun r => (some (.int r), σ)
  have hro : ∀ (z : Int32) (res : Int32), some z = some res → fin_ res = fin_ z := fun z res h => by cases h; rfl
  refine MetX.of1 (fin := fin_) (lv := [(0, .ref (q 0)), (1, .int s)]) (by decide) (Nat.le_of_ble_eq_true rfl) rfl ?_
  unfold f_X9_noneBroken
  refine g_iconst (pc := 0) (1) dX9_noneBroken_0 (by decide) ?_
  refine g_istore_n (pc := 1) (lv' := [(2, .int (1 : Int32)), (0, .ref (q 0)), (1, .int s)]) dX9_noneBroken_1 rfl (Nat.le_of_ble_eq_true rfl) rfl ?_
  refine g_iconst (pc := 2) (0) dX9_noneBroken_2 (by decide) ?_
  refine g_istore_n (pc := 3) (lv' := [(3, .int (0 : Int32)), (2, .int (1 : Int32)), (0, .ref (q 0)), (1, .int s)]) dX9_noneBroken_3 rfl (Nat.le_of_ble_eq_true rfl) rfl ?_
  refine g_sub [2, 3, 1, 0] rfl ?_
  refine g_wh2 (pc := 4) (s0 := ((1 : Int32), (0 : Int32))) (fun (w_ : Int32 × Int32) => σ) (fun (w_ : Int32 × Int32) => [(0, .ref (q 0)), (1, .int s), (2, .int w_.1), (3, .int w_.2)]) (fun (w_ : Int32) => σ) (fun (w_ : Int32) => [(2, .int w_)]) 74 ?_ ?_
  · rintro z2
    try dsimp only [un, Sum.elim_inl]
    refine g_iload_n (pc := 74) 0 dX9_noneBroken_74 rfl rfl ?_
    exact g_chk fun hb => g_zret (pc := 75) hb (hro _) rfl dX9_noneBroken_75
  · intro K4 hx4 ih4
    rintro ⟨y1, y2⟩
    try dsimp only [b_X9_noneBroken_4, un]
    refine g_iload_n (pc := 4) 3 dX9_noneBroken_4 rfl rfl ?_
    refine g_sipush (pc := 5) (256) dX9_noneBroken_5 (by decide) ?_
    refine g_icmp_ge (pc := 8) 74 dX9_noneBroken_8 (by decide) ?_ ?_
    · exact g_sub [2] rfl (hx4 y1)
    · refine g_iload_n (pc := 11) 2 dX9_noneBroken_11 rfl rfl ?_
      refine g_if_eq (pc := 12) 74 dX9_noneBroken_12 (by decide) ?_ ?_
      · exact g_sub [2] rfl (hx4 y1)
      · refine g_iconst (pc := 15) (0) dX9_noneBroken_15 (by decide) ?_
        refine g_istore (pc := 16) (lv' := [(4, .int (0 : Int32)), (0, .ref (q 0)), (1, .int s), (2, .int y1), (3, .int y2)]) dX9_noneBroken_16 (Nat.le_of_ble_eq_true rfl) rfl ?_
        refine g_sub [1, 2, 3, 4, 0] rfl ?_
        refine g_wh2 (pc := 18) (s0 := (y1, (0 : Int32))) (fun (w_ : Int32 × Int32) => σ) (fun (w_ : Int32 × Int32) => [(0, .ref (q 0)), (1, .int s), (2, .int w_.1), (3, .int y2), (4, .int w_.2)]) (fun (w_ : Int32) => σ) (fun (w_ : Int32) => [(0, .ref (q 0)), (1, .int s), (2, .int w_), (3, .int y2)]) 68 ?_ ?_
        · rintro z1
          try dsimp only [un, Sum.elim_inl]
          refine g_iinc (pc := 68) (j := 3) (1) (lf := fun x4 => [(3, .int x4), (0, .ref (q 0)), (1, .int s), (2, .int z1)]) dX9_noneBroken_68 rfl (by decide) (Nat.le_of_ble_eq_true rfl) (fun _ => rfl) (fun x4 => ?_)
          refine g_goto (pc := 71) 4 dX9_noneBroken_71 (by decide) ?_
          exact g_sub [1, 2, 3, 0] rfl (ih4 (z1, x4))
        · intro K18 hx18 ih18
          rintro ⟨y3, y4⟩
          try dsimp only [b_X9_noneBroken_18, un]
          refine g_iload (pc := 18) 4 dX9_noneBroken_18 rfl ?_
          refine g_sipush (pc := 20) (256) dX9_noneBroken_20 (by decide) ?_
          refine g_icmp_ge (pc := 23) 68 dX9_noneBroken_23 (by decide) ?_ ?_
          · exact g_sub [0, 1, 2, 3] rfl (hx18 y3)
          · refine g_iload_n (pc := 26) 2 dX9_noneBroken_26 rfl rfl ?_
            refine g_if_eq (pc := 27) 68 dX9_noneBroken_27 (by decide) ?_ ?_
            · exact g_sub [0, 1, 2, 3] rfl (hx18 y3)
            · refine g_aload_n (pc := 30) 0 dX9_noneBroken_30 rfl rfl ?_
              refine g_iload_n (pc := 31) 1 dX9_noneBroken_31 rfl rfl ?_
              refine g_iload_n (pc := 32) 3 dX9_noneBroken_32 rfl rfl ?_
              refine g_iload (pc := 33) 4 dX9_noneBroken_33 rfl ?_
              refine gV_i (pc := 35) [.int s, .int y2, .int y4] [] (m_X9_isMeant l D cy q σ s y2 y4) cw_X9_isMeant km_X9_212 ⟨rfl, rfl, by decide, by decide⟩ (Nat.le_of_ble_eq_true rfl) (eM_9 (cy := cy) (σ.1 0) (σ.2 0)) rfl dX9_noneBroken_35 rfl rfl (Nat.le_of_ble_eq_true rfl) (fun r1 => ?_)
              refine g_if_eq (pc := 38) 56 dX9_noneBroken_38 (by decide) ?_ ?_
              · refine g_iconst (pc := 56) (1) dX9_noneBroken_56 (by decide) ?_
                refine g_goto (pc := 57) 61 dX9_noneBroken_57 (by decide) ?_
                refine g_istore_n (pc := 61) (lv' := [(2, .int (1 : Int32)), (0, .ref (q 0)), (1, .int s), (3, .int y2), (4, .int y4)]) dX9_noneBroken_61 rfl (Nat.le_of_ble_eq_true rfl) rfl ?_
                refine g_iinc (pc := 62) (j := 4) (1) (lf := fun x1 => [(4, .int x1), (2, .int (1 : Int32)), (0, .ref (q 0)), (1, .int s), (3, .int y2)]) dX9_noneBroken_62 rfl (by decide) (Nat.le_of_ble_eq_true rfl) (fun _ => rfl) (fun x1 => ?_)
                refine g_goto (pc := 65) 18 dX9_noneBroken_65 (by decide) ?_
                exact g_sub [2, 3, 1, 4, 0] rfl (ih18 ((1 : Int32), x1))
              · refine g_aload_n (pc := 41) 0 dX9_noneBroken_41 rfl rfl ?_
                refine g_iload_n (pc := 42) 1 dX9_noneBroken_42 rfl rfl ?_
                refine g_iload_n (pc := 43) 3 dX9_noneBroken_43 rfl rfl ?_
                refine g_sipush (pc := 44) (256) dX9_noneBroken_44 (by decide) ?_
                refine g_iload (pc := 47) 4 dX9_noneBroken_47 rfl ?_
                refine g_iadd (pc := 49) dX9_noneBroken_49 ?_
                refine gV_i (pc := 50) [.int s, .int y2, .int ((256 : Int32) + y4)] [] (m_X9_isAsSaid l D cy q σ s y2 ((256 : Int32) + y4)) cw_X9_isAsSaid km_X9_215 ⟨rfl, rfl, by decide, by decide⟩ (Nat.le_of_ble_eq_true rfl) (eM_9 (cy := cy) (σ.1 0) (σ.2 0)) rfl dX9_noneBroken_50 rfl rfl (Nat.le_of_ble_eq_true rfl) (fun r2 => ?_)
                refine g_if_eq (pc := 53) 60 dX9_noneBroken_53 (by decide) ?_ ?_
                · refine g_iconst (pc := 60) (0) dX9_noneBroken_60 (by decide) ?_
                  refine g_istore_n (pc := 61) (lv' := [(2, .int (0 : Int32)), (0, .ref (q 0)), (1, .int s), (3, .int y2), (4, .int y4)]) dX9_noneBroken_61 rfl (Nat.le_of_ble_eq_true rfl) rfl ?_
                  refine g_iinc (pc := 62) (j := 4) (1) (lf := fun x2 => [(4, .int x2), (2, .int (0 : Int32)), (0, .ref (q 0)), (1, .int s), (3, .int y2)]) dX9_noneBroken_62 rfl (by decide) (Nat.le_of_ble_eq_true rfl) (fun _ => rfl) (fun x2 => ?_)
                  refine g_goto (pc := 65) 18 dX9_noneBroken_65 (by decide) ?_
                  exact g_sub [2, 3, 1, 4, 0] rfl (ih18 ((0 : Int32), x2))
                · refine g_iconst (pc := 56) (1) dX9_noneBroken_56 (by decide) ?_
                  refine g_goto (pc := 57) 61 dX9_noneBroken_57 (by decide) ?_
                  refine g_istore_n (pc := 61) (lv' := [(2, .int (1 : Int32)), (0, .ref (q 0)), (1, .int s), (3, .int y2), (4, .int y4)]) dX9_noneBroken_61 rfl (Nat.le_of_ble_eq_true rfl) rfl ?_
                  refine g_iinc (pc := 62) (j := 4) (1) (lf := fun x3 => [(4, .int x3), (2, .int (1 : Int32)), (0, .ref (q 0)), (1, .int s), (3, .int y2)]) dX9_noneBroken_62 rfl (by decide) (Nat.le_of_ble_eq_true rfl) (fun _ => rfl) (fun x3 => ?_)
                  refine g_goto (pc := 65) 18 dX9_noneBroken_65 (by decide) ?_
                  exact g_sub [2, 3, 1, 4, 0] rfl (ih18 ((1 : Int32), x3))
def b_X9_bestSilence_18 (saying : Int32) (program : Int32) (shows : Int32) (x1 : Int32) : (Int32 × Int32 × Int32 × St) → Option ((Int32 × Int32 × Int32 × St) ⊕ (Int32 × St)) := un fun y1 => un fun y2 => un fun y3 s1 => (if y3 = (0 : Int32) then some (.inr (y1, s1)) else (if y1 < (0 : Int32) then chk (inb program 4) (nm (stI s1 6 program.toNatClampNeg (x1 ||| y2)) fun s2 => (f_X9_runAll program program s2).bind fun s3 => (f_X9_noneBroken saying s3).bind fun r1 => (if r1 = (0 : Int32) then nm ((y2 - shows) &&& shows) fun x2 => (if x2 = (0 : Int32) then some (.inl (y1, x2, (0 : Int32), s3)) else some (.inl (y1, x2, (1 : Int32), s3))) else nm ((y2 - shows) &&& shows) fun x3 => (if x3 = (0 : Int32) then some (.inl (y2, x3, (0 : Int32), s3)) else some (.inl (y2, x3, (1 : Int32), s3))))) else (f_X9_ones y2).bind fun r2 => (f_X9_ones y1).bind fun r3 => (if r3 ≤ r2 then nm ((y2 - shows) &&& shows) fun x4 => (if x4 = (0 : Int32) then some (.inl (y1, x4, (0 : Int32), s1)) else some (.inl (y1, x4, (1 : Int32), s1))) else chk (inb program 4) (nm (stI s1 6 program.toNatClampNeg (x1 ||| y2)) fun s4 => (f_X9_runAll program program s4).bind fun s5 => (f_X9_noneBroken saying s5).bind fun r4 => (if r4 = (0 : Int32) then nm ((y2 - shows) &&& shows) fun x5 => (if x5 = (0 : Int32) then some (.inl (y1, x5, (0 : Int32), s5)) else some (.inl (y1, x5, (1 : Int32), s5))) else nm ((y2 - shows) &&& shows) fun x6 => (if x6 = (0 : Int32) then some (.inl (y2, x6, (0 : Int32), s5)) else some (.inl (y2, x6, (1 : Int32), s5))))))))
def f_X9_bestSilence (saying : Int32) (program : Int32) (shows : Int32) (σ : St) : Option (Int32 × St) := chk (inb program 4) (nm (σ.1 6 program.toNatClampNeg) fun x1 => (wh FU (b_X9_bestSilence_18 saying program shows x1) ((-6 : Int32), (0 : Int32), (1 : Int32), σ)).bind (un fun z1 s6 => chk (inb program 4) (nm (stI s6 6 program.toNatClampNeg x1) fun s7 => some (z1, s7))))
abbrev rm_X9_bestSilence : Room := { frames := 5, cells := 0, slots := 0, locals := 123 }
set_option maxHeartbeats 4000000 in
set_option maxRecDepth 20000 in
theorem m_X9_bestSilence (l : Launch) (D : va_G) (cy : Cy) (q : Nat → Nat) (σ : St) (saying : Int32) (program : Int32) (shows : Int32)  : ∀ res, f_X9_bestSilence saying program shows σ = some res → MetX (vM D cy q) l yX9_bestSilence cX9_bestSilence 8 (some .int) rm_X9_bestSilence [.ref (q 0), .int saying, .int program, .int shows] σ (some (.int res.1), res.2) := by
  let fin_ : (Int32 × St) → Option Value × St := fun r => (some (.int r.1), r.2)
  have hro : ∀ (z : Int32 × St) (res : Int32 × St), some z = some res → fin_ res = fin_ z := fun z res h => by cases h; rfl
  refine MetX.of1 (fin := fin_) (lv := [(0, .ref (q 0)), (1, .int saying), (2, .int program), (3, .int shows)]) (by decide) (Nat.le_of_ble_eq_true rfl) rfl ?_
  unfold f_X9_bestSilence
  refine g_aload_n (pc := 0) 0 dX9_bestSilence_0 rfl rfl ?_
  refine gf_9_silence (pc := 1) kf_X9_25 dX9_bestSilence_1 ?_
  refine g_iload_n (pc := 4) 2 dX9_bestSilence_4 rfl rfl ?_
  refine a_ild (pc := 5) aM_silence dX9_bestSilence_5 ?_
  refine g_nmi (fun x1 => ?_)
  refine g_istore (pc := 6) (lv' := [(4, .int x1), (0, .ref (q 0)), (1, .int saying), (2, .int program), (3, .int shows)]) dX9_bestSilence_6 (Nat.le_of_ble_eq_true rfl) rfl ?_
  refine g_bipush (pc := 8) (-6) dX9_bestSilence_8 (by decide) ?_
  refine g_istore (pc := 10) (lv' := [(5, .int (-6 : Int32)), (4, .int x1), (0, .ref (q 0)), (1, .int saying), (2, .int program), (3, .int shows)]) dX9_bestSilence_10 (Nat.le_of_ble_eq_true rfl) rfl ?_
  refine g_iconst (pc := 12) (0) dX9_bestSilence_12 (by decide) ?_
  refine g_istore (pc := 13) (lv' := [(6, .int (0 : Int32)), (5, .int (-6 : Int32)), (4, .int x1), (0, .ref (q 0)), (1, .int saying), (2, .int program), (3, .int shows)]) dX9_bestSilence_13 (Nat.le_of_ble_eq_true rfl) rfl ?_
  refine g_iconst (pc := 15) (1) dX9_bestSilence_15 (by decide) ?_
  refine g_istore (pc := 16) (lv' := [(7, .int (1 : Int32)), (6, .int (0 : Int32)), (5, .int (-6 : Int32)), (4, .int x1), (0, .ref (q 0)), (1, .int saying), (2, .int program), (3, .int shows)]) dX9_bestSilence_16 (Nat.le_of_ble_eq_true rfl) rfl ?_
  refine g_sub [4, 5, 6, 7, 3, 2, 1, 0] rfl ?_
  refine g_wh2 (pc := 18) (s0 := ((-6 : Int32), (0 : Int32), (1 : Int32), σ)) (fun (w_ : Int32 × Int32 × Int32 × St) => w_.2.2.2) (fun (w_ : Int32 × Int32 × Int32 × St) => [(0, .ref (q 0)), (1, .int saying), (2, .int program), (3, .int shows), (4, .int x1), (5, .int w_.1), (6, .int w_.2.1), (7, .int w_.2.2.1)]) (fun (w_ : Int32 × St) => w_.2) (fun (w_ : Int32 × St) => [(0, .ref (q 0)), (2, .int program), (4, .int x1), (5, .int w_.1)]) 98 ?_ ?_
  · rintro ⟨z1, s6⟩
    try dsimp only [un, Sum.elim_inl]
    refine g_aload_n (pc := 98) 0 dX9_bestSilence_98 rfl rfl ?_
    refine gf_9_silence (pc := 99) kf_X9_25 dX9_bestSilence_99 ?_
    refine g_iload_n (pc := 102) 1 dX9_bestSilence_102 rfl rfl ?_
    refine g_iload (pc := 103) 2 dX9_bestSilence_103 rfl ?_
    refine a_ist (pc := 105) aM_silence dX9_bestSilence_105 (fun s7 => ?_)
    refine g_iload (pc := 106) 3 dX9_bestSilence_106 rfl ?_
    exact g_iret (pc := 108) (hro _) rfl dX9_bestSilence_108
  · intro K18 hx18 ih18
    rintro ⟨y1, y2, y3, s1⟩
    try dsimp only [b_X9_bestSilence_18, un]
    refine g_iload (pc := 18) 7 dX9_bestSilence_18 rfl ?_
    refine g_if_eq (pc := 20) 98 dX9_bestSilence_20 (by decide) ?_ ?_
    · exact g_sub [0, 2, 4, 5] rfl (hx18 (y1, s1))
    · refine g_iload (pc := 23) 5 dX9_bestSilence_23 rfl ?_
      refine g_if_lt (pc := 25) 41 dX9_bestSilence_25 (by decide) ?_ ?_
      · refine g_aload_n (pc := 41) 0 dX9_bestSilence_41 rfl rfl ?_
        refine gf_9_silence (pc := 42) kf_X9_25 dX9_bestSilence_42 ?_
        refine g_iload_n (pc := 45) 2 dX9_bestSilence_45 rfl rfl ?_
        refine g_iload (pc := 46) 4 dX9_bestSilence_46 rfl ?_
        refine g_iload (pc := 48) 6 dX9_bestSilence_48 rfl ?_
        refine g_ior (pc := 50) dX9_bestSilence_50 ?_
        refine a_ist (pc := 51) aM_silence dX9_bestSilence_51 (fun s2 => ?_)
        refine g_aload_n (pc := 52) 0 dX9_bestSilence_52 rfl rfl ?_
        refine g_iload_n (pc := 53) 2 dX9_bestSilence_53 rfl rfl ?_
        refine g_iload_n (pc := 54) 2 dX9_bestSilence_54 rfl rfl ?_
        refine gV_v (pc := 55) [.int program, .int program] [] (m_X9_runAll l D cy q s2 program program) cw_X9_runAll km_X9_233 ⟨rfl, rfl, by decide, by decide⟩ (Nat.le_of_ble_eq_true rfl) (eM_9 (cy := cy) (s2.1 0) (s2.2 0)) rfl dX9_bestSilence_55 rfl rfl (Nat.le_of_ble_eq_true rfl) (fun s3 => ?_)
        refine g_aload_n (pc := 58) 0 dX9_bestSilence_58 rfl rfl ?_
        refine g_iload_n (pc := 59) 1 dX9_bestSilence_59 rfl rfl ?_
        refine gV_i (pc := 60) [.int saying] [] (m_X9_noneBroken l D cy q s3 saying) cw_X9_noneBroken km_X9_309 ⟨rfl, rfl, by decide, by decide⟩ (Nat.le_of_ble_eq_true rfl) (eM_9 (cy := cy) (s3.1 0) (s3.2 0)) rfl dX9_bestSilence_60 rfl rfl (Nat.le_of_ble_eq_true rfl) (fun r1 => ?_)
        refine g_if_eq (pc := 63) 71 dX9_bestSilence_63 (by decide) ?_ ?_
        · refine g_iload (pc := 71) 5 dX9_bestSilence_71 rfl ?_
          refine g_istore (pc := 73) (lv' := [(5, .int y1), (0, .ref (q 0)), (1, .int saying), (2, .int program), (3, .int shows), (4, .int x1), (6, .int y2), (7, .int y3)]) dX9_bestSilence_73 (Nat.le_of_ble_eq_true rfl) rfl ?_
          refine g_iload (pc := 75) 6 dX9_bestSilence_75 rfl ?_
          refine g_iload_n (pc := 77) 4 dX9_bestSilence_77 rfl rfl ?_
          refine g_isub (pc := 78) dX9_bestSilence_78 ?_
          refine g_iload_n (pc := 79) 4 dX9_bestSilence_79 rfl rfl ?_
          refine g_iand (pc := 80) dX9_bestSilence_80 ?_
          refine g_nmi (fun x2 => ?_)
          refine g_istore (pc := 81) (lv' := [(6, .int x2), (5, .int y1), (0, .ref (q 0)), (1, .int saying), (2, .int program), (3, .int shows), (4, .int x1), (7, .int y3)]) dX9_bestSilence_81 (Nat.le_of_ble_eq_true rfl) rfl ?_
          refine g_iload (pc := 83) 0 dX9_bestSilence_83 rfl ?_
          refine g_if_eq (pc := 85) 92 dX9_bestSilence_85 (by decide) ?_ ?_
          · refine g_iconst (pc := 92) (0) dX9_bestSilence_92 (by decide) ?_
            refine g_istore (pc := 93) (lv' := [(7, .int (0 : Int32)), (6, .int x2), (5, .int y1), (0, .ref (q 0)), (1, .int saying), (2, .int program), (3, .int shows), (4, .int x1)]) dX9_bestSilence_93 (Nat.le_of_ble_eq_true rfl) rfl ?_
            refine g_goto (pc := 95) 18 dX9_bestSilence_95 (by decide) ?_
            exact g_sub [3, 4, 5, 6, 7, 2, 1, 0] rfl (ih18 (y1, x2, (0 : Int32), s3))
          · refine g_iconst (pc := 88) (1) dX9_bestSilence_88 (by decide) ?_
            refine g_goto (pc := 89) 93 dX9_bestSilence_89 (by decide) ?_
            refine g_istore (pc := 93) (lv' := [(7, .int (1 : Int32)), (6, .int x2), (5, .int y1), (0, .ref (q 0)), (1, .int saying), (2, .int program), (3, .int shows), (4, .int x1)]) dX9_bestSilence_93 (Nat.le_of_ble_eq_true rfl) rfl ?_
            refine g_goto (pc := 95) 18 dX9_bestSilence_95 (by decide) ?_
            exact g_sub [3, 4, 5, 6, 7, 2, 1, 0] rfl (ih18 (y1, x2, (1 : Int32), s3))
        · refine g_iload (pc := 66) 6 dX9_bestSilence_66 rfl ?_
          refine g_goto (pc := 68) 73 dX9_bestSilence_68 (by decide) ?_
          refine g_istore (pc := 73) (lv' := [(5, .int y2), (0, .ref (q 0)), (1, .int saying), (2, .int program), (3, .int shows), (4, .int x1), (6, .int y2), (7, .int y3)]) dX9_bestSilence_73 (Nat.le_of_ble_eq_true rfl) rfl ?_
          refine g_iload (pc := 75) 6 dX9_bestSilence_75 rfl ?_
          refine g_iload_n (pc := 77) 4 dX9_bestSilence_77 rfl rfl ?_
          refine g_isub (pc := 78) dX9_bestSilence_78 ?_
          refine g_iload_n (pc := 79) 4 dX9_bestSilence_79 rfl rfl ?_
          refine g_iand (pc := 80) dX9_bestSilence_80 ?_
          refine g_nmi (fun x3 => ?_)
          refine g_istore (pc := 81) (lv' := [(6, .int x3), (5, .int y2), (0, .ref (q 0)), (1, .int saying), (2, .int program), (3, .int shows), (4, .int x1), (7, .int y3)]) dX9_bestSilence_81 (Nat.le_of_ble_eq_true rfl) rfl ?_
          refine g_iload (pc := 83) 0 dX9_bestSilence_83 rfl ?_
          refine g_if_eq (pc := 85) 92 dX9_bestSilence_85 (by decide) ?_ ?_
          · refine g_iconst (pc := 92) (0) dX9_bestSilence_92 (by decide) ?_
            refine g_istore (pc := 93) (lv' := [(7, .int (0 : Int32)), (6, .int x3), (5, .int y2), (0, .ref (q 0)), (1, .int saying), (2, .int program), (3, .int shows), (4, .int x1)]) dX9_bestSilence_93 (Nat.le_of_ble_eq_true rfl) rfl ?_
            refine g_goto (pc := 95) 18 dX9_bestSilence_95 (by decide) ?_
            exact g_sub [3, 4, 5, 6, 7, 2, 1, 0] rfl (ih18 (y2, x3, (0 : Int32), s3))
          · refine g_iconst (pc := 88) (1) dX9_bestSilence_88 (by decide) ?_
            refine g_goto (pc := 89) 93 dX9_bestSilence_89 (by decide) ?_
            refine g_istore (pc := 93) (lv' := [(7, .int (1 : Int32)), (6, .int x3), (5, .int y2), (0, .ref (q 0)), (1, .int saying), (2, .int program), (3, .int shows), (4, .int x1)]) dX9_bestSilence_93 (Nat.le_of_ble_eq_true rfl) rfl ?_
            refine g_goto (pc := 95) 18 dX9_bestSilence_95 (by decide) ?_
            exact g_sub [3, 4, 5, 6, 7, 2, 1, 0] rfl (ih18 (y2, x3, (1 : Int32), s3))
      · refine g_iload (pc := 28) 6 dX9_bestSilence_28 rfl ?_
        refine gS_i (pc := 30) [.int y2] [] (m_X9_ones l D cy q s1 y2) cw_X9_ones km_X9_297 ⟨rfl, rfl, by decide, by decide⟩ dX9_bestSilence_30 rfl rfl (Nat.le_of_ble_eq_true rfl) (fun r2 => ?_)
        refine g_iload (pc := 33) 5 dX9_bestSilence_33 rfl ?_
        refine gS_i (pc := 35) [.int y1] [.int r2] (m_X9_ones l D cy q s1 y1) cw_X9_ones km_X9_297 ⟨rfl, rfl, by decide, by decide⟩ dX9_bestSilence_35 rfl rfl (Nat.le_of_ble_eq_true rfl) (fun r3 => ?_)
        refine g_icmp_ge (pc := 38) 75 dX9_bestSilence_38 (by decide) ?_ ?_
        · refine g_iload (pc := 75) 6 dX9_bestSilence_75 rfl ?_
          refine g_iload_n (pc := 77) 3 dX9_bestSilence_77 rfl rfl ?_
          refine g_isub (pc := 78) dX9_bestSilence_78 ?_
          refine g_iload_n (pc := 79) 3 dX9_bestSilence_79 rfl rfl ?_
          refine g_iand (pc := 80) dX9_bestSilence_80 ?_
          refine g_nmi (fun x4 => ?_)
          refine g_istore (pc := 81) (lv' := [(6, .int x4), (0, .ref (q 0)), (1, .int saying), (2, .int program), (3, .int shows), (4, .int x1), (5, .int y1), (7, .int y3)]) dX9_bestSilence_81 (Nat.le_of_ble_eq_true rfl) rfl ?_
          refine g_iload (pc := 83) 0 dX9_bestSilence_83 rfl ?_
          refine g_if_eq (pc := 85) 92 dX9_bestSilence_85 (by decide) ?_ ?_
          · refine g_iconst (pc := 92) (0) dX9_bestSilence_92 (by decide) ?_
            refine g_istore (pc := 93) (lv' := [(7, .int (0 : Int32)), (6, .int x4), (0, .ref (q 0)), (1, .int saying), (2, .int program), (3, .int shows), (4, .int x1), (5, .int y1)]) dX9_bestSilence_93 (Nat.le_of_ble_eq_true rfl) rfl ?_
            refine g_goto (pc := 95) 18 dX9_bestSilence_95 (by decide) ?_
            exact g_sub [2, 3, 4, 5, 6, 7, 1, 0] rfl (ih18 (y1, x4, (0 : Int32), s1))
          · refine g_iconst (pc := 88) (1) dX9_bestSilence_88 (by decide) ?_
            refine g_goto (pc := 89) 93 dX9_bestSilence_89 (by decide) ?_
            refine g_istore (pc := 93) (lv' := [(7, .int (1 : Int32)), (6, .int x4), (0, .ref (q 0)), (1, .int saying), (2, .int program), (3, .int shows), (4, .int x1), (5, .int y1)]) dX9_bestSilence_93 (Nat.le_of_ble_eq_true rfl) rfl ?_
            refine g_goto (pc := 95) 18 dX9_bestSilence_95 (by decide) ?_
            exact g_sub [2, 3, 4, 5, 6, 7, 1, 0] rfl (ih18 (y1, x4, (1 : Int32), s1))
        · refine g_aload_n (pc := 41) 0 dX9_bestSilence_41 rfl rfl ?_
          refine gf_9_silence (pc := 42) kf_X9_25 dX9_bestSilence_42 ?_
          refine g_iload_n (pc := 45) 2 dX9_bestSilence_45 rfl rfl ?_
          refine g_iload (pc := 46) 4 dX9_bestSilence_46 rfl ?_
          refine g_iload (pc := 48) 6 dX9_bestSilence_48 rfl ?_
          refine g_ior (pc := 50) dX9_bestSilence_50 ?_
          refine a_ist (pc := 51) aM_silence dX9_bestSilence_51 (fun s4 => ?_)
          refine g_aload_n (pc := 52) 0 dX9_bestSilence_52 rfl rfl ?_
          refine g_iload_n (pc := 53) 2 dX9_bestSilence_53 rfl rfl ?_
          refine g_iload_n (pc := 54) 2 dX9_bestSilence_54 rfl rfl ?_
          refine gV_v (pc := 55) [.int program, .int program] [] (m_X9_runAll l D cy q s4 program program) cw_X9_runAll km_X9_233 ⟨rfl, rfl, by decide, by decide⟩ (Nat.le_of_ble_eq_true rfl) (eM_9 (cy := cy) (s4.1 0) (s4.2 0)) rfl dX9_bestSilence_55 rfl rfl (Nat.le_of_ble_eq_true rfl) (fun s5 => ?_)
          refine g_aload_n (pc := 58) 0 dX9_bestSilence_58 rfl rfl ?_
          refine g_iload_n (pc := 59) 1 dX9_bestSilence_59 rfl rfl ?_
          refine gV_i (pc := 60) [.int saying] [] (m_X9_noneBroken l D cy q s5 saying) cw_X9_noneBroken km_X9_309 ⟨rfl, rfl, by decide, by decide⟩ (Nat.le_of_ble_eq_true rfl) (eM_9 (cy := cy) (s5.1 0) (s5.2 0)) rfl dX9_bestSilence_60 rfl rfl (Nat.le_of_ble_eq_true rfl) (fun r4 => ?_)
          refine g_if_eq (pc := 63) 71 dX9_bestSilence_63 (by decide) ?_ ?_
          · refine g_iload (pc := 71) 5 dX9_bestSilence_71 rfl ?_
            refine g_istore (pc := 73) (lv' := [(5, .int y1), (0, .ref (q 0)), (1, .int saying), (2, .int program), (3, .int shows), (4, .int x1), (6, .int y2), (7, .int y3)]) dX9_bestSilence_73 (Nat.le_of_ble_eq_true rfl) rfl ?_
            refine g_iload (pc := 75) 6 dX9_bestSilence_75 rfl ?_
            refine g_iload_n (pc := 77) 4 dX9_bestSilence_77 rfl rfl ?_
            refine g_isub (pc := 78) dX9_bestSilence_78 ?_
            refine g_iload_n (pc := 79) 4 dX9_bestSilence_79 rfl rfl ?_
            refine g_iand (pc := 80) dX9_bestSilence_80 ?_
            refine g_nmi (fun x5 => ?_)
            refine g_istore (pc := 81) (lv' := [(6, .int x5), (5, .int y1), (0, .ref (q 0)), (1, .int saying), (2, .int program), (3, .int shows), (4, .int x1), (7, .int y3)]) dX9_bestSilence_81 (Nat.le_of_ble_eq_true rfl) rfl ?_
            refine g_iload (pc := 83) 0 dX9_bestSilence_83 rfl ?_
            refine g_if_eq (pc := 85) 92 dX9_bestSilence_85 (by decide) ?_ ?_
            · refine g_iconst (pc := 92) (0) dX9_bestSilence_92 (by decide) ?_
              refine g_istore (pc := 93) (lv' := [(7, .int (0 : Int32)), (6, .int x5), (5, .int y1), (0, .ref (q 0)), (1, .int saying), (2, .int program), (3, .int shows), (4, .int x1)]) dX9_bestSilence_93 (Nat.le_of_ble_eq_true rfl) rfl ?_
              refine g_goto (pc := 95) 18 dX9_bestSilence_95 (by decide) ?_
              exact g_sub [3, 4, 5, 6, 7, 2, 1, 0] rfl (ih18 (y1, x5, (0 : Int32), s5))
            · refine g_iconst (pc := 88) (1) dX9_bestSilence_88 (by decide) ?_
              refine g_goto (pc := 89) 93 dX9_bestSilence_89 (by decide) ?_
              refine g_istore (pc := 93) (lv' := [(7, .int (1 : Int32)), (6, .int x5), (5, .int y1), (0, .ref (q 0)), (1, .int saying), (2, .int program), (3, .int shows), (4, .int x1)]) dX9_bestSilence_93 (Nat.le_of_ble_eq_true rfl) rfl ?_
              refine g_goto (pc := 95) 18 dX9_bestSilence_95 (by decide) ?_
              exact g_sub [3, 4, 5, 6, 7, 2, 1, 0] rfl (ih18 (y1, x5, (1 : Int32), s5))
          · refine g_iload (pc := 66) 6 dX9_bestSilence_66 rfl ?_
            refine g_goto (pc := 68) 73 dX9_bestSilence_68 (by decide) ?_
            refine g_istore (pc := 73) (lv' := [(5, .int y2), (0, .ref (q 0)), (1, .int saying), (2, .int program), (3, .int shows), (4, .int x1), (6, .int y2), (7, .int y3)]) dX9_bestSilence_73 (Nat.le_of_ble_eq_true rfl) rfl ?_
            refine g_iload (pc := 75) 6 dX9_bestSilence_75 rfl ?_
            refine g_iload_n (pc := 77) 4 dX9_bestSilence_77 rfl rfl ?_
            refine g_isub (pc := 78) dX9_bestSilence_78 ?_
            refine g_iload_n (pc := 79) 4 dX9_bestSilence_79 rfl rfl ?_
            refine g_iand (pc := 80) dX9_bestSilence_80 ?_
            refine g_nmi (fun x6 => ?_)
            refine g_istore (pc := 81) (lv' := [(6, .int x6), (5, .int y2), (0, .ref (q 0)), (1, .int saying), (2, .int program), (3, .int shows), (4, .int x1), (7, .int y3)]) dX9_bestSilence_81 (Nat.le_of_ble_eq_true rfl) rfl ?_
            refine g_iload (pc := 83) 0 dX9_bestSilence_83 rfl ?_
            refine g_if_eq (pc := 85) 92 dX9_bestSilence_85 (by decide) ?_ ?_
            · refine g_iconst (pc := 92) (0) dX9_bestSilence_92 (by decide) ?_
              refine g_istore (pc := 93) (lv' := [(7, .int (0 : Int32)), (6, .int x6), (5, .int y2), (0, .ref (q 0)), (1, .int saying), (2, .int program), (3, .int shows), (4, .int x1)]) dX9_bestSilence_93 (Nat.le_of_ble_eq_true rfl) rfl ?_
              refine g_goto (pc := 95) 18 dX9_bestSilence_95 (by decide) ?_
              exact g_sub [3, 4, 5, 6, 7, 2, 1, 0] rfl (ih18 (y2, x6, (0 : Int32), s5))
            · refine g_iconst (pc := 88) (1) dX9_bestSilence_88 (by decide) ?_
              refine g_goto (pc := 89) 93 dX9_bestSilence_89 (by decide) ?_
              refine g_istore (pc := 93) (lv' := [(7, .int (1 : Int32)), (6, .int x6), (5, .int y2), (0, .ref (q 0)), (1, .int saying), (2, .int program), (3, .int shows), (4, .int x1)]) dX9_bestSilence_93 (Nat.le_of_ble_eq_true rfl) rfl ?_
              refine g_goto (pc := 95) 18 dX9_bestSilence_95 (by decide) ?_
              exact g_sub [3, 4, 5, 6, 7, 2, 1, 0] rfl (ih18 (y2, x6, (1 : Int32), s5))
def b_X9_so_36 (program : Int32) (σ : St) : (Int32 × Int32) → Option ((Int32 × Int32) ⊕ (Int32)) := un fun y1 y2 => chk (inb program 4) ((if (σ.1 5 program.toNatClampNeg) ≤ y2 then some (.inr y1) else chk (inb (((12 : Int32) * program) + y2) 48) ((if (σ.1 1 (((12 : Int32) * program) + y2).toNatClampNeg) = (6 : Int32) then chk (inb program 4) ((if (((σ.1 6 program.toNatClampNeg) >>> (y2 &&& 31)) &&& (1 : Int32)) = (0 : Int32) then nm (y1 ||| ((1 : Int32) <<< (y2 &&& 31))) fun x5 => nm (y2 + (1 : Int32)) fun x6 => some (.inl (x5, x6)) else nm (y1 ||| (0 : Int32)) fun x3 => nm (y2 + (1 : Int32)) fun x4 => some (.inl (x3, x4)))) else nm (y1 ||| (0 : Int32)) fun x1 => nm (y2 + (1 : Int32)) fun x2 => some (.inl (x1, x2))))))
def f_X9_so (saying : Int32) (program : Int32) (what : Int32) (σ : St) : Option (Int32 × St) := (f_X9_isSaying saying σ).bind fun r1 => (if r1 = (0 : Int32) then some ((-1 : Int32), σ) else (f_X9_isProgram program).bind fun r2 => (if r2 = (0 : Int32) then some ((-1 : Int32), σ) else (f_X9_in what.toInt64 (0 : Int64) (1 : Int64)).bind fun r3 => (if r3 = (0 : Int32) then some ((-2 : Int32), σ) else (wh FU (b_X9_so_36 program σ) ((0 : Int32), (0 : Int32))).bind (fun z1 => (f_X9_ones z1).bind fun r4 => (if r4 ≤ (6 : Int32) then nm (((4 : Int32) * saying) + program) fun x7 => (if (σ.1 0 41) = x7 then (if (σ.1 0 42) = (σ.1 0 7) then (if (0 : Int32) ≤ (σ.1 0 43) then (if what = (0 : Int32) then some ((σ.1 0 43), σ) else (f_X9_ones (σ.1 0 43)).bind fun r7 => some (r7, σ)) else some ((-5 : Int32), σ)) else (f_X9_bestSilence saying program z1 σ).bind (un fun r8 s6 => nm (stI s6 0 43 r8) fun s7 => nm (stI s7 0 41 x7) fun s8 => nm (stI s8 0 42 (s8.1 0 7)) fun s9 => nm (stI s9 0 22 (-6 : Int32)) fun s10 => (if (0 : Int32) ≤ (s10.1 0 43) then (if what = (0 : Int32) then some ((s10.1 0 43), s10) else (f_X9_ones (s10.1 0 43)).bind fun r9 => some (r9, s10)) else some ((-5 : Int32), s10)))) else (f_X9_bestSilence saying program z1 σ).bind (un fun r5 s1 => nm (stI s1 0 43 r5) fun s2 => nm (stI s2 0 41 x7) fun s3 => nm (stI s3 0 42 (s3.1 0 7)) fun s4 => nm (stI s4 0 22 (-6 : Int32)) fun s5 => (if (0 : Int32) ≤ (s5.1 0 43) then (if what = (0 : Int32) then some ((s5.1 0 43), s5) else (f_X9_ones (s5.1 0 43)).bind fun r6 => some (r6, s5)) else some ((-5 : Int32), s5)))) else some ((-3 : Int32), σ))))))
abbrev rm_X9_so : Room := { frames := 6, cells := 0, slots := 0, locals := 150 }
set_option maxHeartbeats 4000000 in
set_option maxRecDepth 20000 in
theorem m_X9_so (l : Launch) (D : va_G) (cy : Cy) (q : Nat → Nat) (σ : St) (saying : Int32) (program : Int32) (what : Int32)  : ∀ res, f_X9_so saying program what σ = some res → MetX (vM D cy q) l yX9_so cX9_so 7 (some .int) rm_X9_so [.ref (q 0), .int saying, .int program, .int what] σ (some (.int res.1), res.2) := by
  let fin_ : (Int32 × St) → Option Value × St := fun r => (some (.int r.1), r.2)
  have hro : ∀ (z : Int32 × St) (res : Int32 × St), some z = some res → fin_ res = fin_ z := fun z res h => by cases h; rfl
  refine MetX.of1 (fin := fin_) (lv := [(0, .ref (q 0)), (1, .int saying), (2, .int program), (3, .int what)]) (by decide) (Nat.le_of_ble_eq_true rfl) rfl ?_
  unfold f_X9_so
  refine g_aload_n (pc := 0) 0 dX9_so_0 rfl rfl ?_
  refine g_iload_n (pc := 1) 1 dX9_so_1 rfl rfl ?_
  refine gV_i (pc := 2) [.int saying] [] (m_X9_isSaying l D cy q σ saying) cw_X9_isSaying km_X9_209 ⟨rfl, rfl, by decide, by decide⟩ (Nat.le_of_ble_eq_true rfl) (eM_9 (cy := cy) (σ.1 0) (σ.2 0)) rfl dX9_so_2 rfl rfl (Nat.le_of_ble_eq_true rfl) (fun r1 => ?_)
  refine g_if_eq (pc := 5) 15 dX9_so_5 (by decide) ?_ ?_
  · refine g_iconst (pc := 15) (-1) dX9_so_15 (by decide) ?_
    exact g_iret (pc := 16) (hro _) rfl dX9_so_16
  · refine g_iload_n (pc := 8) 2 dX9_so_8 rfl rfl ?_
    refine gS_i (pc := 9) [.int program] [] (m_X9_isProgram l D cy q σ program) cw_X9_isProgram km_X9_111 ⟨rfl, rfl, by decide, by decide⟩ dX9_so_9 rfl rfl (Nat.le_of_ble_eq_true rfl) (fun r2 => ?_)
    refine g_if_ne (pc := 12) 17 dX9_so_12 (by decide) ?_ ?_
    · refine g_iload_n (pc := 17) 3 dX9_so_17 rfl rfl ?_
      refine g_i2l (pc := 18) dX9_so_18 ?_
      refine g_lconst (pc := 19) (0) dX9_so_19 (by decide) ?_
      refine g_lconst (pc := 20) (1) dX9_so_20 (by decide) ?_
      refine gS_i (pc := 21) [.long what.toInt64, .long (0 : Int64), .long (1 : Int64)] [] (m_X9_in l D cy q σ what.toInt64 (0 : Int64) (1 : Int64)) cw_X9_in km_X9_101 ⟨rfl, rfl, by decide, by decide⟩ dX9_so_21 rfl rfl (Nat.le_of_ble_eq_true rfl) (fun r3 => ?_)
      refine g_if_ne (pc := 24) 30 dX9_so_24 (by decide) ?_ ?_
      · refine g_iconst (pc := 30) (0) dX9_so_30 (by decide) ?_
        refine g_istore (pc := 31) (lv' := [(4, .int (0 : Int32)), (0, .ref (q 0)), (1, .int saying), (2, .int program), (3, .int what)]) dX9_so_31 (Nat.le_of_ble_eq_true rfl) rfl ?_
        refine g_iconst (pc := 33) (0) dX9_so_33 (by decide) ?_
        refine g_istore (pc := 34) (lv' := [(5, .int (0 : Int32)), (4, .int (0 : Int32)), (0, .ref (q 0)), (1, .int saying), (2, .int program), (3, .int what)]) dX9_so_34 (Nat.le_of_ble_eq_true rfl) rfl ?_
        refine g_sub [2, 3, 4, 5, 1, 0] rfl ?_
        refine g_wh2 (pc := 36) (s0 := ((0 : Int32), (0 : Int32))) (fun (w_ : Int32 × Int32) => σ) (fun (w_ : Int32 × Int32) => [(0, .ref (q 0)), (1, .int saying), (2, .int program), (3, .int what), (4, .int w_.1), (5, .int w_.2)]) (fun (w_ : Int32) => σ) (fun (w_ : Int32) => [(0, .ref (q 0)), (1, .int saying), (2, .int program), (3, .int what), (4, .int w_)]) 109 ?_ ?_
        · rintro z1
          try dsimp only [un, Sum.elim_inl]
          refine g_iload (pc := 109) 4 dX9_so_109 rfl ?_
          refine gS_i (pc := 111) [.int z1] [] (m_X9_ones l D cy q σ z1) cw_X9_ones km_X9_297 ⟨rfl, rfl, by decide, by decide⟩ dX9_so_111 rfl rfl (Nat.le_of_ble_eq_true rfl) (fun r4 => ?_)
          refine g_bipush (pc := 114) (6) dX9_so_114 (by decide) ?_
          refine g_icmp_le (pc := 116) 122 dX9_so_116 (by decide) ?_ ?_
          · refine g_iconst (pc := 122) (4) dX9_so_122 (by decide) ?_
            refine g_iload_n (pc := 123) 1 dX9_so_123 rfl rfl ?_
            refine g_imul (pc := 124) dX9_so_124 ?_
            refine g_iload_n (pc := 125) 2 dX9_so_125 rfl rfl ?_
            refine g_iadd (pc := 126) dX9_so_126 ?_
            refine g_nmi (fun x7 => ?_)
            refine g_istore (pc := 127) (lv' := [(5, .int x7), (0, .ref (q 0)), (1, .int saying), (2, .int program), (3, .int what), (4, .int z1)]) dX9_so_127 (Nat.le_of_ble_eq_true rfl) rfl ?_
            refine g_aload_n (pc := 129) 1 dX9_so_129 rfl rfl ?_
            refine gf_9_soOf (pc := 130) kf_X9_300 dX9_so_130 ?_
            refine g_iload (pc := 133) 0 dX9_so_133 rfl ?_
            refine g_icmp_ne (pc := 135) 149 dX9_so_135 (by decide) ?_ ?_
            · refine g_aload_n (pc := 149) 1 dX9_so_149 rfl rfl ?_
              refine g_aload_n (pc := 150) 1 dX9_so_150 rfl rfl ?_
              refine g_iload_n (pc := 151) 2 dX9_so_151 rfl rfl ?_
              refine g_iload_n (pc := 152) 3 dX9_so_152 rfl rfl ?_
              refine g_iload (pc := 153) 5 dX9_so_153 rfl ?_
              refine gV_e (pc := 155) [.int saying, .int program, .int z1] [.ref (q 0)] (m_X9_bestSilence l D cy q σ saying program z1) cw_X9_bestSilence km_X9_303 ⟨rfl, rfl, by decide, by decide⟩ (Nat.le_of_ble_eq_true rfl) (eM_9 (cy := cy) (σ.1 0) (σ.2 0)) rfl dX9_so_155 rfl rfl (Nat.le_of_ble_eq_true rfl) (fun r5 s1 => ?_)
              refine gp_9_soIs (pc := 158) kf_X9_306 dX9_so_158 (fun s2 => ?_)
              refine g_aload_n (pc := 161) 1 dX9_so_161 rfl rfl ?_
              refine g_iload (pc := 162) 0 dX9_so_162 rfl ?_
              refine gp_9_soOf (pc := 164) kf_X9_300 dX9_so_164 (fun s3 => ?_)
              refine g_aload_n (pc := 167) 1 dX9_so_167 rfl rfl ?_
              refine g_aload_n (pc := 168) 1 dX9_so_168 rfl rfl ?_
              refine gf_9_version (pc := 169) kf_X9_93 dX9_so_169 ?_
              refine gp_9_soVersion (pc := 172) kf_X9_79 dX9_so_172 (fun s4 => ?_)
              refine g_aload_n (pc := 175) 1 dX9_so_175 rfl rfl ?_
              refine g_bipush (pc := 176) (-6) dX9_so_176 (by decide) ?_
              refine gp_9_pairsVersion (pc := 178) kf_X9_56 dX9_so_178 (fun s5 => ?_)
              refine g_aload_n (pc := 181) 1 dX9_so_181 rfl rfl ?_
              refine gf_9_soIs (pc := 182) kf_X9_306 dX9_so_182 ?_
              refine g_if_ge (pc := 185) 193 dX9_so_185 (by decide) ?_ ?_
              · refine g_iload_n (pc := 193) 4 dX9_so_193 rfl rfl ?_
                refine g_if_ne (pc := 194) 204 dX9_so_194 (by decide) ?_ ?_
                · refine g_aload_n (pc := 204) 1 dX9_so_204 rfl rfl ?_
                  refine gf_9_soIs (pc := 205) kf_X9_306 dX9_so_205 ?_
                  refine gS_i (pc := 208) [.int (s5.1 0 43)] [] (m_X9_ones l D cy q s5 (s5.1 0 43)) cw_X9_ones km_X9_297 ⟨rfl, rfl, by decide, by decide⟩ dX9_so_208 rfl rfl (Nat.le_of_ble_eq_true rfl) (fun r6 => ?_)
                  exact g_iret (pc := 211) (hro _) rfl dX9_so_211
                · refine g_aload_n (pc := 197) 1 dX9_so_197 rfl rfl ?_
                  refine gf_9_soIs (pc := 198) kf_X9_306 dX9_so_198 ?_
                  refine g_goto (pc := 201) 211 dX9_so_201 (by decide) ?_
                  exact g_iret (pc := 211) (hro _) rfl dX9_so_211
              · refine g_bipush (pc := 188) (-5) dX9_so_188 (by decide) ?_
                refine g_goto (pc := 190) 211 dX9_so_190 (by decide) ?_
                exact g_iret (pc := 211) (hro _) rfl dX9_so_211
            · refine g_aload_n (pc := 138) 1 dX9_so_138 rfl rfl ?_
              refine gf_9_soVersion (pc := 139) kf_X9_79 dX9_so_139 ?_
              refine g_aload_n (pc := 142) 1 dX9_so_142 rfl rfl ?_
              refine gf_9_version (pc := 143) kf_X9_93 dX9_so_143 ?_
              refine g_icmp_eq (pc := 146) 181 dX9_so_146 (by decide) ?_ ?_
              · refine g_aload_n (pc := 181) 1 dX9_so_181 rfl rfl ?_
                refine gf_9_soIs (pc := 182) kf_X9_306 dX9_so_182 ?_
                refine g_if_ge (pc := 185) 193 dX9_so_185 (by decide) ?_ ?_
                · refine g_iload_n (pc := 193) 4 dX9_so_193 rfl rfl ?_
                  refine g_if_ne (pc := 194) 204 dX9_so_194 (by decide) ?_ ?_
                  · refine g_aload_n (pc := 204) 1 dX9_so_204 rfl rfl ?_
                    refine gf_9_soIs (pc := 205) kf_X9_306 dX9_so_205 ?_
                    refine gS_i (pc := 208) [.int (σ.1 0 43)] [] (m_X9_ones l D cy q σ (σ.1 0 43)) cw_X9_ones km_X9_297 ⟨rfl, rfl, by decide, by decide⟩ dX9_so_208 rfl rfl (Nat.le_of_ble_eq_true rfl) (fun r7 => ?_)
                    exact g_iret (pc := 211) (hro _) rfl dX9_so_211
                  · refine g_aload_n (pc := 197) 1 dX9_so_197 rfl rfl ?_
                    refine gf_9_soIs (pc := 198) kf_X9_306 dX9_so_198 ?_
                    refine g_goto (pc := 201) 211 dX9_so_201 (by decide) ?_
                    exact g_iret (pc := 211) (hro _) rfl dX9_so_211
                · refine g_bipush (pc := 188) (-5) dX9_so_188 (by decide) ?_
                  refine g_goto (pc := 190) 211 dX9_so_190 (by decide) ?_
                  exact g_iret (pc := 211) (hro _) rfl dX9_so_211
              · refine g_aload_n (pc := 149) 1 dX9_so_149 rfl rfl ?_
                refine g_aload_n (pc := 150) 1 dX9_so_150 rfl rfl ?_
                refine g_iload_n (pc := 151) 2 dX9_so_151 rfl rfl ?_
                refine g_iload_n (pc := 152) 3 dX9_so_152 rfl rfl ?_
                refine g_iload (pc := 153) 5 dX9_so_153 rfl ?_
                refine gV_e (pc := 155) [.int saying, .int program, .int z1] [.ref (q 0)] (m_X9_bestSilence l D cy q σ saying program z1) cw_X9_bestSilence km_X9_303 ⟨rfl, rfl, by decide, by decide⟩ (Nat.le_of_ble_eq_true rfl) (eM_9 (cy := cy) (σ.1 0) (σ.2 0)) rfl dX9_so_155 rfl rfl (Nat.le_of_ble_eq_true rfl) (fun r8 s6 => ?_)
                refine gp_9_soIs (pc := 158) kf_X9_306 dX9_so_158 (fun s7 => ?_)
                refine g_aload_n (pc := 161) 1 dX9_so_161 rfl rfl ?_
                refine g_iload (pc := 162) 0 dX9_so_162 rfl ?_
                refine gp_9_soOf (pc := 164) kf_X9_300 dX9_so_164 (fun s8 => ?_)
                refine g_aload_n (pc := 167) 1 dX9_so_167 rfl rfl ?_
                refine g_aload_n (pc := 168) 1 dX9_so_168 rfl rfl ?_
                refine gf_9_version (pc := 169) kf_X9_93 dX9_so_169 ?_
                refine gp_9_soVersion (pc := 172) kf_X9_79 dX9_so_172 (fun s9 => ?_)
                refine g_aload_n (pc := 175) 1 dX9_so_175 rfl rfl ?_
                refine g_bipush (pc := 176) (-6) dX9_so_176 (by decide) ?_
                refine gp_9_pairsVersion (pc := 178) kf_X9_56 dX9_so_178 (fun s10 => ?_)
                refine g_aload_n (pc := 181) 1 dX9_so_181 rfl rfl ?_
                refine gf_9_soIs (pc := 182) kf_X9_306 dX9_so_182 ?_
                refine g_if_ge (pc := 185) 193 dX9_so_185 (by decide) ?_ ?_
                · refine g_iload_n (pc := 193) 4 dX9_so_193 rfl rfl ?_
                  refine g_if_ne (pc := 194) 204 dX9_so_194 (by decide) ?_ ?_
                  · refine g_aload_n (pc := 204) 1 dX9_so_204 rfl rfl ?_
                    refine gf_9_soIs (pc := 205) kf_X9_306 dX9_so_205 ?_
                    refine gS_i (pc := 208) [.int (s10.1 0 43)] [] (m_X9_ones l D cy q s10 (s10.1 0 43)) cw_X9_ones km_X9_297 ⟨rfl, rfl, by decide, by decide⟩ dX9_so_208 rfl rfl (Nat.le_of_ble_eq_true rfl) (fun r9 => ?_)
                    exact g_iret (pc := 211) (hro _) rfl dX9_so_211
                  · refine g_aload_n (pc := 197) 1 dX9_so_197 rfl rfl ?_
                    refine gf_9_soIs (pc := 198) kf_X9_306 dX9_so_198 ?_
                    refine g_goto (pc := 201) 211 dX9_so_201 (by decide) ?_
                    exact g_iret (pc := 211) (hro _) rfl dX9_so_211
                · refine g_bipush (pc := 188) (-5) dX9_so_188 (by decide) ?_
                  refine g_goto (pc := 190) 211 dX9_so_190 (by decide) ?_
                  exact g_iret (pc := 211) (hro _) rfl dX9_so_211
          · refine g_bipush (pc := 119) (-3) dX9_so_119 (by decide) ?_
            exact g_iret (pc := 121) (hro _) rfl dX9_so_121
        · intro K36 hx36 ih36
          rintro ⟨y1, y2⟩
          try dsimp only [b_X9_so_36, un]
          refine g_iload (pc := 36) 5 dX9_so_36 rfl ?_
          refine g_aload_n (pc := 38) 0 dX9_so_38 rfl rfl ?_
          refine gf_9_lineMany (pc := 39) kf_X9_22 dX9_so_39 ?_
          refine g_iload_n (pc := 42) 2 dX9_so_42 rfl rfl ?_
          refine a_ild (pc := 43) aM_lineMany dX9_so_43 ?_
          refine g_icmp_ge (pc := 44) 109 dX9_so_44 (by decide) ?_ ?_
          · exact g_sub [0, 1, 2, 3, 4] rfl (hx36 y1)
          · refine g_aload_n (pc := 47) 0 dX9_so_47 rfl rfl ?_
            refine gf_9_acts (pc := 48) kf_X9_7 dX9_so_48 ?_
            refine g_bipush (pc := 51) (12) dX9_so_51 (by decide) ?_
            refine g_iload_n (pc := 53) 2 dX9_so_53 rfl rfl ?_
            refine g_imul (pc := 54) dX9_so_54 ?_
            refine g_iload (pc := 55) 5 dX9_so_55 rfl ?_
            refine g_iadd (pc := 57) dX9_so_57 ?_
            refine a_ild (pc := 58) aM_acts dX9_so_58 ?_
            refine g_bipush (pc := 59) (6) dX9_so_59 (by decide) ?_
            refine g_icmp_ne (pc := 61) 82 dX9_so_61 (by decide) ?_ ?_
            · refine g_iconst (pc := 82) (0) dX9_so_82 (by decide) ?_
              refine g_istore (pc := 83) (lv' := [(6, .int (0 : Int32)), (0, .ref (q 0)), (1, .int saying), (2, .int program), (3, .int what), (4, .int y1), (5, .int y2)]) dX9_so_83 (Nat.le_of_ble_eq_true rfl) rfl ?_
              refine g_iload (pc := 85) 5 dX9_so_85 rfl ?_
              refine g_iload (pc := 87) 0 dX9_so_87 rfl ?_
              refine g_ifeq_y (pc := 89) 99 (by decide) dX9_so_89 (by decide) ?_
              refine g_iconst (pc := 99) (0) dX9_so_99 (by decide) ?_
              refine g_ior (pc := 100) dX9_so_100 ?_
              refine g_nmi (fun x1 => ?_)
              refine g_istore (pc := 101) (lv' := [(4, .int x1), (6, .int (0 : Int32)), (0, .ref (q 0)), (1, .int saying), (2, .int program), (3, .int what), (5, .int y2)]) dX9_so_101 (Nat.le_of_ble_eq_true rfl) rfl ?_
              refine g_iinc (pc := 103) (j := 6) (1) (lf := fun x2 => [(5, .int x2), (4, .int x1), (6, .int (0 : Int32)), (0, .ref (q 0)), (1, .int saying), (2, .int program), (3, .int what)]) dX9_so_103 rfl (by decide) (Nat.le_of_ble_eq_true rfl) (fun _ => rfl) (fun x2 => ?_)
              refine g_goto (pc := 106) 36 dX9_so_106 (by decide) ?_
              exact g_sub [3, 4, 5, 6, 1, 0] rfl (ih36 (x1, x2))
            · refine g_aload_n (pc := 64) 0 dX9_so_64 rfl rfl ?_
              refine gf_9_silence (pc := 65) kf_X9_25 dX9_so_65 ?_
              refine g_iload_n (pc := 68) 2 dX9_so_68 rfl rfl ?_
              refine a_ild (pc := 69) aM_silence dX9_so_69 ?_
              refine g_iload (pc := 70) 5 dX9_so_70 rfl ?_
              refine g_ishr (pc := 72) dX9_so_72 ?_
              refine g_iconst (pc := 73) (1) dX9_so_73 (by decide) ?_
              refine g_iand (pc := 74) dX9_so_74 ?_
              refine g_if_ne (pc := 75) 82 dX9_so_75 (by decide) ?_ ?_
              · refine g_iconst (pc := 82) (0) dX9_so_82 (by decide) ?_
                refine g_istore (pc := 83) (lv' := [(6, .int (0 : Int32)), (0, .ref (q 0)), (1, .int saying), (2, .int program), (3, .int what), (4, .int y1), (5, .int y2)]) dX9_so_83 (Nat.le_of_ble_eq_true rfl) rfl ?_
                refine g_iload (pc := 85) 5 dX9_so_85 rfl ?_
                refine g_iload (pc := 87) 0 dX9_so_87 rfl ?_
                refine g_ifeq_y (pc := 89) 99 (by decide) dX9_so_89 (by decide) ?_
                refine g_iconst (pc := 99) (0) dX9_so_99 (by decide) ?_
                refine g_ior (pc := 100) dX9_so_100 ?_
                refine g_nmi (fun x3 => ?_)
                refine g_istore (pc := 101) (lv' := [(4, .int x3), (6, .int (0 : Int32)), (0, .ref (q 0)), (1, .int saying), (2, .int program), (3, .int what), (5, .int y2)]) dX9_so_101 (Nat.le_of_ble_eq_true rfl) rfl ?_
                refine g_iinc (pc := 103) (j := 6) (1) (lf := fun x4 => [(5, .int x4), (4, .int x3), (6, .int (0 : Int32)), (0, .ref (q 0)), (1, .int saying), (2, .int program), (3, .int what)]) dX9_so_103 rfl (by decide) (Nat.le_of_ble_eq_true rfl) (fun _ => rfl) (fun x4 => ?_)
                refine g_goto (pc := 106) 36 dX9_so_106 (by decide) ?_
                exact g_sub [3, 4, 5, 6, 1, 0] rfl (ih36 (x3, x4))
              · refine g_iconst (pc := 78) (1) dX9_so_78 (by decide) ?_
                refine g_goto (pc := 79) 83 dX9_so_79 (by decide) ?_
                refine g_istore (pc := 83) (lv' := [(6, .int (1 : Int32)), (0, .ref (q 0)), (1, .int saying), (2, .int program), (3, .int what), (4, .int y1), (5, .int y2)]) dX9_so_83 (Nat.le_of_ble_eq_true rfl) rfl ?_
                refine g_iload (pc := 85) 5 dX9_so_85 rfl ?_
                refine g_iload (pc := 87) 0 dX9_so_87 rfl ?_
                refine g_ifeq_n (pc := 89) 99 (by decide) dX9_so_89 (by decide) ?_
                refine g_iconst (pc := 92) (1) dX9_so_92 (by decide) ?_
                refine g_iload (pc := 93) 6 dX9_so_93 rfl ?_
                refine g_ishl (pc := 95) dX9_so_95 ?_
                refine g_goto (pc := 96) 100 dX9_so_96 (by decide) ?_
                refine g_ior (pc := 100) dX9_so_100 ?_
                refine g_nmi (fun x5 => ?_)
                refine g_istore (pc := 101) (lv' := [(4, .int x5), (6, .int (1 : Int32)), (0, .ref (q 0)), (1, .int saying), (2, .int program), (3, .int what), (5, .int y2)]) dX9_so_101 (Nat.le_of_ble_eq_true rfl) rfl ?_
                refine g_iinc (pc := 103) (j := 6) (1) (lf := fun x6 => [(5, .int x6), (4, .int x5), (6, .int (1 : Int32)), (0, .ref (q 0)), (1, .int saying), (2, .int program), (3, .int what)]) dX9_so_103 rfl (by decide) (Nat.le_of_ble_eq_true rfl) (fun _ => rfl) (fun x6 => ?_)
                refine g_goto (pc := 106) 36 dX9_so_106 (by decide) ?_
                exact g_sub [3, 4, 5, 6, 1, 0] rfl (ih36 (x5, x6))
      · refine g_bipush (pc := 27) (-2) dX9_so_27 (by decide) ?_
        exact g_iret (pc := 29) (hro _) rfl dX9_so_29
    · refine g_iconst (pc := 15) (-1) dX9_so_15 (by decide) ?_
      exact g_iret (pc := 16) (hro _) rfl dX9_so_16
def b_X9_areAlikeIn_5 (one : Int32) (other : Int32) (set : Int32) : (Int32 × Int32) → Option ((Int32 × Int32) ⊕ (Int32)) := un fun y1 y2 => (if (4 : Int32) ≤ y2 then some (.inr y1) else (if y1 = (0 : Int32) then nm (y2 + (1 : Int32)) fun x1 => some (.inl ((0 : Int32), x1)) else (if ((set >>> (y2 &&& 31)) &&& (1 : Int32)) = (0 : Int32) then nm (y2 + (1 : Int32)) fun x2 => some (.inl ((1 : Int32), x2)) else (f_X9_valueOf one y2).bind fun r1 => (f_X9_valueOf other y2).bind fun r2 => (if r1 = r2 then nm (y2 + (1 : Int32)) fun x4 => some (.inl ((1 : Int32), x4)) else nm (y2 + (1 : Int32)) fun x3 => some (.inl ((0 : Int32), x3))))))
def f_X9_areAlikeIn (one : Int32) (other : Int32) (set : Int32) : Option (Int32) := (wh FU (b_X9_areAlikeIn_5 one other set) ((1 : Int32), (0 : Int32))).bind (fun z1 => chk (isb z1) (some z1))
abbrev rm_X9_areAlikeIn : Room := { frames := 1, cells := 0, slots := 0, locals := 21 }
set_option maxHeartbeats 4000000 in
set_option maxRecDepth 20000 in
theorem m_X9_areAlikeIn (l : Launch) (D : va_G) (cy : Cy) (q : Nat → Nat) (σ : St) (one : Int32) (other : Int32) (set : Int32)  : ∀ res, f_X9_areAlikeIn one other set = some res → MetX (vM D cy q) l yX9_areAlikeIn cX9_areAlikeIn 5 (some .boolean) rm_X9_areAlikeIn [.int one, .int other, .int set] σ (some (.int res), σ) := by
  let fin_ : Int32 → Option Value × St := fun r => (some (.int r), σ)
  have hro : ∀ (z : Int32) (res : Int32), some z = some res → fin_ res = fin_ z := fun z res h => by cases h; rfl
  refine MetX.of1 (fin := fin_) (lv := [(0, .int one), (1, .int other), (2, .int set)]) (by decide) (Nat.le_of_ble_eq_true rfl) rfl ?_
  unfold f_X9_areAlikeIn
  refine g_iconst (pc := 0) (1) dX9_areAlikeIn_0 (by decide) ?_
  refine g_istore_n (pc := 1) (lv' := [(3, .int (1 : Int32)), (0, .int one), (1, .int other), (2, .int set)]) dX9_areAlikeIn_1 rfl (Nat.le_of_ble_eq_true rfl) rfl ?_
  refine g_iconst (pc := 2) (0) dX9_areAlikeIn_2 (by decide) ?_
  refine g_istore (pc := 3) (lv' := [(4, .int (0 : Int32)), (3, .int (1 : Int32)), (0, .int one), (1, .int other), (2, .int set)]) dX9_areAlikeIn_3 (Nat.le_of_ble_eq_true rfl) rfl ?_
  refine g_sub [2, 3, 4, 1, 0] rfl ?_
  refine g_wh2 (pc := 5) (s0 := ((1 : Int32), (0 : Int32))) (fun (w_ : Int32 × Int32) => σ) (fun (w_ : Int32 × Int32) => [(0, .int one), (1, .int other), (2, .int set), (3, .int w_.1), (4, .int w_.2)]) (fun (w_ : Int32) => σ) (fun (w_ : Int32) => [(3, .int w_)]) 51 ?_ ?_
  · rintro z1
    try dsimp only [un, Sum.elim_inl]
    refine g_iload_n (pc := 51) 0 dX9_areAlikeIn_51 rfl rfl ?_
    exact g_chk fun hb => g_zret (pc := 52) hb (hro _) rfl dX9_areAlikeIn_52
  · intro K5 hx5 ih5
    rintro ⟨y1, y2⟩
    try dsimp only [b_X9_areAlikeIn_5, un]
    refine g_iload (pc := 5) 4 dX9_areAlikeIn_5 rfl ?_
    refine g_iconst (pc := 7) (4) dX9_areAlikeIn_7 (by decide) ?_
    refine g_icmp_ge (pc := 8) 51 dX9_areAlikeIn_8 (by decide) ?_ ?_
    · exact g_sub [3] rfl (hx5 y1)
    · refine g_iload_n (pc := 11) 3 dX9_areAlikeIn_11 rfl rfl ?_
      refine g_if_eq (pc := 12) 43 dX9_areAlikeIn_12 (by decide) ?_ ?_
      · refine g_iconst (pc := 43) (0) dX9_areAlikeIn_43 (by decide) ?_
        refine g_istore_n (pc := 44) (lv' := [(3, .int (0 : Int32)), (0, .int one), (1, .int other), (2, .int set), (4, .int y2)]) dX9_areAlikeIn_44 rfl (Nat.le_of_ble_eq_true rfl) rfl ?_
        refine g_iinc (pc := 45) (j := 4) (1) (lf := fun x1 => [(4, .int x1), (3, .int (0 : Int32)), (0, .int one), (1, .int other), (2, .int set)]) dX9_areAlikeIn_45 rfl (by decide) (Nat.le_of_ble_eq_true rfl) (fun _ => rfl) (fun x1 => ?_)
        refine g_goto (pc := 48) 5 dX9_areAlikeIn_48 (by decide) ?_
        exact g_sub [2, 3, 4, 1, 0] rfl (ih5 ((0 : Int32), x1))
      · refine g_iload_n (pc := 15) 2 dX9_areAlikeIn_15 rfl rfl ?_
        refine g_iload (pc := 16) 4 dX9_areAlikeIn_16 rfl ?_
        refine g_ishr (pc := 18) dX9_areAlikeIn_18 ?_
        refine g_iconst (pc := 19) (1) dX9_areAlikeIn_19 (by decide) ?_
        refine g_iand (pc := 20) dX9_areAlikeIn_20 ?_
        refine g_if_eq (pc := 21) 39 dX9_areAlikeIn_21 (by decide) ?_ ?_
        · refine g_iconst (pc := 39) (1) dX9_areAlikeIn_39 (by decide) ?_
          refine g_goto (pc := 40) 44 dX9_areAlikeIn_40 (by decide) ?_
          refine g_istore_n (pc := 44) (lv' := [(3, .int (1 : Int32)), (0, .int one), (1, .int other), (2, .int set), (4, .int y2)]) dX9_areAlikeIn_44 rfl (Nat.le_of_ble_eq_true rfl) rfl ?_
          refine g_iinc (pc := 45) (j := 4) (1) (lf := fun x2 => [(4, .int x2), (3, .int (1 : Int32)), (0, .int one), (1, .int other), (2, .int set)]) dX9_areAlikeIn_45 rfl (by decide) (Nat.le_of_ble_eq_true rfl) (fun _ => rfl) (fun x2 => ?_)
          refine g_goto (pc := 48) 5 dX9_areAlikeIn_48 (by decide) ?_
          exact g_sub [2, 3, 4, 1, 0] rfl (ih5 ((1 : Int32), x2))
        · refine g_iload_n (pc := 24) 0 dX9_areAlikeIn_24 rfl rfl ?_
          refine g_iload (pc := 25) 4 dX9_areAlikeIn_25 rfl ?_
          refine gS_i (pc := 27) [.int one, .int y2] [] (m_X9_valueOf l (vM D cy q) σ one y2) cw_X9_valueOf km_X9_128 ⟨rfl, rfl, by decide, by decide⟩ dX9_areAlikeIn_27 rfl rfl (Nat.le_of_ble_eq_true rfl) (fun r1 => ?_)
          refine g_iload_n (pc := 30) 1 dX9_areAlikeIn_30 rfl rfl ?_
          refine g_iload (pc := 31) 4 dX9_areAlikeIn_31 rfl ?_
          refine gS_i (pc := 33) [.int other, .int y2] [.int r1] (m_X9_valueOf l (vM D cy q) σ other y2) cw_X9_valueOf km_X9_128 ⟨rfl, rfl, by decide, by decide⟩ dX9_areAlikeIn_33 rfl rfl (Nat.le_of_ble_eq_true rfl) (fun r2 => ?_)
          refine g_icmp_ne (pc := 36) 43 dX9_areAlikeIn_36 (by decide) ?_ ?_
          · refine g_iconst (pc := 43) (0) dX9_areAlikeIn_43 (by decide) ?_
            refine g_istore_n (pc := 44) (lv' := [(3, .int (0 : Int32)), (0, .int one), (1, .int other), (2, .int set), (4, .int y2)]) dX9_areAlikeIn_44 rfl (Nat.le_of_ble_eq_true rfl) rfl ?_
            refine g_iinc (pc := 45) (j := 4) (1) (lf := fun x3 => [(4, .int x3), (3, .int (0 : Int32)), (0, .int one), (1, .int other), (2, .int set)]) dX9_areAlikeIn_45 rfl (by decide) (Nat.le_of_ble_eq_true rfl) (fun _ => rfl) (fun x3 => ?_)
            refine g_goto (pc := 48) 5 dX9_areAlikeIn_48 (by decide) ?_
            exact g_sub [2, 3, 4, 1, 0] rfl (ih5 ((0 : Int32), x3))
          · refine g_iconst (pc := 39) (1) dX9_areAlikeIn_39 (by decide) ?_
            refine g_goto (pc := 40) 44 dX9_areAlikeIn_40 (by decide) ?_
            refine g_istore_n (pc := 44) (lv' := [(3, .int (1 : Int32)), (0, .int one), (1, .int other), (2, .int set), (4, .int y2)]) dX9_areAlikeIn_44 rfl (Nat.le_of_ble_eq_true rfl) rfl ?_
            refine g_iinc (pc := 45) (j := 4) (1) (lf := fun x4 => [(4, .int x4), (3, .int (1 : Int32)), (0, .int one), (1, .int other), (2, .int set)]) dX9_areAlikeIn_45 rfl (by decide) (Nat.le_of_ble_eq_true rfl) (fun _ => rfl) (fun x4 => ?_)
            refine g_goto (pc := 48) 5 dX9_areAlikeIn_48 (by decide) ?_
            exact g_sub [2, 3, 4, 1, 0] rfl (ih5 ((1 : Int32), x4))
def b_X9_fit_72 (program : Int32) (start : Int32) (set : Int32) (n : Int32) : (Int32 × Int32 × Int32 × St) → Option ((Int32 × Int32 × Int32 × St) ⊕ (Int32 × Int32 × St)) := un fun y1 => un fun y2 => un fun y3 s2 => (if (256 : Int32) ≤ y3 then some (.inr (y1, y2, s2)) else (f_X9_areAlikeIn start y3 set).bind fun r6 => (if r6 = (0 : Int32) then nm (y3 + (1 : Int32)) fun x1 => some (.inl (y1, y2, x1, s2)) else (f_X9_runOne program y3 (1 : Int32) s2).bind fun s3 => chk (inb (0 : Int32) 512) ((if (s3.1 12 (0 : Int32).toNatClampNeg) < n then chk (inb (1 : Int32) 512) (chk (inb (0 : Int32) 512) ((if (s3.1 12 (1 : Int32).toNatClampNeg) = (s3.1 12 (0 : Int32).toNatClampNeg) then chk (inb (0 : Int32) 512) ((if n ≤ (s3.1 12 (0 : Int32).toNatClampNeg) then (f_X9_areShownAlike (0 : Int32) (1 : Int32) n s3).bind fun r7 => (if r7 = (0 : Int32) then nm (y3 + (1 : Int32)) fun x3 => some (.inl (y1, y2, x3, s3)) else (if y1 = (0 : Int32) then nm (y1 + (1 : Int32)) fun x6 => nm (y3 + (1 : Int32)) fun x7 => some (.inl (x6, y3, x7, s3)) else nm (y1 + (1 : Int32)) fun x4 => nm (y3 + (1 : Int32)) fun x5 => some (.inl (x4, y2, x5, s3)))) else chk (inb (0 : Int32) 512) ((f_X9_areShownAlike (0 : Int32) (1 : Int32) (s3.1 12 (0 : Int32).toNatClampNeg) s3).bind fun r8 => (if r8 = (0 : Int32) then nm (y3 + (1 : Int32)) fun x8 => some (.inl (y1, y2, x8, s3)) else (if y1 = (0 : Int32) then nm (y1 + (1 : Int32)) fun x11 => nm (y3 + (1 : Int32)) fun x12 => some (.inl (x11, y3, x12, s3)) else nm (y1 + (1 : Int32)) fun x9 => nm (y3 + (1 : Int32)) fun x10 => some (.inl (x9, y2, x10, s3))))))) else nm (y3 + (1 : Int32)) fun x2 => some (.inl (y1, y2, x2, s3))))) else chk (inb (1 : Int32) 512) ((if (s3.1 12 (1 : Int32).toNatClampNeg) < n then nm (y3 + (1 : Int32)) fun x13 => some (.inl (y1, y2, x13, s3)) else chk (inb (0 : Int32) 512) ((if n ≤ (s3.1 12 (0 : Int32).toNatClampNeg) then (f_X9_areShownAlike (0 : Int32) (1 : Int32) n s3).bind fun r9 => (if r9 = (0 : Int32) then nm (y3 + (1 : Int32)) fun x14 => some (.inl (y1, y2, x14, s3)) else (if y1 = (0 : Int32) then nm (y1 + (1 : Int32)) fun x17 => nm (y3 + (1 : Int32)) fun x18 => some (.inl (x17, y3, x18, s3)) else nm (y1 + (1 : Int32)) fun x15 => nm (y3 + (1 : Int32)) fun x16 => some (.inl (x15, y2, x16, s3)))) else chk (inb (0 : Int32) 512) ((f_X9_areShownAlike (0 : Int32) (1 : Int32) (s3.1 12 (0 : Int32).toNatClampNeg) s3).bind fun r10 => (if r10 = (0 : Int32) then nm (y3 + (1 : Int32)) fun x19 => some (.inl (y1, y2, x19, s3)) else (if y1 = (0 : Int32) then nm (y1 + (1 : Int32)) fun x22 => nm (y3 + (1 : Int32)) fun x23 => some (.inl (x22, y3, x23, s3)) else nm (y1 + (1 : Int32)) fun x20 => nm (y3 + (1 : Int32)) fun x21 => some (.inl (x20, y2, x21, s3)))))))))))))
def f_X9_fit (program : Int32) (start : Int32) (set : Int32) (n : Int32) (what : Int32) (σ : St) : Option (Int32 × St) := (f_X9_isProgram program).bind fun r1 => (if r1 = (0 : Int32) then some ((-1 : Int32), σ) else (f_X9_isStart start).bind fun r2 => (if r2 = (0 : Int32) then some ((-2 : Int32), σ) else (f_X9_in set.toInt64 (0 : Int64) (15 : Int64)).bind fun r3 => (if r3 = (0 : Int32) then some ((-2 : Int32), σ) else (f_X9_in n.toInt64 (0 : Int64) (24 : Int64)).bind fun r4 => (if r4 = (0 : Int32) then some ((-2 : Int32), σ) else (f_X9_in what.toInt64 (0 : Int64) (1 : Int64)).bind fun r5 => (if r5 = (0 : Int32) then some ((-2 : Int32), σ) else (f_X9_runOne program start (0 : Int32) σ).bind fun s1 => (wh FU (b_X9_fit_72 program start set n) ((0 : Int32), (-6 : Int32), (0 : Int32), s1)).bind (un fun z1 => un fun z2 s4 => (if what = (0 : Int32) then some (z1, s4) else some (z2, s4))))))))
abbrev rm_X9_fit : Room := { frames := 4, cells := 0, slots := 0, locals := 99 }
set_option maxHeartbeats 4000000 in
set_option maxRecDepth 20000 in
theorem m_X9_fit (l : Launch) (D : va_G) (cy : Cy) (q : Nat → Nat) (σ : St) (program : Int32) (start : Int32) (set : Int32) (n : Int32) (what : Int32)  : ∀ res, f_X9_fit program start set n what σ = some res → MetX (vM D cy q) l yX9_fit cX9_fit 10 (some .int) rm_X9_fit [.ref (q 0), .int program, .int start, .int set, .int n, .int what] σ (some (.int res.1), res.2) := by
  let fin_ : (Int32 × St) → Option Value × St := fun r => (some (.int r.1), r.2)
  have hro : ∀ (z : Int32 × St) (res : Int32 × St), some z = some res → fin_ res = fin_ z := fun z res h => by cases h; rfl
  refine MetX.of1 (fin := fin_) (lv := [(0, .ref (q 0)), (1, .int program), (2, .int start), (3, .int set), (4, .int n), (5, .int what)]) (by decide) (Nat.le_of_ble_eq_true rfl) rfl ?_
  unfold f_X9_fit
  refine g_iload_n (pc := 0) 1 dX9_fit_0 rfl rfl ?_
  refine gS_i (pc := 1) [.int program] [] (m_X9_isProgram l D cy q σ program) cw_X9_isProgram km_X9_111 ⟨rfl, rfl, by decide, by decide⟩ dX9_fit_1 rfl rfl (Nat.le_of_ble_eq_true rfl) (fun r1 => ?_)
  refine g_if_ne (pc := 4) 9 dX9_fit_4 (by decide) ?_ ?_
  · refine g_iload_n (pc := 9) 2 dX9_fit_9 rfl rfl ?_
    refine gS_i (pc := 10) [.int start] [] (m_X9_isStart l D cy q σ start) cw_X9_isStart km_X9_162 ⟨rfl, rfl, by decide, by decide⟩ dX9_fit_10 rfl rfl (Nat.le_of_ble_eq_true rfl) (fun r2 => ?_)
    refine g_if_eq (pc := 13) 52 dX9_fit_13 (by decide) ?_ ?_
    · refine g_bipush (pc := 52) (-2) dX9_fit_52 (by decide) ?_
      exact g_iret (pc := 54) (hro _) rfl dX9_fit_54
    · refine g_iload_n (pc := 16) 3 dX9_fit_16 rfl rfl ?_
      refine g_i2l (pc := 17) dX9_fit_17 ?_
      refine g_lconst (pc := 18) (0) dX9_fit_18 (by decide) ?_
      refine g_ldc2 (pc := 19) dX9_fit_19 kl_X9_312 ?_
      refine gS_i (pc := 22) [.long set.toInt64, .long (0 : Int64), .long (15 : Int64)] [] (m_X9_in l D cy q σ set.toInt64 (0 : Int64) (15 : Int64)) cw_X9_in km_X9_101 ⟨rfl, rfl, by decide, by decide⟩ dX9_fit_22 rfl rfl (Nat.le_of_ble_eq_true rfl) (fun r3 => ?_)
      refine g_if_eq (pc := 25) 52 dX9_fit_25 (by decide) ?_ ?_
      · refine g_bipush (pc := 52) (-2) dX9_fit_52 (by decide) ?_
        exact g_iret (pc := 54) (hro _) rfl dX9_fit_54
      · refine g_iload (pc := 28) 4 dX9_fit_28 rfl ?_
        refine g_i2l (pc := 30) dX9_fit_30 ?_
        refine g_lconst (pc := 31) (0) dX9_fit_31 (by decide) ?_
        refine g_ldc2 (pc := 32) dX9_fit_32 kl_X9_314 ?_
        refine gS_i (pc := 35) [.long n.toInt64, .long (0 : Int64), .long (24 : Int64)] [] (m_X9_in l D cy q σ n.toInt64 (0 : Int64) (24 : Int64)) cw_X9_in km_X9_101 ⟨rfl, rfl, by decide, by decide⟩ dX9_fit_35 rfl rfl (Nat.le_of_ble_eq_true rfl) (fun r4 => ?_)
        refine g_if_eq (pc := 38) 52 dX9_fit_38 (by decide) ?_ ?_
        · refine g_bipush (pc := 52) (-2) dX9_fit_52 (by decide) ?_
          exact g_iret (pc := 54) (hro _) rfl dX9_fit_54
        · refine g_iload (pc := 41) 5 dX9_fit_41 rfl ?_
          refine g_i2l (pc := 43) dX9_fit_43 ?_
          refine g_lconst (pc := 44) (0) dX9_fit_44 (by decide) ?_
          refine g_lconst (pc := 45) (1) dX9_fit_45 (by decide) ?_
          refine gS_i (pc := 46) [.long what.toInt64, .long (0 : Int64), .long (1 : Int64)] [] (m_X9_in l D cy q σ what.toInt64 (0 : Int64) (1 : Int64)) cw_X9_in km_X9_101 ⟨rfl, rfl, by decide, by decide⟩ dX9_fit_46 rfl rfl (Nat.le_of_ble_eq_true rfl) (fun r5 => ?_)
          refine g_if_ne (pc := 49) 55 dX9_fit_49 (by decide) ?_ ?_
          · refine g_aload_n (pc := 55) 0 dX9_fit_55 rfl rfl ?_
            refine g_iload_n (pc := 56) 1 dX9_fit_56 rfl rfl ?_
            refine g_iload_n (pc := 57) 2 dX9_fit_57 rfl rfl ?_
            refine g_iconst (pc := 58) (0) dX9_fit_58 (by decide) ?_
            refine gV_v (pc := 59) [.int program, .int start, .int (0 : Int32)] [] (m_X9_runOne l D cy q σ program start (0 : Int32)) cw_X9_runOne km_X9_157 ⟨rfl, rfl, by decide, by decide⟩ (Nat.le_of_ble_eq_true rfl) (eM_9 (cy := cy) (σ.1 0) (σ.2 0)) rfl dX9_fit_59 rfl rfl (Nat.le_of_ble_eq_true rfl) (fun s1 => ?_)
            refine g_iconst (pc := 62) (0) dX9_fit_62 (by decide) ?_
            refine g_istore (pc := 63) (lv' := [(6, .int (0 : Int32)), (0, .ref (q 0)), (1, .int program), (2, .int start), (3, .int set), (4, .int n), (5, .int what)]) dX9_fit_63 (Nat.le_of_ble_eq_true rfl) rfl ?_
            refine g_bipush (pc := 65) (-6) dX9_fit_65 (by decide) ?_
            refine g_istore (pc := 67) (lv' := [(7, .int (-6 : Int32)), (6, .int (0 : Int32)), (0, .ref (q 0)), (1, .int program), (2, .int start), (3, .int set), (4, .int n), (5, .int what)]) dX9_fit_67 (Nat.le_of_ble_eq_true rfl) rfl ?_
            refine g_iconst (pc := 69) (0) dX9_fit_69 (by decide) ?_
            refine g_istore (pc := 70) (lv' := [(8, .int (0 : Int32)), (7, .int (-6 : Int32)), (6, .int (0 : Int32)), (0, .ref (q 0)), (1, .int program), (2, .int start), (3, .int set), (4, .int n), (5, .int what)]) dX9_fit_70 (Nat.le_of_ble_eq_true rfl) rfl ?_
            refine g_sub [3, 4, 5, 6, 7, 8, 2, 1, 0] rfl ?_
            refine g_wh2 (pc := 72) (s0 := ((0 : Int32), (-6 : Int32), (0 : Int32), s1)) (fun (w_ : Int32 × Int32 × Int32 × St) => w_.2.2.2) (fun (w_ : Int32 × Int32 × Int32 × St) => [(0, .ref (q 0)), (1, .int program), (2, .int start), (3, .int set), (4, .int n), (5, .int what), (6, .int w_.1), (7, .int w_.2.1), (8, .int w_.2.2.1)]) (fun (w_ : Int32 × Int32 × St) => w_.2.2) (fun (w_ : Int32 × Int32 × St) => [(5, .int what), (6, .int w_.1), (7, .int w_.2.1)]) 209 ?_ ?_
            · rintro ⟨z1, z2, s4⟩
              try dsimp only [un, Sum.elim_inl]
              refine g_iload (pc := 209) 0 dX9_fit_209 rfl ?_
              refine g_if_ne (pc := 211) 219 dX9_fit_211 (by decide) ?_ ?_
              · refine g_iload (pc := 219) 2 dX9_fit_219 rfl ?_
                exact g_iret (pc := 221) (hro _) rfl dX9_fit_221
              · refine g_iload (pc := 214) 1 dX9_fit_214 rfl ?_
                refine g_goto (pc := 216) 221 dX9_fit_216 (by decide) ?_
                exact g_iret (pc := 221) (hro _) rfl dX9_fit_221
            · intro K72 hx72 ih72
              rintro ⟨y1, y2, y3, s2⟩
              try dsimp only [b_X9_fit_72, un]
              refine g_iload (pc := 72) 8 dX9_fit_72 rfl ?_
              refine g_sipush (pc := 74) (256) dX9_fit_74 (by decide) ?_
              refine g_icmp_ge (pc := 77) 209 dX9_fit_77 (by decide) ?_ ?_
              · exact g_sub [5, 6, 7] rfl (hx72 (y1, y2, s2))
              · refine g_iload_n (pc := 80) 2 dX9_fit_80 rfl rfl ?_
                refine g_iload (pc := 81) 8 dX9_fit_81 rfl ?_
                refine g_iload_n (pc := 83) 3 dX9_fit_83 rfl rfl ?_
                refine gS_i (pc := 84) [.int start, .int y3, .int set] [] (m_X9_areAlikeIn l D cy q s2 start y3 set) cw_X9_areAlikeIn km_X9_316 ⟨rfl, rfl, by decide, by decide⟩ dX9_fit_84 rfl rfl (Nat.le_of_ble_eq_true rfl) (fun r6 => ?_)
                refine g_if_eq (pc := 87) 203 dX9_fit_87 (by decide) ?_ ?_
                · refine g_iinc (pc := 203) (j := 8) (1) (lf := fun x1 => [(8, .int x1), (0, .ref (q 0)), (1, .int program), (2, .int start), (3, .int set), (4, .int n), (5, .int what), (6, .int y1), (7, .int y2)]) dX9_fit_203 rfl (by decide) (Nat.le_of_ble_eq_true rfl) (fun _ => rfl) (fun x1 => ?_)
                  refine g_goto (pc := 206) 72 dX9_fit_206 (by decide) ?_
                  exact g_sub [1, 2, 3, 4, 5, 6, 7, 8, 0] rfl (ih72 (y1, y2, x1, s2))
                · refine g_aload_n (pc := 90) 0 dX9_fit_90 rfl rfl ?_
                  refine g_iload_n (pc := 91) 1 dX9_fit_91 rfl rfl ?_
                  refine g_iload (pc := 92) 8 dX9_fit_92 rfl ?_
                  refine g_iconst (pc := 94) (1) dX9_fit_94 (by decide) ?_
                  refine gV_v (pc := 95) [.int program, .int y3, .int (1 : Int32)] [] (m_X9_runOne l D cy q s2 program y3 (1 : Int32)) cw_X9_runOne km_X9_157 ⟨rfl, rfl, by decide, by decide⟩ (Nat.le_of_ble_eq_true rfl) (eM_9 (cy := cy) (s2.1 0) (s2.2 0)) rfl dX9_fit_95 rfl rfl (Nat.le_of_ble_eq_true rfl) (fun s3 => ?_)
                  refine g_aload_n (pc := 98) 0 dX9_fit_98 rfl rfl ?_
                  refine gf_9_shownMany (pc := 99) kf_X9_44 dX9_fit_99 ?_
                  refine g_iconst (pc := 102) (0) dX9_fit_102 (by decide) ?_
                  refine a_ild (pc := 103) aM_shownMany dX9_fit_103 ?_
                  refine g_iload (pc := 104) 4 dX9_fit_104 rfl ?_
                  refine g_icmp_lt (pc := 106) 128 dX9_fit_106 (by decide) ?_ ?_
                  · refine g_aload_n (pc := 128) 0 dX9_fit_128 rfl rfl ?_
                    refine gf_9_shownMany (pc := 129) kf_X9_44 dX9_fit_129 ?_
                    refine g_iconst (pc := 132) (1) dX9_fit_132 (by decide) ?_
                    refine a_ild (pc := 133) aM_shownMany dX9_fit_133 ?_
                    refine g_aload_n (pc := 134) 0 dX9_fit_134 rfl rfl ?_
                    refine gf_9_shownMany (pc := 135) kf_X9_44 dX9_fit_135 ?_
                    refine g_iconst (pc := 138) (0) dX9_fit_138 (by decide) ?_
                    refine a_ild (pc := 139) aM_shownMany dX9_fit_139 ?_
                    refine g_icmp_ne (pc := 140) 147 dX9_fit_140 (by decide) ?_ ?_
                    · refine g_iconst (pc := 147) (0) dX9_fit_147 (by decide) ?_
                      refine g_istore (pc := 148) (lv' := [(9, .int (0 : Int32)), (0, .ref (q 0)), (1, .int program), (2, .int start), (3, .int set), (4, .int n), (5, .int what), (6, .int y1), (7, .int y2), (8, .int y3)]) dX9_fit_148 (Nat.le_of_ble_eq_true rfl) rfl ?_
                      refine g_iload (pc := 150) 0 dX9_fit_150 rfl ?_
                      refine g_ifeq_y (pc := 152) 203 (by decide) dX9_fit_152 (by decide) ?_
                      refine g_iinc (pc := 203) (j := 9) (1) (lf := fun x2 => [(8, .int x2), (9, .int (0 : Int32)), (0, .ref (q 0)), (1, .int program), (2, .int start), (3, .int set), (4, .int n), (5, .int what), (6, .int y1), (7, .int y2)]) dX9_fit_203 rfl (by decide) (Nat.le_of_ble_eq_true rfl) (fun _ => rfl) (fun x2 => ?_)
                      refine g_goto (pc := 206) 72 dX9_fit_206 (by decide) ?_
                      exact g_sub [2, 3, 4, 5, 6, 7, 8, 9, 0] rfl (ih72 (y1, y2, x2, s3))
                    · refine g_iconst (pc := 143) (1) dX9_fit_143 (by decide) ?_
                      refine g_goto (pc := 144) 148 dX9_fit_144 (by decide) ?_
                      refine g_istore (pc := 148) (lv' := [(9, .int (1 : Int32)), (0, .ref (q 0)), (1, .int program), (2, .int start), (3, .int set), (4, .int n), (5, .int what), (6, .int y1), (7, .int y2), (8, .int y3)]) dX9_fit_148 (Nat.le_of_ble_eq_true rfl) rfl ?_
                      refine g_iload (pc := 150) 0 dX9_fit_150 rfl ?_
                      refine g_ifeq_n (pc := 152) 203 (by decide) dX9_fit_152 (by decide) ?_
                      refine g_aload_n (pc := 155) 1 dX9_fit_155 rfl rfl ?_
                      refine g_iconst (pc := 156) (0) dX9_fit_156 (by decide) ?_
                      refine g_iconst (pc := 157) (1) dX9_fit_157 (by decide) ?_
                      refine g_aload_n (pc := 158) 1 dX9_fit_158 rfl rfl ?_
                      refine gf_9_shownMany (pc := 159) kf_X9_44 dX9_fit_159 ?_
                      refine g_iconst (pc := 162) (0) dX9_fit_162 (by decide) ?_
                      refine a_ild (pc := 163) aM_shownMany dX9_fit_163 ?_
                      refine g_iload (pc := 164) 5 dX9_fit_164 rfl ?_
                      refine g_icmp_ge (pc := 166) 178 dX9_fit_166 (by decide) ?_ ?_
                      · refine g_iload (pc := 178) 5 dX9_fit_178 rfl ?_
                        refine gV_i (pc := 180) [.int (0 : Int32), .int (1 : Int32), .int n] [] (m_X9_areShownAlike l D cy q s3 (0 : Int32) (1 : Int32) n) cw_X9_areShownAlike km_X9_206 ⟨rfl, rfl, by decide, by decide⟩ (Nat.le_of_ble_eq_true rfl) (eM_9 (cy := cy) (s3.1 0) (s3.2 0)) rfl dX9_fit_180 rfl rfl (Nat.le_of_ble_eq_true rfl) (fun r7 => ?_)
                        refine g_if_eq (pc := 183) 203 dX9_fit_183 (by decide) ?_ ?_
                        · refine g_iinc (pc := 203) (j := 9) (1) (lf := fun x3 => [(8, .int x3), (9, .int (1 : Int32)), (0, .ref (q 0)), (1, .int program), (2, .int start), (3, .int set), (4, .int n), (5, .int what), (6, .int y1), (7, .int y2)]) dX9_fit_203 rfl (by decide) (Nat.le_of_ble_eq_true rfl) (fun _ => rfl) (fun x3 => ?_)
                          refine g_goto (pc := 206) 72 dX9_fit_206 (by decide) ?_
                          exact g_sub [2, 3, 4, 5, 6, 7, 8, 9, 0] rfl (ih72 (y1, y2, x3, s3))
                        · refine g_iload (pc := 186) 7 dX9_fit_186 rfl ?_
                          refine g_if_ne (pc := 188) 196 dX9_fit_188 (by decide) ?_ ?_
                          · refine g_iload (pc := 196) 8 dX9_fit_196 rfl ?_
                            refine g_istore (pc := 198) (lv' := [(7, .int y2), (9, .int (1 : Int32)), (0, .ref (q 0)), (1, .int program), (2, .int start), (3, .int set), (4, .int n), (5, .int what), (6, .int y1), (8, .int y3)]) dX9_fit_198 (Nat.le_of_ble_eq_true rfl) rfl ?_
                            refine g_iinc (pc := 200) (j := 8) (1) (lf := fun x4 => [(6, .int x4), (7, .int y2), (9, .int (1 : Int32)), (0, .ref (q 0)), (1, .int program), (2, .int start), (3, .int set), (4, .int n), (5, .int what), (8, .int y3)]) dX9_fit_200 rfl (by decide) (Nat.le_of_ble_eq_true rfl) (fun _ => rfl) (fun x4 => ?_)
                            refine g_iinc (pc := 203) (j := 9) (1) (lf := fun x5 => [(8, .int x5), (6, .int x4), (7, .int y2), (9, .int (1 : Int32)), (0, .ref (q 0)), (1, .int program), (2, .int start), (3, .int set), (4, .int n), (5, .int what)]) dX9_fit_203 rfl (by decide) (Nat.le_of_ble_eq_true rfl) (fun _ => rfl) (fun x5 => ?_)
                            refine g_goto (pc := 206) 72 dX9_fit_206 (by decide) ?_
                            exact g_sub [4, 5, 6, 7, 8, 9, 1, 2, 0] rfl (ih72 (x4, y2, x5, s3))
                          · refine g_iload (pc := 191) 9 dX9_fit_191 rfl ?_
                            refine g_goto (pc := 193) 198 dX9_fit_193 (by decide) ?_
                            refine g_istore (pc := 198) (lv' := [(7, .int y3), (9, .int (1 : Int32)), (0, .ref (q 0)), (1, .int program), (2, .int start), (3, .int set), (4, .int n), (5, .int what), (6, .int y1), (8, .int y3)]) dX9_fit_198 (Nat.le_of_ble_eq_true rfl) rfl ?_
                            refine g_iinc (pc := 200) (j := 8) (1) (lf := fun x6 => [(6, .int x6), (7, .int y3), (9, .int (1 : Int32)), (0, .ref (q 0)), (1, .int program), (2, .int start), (3, .int set), (4, .int n), (5, .int what), (8, .int y3)]) dX9_fit_200 rfl (by decide) (Nat.le_of_ble_eq_true rfl) (fun _ => rfl) (fun x6 => ?_)
                            refine g_iinc (pc := 203) (j := 9) (1) (lf := fun x7 => [(8, .int x7), (6, .int x6), (7, .int y3), (9, .int (1 : Int32)), (0, .ref (q 0)), (1, .int program), (2, .int start), (3, .int set), (4, .int n), (5, .int what)]) dX9_fit_203 rfl (by decide) (Nat.le_of_ble_eq_true rfl) (fun _ => rfl) (fun x7 => ?_)
                            refine g_goto (pc := 206) 72 dX9_fit_206 (by decide) ?_
                            exact g_sub [4, 5, 6, 7, 8, 9, 1, 2, 0] rfl (ih72 (x6, y3, x7, s3))
                      · refine g_aload_n (pc := 169) 1 dX9_fit_169 rfl rfl ?_
                        refine gf_9_shownMany (pc := 170) kf_X9_44 dX9_fit_170 ?_
                        refine g_iconst (pc := 173) (0) dX9_fit_173 (by decide) ?_
                        refine a_ild (pc := 174) aM_shownMany dX9_fit_174 ?_
                        refine g_goto (pc := 175) 180 dX9_fit_175 (by decide) ?_
                        refine gV_i (pc := 180) [.int (0 : Int32), .int (1 : Int32), .int (s3.1 12 (0 : Int32).toNatClampNeg)] [] (m_X9_areShownAlike l D cy q s3 (0 : Int32) (1 : Int32) (s3.1 12 (0 : Int32).toNatClampNeg)) cw_X9_areShownAlike km_X9_206 ⟨rfl, rfl, by decide, by decide⟩ (Nat.le_of_ble_eq_true rfl) (eM_9 (cy := cy) (s3.1 0) (s3.2 0)) rfl dX9_fit_180 rfl rfl (Nat.le_of_ble_eq_true rfl) (fun r8 => ?_)
                        refine g_if_eq (pc := 183) 203 dX9_fit_183 (by decide) ?_ ?_
                        · refine g_iinc (pc := 203) (j := 9) (1) (lf := fun x8 => [(8, .int x8), (9, .int (1 : Int32)), (0, .ref (q 0)), (1, .int program), (2, .int start), (3, .int set), (4, .int n), (5, .int what), (6, .int y1), (7, .int y2)]) dX9_fit_203 rfl (by decide) (Nat.le_of_ble_eq_true rfl) (fun _ => rfl) (fun x8 => ?_)
                          refine g_goto (pc := 206) 72 dX9_fit_206 (by decide) ?_
                          exact g_sub [2, 3, 4, 5, 6, 7, 8, 9, 0] rfl (ih72 (y1, y2, x8, s3))
                        · refine g_iload (pc := 186) 7 dX9_fit_186 rfl ?_
                          refine g_if_ne (pc := 188) 196 dX9_fit_188 (by decide) ?_ ?_
                          · refine g_iload (pc := 196) 8 dX9_fit_196 rfl ?_
                            refine g_istore (pc := 198) (lv' := [(7, .int y2), (9, .int (1 : Int32)), (0, .ref (q 0)), (1, .int program), (2, .int start), (3, .int set), (4, .int n), (5, .int what), (6, .int y1), (8, .int y3)]) dX9_fit_198 (Nat.le_of_ble_eq_true rfl) rfl ?_
                            refine g_iinc (pc := 200) (j := 8) (1) (lf := fun x9 => [(6, .int x9), (7, .int y2), (9, .int (1 : Int32)), (0, .ref (q 0)), (1, .int program), (2, .int start), (3, .int set), (4, .int n), (5, .int what), (8, .int y3)]) dX9_fit_200 rfl (by decide) (Nat.le_of_ble_eq_true rfl) (fun _ => rfl) (fun x9 => ?_)
                            refine g_iinc (pc := 203) (j := 9) (1) (lf := fun x10 => [(8, .int x10), (6, .int x9), (7, .int y2), (9, .int (1 : Int32)), (0, .ref (q 0)), (1, .int program), (2, .int start), (3, .int set), (4, .int n), (5, .int what)]) dX9_fit_203 rfl (by decide) (Nat.le_of_ble_eq_true rfl) (fun _ => rfl) (fun x10 => ?_)
                            refine g_goto (pc := 206) 72 dX9_fit_206 (by decide) ?_
                            exact g_sub [4, 5, 6, 7, 8, 9, 1, 2, 0] rfl (ih72 (x9, y2, x10, s3))
                          · refine g_iload (pc := 191) 9 dX9_fit_191 rfl ?_
                            refine g_goto (pc := 193) 198 dX9_fit_193 (by decide) ?_
                            refine g_istore (pc := 198) (lv' := [(7, .int y3), (9, .int (1 : Int32)), (0, .ref (q 0)), (1, .int program), (2, .int start), (3, .int set), (4, .int n), (5, .int what), (6, .int y1), (8, .int y3)]) dX9_fit_198 (Nat.le_of_ble_eq_true rfl) rfl ?_
                            refine g_iinc (pc := 200) (j := 8) (1) (lf := fun x11 => [(6, .int x11), (7, .int y3), (9, .int (1 : Int32)), (0, .ref (q 0)), (1, .int program), (2, .int start), (3, .int set), (4, .int n), (5, .int what), (8, .int y3)]) dX9_fit_200 rfl (by decide) (Nat.le_of_ble_eq_true rfl) (fun _ => rfl) (fun x11 => ?_)
                            refine g_iinc (pc := 203) (j := 9) (1) (lf := fun x12 => [(8, .int x12), (6, .int x11), (7, .int y3), (9, .int (1 : Int32)), (0, .ref (q 0)), (1, .int program), (2, .int start), (3, .int set), (4, .int n), (5, .int what)]) dX9_fit_203 rfl (by decide) (Nat.le_of_ble_eq_true rfl) (fun _ => rfl) (fun x12 => ?_)
                            refine g_goto (pc := 206) 72 dX9_fit_206 (by decide) ?_
                            exact g_sub [4, 5, 6, 7, 8, 9, 1, 2, 0] rfl (ih72 (x11, y3, x12, s3))
                  · refine g_aload_n (pc := 109) 0 dX9_fit_109 rfl rfl ?_
                    refine gf_9_shownMany (pc := 110) kf_X9_44 dX9_fit_110 ?_
                    refine g_iconst (pc := 113) (1) dX9_fit_113 (by decide) ?_
                    refine a_ild (pc := 114) aM_shownMany dX9_fit_114 ?_
                    refine g_iload (pc := 115) 4 dX9_fit_115 rfl ?_
                    refine g_icmp_lt (pc := 117) 124 dX9_fit_117 (by decide) ?_ ?_
                    · refine g_iconst (pc := 124) (0) dX9_fit_124 (by decide) ?_
                      refine g_goto (pc := 125) 148 dX9_fit_125 (by decide) ?_
                      refine g_istore (pc := 148) (lv' := [(9, .int (0 : Int32)), (0, .ref (q 0)), (1, .int program), (2, .int start), (3, .int set), (4, .int n), (5, .int what), (6, .int y1), (7, .int y2), (8, .int y3)]) dX9_fit_148 (Nat.le_of_ble_eq_true rfl) rfl ?_
                      refine g_iload (pc := 150) 0 dX9_fit_150 rfl ?_
                      refine g_ifeq_y (pc := 152) 203 (by decide) dX9_fit_152 (by decide) ?_
                      refine g_iinc (pc := 203) (j := 9) (1) (lf := fun x13 => [(8, .int x13), (9, .int (0 : Int32)), (0, .ref (q 0)), (1, .int program), (2, .int start), (3, .int set), (4, .int n), (5, .int what), (6, .int y1), (7, .int y2)]) dX9_fit_203 rfl (by decide) (Nat.le_of_ble_eq_true rfl) (fun _ => rfl) (fun x13 => ?_)
                      refine g_goto (pc := 206) 72 dX9_fit_206 (by decide) ?_
                      exact g_sub [2, 3, 4, 5, 6, 7, 8, 9, 0] rfl (ih72 (y1, y2, x13, s3))
                    · refine g_iconst (pc := 120) (1) dX9_fit_120 (by decide) ?_
                      refine g_goto (pc := 121) 148 dX9_fit_121 (by decide) ?_
                      refine g_istore (pc := 148) (lv' := [(9, .int (1 : Int32)), (0, .ref (q 0)), (1, .int program), (2, .int start), (3, .int set), (4, .int n), (5, .int what), (6, .int y1), (7, .int y2), (8, .int y3)]) dX9_fit_148 (Nat.le_of_ble_eq_true rfl) rfl ?_
                      refine g_iload (pc := 150) 0 dX9_fit_150 rfl ?_
                      refine g_ifeq_n (pc := 152) 203 (by decide) dX9_fit_152 (by decide) ?_
                      refine g_aload_n (pc := 155) 1 dX9_fit_155 rfl rfl ?_
                      refine g_iconst (pc := 156) (0) dX9_fit_156 (by decide) ?_
                      refine g_iconst (pc := 157) (1) dX9_fit_157 (by decide) ?_
                      refine g_aload_n (pc := 158) 1 dX9_fit_158 rfl rfl ?_
                      refine gf_9_shownMany (pc := 159) kf_X9_44 dX9_fit_159 ?_
                      refine g_iconst (pc := 162) (0) dX9_fit_162 (by decide) ?_
                      refine a_ild (pc := 163) aM_shownMany dX9_fit_163 ?_
                      refine g_iload (pc := 164) 5 dX9_fit_164 rfl ?_
                      refine g_icmp_ge (pc := 166) 178 dX9_fit_166 (by decide) ?_ ?_
                      · refine g_iload (pc := 178) 5 dX9_fit_178 rfl ?_
                        refine gV_i (pc := 180) [.int (0 : Int32), .int (1 : Int32), .int n] [] (m_X9_areShownAlike l D cy q s3 (0 : Int32) (1 : Int32) n) cw_X9_areShownAlike km_X9_206 ⟨rfl, rfl, by decide, by decide⟩ (Nat.le_of_ble_eq_true rfl) (eM_9 (cy := cy) (s3.1 0) (s3.2 0)) rfl dX9_fit_180 rfl rfl (Nat.le_of_ble_eq_true rfl) (fun r9 => ?_)
                        refine g_if_eq (pc := 183) 203 dX9_fit_183 (by decide) ?_ ?_
                        · refine g_iinc (pc := 203) (j := 9) (1) (lf := fun x14 => [(8, .int x14), (9, .int (1 : Int32)), (0, .ref (q 0)), (1, .int program), (2, .int start), (3, .int set), (4, .int n), (5, .int what), (6, .int y1), (7, .int y2)]) dX9_fit_203 rfl (by decide) (Nat.le_of_ble_eq_true rfl) (fun _ => rfl) (fun x14 => ?_)
                          refine g_goto (pc := 206) 72 dX9_fit_206 (by decide) ?_
                          exact g_sub [2, 3, 4, 5, 6, 7, 8, 9, 0] rfl (ih72 (y1, y2, x14, s3))
                        · refine g_iload (pc := 186) 7 dX9_fit_186 rfl ?_
                          refine g_if_ne (pc := 188) 196 dX9_fit_188 (by decide) ?_ ?_
                          · refine g_iload (pc := 196) 8 dX9_fit_196 rfl ?_
                            refine g_istore (pc := 198) (lv' := [(7, .int y2), (9, .int (1 : Int32)), (0, .ref (q 0)), (1, .int program), (2, .int start), (3, .int set), (4, .int n), (5, .int what), (6, .int y1), (8, .int y3)]) dX9_fit_198 (Nat.le_of_ble_eq_true rfl) rfl ?_
                            refine g_iinc (pc := 200) (j := 8) (1) (lf := fun x15 => [(6, .int x15), (7, .int y2), (9, .int (1 : Int32)), (0, .ref (q 0)), (1, .int program), (2, .int start), (3, .int set), (4, .int n), (5, .int what), (8, .int y3)]) dX9_fit_200 rfl (by decide) (Nat.le_of_ble_eq_true rfl) (fun _ => rfl) (fun x15 => ?_)
                            refine g_iinc (pc := 203) (j := 9) (1) (lf := fun x16 => [(8, .int x16), (6, .int x15), (7, .int y2), (9, .int (1 : Int32)), (0, .ref (q 0)), (1, .int program), (2, .int start), (3, .int set), (4, .int n), (5, .int what)]) dX9_fit_203 rfl (by decide) (Nat.le_of_ble_eq_true rfl) (fun _ => rfl) (fun x16 => ?_)
                            refine g_goto (pc := 206) 72 dX9_fit_206 (by decide) ?_
                            exact g_sub [4, 5, 6, 7, 8, 9, 1, 2, 0] rfl (ih72 (x15, y2, x16, s3))
                          · refine g_iload (pc := 191) 9 dX9_fit_191 rfl ?_
                            refine g_goto (pc := 193) 198 dX9_fit_193 (by decide) ?_
                            refine g_istore (pc := 198) (lv' := [(7, .int y3), (9, .int (1 : Int32)), (0, .ref (q 0)), (1, .int program), (2, .int start), (3, .int set), (4, .int n), (5, .int what), (6, .int y1), (8, .int y3)]) dX9_fit_198 (Nat.le_of_ble_eq_true rfl) rfl ?_
                            refine g_iinc (pc := 200) (j := 8) (1) (lf := fun x17 => [(6, .int x17), (7, .int y3), (9, .int (1 : Int32)), (0, .ref (q 0)), (1, .int program), (2, .int start), (3, .int set), (4, .int n), (5, .int what), (8, .int y3)]) dX9_fit_200 rfl (by decide) (Nat.le_of_ble_eq_true rfl) (fun _ => rfl) (fun x17 => ?_)
                            refine g_iinc (pc := 203) (j := 9) (1) (lf := fun x18 => [(8, .int x18), (6, .int x17), (7, .int y3), (9, .int (1 : Int32)), (0, .ref (q 0)), (1, .int program), (2, .int start), (3, .int set), (4, .int n), (5, .int what)]) dX9_fit_203 rfl (by decide) (Nat.le_of_ble_eq_true rfl) (fun _ => rfl) (fun x18 => ?_)
                            refine g_goto (pc := 206) 72 dX9_fit_206 (by decide) ?_
                            exact g_sub [4, 5, 6, 7, 8, 9, 1, 2, 0] rfl (ih72 (x17, y3, x18, s3))
                      · refine g_aload_n (pc := 169) 1 dX9_fit_169 rfl rfl ?_
                        refine gf_9_shownMany (pc := 170) kf_X9_44 dX9_fit_170 ?_
                        refine g_iconst (pc := 173) (0) dX9_fit_173 (by decide) ?_
                        refine a_ild (pc := 174) aM_shownMany dX9_fit_174 ?_
                        refine g_goto (pc := 175) 180 dX9_fit_175 (by decide) ?_
                        refine gV_i (pc := 180) [.int (0 : Int32), .int (1 : Int32), .int (s3.1 12 (0 : Int32).toNatClampNeg)] [] (m_X9_areShownAlike l D cy q s3 (0 : Int32) (1 : Int32) (s3.1 12 (0 : Int32).toNatClampNeg)) cw_X9_areShownAlike km_X9_206 ⟨rfl, rfl, by decide, by decide⟩ (Nat.le_of_ble_eq_true rfl) (eM_9 (cy := cy) (s3.1 0) (s3.2 0)) rfl dX9_fit_180 rfl rfl (Nat.le_of_ble_eq_true rfl) (fun r10 => ?_)
                        refine g_if_eq (pc := 183) 203 dX9_fit_183 (by decide) ?_ ?_
                        · refine g_iinc (pc := 203) (j := 9) (1) (lf := fun x19 => [(8, .int x19), (9, .int (1 : Int32)), (0, .ref (q 0)), (1, .int program), (2, .int start), (3, .int set), (4, .int n), (5, .int what), (6, .int y1), (7, .int y2)]) dX9_fit_203 rfl (by decide) (Nat.le_of_ble_eq_true rfl) (fun _ => rfl) (fun x19 => ?_)
                          refine g_goto (pc := 206) 72 dX9_fit_206 (by decide) ?_
                          exact g_sub [2, 3, 4, 5, 6, 7, 8, 9, 0] rfl (ih72 (y1, y2, x19, s3))
                        · refine g_iload (pc := 186) 7 dX9_fit_186 rfl ?_
                          refine g_if_ne (pc := 188) 196 dX9_fit_188 (by decide) ?_ ?_
                          · refine g_iload (pc := 196) 8 dX9_fit_196 rfl ?_
                            refine g_istore (pc := 198) (lv' := [(7, .int y2), (9, .int (1 : Int32)), (0, .ref (q 0)), (1, .int program), (2, .int start), (3, .int set), (4, .int n), (5, .int what), (6, .int y1), (8, .int y3)]) dX9_fit_198 (Nat.le_of_ble_eq_true rfl) rfl ?_
                            refine g_iinc (pc := 200) (j := 8) (1) (lf := fun x20 => [(6, .int x20), (7, .int y2), (9, .int (1 : Int32)), (0, .ref (q 0)), (1, .int program), (2, .int start), (3, .int set), (4, .int n), (5, .int what), (8, .int y3)]) dX9_fit_200 rfl (by decide) (Nat.le_of_ble_eq_true rfl) (fun _ => rfl) (fun x20 => ?_)
                            refine g_iinc (pc := 203) (j := 9) (1) (lf := fun x21 => [(8, .int x21), (6, .int x20), (7, .int y2), (9, .int (1 : Int32)), (0, .ref (q 0)), (1, .int program), (2, .int start), (3, .int set), (4, .int n), (5, .int what)]) dX9_fit_203 rfl (by decide) (Nat.le_of_ble_eq_true rfl) (fun _ => rfl) (fun x21 => ?_)
                            refine g_goto (pc := 206) 72 dX9_fit_206 (by decide) ?_
                            exact g_sub [4, 5, 6, 7, 8, 9, 1, 2, 0] rfl (ih72 (x20, y2, x21, s3))
                          · refine g_iload (pc := 191) 9 dX9_fit_191 rfl ?_
                            refine g_goto (pc := 193) 198 dX9_fit_193 (by decide) ?_
                            refine g_istore (pc := 198) (lv' := [(7, .int y3), (9, .int (1 : Int32)), (0, .ref (q 0)), (1, .int program), (2, .int start), (3, .int set), (4, .int n), (5, .int what), (6, .int y1), (8, .int y3)]) dX9_fit_198 (Nat.le_of_ble_eq_true rfl) rfl ?_
                            refine g_iinc (pc := 200) (j := 8) (1) (lf := fun x22 => [(6, .int x22), (7, .int y3), (9, .int (1 : Int32)), (0, .ref (q 0)), (1, .int program), (2, .int start), (3, .int set), (4, .int n), (5, .int what), (8, .int y3)]) dX9_fit_200 rfl (by decide) (Nat.le_of_ble_eq_true rfl) (fun _ => rfl) (fun x22 => ?_)
                            refine g_iinc (pc := 203) (j := 9) (1) (lf := fun x23 => [(8, .int x23), (6, .int x22), (7, .int y3), (9, .int (1 : Int32)), (0, .ref (q 0)), (1, .int program), (2, .int start), (3, .int set), (4, .int n), (5, .int what)]) dX9_fit_203 rfl (by decide) (Nat.le_of_ble_eq_true rfl) (fun _ => rfl) (fun x23 => ?_)
                            refine g_goto (pc := 206) 72 dX9_fit_206 (by decide) ?_
                            exact g_sub [4, 5, 6, 7, 8, 9, 1, 2, 0] rfl (ih72 (x22, y3, x23, s3))
          · refine g_bipush (pc := 52) (-2) dX9_fit_52 (by decide) ?_
            exact g_iret (pc := 54) (hro _) rfl dX9_fit_54
  · refine g_iconst (pc := 7) (-1) dX9_fit_7 (by decide) ?_
    exact g_iret (pc := 8) (hro _) rfl dX9_fit_8
