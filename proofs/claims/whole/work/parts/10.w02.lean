def b_X4_traceAll_2 (pa : Nat) : (Int32 × St) → Option ((Int32 × St) ⊕ (St)) := un fun y1 s1 => (if (256 : Int32) ≤ y1 then some (.inr s1) else (f_X4_trace pa y1 s1).bind fun s2 => nm (y1 + (1 : Int32)) fun x1 => some (.inl (x1, s2)))
def f_X4_traceAll (pa : Nat) (σ : St) : Option (St) := (wh FU (b_X4_traceAll_2 pa) ((0 : Int32), σ)).bind (fun s3 => some s3)
abbrev rm_X4_traceAll : Room := { frames := 3, cells := 0, slots := 0, locals := 79 }
set_option maxHeartbeats 4000000 in
set_option maxRecDepth 20000 in
theorem m_X4_traceAll (l : Launch) (D : va_G) (cy : Cy) (q : Nat → Nat) (σ : St) (pa : Nat) (hpa : isP pa) : ∀ res, f_X4_traceAll pa σ = some res → MetX (vX D cy q) l yX4_traceAll cX4_traceAll 2 none rm_X4_traceAll [.ref (q pa)] σ (none, res) := by
  let fin_ : St → Option Value × St := fun r => (none, r)
  have hro : ∀ (z : St) (res : St), some z = some res → fin_ res = fin_ z := fun z res h => by cases h; rfl
  refine MetX.of1 (fin := fin_) (lv := [(0, .ref (q pa))]) (by decide) (Nat.le_of_ble_eq_true rfl) rfl ?_
  unfold f_X4_traceAll
  refine g_iconst (pc := 0) (0) dX4_traceAll_0 (by decide) ?_
  refine g_istore_n (pc := 1) (lv' := [(1, .int (0 : Int32)), (0, .ref (q pa))]) dX4_traceAll_1 rfl (Nat.le_of_ble_eq_true rfl) rfl ?_
  refine g_sub [1, 0] rfl ?_
  refine g_wh2 (pc := 2) (s0 := ((0 : Int32), σ)) (fun (w_ : Int32 × St) => w_.2) (fun (w_ : Int32 × St) => [(0, .ref (q pa)), (1, .int w_.1)]) (fun (w_ : St) => w_) (fun (w_ : St) => []) 20 ?_ ?_
  · rintro s3
    try dsimp only [un, Sum.elim_inl]
    exact g_vret (pc := 20) (hro _) rfl dX4_traceAll_20
  · intro K2 hx2 ih2
    rintro ⟨y1, s1⟩
    try dsimp only [b_X4_traceAll_2, un]
    refine g_iload_n (pc := 2) 1 dX4_traceAll_2 rfl rfl ?_
    refine g_sipush (pc := 3) (256) dX4_traceAll_3 (by decide) ?_
    refine g_icmp_ge (pc := 6) 20 dX4_traceAll_6 (by decide) ?_ ?_
    · exact g_sub [] rfl (hx2 s1)
    · refine g_aload_n (pc := 9) 0 dX4_traceAll_9 rfl rfl ?_
      refine g_iload_n (pc := 10) 1 dX4_traceAll_10 rfl rfl ?_
      refine gV_v (pc := 11) [.int y1] [] (m_X4_trace l D cy q s1 pa y1 hpa) cw_X4_trace km_X4_77 ⟨rfl, rfl, by decide, by decide⟩ (by have := hpa.lt; show pa < 88; omega) (eX_4 (cy := cy) hpa (s1.1 pa) (s1.2 pa)) rfl dX4_traceAll_11 rfl rfl (Nat.le_of_ble_eq_true rfl) (fun s2 => ?_)
      refine g_iinc (pc := 14) (j := 1) (1) (lf := fun x1 => [(1, .int x1), (0, .ref (q pa))]) dX4_traceAll_14 rfl (by decide) (Nat.le_of_ble_eq_true rfl) (fun _ => rfl) (fun x1 => ?_)
      refine g_goto (pc := 17) 2 dX4_traceAll_17 (by decide) ?_
      exact g_sub [1, 0] rfl (ih2 (x1, s2))
def b_X3_judgeStart_2 (start : Int32) (q_ : Nat) : (Int32 × St) → Option ((Int32 × St) ⊕ (St)) := un fun y1 s1 => (if (256 : Int32) ≤ y1 then some (.inr s1) else (f_X0_isMeant y1 s1).bind fun r1 => (if r1 = (0 : Int32) then nm (y1 + (1 : Int32)) fun x4 => some (.inl (x4, s1)) else nm (stI s1 72 4 ((s1.1 72 4) + (1 : Int32))) fun s2 => (f_X0_isBroken q_ y1 s2).bind fun r2 => (if r2 = (0 : Int32) then nm (y1 + (1 : Int32)) fun x1 => some (.inl (x1, s2)) else nm (stI s2 72 2 ((s2.1 72 2) + (1 : Int32))) fun s3 => (if (s3.1 72 3) = (-6 : Int32) then nm (stI s3 72 3 ((start * (256 : Int32)) + y1)) fun s5 => nm (y1 + (1 : Int32)) fun x3 => some (.inl (x3, s5)) else nm (stI s3 72 3 (s3.1 72 3)) fun s4 => nm (y1 + (1 : Int32)) fun x2 => some (.inl (x2, s4))))))
def f_X3_judgeStart (start : Int32) (q_ : Nat) (σ : St) : Option (St) := (wh FU (b_X3_judgeStart_2 start q_) ((0 : Int32), σ)).bind (fun s6 => some s6)
abbrev rm_X3_judgeStart : Room := { frames := 1, cells := 0, slots := 0, locals := 22 }
set_option maxHeartbeats 4000000 in
set_option maxRecDepth 20000 in
theorem m_X3_judgeStart (l : Launch) (D : va_G) (cy : Cy) (q : Nat → Nat) (σ : St) (start : Int32) (q_ : Nat) (hq_ : isP q_) : ∀ res, f_X3_judgeStart start q_ σ = some res → MetX (vX D cy q) l yX3_judgeStart cX3_judgeStart 4 none rm_X3_judgeStart [.ref (q 72), .int start, .ref (q q_)] σ (none, res) := by
  let fin_ : St → Option Value × St := fun r => (none, r)
  have hro : ∀ (z : St) (res : St), some z = some res → fin_ res = fin_ z := fun z res h => by cases h; rfl
  refine MetX.of1 (fin := fin_) (lv := [(0, .ref (q 72)), (1, .int start), (2, .ref (q q_))]) (by decide) (Nat.le_of_ble_eq_true rfl) rfl ?_
  unfold f_X3_judgeStart
  refine g_iconst (pc := 0) (0) dX3_judgeStart_0 (by decide) ?_
  refine g_istore_n (pc := 1) (lv' := [(3, .int (0 : Int32)), (0, .ref (q 72)), (1, .int start), (2, .ref (q q_))]) dX3_judgeStart_1 rfl (Nat.le_of_ble_eq_true rfl) rfl ?_
  refine g_sub [1, 2, 3, 0] rfl ?_
  refine g_wh2 (pc := 2) (s0 := ((0 : Int32), σ)) (fun (w_ : Int32 × St) => w_.2) (fun (w_ : Int32 × St) => [(0, .ref (q 72)), (1, .int start), (2, .ref (q q_)), (3, .int w_.1)]) (fun (w_ : St) => w_) (fun (w_ : St) => []) 88 ?_ ?_
  · rintro s6
    try dsimp only [un, Sum.elim_inl]
    exact g_vret (pc := 88) (hro _) rfl dX3_judgeStart_88
  · intro K2 hx2 ih2
    rintro ⟨y1, s1⟩
    try dsimp only [b_X3_judgeStart_2, un]
    refine g_iload_n (pc := 2) 3 dX3_judgeStart_2 rfl rfl ?_
    refine g_sipush (pc := 3) (256) dX3_judgeStart_3 (by decide) ?_
    refine g_icmp_ge (pc := 6) 88 dX3_judgeStart_6 (by decide) ?_ ?_
    · exact g_sub [] rfl (hx2 s1)
    · refine g_aload_n (pc := 9) 0 dX3_judgeStart_9 rfl rfl ?_
      refine gf_3_asked (pc := 10) kf_X3_9 dX3_judgeStart_10 ?_
      refine g_iload_n (pc := 13) 3 dX3_judgeStart_13 rfl rfl ?_
      refine gV_i (pc := 14) [.int y1] [] (m_X0_isMeant l D cy q s1 y1) cw_X0_isMeant km_X3_46 ⟨rfl, rfl, by decide, by decide⟩ (Nat.le_of_ble_eq_true rfl) (eX_0 (cy := cy) (s1.1 71) (s1.2 71)) rfl dX3_judgeStart_14 rfl rfl (Nat.le_of_ble_eq_true rfl) (fun r1 => ?_)
      refine g_if_ne (pc := 17) 23 dX3_judgeStart_17 (by decide) ?_ ?_
      · refine g_aload_n (pc := 23) 0 dX3_judgeStart_23 rfl rfl ?_
        refine g_dup (pc := 24) dX3_judgeStart_24 rfl ?_
        refine gf_3_meant (pc := 25) kf_X3_30 dX3_judgeStart_25 ?_
        refine g_iconst (pc := 28) (1) dX3_judgeStart_28 (by decide) ?_
        refine g_iadd (pc := 29) dX3_judgeStart_29 ?_
        refine gp_3_meant (pc := 30) kf_X3_30 dX3_judgeStart_30 (fun s2 => ?_)
        refine g_aload_n (pc := 33) 0 dX3_judgeStart_33 rfl rfl ?_
        refine gf_3_asked (pc := 34) kf_X3_9 dX3_judgeStart_34 ?_
        refine g_aload_n (pc := 37) 2 dX3_judgeStart_37 rfl rfl ?_
        refine g_iload_n (pc := 38) 3 dX3_judgeStart_38 rfl rfl ?_
        refine gV_i (pc := 39) [.ref (q q_), .int y1] [] (m_X0_isBroken l D cy q s2 q_ y1 hq_) cw_X0_isBroken km_X3_50 ⟨rfl, rfl, by decide, by decide⟩ (Nat.le_of_ble_eq_true rfl) (eX_0 (cy := cy) (s2.1 71) (s2.2 71)) rfl dX3_judgeStart_39 rfl rfl (Nat.le_of_ble_eq_true rfl) (fun r2 => ?_)
        refine g_if_eq (pc := 42) 82 dX3_judgeStart_42 (by decide) ?_ ?_
        · refine g_iinc (pc := 82) (j := 3) (1) (lf := fun x1 => [(3, .int x1), (0, .ref (q 72)), (1, .int start), (2, .ref (q q_))]) dX3_judgeStart_82 rfl (by decide) (Nat.le_of_ble_eq_true rfl) (fun _ => rfl) (fun x1 => ?_)
          refine g_goto (pc := 85) 2 dX3_judgeStart_85 (by decide) ?_
          exact g_sub [1, 2, 3, 0] rfl (ih2 (x1, s2))
        · refine g_aload_n (pc := 45) 0 dX3_judgeStart_45 rfl rfl ?_
          refine g_dup (pc := 46) dX3_judgeStart_46 rfl ?_
          refine gf_3_broken (pc := 47) kf_X3_24 dX3_judgeStart_47 ?_
          refine g_iconst (pc := 50) (1) dX3_judgeStart_50 (by decide) ?_
          refine g_iadd (pc := 51) dX3_judgeStart_51 ?_
          refine gp_3_broken (pc := 52) kf_X3_24 dX3_judgeStart_52 (fun s3 => ?_)
          refine g_aload_n (pc := 55) 0 dX3_judgeStart_55 rfl rfl ?_
          refine g_aload_n (pc := 56) 0 dX3_judgeStart_56 rfl rfl ?_
          refine gf_3_firstBroken (pc := 57) kf_X3_27 dX3_judgeStart_57 ?_
          refine g_bipush (pc := 60) (-6) dX3_judgeStart_60 (by decide) ?_
          refine g_icmp_ne (pc := 62) 75 dX3_judgeStart_62 (by decide) ?_ ?_
          · refine g_aload_n (pc := 75) 0 dX3_judgeStart_75 rfl rfl ?_
            refine gf_3_firstBroken (pc := 76) kf_X3_27 dX3_judgeStart_76 ?_
            refine gp_3_firstBroken (pc := 79) kf_X3_27 dX3_judgeStart_79 (fun s4 => ?_)
            refine g_iinc (pc := 82) (j := 3) (1) (lf := fun x2 => [(3, .int x2), (0, .ref (q 72)), (1, .int start), (2, .ref (q q_))]) dX3_judgeStart_82 rfl (by decide) (Nat.le_of_ble_eq_true rfl) (fun _ => rfl) (fun x2 => ?_)
            refine g_goto (pc := 85) 2 dX3_judgeStart_85 (by decide) ?_
            exact g_sub [1, 2, 3, 0] rfl (ih2 (x2, s4))
          · refine g_iload_n (pc := 65) 1 dX3_judgeStart_65 rfl rfl ?_
            refine g_sipush (pc := 66) (256) dX3_judgeStart_66 (by decide) ?_
            refine g_imul (pc := 69) dX3_judgeStart_69 ?_
            refine g_iload_n (pc := 70) 3 dX3_judgeStart_70 rfl rfl ?_
            refine g_iadd (pc := 71) dX3_judgeStart_71 ?_
            refine g_goto (pc := 72) 79 dX3_judgeStart_72 (by decide) ?_
            refine gp_3_firstBroken (pc := 79) kf_X3_27 dX3_judgeStart_79 (fun s5 => ?_)
            refine g_iinc (pc := 82) (j := 3) (1) (lf := fun x3 => [(3, .int x3), (0, .ref (q 72)), (1, .int start), (2, .ref (q q_))]) dX3_judgeStart_82 rfl (by decide) (Nat.le_of_ble_eq_true rfl) (fun _ => rfl) (fun x3 => ?_)
            refine g_goto (pc := 85) 2 dX3_judgeStart_85 (by decide) ?_
            exact g_sub [1, 2, 3, 0] rfl (ih2 (x3, s5))
      · refine g_goto (pc := 20) 82 dX3_judgeStart_20 (by decide) ?_
        refine g_iinc (pc := 82) (j := 3) (1) (lf := fun x4 => [(3, .int x4), (0, .ref (q 72)), (1, .int start), (2, .ref (q q_))]) dX3_judgeStart_82 rfl (by decide) (Nat.le_of_ble_eq_true rfl) (fun _ => rfl) (fun x4 => ?_)
        refine g_goto (pc := 85) 2 dX3_judgeStart_85 (by decide) ?_
        exact g_sub [1, 2, 3, 0] rfl (ih2 (x4, s1))
def b_X3_judge_33 (saying : Nat) (p : Nat) (q_ : Nat) : (Int32 × St) → Option ((Int32 × St) ⊕ (St)) := un fun y1 s7 => (if (256 : Int32) ≤ y1 then some (.inr s7) else nm ((s7.1 72 4) - (s7.1 72 2)) fun x1 => (f_X0_take saying p y1 s7).bind fun s8 => (f_X3_judgeStart y1 q_ s8).bind fun s9 => (if (s9.1 72 5) = (-6 : Int32) then (if ((s9.1 72 4) - (s9.1 72 2)) = x1 then nm (stI s9 72 5 y1) fun s10 => nm (y1 + (1 : Int32)) fun x4 => some (.inl (x4, s10)) else nm (y1 + (1 : Int32)) fun x3 => some (.inl (x3, s9))) else nm (y1 + (1 : Int32)) fun x2 => some (.inl (x2, s9))))
def f_X3_judge (saying : Nat) (p : Nat) (q_ : Nat) (σ : St) : Option (St) := (f_X4_traceAll p σ).bind fun s1 => (f_X4_traceAll q_ s1).bind fun s2 => nm (stI s2 72 2 (0 : Int32)) fun s3 => nm (stI s3 72 3 (-6 : Int32)) fun s4 => nm (stI s4 72 4 (0 : Int32)) fun s5 => nm (stI s5 72 5 (-6 : Int32)) fun s6 => (wh FU (b_X3_judge_33 saying p q_) ((0 : Int32), s6)).bind (fun s11 => some s11)
abbrev rm_X3_judge : Room := { frames := 4, cells := 0, slots := 0, locals := 100 }
set_option maxHeartbeats 4000000 in
set_option maxRecDepth 20000 in
theorem m_X3_judge (l : Launch) (D : va_G) (cy : Cy) (q : Nat → Nat) (σ : St) (saying : Nat) (p : Nat) (q_ : Nat) (hsaying : isS saying) (hp : isP p) (hq_ : isP q_) : ∀ res, f_X3_judge saying p q_ σ = some res → MetX (vX D cy q) l yX3_judge cX3_judge 6 none rm_X3_judge [.ref (q 72), .ref (q saying), .ref (q p), .ref (q q_)] σ (none, res) := by
  let fin_ : St → Option Value × St := fun r => (none, r)
  have hro : ∀ (z : St) (res : St), some z = some res → fin_ res = fin_ z := fun z res h => by cases h; rfl
  refine MetX.of1 (fin := fin_) (lv := [(0, .ref (q 72)), (1, .ref (q saying)), (2, .ref (q p)), (3, .ref (q q_))]) (by decide) (Nat.le_of_ble_eq_true rfl) rfl ?_
  unfold f_X3_judge
  refine g_aload_n (pc := 0) 2 dX3_judge_0 rfl rfl ?_
  refine gV_v (pc := 1) [] [] (m_X4_traceAll l D cy q σ p hp) cw_X4_traceAll km_X3_19 ⟨rfl, rfl, by decide, by decide⟩ (by have := hp.lt; show p < 88; omega) (eX_4 (cy := cy) hp (σ.1 p) (σ.2 p)) rfl dX3_judge_1 rfl rfl (Nat.le_of_ble_eq_true rfl) (fun s1 => ?_)
  refine g_aload_n (pc := 4) 3 dX3_judge_4 rfl rfl ?_
  refine gV_v (pc := 5) [] [] (m_X4_traceAll l D cy q s1 q_ hq_) cw_X4_traceAll km_X3_19 ⟨rfl, rfl, by decide, by decide⟩ (by have := hq_.lt; show q_ < 88; omega) (eX_4 (cy := cy) hq_ (s1.1 q_) (s1.2 q_)) rfl dX3_judge_5 rfl rfl (Nat.le_of_ble_eq_true rfl) (fun s2 => ?_)
  refine g_aload_n (pc := 8) 0 dX3_judge_8 rfl rfl ?_
  refine g_iconst (pc := 9) (0) dX3_judge_9 (by decide) ?_
  refine gp_3_broken (pc := 10) kf_X3_24 dX3_judge_10 (fun s3 => ?_)
  refine g_aload_n (pc := 13) 0 dX3_judge_13 rfl rfl ?_
  refine g_bipush (pc := 14) (-6) dX3_judge_14 (by decide) ?_
  refine gp_3_firstBroken (pc := 16) kf_X3_27 dX3_judge_16 (fun s4 => ?_)
  refine g_aload_n (pc := 19) 0 dX3_judge_19 rfl rfl ?_
  refine g_iconst (pc := 20) (0) dX3_judge_20 (by decide) ?_
  refine gp_3_meant (pc := 21) kf_X3_30 dX3_judge_21 (fun s5 => ?_)
  refine g_aload_n (pc := 24) 0 dX3_judge_24 rfl rfl ?_
  refine g_bipush (pc := 25) (-6) dX3_judge_25 (by decide) ?_
  refine gp_3_lone (pc := 27) kf_X3_33 dX3_judge_27 (fun s6 => ?_)
  refine g_iconst (pc := 30) (0) dX3_judge_30 (by decide) ?_
  refine g_istore (pc := 31) (lv' := [(4, .int (0 : Int32)), (0, .ref (q 72)), (1, .ref (q saying)), (2, .ref (q p)), (3, .ref (q q_))]) dX3_judge_31 (Nat.le_of_ble_eq_true rfl) rfl ?_
  refine g_sub [1, 2, 3, 4, 0] rfl ?_
  refine g_wh2 (pc := 33) (s0 := ((0 : Int32), s6)) (fun (w_ : Int32 × St) => w_.2) (fun (w_ : Int32 × St) => [(0, .ref (q 72)), (1, .ref (q saying)), (2, .ref (q p)), (3, .ref (q q_)), (4, .int w_.1)]) (fun (w_ : St) => w_) (fun (w_ : St) => []) 105 ?_ ?_
  · rintro s11
    try dsimp only [un, Sum.elim_inl]
    exact g_vret (pc := 105) (hro _) rfl dX3_judge_105
  · intro K33 hx33 ih33
    rintro ⟨y1, s7⟩
    try dsimp only [b_X3_judge_33, un]
    refine g_iload (pc := 33) 4 dX3_judge_33 rfl ?_
    refine g_sipush (pc := 35) (256) dX3_judge_35 (by decide) ?_
    refine g_icmp_ge (pc := 38) 105 dX3_judge_38 (by decide) ?_ ?_
    · exact g_sub [] rfl (hx33 s7)
    · refine g_aload_n (pc := 41) 0 dX3_judge_41 rfl rfl ?_
      refine gf_3_meant (pc := 42) kf_X3_30 dX3_judge_42 ?_
      refine g_aload_n (pc := 45) 0 dX3_judge_45 rfl rfl ?_
      refine gf_3_broken (pc := 46) kf_X3_24 dX3_judge_46 ?_
      refine g_isub (pc := 49) dX3_judge_49 ?_
      refine g_nmi (fun x1 => ?_)
      refine g_istore (pc := 50) (lv' := [(5, .int x1), (0, .ref (q 72)), (1, .ref (q saying)), (2, .ref (q p)), (3, .ref (q q_)), (4, .int y1)]) dX3_judge_50 (Nat.le_of_ble_eq_true rfl) rfl ?_
      refine g_aload_n (pc := 52) 1 dX3_judge_52 rfl rfl ?_
      refine gf_3_asked (pc := 53) kf_X3_9 dX3_judge_53 ?_
      refine g_aload_n (pc := 56) 2 dX3_judge_56 rfl rfl ?_
      refine g_aload_n (pc := 57) 3 dX3_judge_57 rfl rfl ?_
      refine g_iload (pc := 58) 5 dX3_judge_58 rfl ?_
      refine gV_v (pc := 60) [.ref (q saying), .ref (q p), .int y1] [] (m_X0_take l D cy q s7 saying p y1 hsaying hp) cw_X0_take km_X3_36 ⟨rfl, rfl, by decide, by decide⟩ (Nat.le_of_ble_eq_true rfl) (eX_0 (cy := cy) (s7.1 71) (s7.2 71)) rfl dX3_judge_60 rfl rfl (Nat.le_of_ble_eq_true rfl) (fun s8 => ?_)
      refine g_aload_n (pc := 63) 1 dX3_judge_63 rfl rfl ?_
      refine g_iload (pc := 64) 5 dX3_judge_64 rfl ?_
      refine g_aload_n (pc := 66) 4 dX3_judge_66 rfl rfl ?_
      refine gV_v (pc := 67) [.int y1, .ref (q q_)] [] (m_X3_judgeStart l D cy q s8 y1 q_ hq_) cw_X3_judgeStart km_X3_42 ⟨rfl, rfl, by decide, by decide⟩ (Nat.le_of_ble_eq_true rfl) (eX_3 (cy := cy) (s8.1 72) (s8.2 72)) rfl dX3_judge_67 rfl rfl (Nat.le_of_ble_eq_true rfl) (fun s9 => ?_)
      refine g_aload_n (pc := 70) 1 dX3_judge_70 rfl rfl ?_
      refine gf_3_lone (pc := 71) kf_X3_33 dX3_judge_71 ?_
      refine g_bipush (pc := 74) (-6) dX3_judge_74 (by decide) ?_
      refine g_icmp_ne (pc := 76) 99 dX3_judge_76 (by decide) ?_ ?_
      · refine g_iinc (pc := 99) (j := 5) (1) (lf := fun x2 => [(4, .int x2), (5, .int x1), (0, .ref (q 72)), (1, .ref (q saying)), (2, .ref (q p)), (3, .ref (q q_))]) dX3_judge_99 rfl (by decide) (Nat.le_of_ble_eq_true rfl) (fun _ => rfl) (fun x2 => ?_)
        refine g_goto (pc := 102) 33 dX3_judge_102 (by decide) ?_
        exact g_sub [2, 3, 4, 5, 0] rfl (ih33 (x2, s9))
      · refine g_aload_n (pc := 79) 1 dX3_judge_79 rfl rfl ?_
        refine gf_3_meant (pc := 80) kf_X3_30 dX3_judge_80 ?_
        refine g_aload_n (pc := 83) 1 dX3_judge_83 rfl rfl ?_
        refine gf_3_broken (pc := 84) kf_X3_24 dX3_judge_84 ?_
        refine g_isub (pc := 87) dX3_judge_87 ?_
        refine g_iload (pc := 88) 0 dX3_judge_88 rfl ?_
        refine g_icmp_ne (pc := 90) 99 dX3_judge_90 (by decide) ?_ ?_
        · refine g_iinc (pc := 99) (j := 5) (1) (lf := fun x3 => [(4, .int x3), (5, .int x1), (0, .ref (q 72)), (1, .ref (q saying)), (2, .ref (q p)), (3, .ref (q q_))]) dX3_judge_99 rfl (by decide) (Nat.le_of_ble_eq_true rfl) (fun _ => rfl) (fun x3 => ?_)
          refine g_goto (pc := 102) 33 dX3_judge_102 (by decide) ?_
          exact g_sub [2, 3, 4, 5, 0] rfl (ih33 (x3, s9))
        · refine g_aload_n (pc := 93) 1 dX3_judge_93 rfl rfl ?_
          refine g_iload (pc := 94) 5 dX3_judge_94 rfl ?_
          refine gp_3_lone (pc := 96) kf_X3_33 dX3_judge_96 (fun s10 => ?_)
          refine g_iinc (pc := 99) (j := 5) (1) (lf := fun x4 => [(4, .int x4), (5, .int x1), (0, .ref (q 72)), (1, .ref (q saying)), (2, .ref (q p)), (3, .ref (q q_))]) dX3_judge_99 rfl (by decide) (Nat.le_of_ble_eq_true rfl) (fun _ => rfl) (fun x4 => ?_)
          refine g_goto (pc := 102) 33 dX3_judge_102 (by decide) ?_
          exact g_sub [2, 3, 4, 5, 0] rfl (ih33 (x4, s10))
def f_X4_put (pa : Nat) (line : Int32) (newAct : Int32) (newA : Int32) (newB : Int32) (newC : Int32) (σ : St) : Option (St) := (if line < (0 : Int32) then some σ else (if line < (12 : Int32) then chk (inb line 12) (nm (stI σ (pa + 1) line.toNatClampNeg newAct) fun s1 => chk (inb line 12) (nm (stI s1 (pa + 2) line.toNatClampNeg newA) fun s2 => chk (inb line 12) (nm (stI s2 (pa + 3) line.toNatClampNeg newB) fun s3 => chk (inb line 12) (nm (stI s3 (pa + 4) line.toNatClampNeg newC) fun s4 => nm (stI s4 pa 7 ((s4.1 pa 7) + (1 : Int32))) fun s5 => some s5)))) else some σ))
abbrev rm_X4_put : Room := { frames := 0, cells := 0, slots := 0, locals := 0 }
set_option maxHeartbeats 4000000 in
set_option maxRecDepth 20000 in
theorem m_X4_put (l : Launch) (D : va_G) (cy : Cy) (q : Nat → Nat) (σ : St) (pa : Nat) (line : Int32) (newAct : Int32) (newA : Int32) (newB : Int32) (newC : Int32) (hpa : isP pa) : ∀ res, f_X4_put pa line newAct newA newB newC σ = some res → MetX (vX D cy q) l yX4_put cX4_put 6 none rm_X4_put [.ref (q pa), .int line, .int newAct, .int newA, .int newB, .int newC] σ (none, res) := by
  let fin_ : St → Option Value × St := fun r => (none, r)
  have hro : ∀ (z : St) (res : St), some z = some res → fin_ res = fin_ z := fun z res h => by cases h; rfl
  refine MetX.of1 (fin := fin_) (lv := [(0, .ref (q pa)), (1, .int line), (2, .int newAct), (3, .int newA), (4, .int newB), (5, .int newC)]) (by decide) (Nat.le_of_ble_eq_true rfl) rfl ?_
  unfold f_X4_put
  refine g_iload_n (pc := 0) 1 dX4_put_0 rfl rfl ?_
  refine g_if_lt (pc := 1) 10 dX4_put_1 (by decide) ?_ ?_
  · exact g_vret (pc := 10) (hro _) rfl dX4_put_10
  · refine g_iload_n (pc := 4) 1 dX4_put_4 rfl rfl ?_
    refine g_bipush (pc := 5) (12) dX4_put_5 (by decide) ?_
    refine g_icmp_lt (pc := 7) 11 dX4_put_7 (by decide) ?_ ?_
    · refine g_aload_n (pc := 11) 0 dX4_put_11 rfl rfl ?_
      refine gf_4_act (pc := 12) hpa kf_X4_15 dX4_put_12 ?_
      refine g_iload_n (pc := 15) 1 dX4_put_15 rfl rfl ?_
      refine g_iload_n (pc := 16) 2 dX4_put_16 rfl rfl ?_
      refine a_ist (pc := 17) (aX_4_act hpa) dX4_put_17 (fun s1 => ?_)
      refine g_aload_n (pc := 18) 0 dX4_put_18 rfl rfl ?_
      refine gf_4_a (pc := 19) hpa kf_X4_19 dX4_put_19 ?_
      refine g_iload_n (pc := 22) 1 dX4_put_22 rfl rfl ?_
      refine g_iload_n (pc := 23) 3 dX4_put_23 rfl rfl ?_
      refine a_ist (pc := 24) (aX_4_a hpa) dX4_put_24 (fun s2 => ?_)
      refine g_aload_n (pc := 25) 0 dX4_put_25 rfl rfl ?_
      refine gf_4_b (pc := 26) hpa kf_X4_22 dX4_put_26 ?_
      refine g_iload_n (pc := 29) 1 dX4_put_29 rfl rfl ?_
      refine g_iload (pc := 30) 4 dX4_put_30 rfl ?_
      refine a_ist (pc := 32) (aX_4_b hpa) dX4_put_32 (fun s3 => ?_)
      refine g_aload_n (pc := 33) 0 dX4_put_33 rfl rfl ?_
      refine gf_4_c (pc := 34) hpa kf_X4_25 dX4_put_34 ?_
      refine g_iload_n (pc := 37) 1 dX4_put_37 rfl rfl ?_
      refine g_iload (pc := 38) 5 dX4_put_38 rfl ?_
      refine a_ist (pc := 40) (aX_4_c hpa) dX4_put_40 (fun s4 => ?_)
      refine g_aload_n (pc := 41) 0 dX4_put_41 rfl rfl ?_
      refine g_dup (pc := 42) dX4_put_42 rfl ?_
      refine gf_4_age (pc := 43) hpa kf_X4_35 dX4_put_43 ?_
      refine g_iconst (pc := 46) (1) dX4_put_46 (by decide) ?_
      refine g_iadd (pc := 47) dX4_put_47 ?_
      refine gp_4_age (pc := 48) hpa kf_X4_35 dX4_put_48 (fun s5 => ?_)
      exact g_vret (pc := 51) (hro _) rfl dX4_put_51
    · exact g_vret (pc := 10) (hro _) rfl dX4_put_10
def f_X4_hush (pa : Nat) (lines : Int32) (σ : St) : Option (St) := nm (stI σ pa 6 lines) fun s1 => nm (stI s1 pa 7 ((s1.1 pa 7) + (1 : Int32))) fun s2 => some s2
abbrev rm_X4_hush : Room := { frames := 0, cells := 0, slots := 0, locals := 0 }
set_option maxHeartbeats 4000000 in
set_option maxRecDepth 20000 in
theorem m_X4_hush (l : Launch) (D : va_G) (cy : Cy) (q : Nat → Nat) (σ : St) (pa : Nat) (lines : Int32) (hpa : isP pa) : ∀ res, f_X4_hush pa lines σ = some res → MetX (vX D cy q) l yX4_hush cX4_hush 2 none rm_X4_hush [.ref (q pa), .int lines] σ (none, res) := by
  let fin_ : St → Option Value × St := fun r => (none, r)
  have hro : ∀ (z : St) (res : St), some z = some res → fin_ res = fin_ z := fun z res h => by cases h; rfl
  refine MetX.of1 (fin := fin_) (lv := [(0, .ref (q pa)), (1, .int lines)]) (by decide) (Nat.le_of_ble_eq_true rfl) rfl ?_
  unfold f_X4_hush
  refine g_aload_n (pc := 0) 0 dX4_hush_0 rfl rfl ?_
  refine g_iload_n (pc := 1) 1 dX4_hush_1 rfl rfl ?_
  refine gp_4_hushed (pc := 2) hpa kf_X4_32 dX4_hush_2 (fun s1 => ?_)
  refine g_aload_n (pc := 5) 0 dX4_hush_5 rfl rfl ?_
  refine g_dup (pc := 6) dX4_hush_6 rfl ?_
  refine gf_4_age (pc := 7) hpa kf_X4_35 dX4_hush_7 ?_
  refine g_iconst (pc := 10) (1) dX4_hush_10 (by decide) ?_
  refine g_iadd (pc := 11) dX4_hush_11 ?_
  refine gp_4_age (pc := 12) hpa kf_X4_35 dX4_hush_12 (fun s2 => ?_)
  exact g_vret (pc := 15) (hro _) rfl dX4_hush_15
def f_X4_shownAt (pa : Nat) (start : Int32) (i : Int32) (σ : St) : Option (Int32) := chk (inb start 256) (nm (((σ.1 (pa + 11) start.toNatClampNeg) - (1 : Int32)) - i) fun x1 => (if (0 : Int32) ≤ x1 then chk (inb start 256) (some (((σ.2 (pa + 12) start.toNatClampNeg) >>> (((2 : Int32) * x1).toInt64 &&& 63)).toInt32 &&& (3 : Int32))) else some (-6 : Int32)))
abbrev rm_X4_shownAt : Room := { frames := 0, cells := 0, slots := 0, locals := 0 }
set_option maxHeartbeats 4000000 in
set_option maxRecDepth 20000 in
theorem m_X4_shownAt (l : Launch) (D : va_G) (cy : Cy) (q : Nat → Nat) (σ : St) (pa : Nat) (start : Int32) (i : Int32) (hpa : isP pa) : ∀ res, f_X4_shownAt pa start i σ = some res → MetX (vX D cy q) l yX4_shownAt cX4_shownAt 4 (some .int) rm_X4_shownAt [.ref (q pa), .int start, .int i] σ (some (.int res), σ) := by
  let fin_ : Int32 → Option Value × St := fun r => (some (.int r), σ)
  have hro : ∀ (z : Int32) (res : Int32), some z = some res → fin_ res = fin_ z := fun z res h => by cases h; rfl
  refine MetX.of1 (fin := fin_) (lv := [(0, .ref (q pa)), (1, .int start), (2, .int i)]) (by decide) (Nat.le_of_ble_eq_true rfl) rfl ?_
  unfold f_X4_shownAt
  refine g_aload_n (pc := 0) 0 dX4_shownAt_0 rfl rfl ?_
  refine gf_4_showedOf (pc := 1) hpa kf_X4_56 dX4_shownAt_1 ?_
  refine g_iload_n (pc := 4) 1 dX4_shownAt_4 rfl rfl ?_
  refine a_ild (pc := 5) (aX_4_showedOf hpa) dX4_shownAt_5 ?_
  refine g_iconst (pc := 6) (1) dX4_shownAt_6 (by decide) ?_
  refine g_isub (pc := 7) dX4_shownAt_7 ?_
  refine g_iload_n (pc := 8) 2 dX4_shownAt_8 rfl rfl ?_
  refine g_isub (pc := 9) dX4_shownAt_9 ?_
  refine g_nmi (fun x1 => ?_)
  refine g_istore_n (pc := 10) (lv' := [(3, .int x1), (0, .ref (q pa)), (1, .int start), (2, .int i)]) dX4_shownAt_10 rfl (Nat.le_of_ble_eq_true rfl) rfl ?_
  refine g_iload_n (pc := 11) 0 dX4_shownAt_11 rfl rfl ?_
  refine g_if_ge (pc := 12) 18 dX4_shownAt_12 (by decide) ?_ ?_
  · refine g_aload_n (pc := 18) 1 dX4_shownAt_18 rfl rfl ?_
    refine gf_4_comesTo (pc := 19) hpa kf_X4_59 dX4_shownAt_19 ?_
    refine g_iload_n (pc := 22) 2 dX4_shownAt_22 rfl rfl ?_
    refine a_lld (pc := 23) (aX_4_comesTo hpa) dX4_shownAt_23 ?_
    refine g_iconst (pc := 24) (2) dX4_shownAt_24 (by decide) ?_
    refine g_iload_n (pc := 25) 0 dX4_shownAt_25 rfl rfl ?_
    refine g_imul (pc := 26) dX4_shownAt_26 ?_
    refine g_lshr (pc := 27) dX4_shownAt_27 ?_
    refine g_l2i (pc := 28) dX4_shownAt_28 ?_
    refine g_iconst (pc := 29) (3) dX4_shownAt_29 (by decide) ?_
    refine g_iand (pc := 30) dX4_shownAt_30 ?_
    exact g_iret (pc := 31) (hro _) rfl dX4_shownAt_31
  · refine g_bipush (pc := 15) (-6) dX4_shownAt_15 (by decide) ?_
    exact g_iret (pc := 17) (hro _) rfl dX4_shownAt_17
def f_X4_beginAlike (pa : Nat) (start : Int32) (other : Int32) (n : Int32) (σ : St) : Option (Int32) := chk (inb start 256) (nm ((σ.2 (pa + 12) start.toNatClampNeg) &&& (1125899906842623 : Int64)) fun x1 => chk (inb other 256) (nm ((σ.2 (pa + 12) other.toNatClampNeg) &&& (1125899906842623 : Int64)) fun x2 => chk (inb start 256) ((if (σ.1 (pa + 11) start.toNatClampNeg) < n then (if (lg_cmp x1 x2) = (0 : Int32) then some (1 : Int32) else some (0 : Int32)) else chk (inb other 256) ((if n ≤ (σ.1 (pa + 11) other.toNatClampNeg) then chk (inb start 256) (chk (inb other 256) ((if (lg_cmp (x1 >>> (((2 : Int32) * ((σ.1 (pa + 11) start.toNatClampNeg) - n)).toInt64 &&& 63)) (x2 >>> (((2 : Int32) * ((σ.1 (pa + 11) other.toNatClampNeg) - n)).toInt64 &&& 63))) = (0 : Int32) then some (1 : Int32) else some (0 : Int32)))) else (if (lg_cmp x1 x2) = (0 : Int32) then some (1 : Int32) else some (0 : Int32))))))))
abbrev rm_X4_beginAlike : Room := { frames := 0, cells := 0, slots := 0, locals := 0 }
set_option maxHeartbeats 4000000 in
set_option maxRecDepth 20000 in
theorem m_X4_beginAlike (l : Launch) (D : va_G) (cy : Cy) (q : Nat → Nat) (σ : St) (pa : Nat) (start : Int32) (other : Int32) (n : Int32) (hpa : isP pa) : ∀ res, f_X4_beginAlike pa start other n σ = some res → MetX (vX D cy q) l yX4_beginAlike cX4_beginAlike 8 (some .boolean) rm_X4_beginAlike [.ref (q pa), .int start, .int other, .int n] σ (some (.int res), σ) := by
  let fin_ : Int32 → Option Value × St := fun r => (some (.int r), σ)
  have hro : ∀ (z : Int32) (res : Int32), some z = some res → fin_ res = fin_ z := fun z res h => by cases h; rfl
  refine MetX.of1 (fin := fin_) (lv := [(0, .ref (q pa)), (1, .int start), (2, .int other), (3, .int n)]) (by decide) (Nat.le_of_ble_eq_true rfl) rfl ?_
  unfold f_X4_beginAlike
  refine g_aload_n (pc := 0) 0 dX4_beginAlike_0 rfl rfl ?_
  refine gf_4_comesTo (pc := 1) hpa kf_X4_59 dX4_beginAlike_1 ?_
  refine g_iload_n (pc := 4) 1 dX4_beginAlike_4 rfl rfl ?_
  refine a_lld (pc := 5) (aX_4_comesTo hpa) dX4_beginAlike_5 ?_
  refine g_ldc2 (pc := 6) dX4_beginAlike_6 kl_X4_94 ?_
  refine g_land (pc := 9) dX4_beginAlike_9 ?_
  refine g_nml (fun x1 => ?_)
  refine g_lstore (pc := 10) (lv' := [(4, .long x1), (0, .ref (q pa)), (1, .int start), (2, .int other), (3, .int n)]) dX4_beginAlike_10 (Nat.le_of_ble_eq_true rfl) rfl ?_
  refine g_aload_n (pc := 12) 1 dX4_beginAlike_12 rfl rfl ?_
  refine gf_4_comesTo (pc := 13) hpa kf_X4_59 dX4_beginAlike_13 ?_
  refine g_iload_n (pc := 16) 3 dX4_beginAlike_16 rfl rfl ?_
  refine a_lld (pc := 17) (aX_4_comesTo hpa) dX4_beginAlike_17 ?_
  refine g_ldc2 (pc := 18) dX4_beginAlike_18 kl_X4_94 ?_
  refine g_land (pc := 21) dX4_beginAlike_21 ?_
  refine g_nml (fun x2 => ?_)
  refine g_lstore (pc := 22) (lv' := [(6, .long x2), (4, .long x1), (0, .ref (q pa)), (1, .int start), (2, .int other), (3, .int n)]) dX4_beginAlike_22 (Nat.le_of_ble_eq_true rfl) rfl ?_
  refine g_aload_n (pc := 24) 2 dX4_beginAlike_24 rfl rfl ?_
  refine gf_4_showedOf (pc := 25) hpa kf_X4_56 dX4_beginAlike_25 ?_
  refine g_iload_n (pc := 28) 3 dX4_beginAlike_28 rfl rfl ?_
  refine a_ild (pc := 29) (aX_4_showedOf hpa) dX4_beginAlike_29 ?_
  refine g_iload_n (pc := 30) 5 dX4_beginAlike_30 rfl rfl ?_
  refine g_icmp_lt (pc := 31) 44 dX4_beginAlike_31 (by decide) ?_ ?_
  · refine g_lload (pc := 44) 1 dX4_beginAlike_44 rfl ?_
    refine g_lload (pc := 46) 0 dX4_beginAlike_46 rfl ?_
    refine g_lcmp (pc := 48) dX4_beginAlike_48 ?_
    refine g_if_ne (pc := 49) 56 dX4_beginAlike_49 (by decide) ?_ ?_
    · refine g_iconst (pc := 56) (0) dX4_beginAlike_56 (by decide) ?_
      exact g_zret (pc := 57) rfl (hro _) rfl dX4_beginAlike_57
    · refine g_iconst (pc := 52) (1) dX4_beginAlike_52 (by decide) ?_
      refine g_goto (pc := 53) 57 dX4_beginAlike_53 (by decide) ?_
      exact g_zret (pc := 57) rfl (hro _) rfl dX4_beginAlike_57
  · refine g_aload_n (pc := 34) 2 dX4_beginAlike_34 rfl rfl ?_
    refine gf_4_showedOf (pc := 35) hpa kf_X4_56 dX4_beginAlike_35 ?_
    refine g_iload_n (pc := 38) 4 dX4_beginAlike_38 rfl rfl ?_
    refine a_ild (pc := 39) (aX_4_showedOf hpa) dX4_beginAlike_39 ?_
    refine g_iload_n (pc := 40) 5 dX4_beginAlike_40 rfl rfl ?_
    refine g_icmp_ge (pc := 41) 58 dX4_beginAlike_41 (by decide) ?_ ?_
    · refine g_lload (pc := 58) 1 dX4_beginAlike_58 rfl ?_
      refine g_iconst (pc := 60) (2) dX4_beginAlike_60 (by decide) ?_
      refine g_aload_n (pc := 61) 2 dX4_beginAlike_61 rfl rfl ?_
      refine gf_4_showedOf (pc := 62) hpa kf_X4_56 dX4_beginAlike_62 ?_
      refine g_iload_n (pc := 65) 3 dX4_beginAlike_65 rfl rfl ?_
      refine a_ild (pc := 66) (aX_4_showedOf hpa) dX4_beginAlike_66 ?_
      refine g_iload_n (pc := 67) 5 dX4_beginAlike_67 rfl rfl ?_
      refine g_isub (pc := 68) dX4_beginAlike_68 ?_
      refine g_imul (pc := 69) dX4_beginAlike_69 ?_
      refine g_lshr (pc := 70) dX4_beginAlike_70 ?_
      refine g_lload (pc := 71) 0 dX4_beginAlike_71 rfl ?_
      refine g_iconst (pc := 73) (2) dX4_beginAlike_73 (by decide) ?_
      refine g_aload_n (pc := 74) 2 dX4_beginAlike_74 rfl rfl ?_
      refine gf_4_showedOf (pc := 75) hpa kf_X4_56 dX4_beginAlike_75 ?_
      refine g_iload_n (pc := 78) 4 dX4_beginAlike_78 rfl rfl ?_
      refine a_ild (pc := 79) (aX_4_showedOf hpa) dX4_beginAlike_79 ?_
      refine g_iload_n (pc := 80) 5 dX4_beginAlike_80 rfl rfl ?_
      refine g_isub (pc := 81) dX4_beginAlike_81 ?_
      refine g_imul (pc := 82) dX4_beginAlike_82 ?_
      refine g_lshr (pc := 83) dX4_beginAlike_83 ?_
      refine g_lcmp (pc := 84) dX4_beginAlike_84 ?_
      refine g_if_ne (pc := 85) 92 dX4_beginAlike_85 (by decide) ?_ ?_
      · refine g_iconst (pc := 92) (0) dX4_beginAlike_92 (by decide) ?_
        exact g_zret (pc := 93) rfl (hro _) rfl dX4_beginAlike_93
      · refine g_iconst (pc := 88) (1) dX4_beginAlike_88 (by decide) ?_
        refine g_goto (pc := 89) 93 dX4_beginAlike_89 (by decide) ?_
        exact g_zret (pc := 93) rfl (hro _) rfl dX4_beginAlike_93
    · refine g_lload (pc := 44) 1 dX4_beginAlike_44 rfl ?_
      refine g_lload (pc := 46) 0 dX4_beginAlike_46 rfl ?_
      refine g_lcmp (pc := 48) dX4_beginAlike_48 ?_
      refine g_if_ne (pc := 49) 56 dX4_beginAlike_49 (by decide) ?_ ?_
      · refine g_iconst (pc := 56) (0) dX4_beginAlike_56 (by decide) ?_
        exact g_zret (pc := 57) rfl (hro _) rfl dX4_beginAlike_57
      · refine g_iconst (pc := 52) (1) dX4_beginAlike_52 (by decide) ?_
        refine g_goto (pc := 53) 57 dX4_beginAlike_53 (by decide) ?_
        exact g_zret (pc := 57) rfl (hro _) rfl dX4_beginAlike_57
def f_X4_lineAhead (pa : Nat) (start : Int32) (step : Int32) (σ : St) : Option (Int32) := chk (inb start 256) (nm (mmin step (σ.1 (pa + 10) start.toNatClampNeg)) fun x1 => chk (inb ((start * (25 : Int32)) + x1) 6400) (chk (nz (256 : Int32)) (some ((σ.1 (pa + 6) ((start * (25 : Int32)) + x1).toNatClampNeg) / (256 : Int32)))))
abbrev rm_X4_lineAhead : Room := { frames := 1, cells := 0, slots := 0, locals := 21 }
set_option maxHeartbeats 4000000 in
set_option maxRecDepth 20000 in
theorem m_X4_lineAhead (l : Launch) (D : va_G) (cy : Cy) (q : Nat → Nat) (σ : St) (pa : Nat) (start : Int32) (step : Int32) (hpa : isP pa) : ∀ res, f_X4_lineAhead pa start step σ = some res → MetX (vX D cy q) l yX4_lineAhead cX4_lineAhead 4 (some .int) rm_X4_lineAhead [.ref (q pa), .int start, .int step] σ (some (.int res), σ) := by
  let fin_ : Int32 → Option Value × St := fun r => (some (.int r), σ)
  have hro : ∀ (z : Int32) (res : Int32), some z = some res → fin_ res = fin_ z := fun z res h => by cases h; rfl
  refine MetX.of1 (fin := fin_) (lv := [(0, .ref (q pa)), (1, .int start), (2, .int step)]) (by decide) (Nat.le_of_ble_eq_true rfl) rfl ?_
  unfold f_X4_lineAhead
  refine g_iload_n (pc := 0) 2 dX4_lineAhead_0 rfl rfl ?_
  refine g_aload_n (pc := 1) 0 dX4_lineAhead_1 rfl rfl ?_
  refine gf_4_stepsOf (pc := 2) hpa kf_X4_53 dX4_lineAhead_2 ?_
  refine g_iload_n (pc := 5) 1 dX4_lineAhead_5 rfl rfl ?_
  refine a_ild (pc := 6) (aX_4_stepsOf hpa) dX4_lineAhead_6 ?_
  refine g_mmin (pc := 7) km_X4_96 ⟨by decide, Nat.le_of_ble_eq_true rfl⟩ dX4_lineAhead_7 ?_
  refine g_nmi (fun x1 => ?_)
  refine g_istore_n (pc := 10) (lv' := [(3, .int x1), (0, .ref (q pa)), (1, .int start), (2, .int step)]) dX4_lineAhead_10 rfl (Nat.le_of_ble_eq_true rfl) rfl ?_
  refine g_aload_n (pc := 11) 1 dX4_lineAhead_11 rfl rfl ?_
  refine gf_4_states (pc := 12) hpa kf_X4_41 dX4_lineAhead_12 ?_
  refine g_iload_n (pc := 15) 2 dX4_lineAhead_15 rfl rfl ?_
  refine g_bipush (pc := 16) (25) dX4_lineAhead_16 (by decide) ?_
  refine g_imul (pc := 18) dX4_lineAhead_18 ?_
  refine g_iload_n (pc := 19) 0 dX4_lineAhead_19 rfl rfl ?_
  refine g_iadd (pc := 20) dX4_lineAhead_20 ?_
  refine a_ild (pc := 21) (aX_4_states hpa) dX4_lineAhead_21 ?_
  refine g_sipush (pc := 22) (256) dX4_lineAhead_22 (by decide) ?_
  refine g_idiv (pc := 25) dX4_lineAhead_25 ?_
  exact g_iret (pc := 26) (hro _) rfl dX4_lineAhead_26
def b_X4_loudLines_4 (pa : Nat) (σ : St) : (Int32 × Int32) → Option ((Int32 × Int32) ⊕ (Int32)) := un fun y1 y2 => (if (σ.1 pa 5) ≤ y2 then some (.inr y1) else chk (inb y2 12) ((if (σ.1 (pa + 1) y2.toNatClampNeg) = (6 : Int32) then (if (((σ.1 pa 6) >>> (y2 &&& 31)) &&& (1 : Int32)) = (0 : Int32) then nm (y1 ||| ((1 : Int32) <<< (y2 &&& 31))) fun x3 => nm (y2 + (1 : Int32)) fun x4 => some (.inl (x3, x4)) else nm (y2 + (1 : Int32)) fun x2 => some (.inl (y1, x2))) else nm (y2 + (1 : Int32)) fun x1 => some (.inl (y1, x1)))))
def f_X4_loudLines (pa : Nat) (σ : St) : Option (Int32) := (wh FU (b_X4_loudLines_4 pa σ) ((0 : Int32), (0 : Int32))).bind (fun z1 => some z1)
abbrev rm_X4_loudLines : Room := { frames := 0, cells := 0, slots := 0, locals := 0 }
set_option maxHeartbeats 4000000 in
set_option maxRecDepth 20000 in
theorem m_X4_loudLines (l : Launch) (D : va_G) (cy : Cy) (q : Nat → Nat) (σ : St) (pa : Nat) (hpa : isP pa) : ∀ res, f_X4_loudLines pa σ = some res → MetX (vX D cy q) l yX4_loudLines cX4_loudLines 3 (some .int) rm_X4_loudLines [.ref (q pa)] σ (some (.int res), σ) := by
  let fin_ : Int32 → Option Value × St := fun r => (some (.int r), σ)
  have hro : ∀ (z : Int32) (res : Int32), some z = some res → fin_ res = fin_ z := fun z res h => by cases h; rfl
  refine MetX.of1 (fin := fin_) (lv := [(0, .ref (q pa))]) (by decide) (Nat.le_of_ble_eq_true rfl) rfl ?_
  unfold f_X4_loudLines
  refine g_iconst (pc := 0) (0) dX4_loudLines_0 (by decide) ?_
  refine g_istore_n (pc := 1) (lv' := [(1, .int (0 : Int32)), (0, .ref (q pa))]) dX4_loudLines_1 rfl (Nat.le_of_ble_eq_true rfl) rfl ?_
  refine g_iconst (pc := 2) (0) dX4_loudLines_2 (by decide) ?_
  refine g_istore_n (pc := 3) (lv' := [(2, .int (0 : Int32)), (1, .int (0 : Int32)), (0, .ref (q pa))]) dX4_loudLines_3 rfl (Nat.le_of_ble_eq_true rfl) rfl ?_
  refine g_sub [2, 1, 0] rfl ?_
  refine g_wh2 (pc := 4) (s0 := ((0 : Int32), (0 : Int32))) (fun (w_ : Int32 × Int32) => σ) (fun (w_ : Int32 × Int32) => [(0, .ref (q pa)), (1, .int w_.1), (2, .int w_.2)]) (fun (w_ : Int32) => σ) (fun (w_ : Int32) => [(1, .int w_)]) 46 ?_ ?_
  · rintro z1
    try dsimp only [un, Sum.elim_inl]
    refine g_iload_n (pc := 46) 0 dX4_loudLines_46 rfl rfl ?_
    exact g_iret (pc := 47) (hro _) rfl dX4_loudLines_47
  · intro K4 hx4 ih4
    rintro ⟨y1, y2⟩
    try dsimp only [b_X4_loudLines_4, un]
    refine g_iload_n (pc := 4) 2 dX4_loudLines_4 rfl rfl ?_
    refine g_aload_n (pc := 5) 0 dX4_loudLines_5 rfl rfl ?_
    refine gf_4_size (pc := 6) hpa kf_X4_28 dX4_loudLines_6 ?_
    refine g_icmp_ge (pc := 9) 46 dX4_loudLines_9 (by decide) ?_ ?_
    · exact g_sub [1] rfl (hx4 y1)
    · refine g_aload_n (pc := 12) 0 dX4_loudLines_12 rfl rfl ?_
      refine gf_4_act (pc := 13) hpa kf_X4_15 dX4_loudLines_13 ?_
      refine g_iload_n (pc := 16) 2 dX4_loudLines_16 rfl rfl ?_
      refine a_ild (pc := 17) (aX_4_act hpa) dX4_loudLines_17 ?_
      refine g_bipush (pc := 18) (6) dX4_loudLines_18 (by decide) ?_
      refine g_icmp_ne (pc := 20) 40 dX4_loudLines_20 (by decide) ?_ ?_
      · refine g_iinc (pc := 40) (j := 2) (1) (lf := fun x1 => [(2, .int x1), (0, .ref (q pa)), (1, .int y1)]) dX4_loudLines_40 rfl (by decide) (Nat.le_of_ble_eq_true rfl) (fun _ => rfl) (fun x1 => ?_)
        refine g_goto (pc := 43) 4 dX4_loudLines_43 (by decide) ?_
        exact g_sub [1, 2, 0] rfl (ih4 (y1, x1))
      · refine g_aload_n (pc := 23) 0 dX4_loudLines_23 rfl rfl ?_
        refine gf_4_hushed (pc := 24) hpa kf_X4_32 dX4_loudLines_24 ?_
        refine g_iload_n (pc := 27) 2 dX4_loudLines_27 rfl rfl ?_
        refine g_ishr (pc := 28) dX4_loudLines_28 ?_
        refine g_iconst (pc := 29) (1) dX4_loudLines_29 (by decide) ?_
        refine g_iand (pc := 30) dX4_loudLines_30 ?_
        refine g_if_ne (pc := 31) 40 dX4_loudLines_31 (by decide) ?_ ?_
        · refine g_iinc (pc := 40) (j := 2) (1) (lf := fun x2 => [(2, .int x2), (0, .ref (q pa)), (1, .int y1)]) dX4_loudLines_40 rfl (by decide) (Nat.le_of_ble_eq_true rfl) (fun _ => rfl) (fun x2 => ?_)
          refine g_goto (pc := 43) 4 dX4_loudLines_43 (by decide) ?_
          exact g_sub [1, 2, 0] rfl (ih4 (y1, x2))
        · refine g_iload_n (pc := 34) 1 dX4_loudLines_34 rfl rfl ?_
          refine g_iconst (pc := 35) (1) dX4_loudLines_35 (by decide) ?_
          refine g_iload_n (pc := 36) 2 dX4_loudLines_36 rfl rfl ?_
          refine g_ishl (pc := 37) dX4_loudLines_37 ?_
          refine g_ior (pc := 38) dX4_loudLines_38 ?_
          refine g_nmi (fun x3 => ?_)
          refine g_istore_n (pc := 39) (lv' := [(1, .int x3), (0, .ref (q pa)), (2, .int y2)]) dX4_loudLines_39 rfl (Nat.le_of_ble_eq_true rfl) rfl ?_
          refine g_iinc (pc := 40) (j := 2) (1) (lf := fun x4 => [(2, .int x4), (1, .int x3), (0, .ref (q pa))]) dX4_loudLines_40 rfl (by decide) (Nat.le_of_ble_eq_true rfl) (fun _ => rfl) (fun x4 => ?_)
          refine g_goto (pc := 43) 4 dX4_loudLines_43 (by decide) ?_
          exact g_sub [2, 1, 0] rfl (ih4 (x3, x4))
def f_X4_isSameLine (pa : Nat) (other : Nat) (line : Int32) (σ : St) : Option (Int32) := chk (inb line 12) (chk (inb line 12) ((if (σ.1 (pa + 1) line.toNatClampNeg) = (σ.1 (other + 1) line.toNatClampNeg) then chk (inb line 12) (chk (inb line 12) ((if (σ.1 (pa + 2) line.toNatClampNeg) = (σ.1 (other + 2) line.toNatClampNeg) then chk (inb line 12) (chk (inb line 12) ((if (σ.1 (pa + 3) line.toNatClampNeg) = (σ.1 (other + 3) line.toNatClampNeg) then chk (inb line 12) (chk (inb line 12) ((if (σ.1 (pa + 4) line.toNatClampNeg) = (σ.1 (other + 4) line.toNatClampNeg) then some (1 : Int32) else some (0 : Int32)))) else some (0 : Int32)))) else some (0 : Int32)))) else some (0 : Int32))))
abbrev rm_X4_isSameLine : Room := { frames := 0, cells := 0, slots := 0, locals := 0 }
set_option maxHeartbeats 4000000 in
set_option maxRecDepth 20000 in
theorem m_X4_isSameLine (l : Launch) (D : va_G) (cy : Cy) (q : Nat → Nat) (σ : St) (pa : Nat) (other : Nat) (line : Int32) (hpa : isP pa) (hother : isP other) : ∀ res, f_X4_isSameLine pa other line σ = some res → MetX (vX D cy q) l yX4_isSameLine cX4_isSameLine 3 (some .boolean) rm_X4_isSameLine [.ref (q pa), .ref (q other), .int line] σ (some (.int res), σ) := by
  let fin_ : Int32 → Option Value × St := fun r => (some (.int r), σ)
  have hro : ∀ (z : Int32) (res : Int32), some z = some res → fin_ res = fin_ z := fun z res h => by cases h; rfl
  refine MetX.of1 (fin := fin_) (lv := [(0, .ref (q pa)), (1, .ref (q other)), (2, .int line)]) (by decide) (Nat.le_of_ble_eq_true rfl) rfl ?_
  unfold f_X4_isSameLine
  refine g_aload_n (pc := 0) 0 dX4_isSameLine_0 rfl rfl ?_
  refine gf_4_act (pc := 1) hpa kf_X4_15 dX4_isSameLine_1 ?_
  refine g_iload_n (pc := 4) 2 dX4_isSameLine_4 rfl rfl ?_
  refine a_ild (pc := 5) (aX_4_act hpa) dX4_isSameLine_5 ?_
  refine g_aload_n (pc := 6) 1 dX4_isSameLine_6 rfl rfl ?_
  refine gf_4_act (pc := 7) hother kf_X4_15 dX4_isSameLine_7 ?_
  refine g_iload_n (pc := 10) 2 dX4_isSameLine_10 rfl rfl ?_
  refine a_ild (pc := 11) (aX_4_act hother) dX4_isSameLine_11 ?_
  refine g_icmp_ne (pc := 12) 64 dX4_isSameLine_12 (by decide) ?_ ?_
  · refine g_iconst (pc := 64) (0) dX4_isSameLine_64 (by decide) ?_
    exact g_zret (pc := 65) rfl (hro _) rfl dX4_isSameLine_65
  · refine g_aload_n (pc := 15) 0 dX4_isSameLine_15 rfl rfl ?_
    refine gf_4_a (pc := 16) hpa kf_X4_19 dX4_isSameLine_16 ?_
    refine g_iload_n (pc := 19) 2 dX4_isSameLine_19 rfl rfl ?_
    refine a_ild (pc := 20) (aX_4_a hpa) dX4_isSameLine_20 ?_
    refine g_aload_n (pc := 21) 1 dX4_isSameLine_21 rfl rfl ?_
    refine gf_4_a (pc := 22) hother kf_X4_19 dX4_isSameLine_22 ?_
    refine g_iload_n (pc := 25) 2 dX4_isSameLine_25 rfl rfl ?_
    refine a_ild (pc := 26) (aX_4_a hother) dX4_isSameLine_26 ?_
    refine g_icmp_ne (pc := 27) 64 dX4_isSameLine_27 (by decide) ?_ ?_
    · refine g_iconst (pc := 64) (0) dX4_isSameLine_64 (by decide) ?_
      exact g_zret (pc := 65) rfl (hro _) rfl dX4_isSameLine_65
    · refine g_aload_n (pc := 30) 0 dX4_isSameLine_30 rfl rfl ?_
      refine gf_4_b (pc := 31) hpa kf_X4_22 dX4_isSameLine_31 ?_
      refine g_iload_n (pc := 34) 2 dX4_isSameLine_34 rfl rfl ?_
      refine a_ild (pc := 35) (aX_4_b hpa) dX4_isSameLine_35 ?_
      refine g_aload_n (pc := 36) 1 dX4_isSameLine_36 rfl rfl ?_
      refine gf_4_b (pc := 37) hother kf_X4_22 dX4_isSameLine_37 ?_
      refine g_iload_n (pc := 40) 2 dX4_isSameLine_40 rfl rfl ?_
      refine a_ild (pc := 41) (aX_4_b hother) dX4_isSameLine_41 ?_
      refine g_icmp_ne (pc := 42) 64 dX4_isSameLine_42 (by decide) ?_ ?_
      · refine g_iconst (pc := 64) (0) dX4_isSameLine_64 (by decide) ?_
        exact g_zret (pc := 65) rfl (hro _) rfl dX4_isSameLine_65
      · refine g_aload_n (pc := 45) 0 dX4_isSameLine_45 rfl rfl ?_
        refine gf_4_c (pc := 46) hpa kf_X4_25 dX4_isSameLine_46 ?_
        refine g_iload_n (pc := 49) 2 dX4_isSameLine_49 rfl rfl ?_
        refine a_ild (pc := 50) (aX_4_c hpa) dX4_isSameLine_50 ?_
        refine g_aload_n (pc := 51) 1 dX4_isSameLine_51 rfl rfl ?_
        refine gf_4_c (pc := 52) hother kf_X4_25 dX4_isSameLine_52 ?_
        refine g_iload_n (pc := 55) 2 dX4_isSameLine_55 rfl rfl ?_
        refine a_ild (pc := 56) (aX_4_c hother) dX4_isSameLine_56 ?_
        refine g_icmp_ne (pc := 57) 64 dX4_isSameLine_57 (by decide) ?_ ?_
        · refine g_iconst (pc := 64) (0) dX4_isSameLine_64 (by decide) ?_
          exact g_zret (pc := 65) rfl (hro _) rfl dX4_isSameLine_65
        · refine g_iconst (pc := 60) (1) dX4_isSameLine_60 (by decide) ?_
          refine g_goto (pc := 61) 65 dX4_isSameLine_61 (by decide) ?_
          exact g_zret (pc := 65) rfl (hro _) rfl dX4_isSameLine_65
def b_X4_unlikeLines_4 (pa : Nat) (other : Nat) (σ : St) : (Int32 × Int32) → Option ((Int32 × Int32) ⊕ (Int32)) := un fun y1 y2 => (if (12 : Int32) ≤ y2 then some (.inr y1) else (if (σ.1 pa 5) ≤ y2 then (if (σ.1 other 5) ≤ y2 then (if (0 : Int32) = (0 : Int32) then nm (y2 + (1 : Int32)) fun x3 => some (.inl (y1, x3)) else nm (y1 ||| ((1 : Int32) <<< (y2 &&& 31))) fun x1 => nm (y2 + (1 : Int32)) fun x2 => some (.inl (x1, x2))) else (if (0 : Int32) = (1 : Int32) then nm (y2 + (1 : Int32)) fun x6 => some (.inl (y1, x6)) else nm (y1 ||| ((1 : Int32) <<< (y2 &&& 31))) fun x4 => nm (y2 + (1 : Int32)) fun x5 => some (.inl (x4, x5)))) else (if (σ.1 other 5) ≤ y2 then (if (1 : Int32) = (0 : Int32) then (f_X4_isSameLine pa other y2 σ).bind fun r1 => (if r1 = (0 : Int32) then nm (y1 ||| ((1 : Int32) <<< (y2 &&& 31))) fun x10 => nm (y2 + (1 : Int32)) fun x11 => some (.inl (x10, x11)) else nm (y2 + (1 : Int32)) fun x9 => some (.inl (y1, x9))) else nm (y1 ||| ((1 : Int32) <<< (y2 &&& 31))) fun x7 => nm (y2 + (1 : Int32)) fun x8 => some (.inl (x7, x8))) else (if (1 : Int32) = (1 : Int32) then (f_X4_isSameLine pa other y2 σ).bind fun r2 => (if r2 = (0 : Int32) then nm (y1 ||| ((1 : Int32) <<< (y2 &&& 31))) fun x15 => nm (y2 + (1 : Int32)) fun x16 => some (.inl (x15, x16)) else nm (y2 + (1 : Int32)) fun x14 => some (.inl (y1, x14))) else nm (y1 ||| ((1 : Int32) <<< (y2 &&& 31))) fun x12 => nm (y2 + (1 : Int32)) fun x13 => some (.inl (x12, x13))))))
def f_X4_unlikeLines (pa : Nat) (other : Nat) (σ : St) : Option (Int32) := (wh FU (b_X4_unlikeLines_4 pa other σ) ((0 : Int32), (0 : Int32))).bind (fun z1 => some z1)
abbrev rm_X4_unlikeLines : Room := { frames := 1, cells := 0, slots := 0, locals := 22 }
set_option maxHeartbeats 4000000 in
set_option maxRecDepth 20000 in
theorem m_X4_unlikeLines (l : Launch) (D : va_G) (cy : Cy) (q : Nat → Nat) (σ : St) (pa : Nat) (other : Nat) (hpa : isP pa) (hother : isP other) : ∀ res, f_X4_unlikeLines pa other σ = some res → MetX (vX D cy q) l yX4_unlikeLines cX4_unlikeLines 6 (some .int) rm_X4_unlikeLines [.ref (q pa), .ref (q other)] σ (some (.int res), σ) := by
  let fin_ : Int32 → Option Value × St := fun r => (some (.int r), σ)
  have hro : ∀ (z : Int32) (res : Int32), some z = some res → fin_ res = fin_ z := fun z res h => by cases h; rfl
  refine MetX.of1 (fin := fin_) (lv := [(0, .ref (q pa)), (1, .ref (q other))]) (by decide) (Nat.le_of_ble_eq_true rfl) rfl ?_
  unfold f_X4_unlikeLines
  refine g_iconst (pc := 0) (0) dX4_unlikeLines_0 (by decide) ?_
  refine g_istore_n (pc := 1) (lv' := [(2, .int (0 : Int32)), (0, .ref (q pa)), (1, .ref (q other))]) dX4_unlikeLines_1 rfl (Nat.le_of_ble_eq_true rfl) rfl ?_
  refine g_iconst (pc := 2) (0) dX4_unlikeLines_2 (by decide) ?_
  refine g_istore_n (pc := 3) (lv' := [(3, .int (0 : Int32)), (2, .int (0 : Int32)), (0, .ref (q pa)), (1, .ref (q other))]) dX4_unlikeLines_3 rfl (Nat.le_of_ble_eq_true rfl) rfl ?_
  refine g_sub [2, 3, 1, 0] rfl ?_
  refine g_wh2 (pc := 4) (s0 := ((0 : Int32), (0 : Int32))) (fun (w_ : Int32 × Int32) => σ) (fun (w_ : Int32 × Int32) => [(0, .ref (q pa)), (1, .ref (q other)), (2, .int w_.1), (3, .int w_.2)]) (fun (w_ : Int32) => σ) (fun (w_ : Int32) => [(2, .int w_)]) 73 ?_ ?_
  · rintro z1
    try dsimp only [un, Sum.elim_inl]
    refine g_iload_n (pc := 73) 0 dX4_unlikeLines_73 rfl rfl ?_
    exact g_iret (pc := 74) (hro _) rfl dX4_unlikeLines_74
  · intro K4 hx4 ih4
    rintro ⟨y1, y2⟩
    try dsimp only [b_X4_unlikeLines_4, un]
    refine g_iload_n (pc := 4) 3 dX4_unlikeLines_4 rfl rfl ?_
    refine g_bipush (pc := 5) (12) dX4_unlikeLines_5 (by decide) ?_
    refine g_icmp_ge (pc := 7) 73 dX4_unlikeLines_7 (by decide) ?_ ?_
    · exact g_sub [2] rfl (hx4 y1)
    · refine g_iload_n (pc := 10) 3 dX4_unlikeLines_10 rfl rfl ?_
      refine g_aload_n (pc := 11) 0 dX4_unlikeLines_11 rfl rfl ?_
      refine gf_4_size (pc := 12) hpa kf_X4_28 dX4_unlikeLines_12 ?_
      refine g_icmp_ge (pc := 15) 22 dX4_unlikeLines_15 (by decide) ?_ ?_
      · refine g_iconst (pc := 22) (0) dX4_unlikeLines_22 (by decide) ?_
        refine g_istore (pc := 23) (lv' := [(4, .int (0 : Int32)), (0, .ref (q pa)), (1, .ref (q other)), (2, .int y1), (3, .int y2)]) dX4_unlikeLines_23 (Nat.le_of_ble_eq_true rfl) rfl ?_
        refine g_iload_n (pc := 25) 4 dX4_unlikeLines_25 rfl rfl ?_
        refine g_aload_n (pc := 26) 2 dX4_unlikeLines_26 rfl rfl ?_
        refine gf_4_size (pc := 27) hother kf_X4_28 dX4_unlikeLines_27 ?_
        refine g_icmp_ge (pc := 30) 37 dX4_unlikeLines_30 (by decide) ?_ ?_
        · refine g_iconst (pc := 37) (0) dX4_unlikeLines_37 (by decide) ?_
          refine g_istore (pc := 38) (lv' := [(5, .int (0 : Int32)), (4, .int (0 : Int32)), (0, .ref (q pa)), (1, .ref (q other)), (2, .int y1), (3, .int y2)]) dX4_unlikeLines_38 (Nat.le_of_ble_eq_true rfl) rfl ?_
          refine g_iload (pc := 40) 1 dX4_unlikeLines_40 rfl ?_
          refine g_iload (pc := 42) 0 dX4_unlikeLines_42 rfl ?_
          refine g_icmp_ne (pc := 44) 61 dX4_unlikeLines_44 (by decide) ?_ ?_
          · refine g_iload_n (pc := 61) 4 dX4_unlikeLines_61 rfl rfl ?_
            refine g_iconst (pc := 62) (1) dX4_unlikeLines_62 (by decide) ?_
            refine g_iload_n (pc := 63) 5 dX4_unlikeLines_63 rfl rfl ?_
            refine g_ishl (pc := 64) dX4_unlikeLines_64 ?_
            refine g_ior (pc := 65) dX4_unlikeLines_65 ?_
            refine g_nmi (fun x1 => ?_)
            refine g_istore_n (pc := 66) (lv' := [(2, .int x1), (5, .int (0 : Int32)), (4, .int (0 : Int32)), (0, .ref (q pa)), (1, .ref (q other)), (3, .int y2)]) dX4_unlikeLines_66 rfl (Nat.le_of_ble_eq_true rfl) rfl ?_
            refine g_iinc (pc := 67) (j := 5) (1) (lf := fun x2 => [(3, .int x2), (2, .int x1), (5, .int (0 : Int32)), (4, .int (0 : Int32)), (0, .ref (q pa)), (1, .ref (q other))]) dX4_unlikeLines_67 rfl (by decide) (Nat.le_of_ble_eq_true rfl) (fun _ => rfl) (fun x2 => ?_)
            refine g_goto (pc := 70) 4 dX4_unlikeLines_70 (by decide) ?_
            exact g_sub [4, 5, 1, 0] rfl (ih4 (x1, x2))
          · refine g_iload (pc := 47) 1 dX4_unlikeLines_47 rfl ?_
            refine g_ifeq_y (pc := 49) 67 (by decide) dX4_unlikeLines_49 (by decide) ?_
            refine g_iinc (pc := 67) (j := 5) (1) (lf := fun x3 => [(3, .int x3), (5, .int (0 : Int32)), (4, .int (0 : Int32)), (0, .ref (q pa)), (1, .ref (q other)), (2, .int y1)]) dX4_unlikeLines_67 rfl (by decide) (Nat.le_of_ble_eq_true rfl) (fun _ => rfl) (fun x3 => ?_)
            refine g_goto (pc := 70) 4 dX4_unlikeLines_70 (by decide) ?_
            exact g_sub [3, 4, 5, 0] rfl (ih4 (y1, x3))
        · refine g_iconst (pc := 33) (1) dX4_unlikeLines_33 (by decide) ?_
          refine g_goto (pc := 34) 38 dX4_unlikeLines_34 (by decide) ?_
          refine g_istore (pc := 38) (lv' := [(5, .int (1 : Int32)), (4, .int (0 : Int32)), (0, .ref (q pa)), (1, .ref (q other)), (2, .int y1), (3, .int y2)]) dX4_unlikeLines_38 (Nat.le_of_ble_eq_true rfl) rfl ?_
          refine g_iload (pc := 40) 1 dX4_unlikeLines_40 rfl ?_
          refine g_iload (pc := 42) 0 dX4_unlikeLines_42 rfl ?_
          refine g_icmp_ne (pc := 44) 61 dX4_unlikeLines_44 (by decide) ?_ ?_
          · refine g_iload_n (pc := 61) 4 dX4_unlikeLines_61 rfl rfl ?_
            refine g_iconst (pc := 62) (1) dX4_unlikeLines_62 (by decide) ?_
            refine g_iload_n (pc := 63) 5 dX4_unlikeLines_63 rfl rfl ?_
            refine g_ishl (pc := 64) dX4_unlikeLines_64 ?_
            refine g_ior (pc := 65) dX4_unlikeLines_65 ?_
            refine g_nmi (fun x4 => ?_)
            refine g_istore_n (pc := 66) (lv' := [(2, .int x4), (5, .int (1 : Int32)), (4, .int (0 : Int32)), (0, .ref (q pa)), (1, .ref (q other)), (3, .int y2)]) dX4_unlikeLines_66 rfl (Nat.le_of_ble_eq_true rfl) rfl ?_
            refine g_iinc (pc := 67) (j := 5) (1) (lf := fun x5 => [(3, .int x5), (2, .int x4), (5, .int (1 : Int32)), (4, .int (0 : Int32)), (0, .ref (q pa)), (1, .ref (q other))]) dX4_unlikeLines_67 rfl (by decide) (Nat.le_of_ble_eq_true rfl) (fun _ => rfl) (fun x5 => ?_)
            refine g_goto (pc := 70) 4 dX4_unlikeLines_70 (by decide) ?_
            exact g_sub [4, 5, 1, 0] rfl (ih4 (x4, x5))
          · refine g_iload (pc := 47) 1 dX4_unlikeLines_47 rfl ?_
            refine g_ifeq_y (pc := 49) 67 (by decide) dX4_unlikeLines_49 (by decide) ?_
            refine g_iinc (pc := 67) (j := 5) (1) (lf := fun x6 => [(3, .int x6), (5, .int (1 : Int32)), (4, .int (0 : Int32)), (0, .ref (q pa)), (1, .ref (q other)), (2, .int y1)]) dX4_unlikeLines_67 rfl (by decide) (Nat.le_of_ble_eq_true rfl) (fun _ => rfl) (fun x6 => ?_)
            refine g_goto (pc := 70) 4 dX4_unlikeLines_70 (by decide) ?_
            exact g_sub [3, 4, 5, 0] rfl (ih4 (y1, x6))
      · refine g_iconst (pc := 18) (1) dX4_unlikeLines_18 (by decide) ?_
        refine g_goto (pc := 19) 23 dX4_unlikeLines_19 (by decide) ?_
        refine g_istore (pc := 23) (lv' := [(4, .int (1 : Int32)), (0, .ref (q pa)), (1, .ref (q other)), (2, .int y1), (3, .int y2)]) dX4_unlikeLines_23 (Nat.le_of_ble_eq_true rfl) rfl ?_
        refine g_iload_n (pc := 25) 4 dX4_unlikeLines_25 rfl rfl ?_
        refine g_aload_n (pc := 26) 2 dX4_unlikeLines_26 rfl rfl ?_
        refine gf_4_size (pc := 27) hother kf_X4_28 dX4_unlikeLines_27 ?_
        refine g_icmp_ge (pc := 30) 37 dX4_unlikeLines_30 (by decide) ?_ ?_
        · refine g_iconst (pc := 37) (0) dX4_unlikeLines_37 (by decide) ?_
          refine g_istore (pc := 38) (lv' := [(5, .int (0 : Int32)), (4, .int (1 : Int32)), (0, .ref (q pa)), (1, .ref (q other)), (2, .int y1), (3, .int y2)]) dX4_unlikeLines_38 (Nat.le_of_ble_eq_true rfl) rfl ?_
          refine g_iload (pc := 40) 1 dX4_unlikeLines_40 rfl ?_
          refine g_iload (pc := 42) 0 dX4_unlikeLines_42 rfl ?_
          refine g_icmp_ne (pc := 44) 61 dX4_unlikeLines_44 (by decide) ?_ ?_
          · refine g_iload_n (pc := 61) 4 dX4_unlikeLines_61 rfl rfl ?_
            refine g_iconst (pc := 62) (1) dX4_unlikeLines_62 (by decide) ?_
            refine g_iload_n (pc := 63) 5 dX4_unlikeLines_63 rfl rfl ?_
            refine g_ishl (pc := 64) dX4_unlikeLines_64 ?_
            refine g_ior (pc := 65) dX4_unlikeLines_65 ?_
            refine g_nmi (fun x7 => ?_)
            refine g_istore_n (pc := 66) (lv' := [(2, .int x7), (5, .int (0 : Int32)), (4, .int (1 : Int32)), (0, .ref (q pa)), (1, .ref (q other)), (3, .int y2)]) dX4_unlikeLines_66 rfl (Nat.le_of_ble_eq_true rfl) rfl ?_
            refine g_iinc (pc := 67) (j := 5) (1) (lf := fun x8 => [(3, .int x8), (2, .int x7), (5, .int (0 : Int32)), (4, .int (1 : Int32)), (0, .ref (q pa)), (1, .ref (q other))]) dX4_unlikeLines_67 rfl (by decide) (Nat.le_of_ble_eq_true rfl) (fun _ => rfl) (fun x8 => ?_)
            refine g_goto (pc := 70) 4 dX4_unlikeLines_70 (by decide) ?_
            exact g_sub [4, 5, 1, 0] rfl (ih4 (x7, x8))
          · refine g_iload (pc := 47) 1 dX4_unlikeLines_47 rfl ?_
            refine g_ifeq_n (pc := 49) 67 (by decide) dX4_unlikeLines_49 (by decide) ?_
            refine g_aload_n (pc := 52) 2 dX4_unlikeLines_52 rfl rfl ?_
            refine g_aload_n (pc := 53) 3 dX4_unlikeLines_53 rfl rfl ?_
            refine g_iload_n (pc := 54) 5 dX4_unlikeLines_54 rfl rfl ?_
            refine gV_i (pc := 55) [.ref (q other), .int y2] [] (m_X4_isSameLine l D cy q σ pa other y2 hpa hother) cw_X4_isSameLine km_X4_101 ⟨rfl, rfl, by decide, by decide⟩ (by have := hpa.lt; show pa < 88; omega) (eX_4 (cy := cy) hpa (σ.1 pa) (σ.2 pa)) rfl dX4_unlikeLines_55 rfl rfl (Nat.le_of_ble_eq_true rfl) (fun r1 => ?_)
            refine g_if_ne (pc := 58) 67 dX4_unlikeLines_58 (by decide) ?_ ?_
            · refine g_iinc (pc := 67) (j := 5) (1) (lf := fun x9 => [(3, .int x9), (5, .int (0 : Int32)), (4, .int (1 : Int32)), (0, .ref (q pa)), (1, .ref (q other)), (2, .int y1)]) dX4_unlikeLines_67 rfl (by decide) (Nat.le_of_ble_eq_true rfl) (fun _ => rfl) (fun x9 => ?_)
              refine g_goto (pc := 70) 4 dX4_unlikeLines_70 (by decide) ?_
              exact g_sub [3, 4, 5, 0] rfl (ih4 (y1, x9))
            · refine g_iload_n (pc := 61) 4 dX4_unlikeLines_61 rfl rfl ?_
              refine g_iconst (pc := 62) (1) dX4_unlikeLines_62 (by decide) ?_
              refine g_iload_n (pc := 63) 5 dX4_unlikeLines_63 rfl rfl ?_
              refine g_ishl (pc := 64) dX4_unlikeLines_64 ?_
              refine g_ior (pc := 65) dX4_unlikeLines_65 ?_
              refine g_nmi (fun x10 => ?_)
              refine g_istore_n (pc := 66) (lv' := [(2, .int x10), (5, .int (0 : Int32)), (4, .int (1 : Int32)), (0, .ref (q pa)), (1, .ref (q other)), (3, .int y2)]) dX4_unlikeLines_66 rfl (Nat.le_of_ble_eq_true rfl) rfl ?_
              refine g_iinc (pc := 67) (j := 5) (1) (lf := fun x11 => [(3, .int x11), (2, .int x10), (5, .int (0 : Int32)), (4, .int (1 : Int32)), (0, .ref (q pa)), (1, .ref (q other))]) dX4_unlikeLines_67 rfl (by decide) (Nat.le_of_ble_eq_true rfl) (fun _ => rfl) (fun x11 => ?_)
              refine g_goto (pc := 70) 4 dX4_unlikeLines_70 (by decide) ?_
              exact g_sub [4, 5, 1, 0] rfl (ih4 (x10, x11))
        · refine g_iconst (pc := 33) (1) dX4_unlikeLines_33 (by decide) ?_
          refine g_goto (pc := 34) 38 dX4_unlikeLines_34 (by decide) ?_
          refine g_istore (pc := 38) (lv' := [(5, .int (1 : Int32)), (4, .int (1 : Int32)), (0, .ref (q pa)), (1, .ref (q other)), (2, .int y1), (3, .int y2)]) dX4_unlikeLines_38 (Nat.le_of_ble_eq_true rfl) rfl ?_
          refine g_iload (pc := 40) 1 dX4_unlikeLines_40 rfl ?_
          refine g_iload (pc := 42) 0 dX4_unlikeLines_42 rfl ?_
          refine g_icmp_ne (pc := 44) 61 dX4_unlikeLines_44 (by decide) ?_ ?_
          · refine g_iload_n (pc := 61) 4 dX4_unlikeLines_61 rfl rfl ?_
            refine g_iconst (pc := 62) (1) dX4_unlikeLines_62 (by decide) ?_
            refine g_iload_n (pc := 63) 5 dX4_unlikeLines_63 rfl rfl ?_
            refine g_ishl (pc := 64) dX4_unlikeLines_64 ?_
            refine g_ior (pc := 65) dX4_unlikeLines_65 ?_
            refine g_nmi (fun x12 => ?_)
            refine g_istore_n (pc := 66) (lv' := [(2, .int x12), (5, .int (1 : Int32)), (4, .int (1 : Int32)), (0, .ref (q pa)), (1, .ref (q other)), (3, .int y2)]) dX4_unlikeLines_66 rfl (Nat.le_of_ble_eq_true rfl) rfl ?_
            refine g_iinc (pc := 67) (j := 5) (1) (lf := fun x13 => [(3, .int x13), (2, .int x12), (5, .int (1 : Int32)), (4, .int (1 : Int32)), (0, .ref (q pa)), (1, .ref (q other))]) dX4_unlikeLines_67 rfl (by decide) (Nat.le_of_ble_eq_true rfl) (fun _ => rfl) (fun x13 => ?_)
            refine g_goto (pc := 70) 4 dX4_unlikeLines_70 (by decide) ?_
            exact g_sub [4, 5, 1, 0] rfl (ih4 (x12, x13))
          · refine g_iload (pc := 47) 1 dX4_unlikeLines_47 rfl ?_
            refine g_ifeq_n (pc := 49) 67 (by decide) dX4_unlikeLines_49 (by decide) ?_
            refine g_aload_n (pc := 52) 2 dX4_unlikeLines_52 rfl rfl ?_
            refine g_aload_n (pc := 53) 3 dX4_unlikeLines_53 rfl rfl ?_
            refine g_iload_n (pc := 54) 5 dX4_unlikeLines_54 rfl rfl ?_
            refine gV_i (pc := 55) [.ref (q other), .int y2] [] (m_X4_isSameLine l D cy q σ pa other y2 hpa hother) cw_X4_isSameLine km_X4_101 ⟨rfl, rfl, by decide, by decide⟩ (by have := hpa.lt; show pa < 88; omega) (eX_4 (cy := cy) hpa (σ.1 pa) (σ.2 pa)) rfl dX4_unlikeLines_55 rfl rfl (Nat.le_of_ble_eq_true rfl) (fun r2 => ?_)
            refine g_if_ne (pc := 58) 67 dX4_unlikeLines_58 (by decide) ?_ ?_
            · refine g_iinc (pc := 67) (j := 5) (1) (lf := fun x14 => [(3, .int x14), (5, .int (1 : Int32)), (4, .int (1 : Int32)), (0, .ref (q pa)), (1, .ref (q other)), (2, .int y1)]) dX4_unlikeLines_67 rfl (by decide) (Nat.le_of_ble_eq_true rfl) (fun _ => rfl) (fun x14 => ?_)
              refine g_goto (pc := 70) 4 dX4_unlikeLines_70 (by decide) ?_
              exact g_sub [3, 4, 5, 0] rfl (ih4 (y1, x14))
            · refine g_iload_n (pc := 61) 4 dX4_unlikeLines_61 rfl rfl ?_
              refine g_iconst (pc := 62) (1) dX4_unlikeLines_62 (by decide) ?_
              refine g_iload_n (pc := 63) 5 dX4_unlikeLines_63 rfl rfl ?_
              refine g_ishl (pc := 64) dX4_unlikeLines_64 ?_
              refine g_ior (pc := 65) dX4_unlikeLines_65 ?_
              refine g_nmi (fun x15 => ?_)
              refine g_istore_n (pc := 66) (lv' := [(2, .int x15), (5, .int (1 : Int32)), (4, .int (1 : Int32)), (0, .ref (q pa)), (1, .ref (q other)), (3, .int y2)]) dX4_unlikeLines_66 rfl (Nat.le_of_ble_eq_true rfl) rfl ?_
              refine g_iinc (pc := 67) (j := 5) (1) (lf := fun x16 => [(3, .int x16), (2, .int x15), (5, .int (1 : Int32)), (4, .int (1 : Int32)), (0, .ref (q pa)), (1, .ref (q other))]) dX4_unlikeLines_67 rfl (by decide) (Nat.le_of_ble_eq_true rfl) (fun _ => rfl) (fun x16 => ?_)
              refine g_goto (pc := 70) 4 dX4_unlikeLines_70 (by decide) ?_
              exact g_sub [4, 5, 1, 0] rfl (ih4 (x15, x16))
def f_X5_alikePart (sign : Int32) : Option (Int64) := (if sign = (101 : Int32) then some (3377699720527872 : Int64) else (if sign = (111 : Int32) then some (1125899906842623 : Int64) else (if sign = (116 : Int32) then some (139611588448485376 : Int64) else some (0 : Int64))))
abbrev rm_X5_alikePart : Room := { frames := 0, cells := 0, slots := 0, locals := 0 }
set_option maxHeartbeats 4000000 in
set_option maxRecDepth 20000 in
theorem m_X5_alikePart (l : Launch) (D : va_G) (cy : Cy) (q : Nat → Nat) (σ : St) (sign : Int32)  : ∀ res, f_X5_alikePart sign = some res → MetX (vX D cy q) l yX5_alikePart cX5_alikePart 1 (some .long) rm_X5_alikePart [.int sign] σ (some (.long res), σ) := by
  let fin_ : Int64 → Option Value × St := fun r => (some (.long r), σ)
  have hro : ∀ (z : Int64) (res : Int64), some z = some res → fin_ res = fin_ z := fun z res h => by cases h; rfl
  refine MetX.of1 (fin := fin_) (lv := [(0, .int sign)]) (by decide) (Nat.le_of_ble_eq_true rfl) rfl ?_
  unfold f_X5_alikePart
  refine g_iload_n (pc := 0) 0 dX5_alikePart_0 rfl rfl ?_
  refine g_if (fun c1_0 => ?_) (fun n1_0 => ?_)
  · refine g_lku (pc := 1) (off := 35) 36 dX5_alikePart_1 (by decide) ((congrArg (Op.lookupswitch.offset _ _) (i32_eq (101) rfl c1_0)).trans rfl) (by decide) ?_
    refine g_ldc2 (pc := 36) dX5_alikePart_36 kl_X5_40 ?_
    exact g_lret (pc := 39) (hro _) rfl dX5_alikePart_39
  · refine g_if (fun c1_1 => ?_) (fun n1_1 => ?_)
    · refine g_lku (pc := 1) (off := 39) 40 dX5_alikePart_1 (by decide) ((congrArg (Op.lookupswitch.offset _ _) (i32_eq (111) rfl c1_1)).trans rfl) (by decide) ?_
      refine g_ldc2 (pc := 40) dX5_alikePart_40 kl_X5_42 ?_
      exact g_lret (pc := 43) (hro _) rfl dX5_alikePart_43
    · refine g_if (fun c1_2 => ?_) (fun n1_2 => ?_)
      · refine g_lku (pc := 1) (off := 43) 44 dX5_alikePart_1 (by decide) ((congrArg (Op.lookupswitch.offset _ _) (i32_eq (116) rfl c1_2)).trans rfl) (by decide) ?_
        refine g_ldc2 (pc := 44) dX5_alikePart_44 kl_X5_44 ?_
        exact g_lret (pc := 47) (hro _) rfl dX5_alikePart_47
      · refine g_lku (pc := 1) (off := 47) 48 dX5_alikePart_1 (by decide) (by have e0 := i32_ne (101) rfl n1_0; have e1 := i32_ne (111) rfl n1_1; have e2 := i32_ne (116) rfl n1_2; simp [Op.lookupswitch.offset, e0, Ne.symm e0, e1, Ne.symm e1, e2, Ne.symm e2]) (by decide) ?_
        refine g_lconst (pc := 48) (0) dX5_alikePart_48 (by decide) ?_
        exact g_lret (pc := 49) (hro _) rfl dX5_alikePart_49
def f_X5_dueBehind (sign : Int32) (due : Int32) (behind : Int32) : Option (Int32) := (if due = (0 : Int32) then (f_X5_isLetter sign).bind fun r1 => (if r1 = (0 : Int32) then (if behind = (0 : Int32) then some (4 : Int32) else (f_X5_alikePart sign).bind fun r2 => (if (lg_cmp r2 (0 : Int64)) = (0 : Int32) then some (4 : Int32) else some (3 : Int32))) else some (1 : Int32)) else (if due = (1 : Int32) then (if sign = (61 : Int32) then some (2 : Int32) else (if sign = (60 : Int32) then some (2 : Int32) else (if sign = (62 : Int32) then some (2 : Int32) else (if sign = (35 : Int32) then some (2 : Int32) else some (4 : Int32))))) else (if due = (2 : Int32) then (f_X5_isLetter sign).bind fun r3 => (if r3 = (0 : Int32) then some (4 : Int32) else some (3 : Int32)) else (if sign = (38 : Int32) then some (0 : Int32) else (if sign = (58 : Int32) then (if behind = (0 : Int32) then some (0 : Int32) else some (4 : Int32)) else some (4 : Int32))))))
abbrev rm_X5_dueBehind : Room := { frames := 1, cells := 0, slots := 0, locals := 20 }
set_option maxHeartbeats 4000000 in
set_option maxRecDepth 20000 in
theorem m_X5_dueBehind (l : Launch) (D : va_G) (cy : Cy) (q : Nat → Nat) (σ : St) (sign : Int32) (due : Int32) (behind : Int32)  : ∀ res, f_X5_dueBehind sign due behind = some res → MetX (vX D cy q) l yX5_dueBehind cX5_dueBehind 3 (some .int) rm_X5_dueBehind [.int sign, .int due, .int behind] σ (some (.int res), σ) := by
  let fin_ : Int32 → Option Value × St := fun r => (some (.int r), σ)
  have hro : ∀ (z : Int32) (res : Int32), some z = some res → fin_ res = fin_ z := fun z res h => by cases h; rfl
  refine MetX.of1 (fin := fin_) (lv := [(0, .int sign), (1, .int due), (2, .int behind)]) (by decide) (Nat.le_of_ble_eq_true rfl) rfl ?_
  unfold f_X5_dueBehind
  refine g_iload_n (pc := 0) 1 dX5_dueBehind_0 rfl rfl ?_
  refine g_if (fun c1_0 => ?_) (fun n1_0 => ?_)
  · refine g_tbl (pc := 1) (0) 28 dX5_dueBehind_1 (i32_eq (0) rfl c1_0) (by decide) (by decide) rfl (by decide) ?_
    refine g_iload_n (pc := 28) 0 dX5_dueBehind_28 rfl rfl ?_
    refine gS_i (pc := 29) [.int sign] [] (m_X5_isLetter l D cy q σ sign) cw_X5_isLetter km_X5_30 ⟨rfl, rfl, by decide, by decide⟩ dX5_dueBehind_29 rfl rfl (Nat.le_of_ble_eq_true rfl) (fun r1 => ?_)
    refine g_if_eq (pc := 32) 37 dX5_dueBehind_32 (by decide) ?_ ?_
    · refine g_iload_n (pc := 37) 2 dX5_dueBehind_37 rfl rfl ?_
      refine g_if_eq (pc := 38) 54 dX5_dueBehind_38 (by decide) ?_ ?_
      · refine g_iconst (pc := 54) (4) dX5_dueBehind_54 (by decide) ?_
        exact g_iret (pc := 55) (hro _) rfl dX5_dueBehind_55
      · refine g_iload_n (pc := 41) 0 dX5_dueBehind_41 rfl rfl ?_
        refine gS_l (pc := 42) [.int sign] [] (m_X5_alikePart l D cy q σ sign) cw_X5_alikePart km_X5_34 ⟨rfl, rfl, by decide, by decide⟩ dX5_dueBehind_42 rfl rfl (Nat.le_of_ble_eq_true rfl) (fun r2 => ?_)
        refine g_lconst (pc := 45) (0) dX5_dueBehind_45 (by decide) ?_
        refine g_lcmp (pc := 46) dX5_dueBehind_46 ?_
        refine g_if_eq (pc := 47) 54 dX5_dueBehind_47 (by decide) ?_ ?_
        · refine g_iconst (pc := 54) (4) dX5_dueBehind_54 (by decide) ?_
          exact g_iret (pc := 55) (hro _) rfl dX5_dueBehind_55
        · refine g_iconst (pc := 50) (3) dX5_dueBehind_50 (by decide) ?_
          refine g_goto (pc := 51) 55 dX5_dueBehind_51 (by decide) ?_
          exact g_iret (pc := 55) (hro _) rfl dX5_dueBehind_55
    · refine g_iconst (pc := 35) (1) dX5_dueBehind_35 (by decide) ?_
      exact g_iret (pc := 36) (hro _) rfl dX5_dueBehind_36
  · refine g_if (fun c1_1 => ?_) (fun n1_1 => ?_)
    · refine g_tbl (pc := 1) (1) 56 dX5_dueBehind_1 (i32_eq (1) rfl c1_1) (by decide) (by decide) rfl (by decide) ?_
      refine g_iload_n (pc := 56) 0 dX5_dueBehind_56 rfl rfl ?_
      refine g_bipush (pc := 57) (61) dX5_dueBehind_57 (by decide) ?_
      refine g_icmp_eq (pc := 59) 80 dX5_dueBehind_59 (by decide) ?_ ?_
      · refine g_iconst (pc := 80) (2) dX5_dueBehind_80 (by decide) ?_
        refine g_goto (pc := 81) 85 dX5_dueBehind_81 (by decide) ?_
        exact g_iret (pc := 85) (hro _) rfl dX5_dueBehind_85
      · refine g_iload_n (pc := 62) 0 dX5_dueBehind_62 rfl rfl ?_
        refine g_bipush (pc := 63) (60) dX5_dueBehind_63 (by decide) ?_
        refine g_icmp_eq (pc := 65) 80 dX5_dueBehind_65 (by decide) ?_ ?_
        · refine g_iconst (pc := 80) (2) dX5_dueBehind_80 (by decide) ?_
          refine g_goto (pc := 81) 85 dX5_dueBehind_81 (by decide) ?_
          exact g_iret (pc := 85) (hro _) rfl dX5_dueBehind_85
        · refine g_iload_n (pc := 68) 0 dX5_dueBehind_68 rfl rfl ?_
          refine g_bipush (pc := 69) (62) dX5_dueBehind_69 (by decide) ?_
          refine g_icmp_eq (pc := 71) 80 dX5_dueBehind_71 (by decide) ?_ ?_
          · refine g_iconst (pc := 80) (2) dX5_dueBehind_80 (by decide) ?_
            refine g_goto (pc := 81) 85 dX5_dueBehind_81 (by decide) ?_
            exact g_iret (pc := 85) (hro _) rfl dX5_dueBehind_85
          · refine g_iload_n (pc := 74) 0 dX5_dueBehind_74 rfl rfl ?_
            refine g_bipush (pc := 75) (35) dX5_dueBehind_75 (by decide) ?_
            refine g_icmp_ne (pc := 77) 84 dX5_dueBehind_77 (by decide) ?_ ?_
            · refine g_iconst (pc := 84) (4) dX5_dueBehind_84 (by decide) ?_
              exact g_iret (pc := 85) (hro _) rfl dX5_dueBehind_85
            · refine g_iconst (pc := 80) (2) dX5_dueBehind_80 (by decide) ?_
              refine g_goto (pc := 81) 85 dX5_dueBehind_81 (by decide) ?_
              exact g_iret (pc := 85) (hro _) rfl dX5_dueBehind_85
    · refine g_if (fun c1_2 => ?_) (fun n1_2 => ?_)
      · refine g_tbl (pc := 1) (2) 86 dX5_dueBehind_1 (i32_eq (2) rfl c1_2) (by decide) (by decide) rfl (by decide) ?_
        refine g_iload_n (pc := 86) 0 dX5_dueBehind_86 rfl rfl ?_
        refine gS_i (pc := 87) [.int sign] [] (m_X5_isLetter l D cy q σ sign) cw_X5_isLetter km_X5_30 ⟨rfl, rfl, by decide, by decide⟩ dX5_dueBehind_87 rfl rfl (Nat.le_of_ble_eq_true rfl) (fun r3 => ?_)
        refine g_if_eq (pc := 90) 97 dX5_dueBehind_90 (by decide) ?_ ?_
        · refine g_iconst (pc := 97) (4) dX5_dueBehind_97 (by decide) ?_
          exact g_iret (pc := 98) (hro _) rfl dX5_dueBehind_98
        · refine g_iconst (pc := 93) (3) dX5_dueBehind_93 (by decide) ?_
          refine g_goto (pc := 94) 98 dX5_dueBehind_94 (by decide) ?_
          exact g_iret (pc := 98) (hro _) rfl dX5_dueBehind_98
      · refine g_tblOut (pc := 1) 99 dX5_dueBehind_1 (by have e0 := i32_ne (0) rfl n1_0; have e1 := i32_ne (1) rfl n1_1; have e2 := i32_ne (2) rfl n1_2; omega) (by decide) ?_
        refine g_iload_n (pc := 99) 0 dX5_dueBehind_99 rfl rfl ?_
        refine g_bipush (pc := 100) (38) dX5_dueBehind_100 (by decide) ?_
        refine g_icmp_eq (pc := 102) 115 dX5_dueBehind_102 (by decide) ?_ ?_
        · refine g_iconst (pc := 115) (0) dX5_dueBehind_115 (by decide) ?_
          refine g_goto (pc := 116) 120 dX5_dueBehind_116 (by decide) ?_
          exact g_iret (pc := 120) (hro _) rfl dX5_dueBehind_120
        · refine g_iload_n (pc := 105) 0 dX5_dueBehind_105 rfl rfl ?_
          refine g_bipush (pc := 106) (58) dX5_dueBehind_106 (by decide) ?_
          refine g_icmp_ne (pc := 108) 119 dX5_dueBehind_108 (by decide) ?_ ?_
          · refine g_iconst (pc := 119) (4) dX5_dueBehind_119 (by decide) ?_
            exact g_iret (pc := 120) (hro _) rfl dX5_dueBehind_120
          · refine g_iload_n (pc := 111) 2 dX5_dueBehind_111 rfl rfl ?_
            refine g_if_ne (pc := 112) 119 dX5_dueBehind_112 (by decide) ?_ ?_
            · refine g_iconst (pc := 119) (4) dX5_dueBehind_119 (by decide) ?_
              exact g_iret (pc := 120) (hro _) rfl dX5_dueBehind_120
            · refine g_iconst (pc := 115) (0) dX5_dueBehind_115 (by decide) ?_
              refine g_goto (pc := 116) 120 dX5_dueBehind_116 (by decide) ?_
              exact g_iret (pc := 120) (hro _) rfl dX5_dueBehind_120
