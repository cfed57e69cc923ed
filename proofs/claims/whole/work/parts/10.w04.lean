def b_X7_walkAll_53 (p : Nat) (q_ : Nat) (y1 : Int32) (r1 : Int32) : (Int32 × St) → Option ((Int32 × St) ⊕ (St)) := un fun y2 s7 => (if (256 : Int32) ≤ y2 then some (.inr s7) else chk (inb y2 256) ((if ((s7.1 1 y2.toNatClampNeg) &&& r1) = (0 : Int32) then (f_X7_walkPair p y1 q_ y2 s7).bind (un fun r2 s8 => nm (stI s8 76 6 (mmax (s7.1 76 6) r2)) fun s9 => nm (y2 + (1 : Int32)) fun x2 => some (.inl (x2, s9))) else nm (y2 + (1 : Int32)) fun x1 => some (.inl (x1, s7)))))
def b_X7_walkAll_34 (saying : Nat) (p : Nat) (q_ : Nat) : (Int32 × St) → Option ((Int32 × St) ⊕ (St)) := un fun y1 s6 => (if (256 : Int32) ≤ y1 then some (.inr s6) else (f_X5_deniedAhead saying y1 s6).bind fun r1 => (wh FU (b_X7_walkAll_53 p q_ y1 r1) ((0 : Int32), s6)).bind (fun s10 => nm (y1 + (1 : Int32)) fun x3 => some (.inl (x3, s10))))
def f_X7_walkAll (saying : Nat) (p : Nat) (q_ : Nat) (σ : St) : Option (St) := (f_X4_traceAll p σ).bind fun s1 => (f_X4_traceAll q_ s1).bind fun s2 => (f_J7_fill_53178 79 169 (4095 : Int32) s2).bind fun s3 => (f_J7_fill_53178 80 169 (0 : Int32) s3).bind fun s4 => nm (stI s4 76 6 (0 : Int32)) fun s5 => (wh FU (b_X7_walkAll_34 saying p q_) ((0 : Int32), s5)).bind (fun s11 => some s11)
abbrev rm_X7_walkAll : Room := { frames := 4, cells := 0, slots := 0, locals := 100 }
set_option maxHeartbeats 4000000 in
set_option maxRecDepth 20000 in
theorem m_X7_walkAll (l : Launch) (D : va_G) (cy : Cy) (q : Nat → Nat) (σ : St) (saying : Nat) (p : Nat) (q_ : Nat) (hsaying : isS saying) (hp : isP p) (hq_ : isP q_) : ∀ res, f_X7_walkAll saying p q_ σ = some res → MetX (vX D cy q) l yX7_walkAll cX7_walkAll 7 none rm_X7_walkAll [.ref (q 76), .ref (q saying), .ref (q p), .ref (q q_)] σ (none, res) := by
  let fin_ : St → Option Value × St := fun r => (none, r)
  have hro : ∀ (z : St) (res : St), some z = some res → fin_ res = fin_ z := fun z res h => by cases h; rfl
  refine MetX.of1 (fin := fin_) (lv := [(0, .ref (q 76)), (1, .ref (q saying)), (2, .ref (q p)), (3, .ref (q q_))]) (by decide) (Nat.le_of_ble_eq_true rfl) rfl ?_
  unfold f_X7_walkAll
  refine g_aload_n (pc := 0) 2 dX7_walkAll_0 rfl rfl ?_
  refine gV_v (pc := 1) [] [] (m_X4_traceAll l D cy q σ p hp) cw_X4_traceAll km_X7_53 ⟨rfl, rfl, by decide, by decide⟩ (by have := hp.lt; show p < 88; omega) (eX_4 (cy := cy) hp (σ.1 p) (σ.2 p)) rfl dX7_walkAll_1 rfl rfl (Nat.le_of_ble_eq_true rfl) (fun s1 => ?_)
  refine g_aload_n (pc := 4) 3 dX7_walkAll_4 rfl rfl ?_
  refine gV_v (pc := 5) [] [] (m_X4_traceAll l D cy q s1 q_ hq_) cw_X4_traceAll km_X7_53 ⟨rfl, rfl, by decide, by decide⟩ (by have := hq_.lt; show q_ < 88; omega) (eX_4 (cy := cy) hq_ (s1.1 q_) (s1.2 q_)) rfl dX7_walkAll_5 rfl rfl (Nat.le_of_ble_eq_true rfl) (fun s2 => ?_)
  refine g_aload_n (pc := 8) 0 dX7_walkAll_8 rfl rfl ?_
  refine gf_7_shapes (pc := 9) kf_X7_26 dX7_walkAll_9 ?_
  refine g_sipush (pc := 12) (4095) dX7_walkAll_12 (by decide) ?_
  refine gS_v (pc := 15) [.ref (q 79), .int (4095 : Int32)] [] (m_J7_fill_53178 l (vX D cy q) s2 79 169 (4095 : Int32) aX_7_shapes) cw_J7_fill_53178 km_X7_47 ⟨rfl, rfl, by decide, by decide⟩ dX7_walkAll_15 rfl rfl (Nat.le_of_ble_eq_true rfl) (fun s3 => ?_)
  refine g_aload_n (pc := 18) 0 dX7_walkAll_18 rfl rfl ?_
  refine gf_7_stood (pc := 19) kf_X7_29 dX7_walkAll_19 ?_
  refine g_iconst (pc := 22) (0) dX7_walkAll_22 (by decide) ?_
  refine gS_v (pc := 23) [.ref (q 80), .int (0 : Int32)] [] (m_J7_fill_53178 l (vX D cy q) s3 80 169 (0 : Int32) aX_7_stood) cw_J7_fill_53178 km_X7_47 ⟨rfl, rfl, by decide, by decide⟩ dX7_walkAll_23 rfl rfl (Nat.le_of_ble_eq_true rfl) (fun s4 => ?_)
  refine g_aload_n (pc := 26) 0 dX7_walkAll_26 rfl rfl ?_
  refine g_iconst (pc := 27) (0) dX7_walkAll_27 (by decide) ?_
  refine gp_7_mostMoves (pc := 28) kf_X7_32 dX7_walkAll_28 (fun s5 => ?_)
  refine g_iconst (pc := 31) (0) dX7_walkAll_31 (by decide) ?_
  refine g_istore (pc := 32) (lv' := [(4, .int (0 : Int32)), (0, .ref (q 76)), (1, .ref (q saying)), (2, .ref (q p)), (3, .ref (q q_))]) dX7_walkAll_32 (Nat.le_of_ble_eq_true rfl) rfl ?_
  refine g_sub [1, 2, 3, 4, 0] rfl ?_
  refine g_wh2 (pc := 34) (s0 := ((0 : Int32), s5)) (fun (w_ : Int32 × St) => w_.2) (fun (w_ : Int32 × St) => [(0, .ref (q 76)), (1, .ref (q saying)), (2, .ref (q p)), (3, .ref (q q_)), (4, .int w_.1)]) (fun (w_ : St) => w_) (fun (w_ : St) => []) 110 ?_ ?_
  · rintro s11
    try dsimp only [un, Sum.elim_inl]
    exact g_vret (pc := 110) (hro _) rfl dX7_walkAll_110
  · intro K34 hx34 ih34
    rintro ⟨y1, s6⟩
    try dsimp only [b_X7_walkAll_34, un]
    refine g_iload (pc := 34) 4 dX7_walkAll_34 rfl ?_
    refine g_sipush (pc := 36) (256) dX7_walkAll_36 (by decide) ?_
    refine g_icmp_ge (pc := 39) 110 dX7_walkAll_39 (by decide) ?_ ?_
    · exact g_sub [] rfl (hx34 s6)
    · refine g_aload_n (pc := 42) 1 dX7_walkAll_42 rfl rfl ?_
      refine g_iload (pc := 43) 4 dX7_walkAll_43 rfl ?_
      refine gV_i (pc := 45) [.int y1] [] (m_X5_deniedAhead l D cy q s6 saying y1 hsaying) cw_X5_deniedAhead km_X7_58 ⟨rfl, rfl, by decide, by decide⟩ (by have := hsaying.lt; show saying < 88; omega) (eX_5 (cy := cy) hsaying (s6.1 saying) (s6.2 saying)) rfl dX7_walkAll_45 rfl rfl (Nat.le_of_ble_eq_true rfl) (fun r1 => ?_)
      refine g_istore (pc := 48) (lv' := [(5, .int r1), (0, .ref (q 76)), (1, .ref (q saying)), (2, .ref (q p)), (3, .ref (q q_)), (4, .int y1)]) dX7_walkAll_48 (Nat.le_of_ble_eq_true rfl) rfl ?_
      refine g_iconst (pc := 50) (0) dX7_walkAll_50 (by decide) ?_
      refine g_istore (pc := 51) (lv' := [(6, .int (0 : Int32)), (5, .int r1), (0, .ref (q 76)), (1, .ref (q saying)), (2, .ref (q p)), (3, .ref (q q_)), (4, .int y1)]) dX7_walkAll_51 (Nat.le_of_ble_eq_true rfl) rfl ?_
      refine g_sub [2, 3, 4, 5, 6, 1, 0] rfl ?_
      refine g_wh2 (pc := 53) (s0 := ((0 : Int32), s6)) (fun (w_ : Int32 × St) => w_.2) (fun (w_ : Int32 × St) => [(0, .ref (q 76)), (1, .ref (q saying)), (2, .ref (q p)), (3, .ref (q q_)), (4, .int y1), (5, .int r1), (6, .int w_.1)]) (fun (w_ : St) => w_) (fun (w_ : St) => [(0, .ref (q 76)), (1, .ref (q saying)), (2, .ref (q p)), (3, .ref (q q_)), (4, .int y1)]) 104 ?_ ?_
      · rintro s10
        try dsimp only [un, Sum.elim_inl]
        refine g_iinc (pc := 104) (j := 4) (1) (lf := fun x3 => [(4, .int x3), (0, .ref (q 76)), (1, .ref (q saying)), (2, .ref (q p)), (3, .ref (q q_))]) dX7_walkAll_104 rfl (by decide) (Nat.le_of_ble_eq_true rfl) (fun _ => rfl) (fun x3 => ?_)
        refine g_goto (pc := 107) 34 dX7_walkAll_107 (by decide) ?_
        exact g_sub [1, 2, 3, 4, 0] rfl (ih34 (x3, s10))
      · intro K53 hx53 ih53
        rintro ⟨y2, s7⟩
        try dsimp only [b_X7_walkAll_53, un]
        refine g_iload (pc := 53) 6 dX7_walkAll_53 rfl ?_
        refine g_sipush (pc := 55) (256) dX7_walkAll_55 (by decide) ?_
        refine g_icmp_ge (pc := 58) 104 dX7_walkAll_58 (by decide) ?_ ?_
        · exact g_sub [0, 1, 2, 3, 4] rfl (hx53 s7)
        · refine g_aload_n (pc := 61) 0 dX7_walkAll_61 rfl rfl ?_
          refine gf_7_forms (pc := 62) kf_X7_9 dX7_walkAll_62 ?_
          refine gf_1_hot (pc := 65) kf_X7_64 dX7_walkAll_65 ?_
          refine g_iload (pc := 68) 6 dX7_walkAll_68 rfl ?_
          refine a_ild (pc := 70) aX_1_hot dX7_walkAll_70 ?_
          refine g_iload (pc := 71) 5 dX7_walkAll_71 rfl ?_
          refine g_iand (pc := 73) dX7_walkAll_73 ?_
          refine g_if_ne (pc := 74) 98 dX7_walkAll_74 (by decide) ?_ ?_
          · refine g_iinc (pc := 98) (j := 6) (1) (lf := fun x1 => [(6, .int x1), (0, .ref (q 76)), (1, .ref (q saying)), (2, .ref (q p)), (3, .ref (q q_)), (4, .int y1), (5, .int r1)]) dX7_walkAll_98 rfl (by decide) (Nat.le_of_ble_eq_true rfl) (fun _ => rfl) (fun x1 => ?_)
            refine g_goto (pc := 101) 53 dX7_walkAll_101 (by decide) ?_
            exact g_sub [1, 2, 3, 4, 5, 6, 0] rfl (ih53 (x1, s7))
          · refine g_aload_n (pc := 77) 0 dX7_walkAll_77 rfl rfl ?_
            refine g_aload_n (pc := 78) 0 dX7_walkAll_78 rfl rfl ?_
            refine gf_7_mostMoves (pc := 79) kf_X7_32 dX7_walkAll_79 ?_
            refine g_aload_n (pc := 82) 0 dX7_walkAll_82 rfl rfl ?_
            refine g_aload_n (pc := 83) 2 dX7_walkAll_83 rfl rfl ?_
            refine g_iload (pc := 84) 4 dX7_walkAll_84 rfl ?_
            refine g_aload_n (pc := 86) 3 dX7_walkAll_86 rfl rfl ?_
            refine g_iload (pc := 87) 6 dX7_walkAll_87 rfl ?_
            refine gV_e (pc := 89) [.ref (q p), .int y1, .ref (q q_), .int y2] [.int (s7.1 76 6), .ref (q 76)] (m_X7_walkPair l D cy q s7 p y1 q_ y2 hp hq_) cw_X7_walkPair km_X7_69 ⟨rfl, rfl, by decide, by decide⟩ (Nat.le_of_ble_eq_true rfl) (eX_7 (cy := cy) (s7.1 76) (s7.2 76)) rfl dX7_walkAll_89 rfl rfl (Nat.le_of_ble_eq_true rfl) (fun r2 s8 => ?_)
            refine g_mmax (pc := 92) km_X7_73 ⟨by decide, Nat.le_of_ble_eq_true rfl⟩ dX7_walkAll_92 ?_
            refine gp_7_mostMoves (pc := 95) kf_X7_32 dX7_walkAll_95 (fun s9 => ?_)
            refine g_iinc (pc := 98) (j := 6) (1) (lf := fun x2 => [(6, .int x2), (0, .ref (q 76)), (1, .ref (q saying)), (2, .ref (q p)), (3, .ref (q q_)), (4, .int y1), (5, .int r1)]) dX7_walkAll_98 rfl (by decide) (Nat.le_of_ble_eq_true rfl) (fun _ => rfl) (fun x2 => ?_)
            refine g_goto (pc := 101) 53 dX7_walkAll_101 (by decide) ?_
            exact g_sub [1, 2, 3, 4, 5, 6, 0] rfl (ih53 (x2, s9))
def b_X7_countPlaces_4 (σ : St) : (Int32 × Int32) → Option ((Int32 × Int32) ⊕ (Int32)) := un fun y1 y2 => (if (169 : Int32) ≤ y2 then some (.inr y1) else chk (inb y2 169) (nm (y1 + (σ.1 80 y2.toNatClampNeg)) fun x1 => nm (y2 + (1 : Int32)) fun x2 => some (.inl (x1, x2))))
def f_X7_countPlaces (σ : St) : Option (Int32) := (wh FU (b_X7_countPlaces_4 σ) ((0 : Int32), (0 : Int32))).bind (fun z1 => some z1)
abbrev rm_X7_countPlaces : Room := { frames := 0, cells := 0, slots := 0, locals := 0 }
set_option maxHeartbeats 4000000 in
set_option maxRecDepth 20000 in
theorem m_X7_countPlaces (l : Launch) (D : va_G) (cy : Cy) (q : Nat → Nat) (σ : St)  : ∀ res, f_X7_countPlaces σ = some res → MetX (vX D cy q) l yX7_countPlaces cX7_countPlaces 3 (some .int) rm_X7_countPlaces [.ref (q 76)] σ (some (.int res), σ) := by
  let fin_ : Int32 → Option Value × St := fun r => (some (.int r), σ)
  have hro : ∀ (z : Int32) (res : Int32), some z = some res → fin_ res = fin_ z := fun z res h => by cases h; rfl
  refine MetX.of1 (fin := fin_) (lv := [(0, .ref (q 76))]) (by decide) (Nat.le_of_ble_eq_true rfl) rfl ?_
  unfold f_X7_countPlaces
  refine g_iconst (pc := 0) (0) dX7_countPlaces_0 (by decide) ?_
  refine g_istore_n (pc := 1) (lv' := [(1, .int (0 : Int32)), (0, .ref (q 76))]) dX7_countPlaces_1 rfl (Nat.le_of_ble_eq_true rfl) rfl ?_
  refine g_iconst (pc := 2) (0) dX7_countPlaces_2 (by decide) ?_
  refine g_istore_n (pc := 3) (lv' := [(2, .int (0 : Int32)), (1, .int (0 : Int32)), (0, .ref (q 76))]) dX7_countPlaces_3 rfl (Nat.le_of_ble_eq_true rfl) rfl ?_
  refine g_sub [2, 1, 0] rfl ?_
  refine g_wh2 (pc := 4) (s0 := ((0 : Int32), (0 : Int32))) (fun (w_ : Int32 × Int32) => σ) (fun (w_ : Int32 × Int32) => [(0, .ref (q 76)), (1, .int w_.1), (2, .int w_.2)]) (fun (w_ : Int32) => σ) (fun (w_ : Int32) => [(1, .int w_)]) 26 ?_ ?_
  · rintro z1
    try dsimp only [un, Sum.elim_inl]
    refine g_iload_n (pc := 26) 0 dX7_countPlaces_26 rfl rfl ?_
    exact g_iret (pc := 27) (hro _) rfl dX7_countPlaces_27
  · intro K4 hx4 ih4
    rintro ⟨y1, y2⟩
    try dsimp only [b_X7_countPlaces_4, un]
    refine g_iload_n (pc := 4) 2 dX7_countPlaces_4 rfl rfl ?_
    refine g_sipush (pc := 5) (169) dX7_countPlaces_5 (by decide) ?_
    refine g_icmp_ge (pc := 8) 26 dX7_countPlaces_8 (by decide) ?_ ?_
    · exact g_sub [1] rfl (hx4 y1)
    · refine g_iload_n (pc := 11) 1 dX7_countPlaces_11 rfl rfl ?_
      refine g_aload_n (pc := 12) 0 dX7_countPlaces_12 rfl rfl ?_
      refine gf_7_stood (pc := 13) kf_X7_29 dX7_countPlaces_13 ?_
      refine g_iload_n (pc := 16) 2 dX7_countPlaces_16 rfl rfl ?_
      refine a_ild (pc := 17) aX_7_stood dX7_countPlaces_17 ?_
      refine g_iadd (pc := 18) dX7_countPlaces_18 ?_
      refine g_nmi (fun x1 => ?_)
      refine g_istore_n (pc := 19) (lv' := [(1, .int x1), (0, .ref (q 76)), (2, .int y2)]) dX7_countPlaces_19 rfl (Nat.le_of_ble_eq_true rfl) rfl ?_
      refine g_iinc (pc := 20) (j := 2) (1) (lf := fun x2 => [(2, .int x2), (1, .int x1), (0, .ref (q 76))]) dX7_countPlaces_20 rfl (by decide) (Nat.le_of_ble_eq_true rfl) (fun _ => rfl) (fun x2 => ?_)
      refine g_goto (pc := 23) 4 dX7_countPlaces_23 (by decide) ?_
      exact g_sub [2, 1, 0] rfl (ih4 (x1, x2))
def b_X7_countUnlike_4 (σ : St) : (Int32 × Int32) → Option ((Int32 × Int32) ⊕ (Int32)) := un fun y1 y2 => (if (169 : Int32) ≤ y2 then some (.inr y1) else chk (nz (13 : Int32)) (chk (nz (13 : Int32)) ((if (y2 / (13 : Int32)) = (y2 - y2 / (13 : Int32) * (13 : Int32)) then nm (y1 + (0 : Int32)) fun x3 => nm (y2 + (1 : Int32)) fun x4 => some (.inl (x3, x4)) else chk (inb y2 169) (nm (y1 + (σ.1 80 y2.toNatClampNeg)) fun x1 => nm (y2 + (1 : Int32)) fun x2 => some (.inl (x1, x2)))))))
def f_X7_countUnlike (σ : St) : Option (Int32) := (wh FU (b_X7_countUnlike_4 σ) ((0 : Int32), (0 : Int32))).bind (fun z1 => some z1)
abbrev rm_X7_countUnlike : Room := { frames := 0, cells := 0, slots := 0, locals := 0 }
set_option maxHeartbeats 4000000 in
set_option maxRecDepth 20000 in
theorem m_X7_countUnlike (l : Launch) (D : va_G) (cy : Cy) (q : Nat → Nat) (σ : St)  : ∀ res, f_X7_countUnlike σ = some res → MetX (vX D cy q) l yX7_countUnlike cX7_countUnlike 3 (some .int) rm_X7_countUnlike [.ref (q 76)] σ (some (.int res), σ) := by
  let fin_ : Int32 → Option Value × St := fun r => (some (.int r), σ)
  have hro : ∀ (z : Int32) (res : Int32), some z = some res → fin_ res = fin_ z := fun z res h => by cases h; rfl
  refine MetX.of1 (fin := fin_) (lv := [(0, .ref (q 76))]) (by decide) (Nat.le_of_ble_eq_true rfl) rfl ?_
  unfold f_X7_countUnlike
  refine g_iconst (pc := 0) (0) dX7_countUnlike_0 (by decide) ?_
  refine g_istore_n (pc := 1) (lv' := [(1, .int (0 : Int32)), (0, .ref (q 76))]) dX7_countUnlike_1 rfl (Nat.le_of_ble_eq_true rfl) rfl ?_
  refine g_iconst (pc := 2) (0) dX7_countUnlike_2 (by decide) ?_
  refine g_istore_n (pc := 3) (lv' := [(2, .int (0 : Int32)), (1, .int (0 : Int32)), (0, .ref (q 76))]) dX7_countUnlike_3 rfl (Nat.le_of_ble_eq_true rfl) rfl ?_
  refine g_sub [2, 1, 0] rfl ?_
  refine g_wh2 (pc := 4) (s0 := ((0 : Int32), (0 : Int32))) (fun (w_ : Int32 × Int32) => σ) (fun (w_ : Int32 × Int32) => [(0, .ref (q 76)), (1, .int w_.1), (2, .int w_.2)]) (fun (w_ : Int32) => σ) (fun (w_ : Int32) => [(1, .int w_)]) 41 ?_ ?_
  · rintro z1
    try dsimp only [un, Sum.elim_inl]
    refine g_iload_n (pc := 41) 0 dX7_countUnlike_41 rfl rfl ?_
    exact g_iret (pc := 42) (hro _) rfl dX7_countUnlike_42
  · intro K4 hx4 ih4
    rintro ⟨y1, y2⟩
    try dsimp only [b_X7_countUnlike_4, un]
    refine g_iload_n (pc := 4) 2 dX7_countUnlike_4 rfl rfl ?_
    refine g_sipush (pc := 5) (169) dX7_countUnlike_5 (by decide) ?_
    refine g_icmp_ge (pc := 8) 41 dX7_countUnlike_8 (by decide) ?_ ?_
    · exact g_sub [1] rfl (hx4 y1)
    · refine g_iload_n (pc := 11) 1 dX7_countUnlike_11 rfl rfl ?_
      refine g_iload_n (pc := 12) 2 dX7_countUnlike_12 rfl rfl ?_
      refine g_bipush (pc := 13) (13) dX7_countUnlike_13 (by decide) ?_
      refine g_idiv (pc := 15) dX7_countUnlike_15 ?_
      refine g_iload_n (pc := 16) 2 dX7_countUnlike_16 rfl rfl ?_
      refine g_bipush (pc := 17) (13) dX7_countUnlike_17 (by decide) ?_
      refine g_irem (pc := 19) dX7_countUnlike_19 ?_
      refine g_icmp_ne (pc := 20) 27 dX7_countUnlike_20 (by decide) ?_ ?_
      · refine g_aload_n (pc := 27) 0 dX7_countUnlike_27 rfl rfl ?_
        refine gf_7_stood (pc := 28) kf_X7_29 dX7_countUnlike_28 ?_
        refine g_iload_n (pc := 31) 2 dX7_countUnlike_31 rfl rfl ?_
        refine a_ild (pc := 32) aX_7_stood dX7_countUnlike_32 ?_
        refine g_iadd (pc := 33) dX7_countUnlike_33 ?_
        refine g_nmi (fun x1 => ?_)
        refine g_istore_n (pc := 34) (lv' := [(1, .int x1), (0, .ref (q 76)), (2, .int y2)]) dX7_countUnlike_34 rfl (Nat.le_of_ble_eq_true rfl) rfl ?_
        refine g_iinc (pc := 35) (j := 2) (1) (lf := fun x2 => [(2, .int x2), (1, .int x1), (0, .ref (q 76))]) dX7_countUnlike_35 rfl (by decide) (Nat.le_of_ble_eq_true rfl) (fun _ => rfl) (fun x2 => ?_)
        refine g_goto (pc := 38) 4 dX7_countUnlike_38 (by decide) ?_
        exact g_sub [2, 1, 0] rfl (ih4 (x1, x2))
      · refine g_iconst (pc := 23) (0) dX7_countUnlike_23 (by decide) ?_
        refine g_goto (pc := 24) 33 dX7_countUnlike_24 (by decide) ?_
        refine g_iadd (pc := 33) dX7_countUnlike_33 ?_
        refine g_nmi (fun x3 => ?_)
        refine g_istore_n (pc := 34) (lv' := [(1, .int x3), (0, .ref (q 76)), (2, .int y2)]) dX7_countUnlike_34 rfl (Nat.le_of_ble_eq_true rfl) rfl ?_
        refine g_iinc (pc := 35) (j := 2) (1) (lf := fun x4 => [(2, .int x4), (1, .int x3), (0, .ref (q 76))]) dX7_countUnlike_35 rfl (by decide) (Nat.le_of_ble_eq_true rfl) (fun _ => rfl) (fun x4 => ?_)
        refine g_goto (pc := 38) 4 dX7_countUnlike_38 (by decide) ?_
        exact g_sub [2, 1, 0] rfl (ih4 (x3, x4))
def b_X7_moveAll_28 (p : Nat) (q_ : Nat) (x1 : Int32) (x2 : Int32) (x3 : Int32) : (Int32 × St) → Option ((Int32 × St) ⊕ (St)) := un fun y1 s2 => (if (256 : Int32) ≤ y1 then some (.inr s2) else (if x3 = (2 : Int32) then chk (inb y1 256) (nm (stI s2 81 y1.toNatClampNeg ((x1 * (256 : Int32)) + y1)) fun s8 => (if x3 = (1 : Int32) then chk (inb y1 256) (nm (stI s8 82 y1.toNatClampNeg ((x2 * (256 : Int32)) + y1)) fun s11 => chk (inb y1 256) (chk (nz (256 : Int32)) (nm (stI s11 76 9 ((s11.1 76 9) ||| ((1 : Int32) <<< (((s11.1 82 y1.toNatClampNeg) / (256 : Int32)) &&& 31)))) fun s12 => nm (y1 + (1 : Int32)) fun x7 => some (.inl (x7, s12))))) else (f_X4_steppedState q_ x2 y1 s8).bind fun r3 => chk (inb y1 256) (nm (stI s8 82 y1.toNatClampNeg r3) fun s9 => chk (inb y1 256) (chk (nz (256 : Int32)) (nm (stI s9 76 9 ((s9.1 76 9) ||| ((1 : Int32) <<< (((s9.1 82 y1.toNatClampNeg) / (256 : Int32)) &&& 31)))) fun s10 => nm (y1 + (1 : Int32)) fun x6 => some (.inl (x6, s10))))))) else (f_X4_steppedState p x1 y1 s2).bind fun r1 => chk (inb y1 256) (nm (stI s2 81 y1.toNatClampNeg r1) fun s3 => (if x3 = (1 : Int32) then chk (inb y1 256) (nm (stI s3 82 y1.toNatClampNeg ((x2 * (256 : Int32)) + y1)) fun s6 => chk (inb y1 256) (chk (nz (256 : Int32)) (nm (stI s6 76 9 ((s6.1 76 9) ||| ((1 : Int32) <<< (((s6.1 82 y1.toNatClampNeg) / (256 : Int32)) &&& 31)))) fun s7 => nm (y1 + (1 : Int32)) fun x5 => some (.inl (x5, s7))))) else (f_X4_steppedState q_ x2 y1 s3).bind fun r2 => chk (inb y1 256) (nm (stI s3 82 y1.toNatClampNeg r2) fun s4 => chk (inb y1 256) (chk (nz (256 : Int32)) (nm (stI s4 76 9 ((s4.1 76 9) ||| ((1 : Int32) <<< (((s4.1 82 y1.toNatClampNeg) / (256 : Int32)) &&& 31)))) fun s5 => nm (y1 + (1 : Int32)) fun x4 => some (.inl (x4, s5)))))))))
def f_X7_moveAll (p : Nat) (q_ : Nat) (place : Int32) (σ : St) : Option (St) := chk (nz (13 : Int32)) (nm (place / (13 : Int32)) fun x1 => chk (nz (13 : Int32)) (nm (place - place / (13 : Int32) * (13 : Int32)) fun x2 => chk (inb place 169) (nm (σ.1 77 place.toNatClampNeg) fun x3 => nm (stI σ 76 9 (0 : Int32)) fun s1 => (wh FU (b_X7_moveAll_28 p q_ x1 x2 x3) ((0 : Int32), s1)).bind (fun s13 => some s13))))
abbrev rm_X7_moveAll : Room := { frames := 3, cells := 0, slots := 0, locals := 70 }
set_option maxHeartbeats 4000000 in
set_option maxRecDepth 20000 in
theorem m_X7_moveAll (l : Launch) (D : va_G) (cy : Cy) (q : Nat → Nat) (σ : St) (p : Nat) (q_ : Nat) (place : Int32) (hp : isP p) (hq_ : isP q_) : ∀ res, f_X7_moveAll p q_ place σ = some res → MetX (vX D cy q) l yX7_moveAll cX7_moveAll 8 none rm_X7_moveAll [.ref (q 76), .ref (q p), .ref (q q_), .int place] σ (none, res) := by
  let fin_ : St → Option Value × St := fun r => (none, r)
  have hro : ∀ (z : St) (res : St), some z = some res → fin_ res = fin_ z := fun z res h => by cases h; rfl
  refine MetX.of1 (fin := fin_) (lv := [(0, .ref (q 76)), (1, .ref (q p)), (2, .ref (q q_)), (3, .int place)]) (by decide) (Nat.le_of_ble_eq_true rfl) rfl ?_
  unfold f_X7_moveAll
  refine g_iload_n (pc := 0) 3 dX7_moveAll_0 rfl rfl ?_
  refine g_bipush (pc := 1) (13) dX7_moveAll_1 (by decide) ?_
  refine g_idiv (pc := 3) dX7_moveAll_3 ?_
  refine g_nmi (fun x1 => ?_)
  refine g_istore (pc := 4) (lv' := [(4, .int x1), (0, .ref (q 76)), (1, .ref (q p)), (2, .ref (q q_)), (3, .int place)]) dX7_moveAll_4 (Nat.le_of_ble_eq_true rfl) rfl ?_
  refine g_iload_n (pc := 6) 4 dX7_moveAll_6 rfl rfl ?_
  refine g_bipush (pc := 7) (13) dX7_moveAll_7 (by decide) ?_
  refine g_irem (pc := 9) dX7_moveAll_9 ?_
  refine g_nmi (fun x2 => ?_)
  refine g_istore (pc := 10) (lv' := [(5, .int x2), (4, .int x1), (0, .ref (q 76)), (1, .ref (q p)), (2, .ref (q q_)), (3, .int place)]) dX7_moveAll_10 (Nat.le_of_ble_eq_true rfl) rfl ?_
  refine g_aload_n (pc := 12) 2 dX7_moveAll_12 rfl rfl ?_
  refine gf_7_waits (pc := 13) kf_X7_19 dX7_moveAll_13 ?_
  refine g_iload_n (pc := 16) 5 dX7_moveAll_16 rfl rfl ?_
  refine a_ild (pc := 17) aX_7_waits dX7_moveAll_17 ?_
  refine g_nmi (fun x3 => ?_)
  refine g_istore (pc := 18) (lv' := [(6, .int x3), (5, .int x2), (4, .int x1), (0, .ref (q 76)), (1, .ref (q p)), (2, .ref (q q_)), (3, .int place)]) dX7_moveAll_18 (Nat.le_of_ble_eq_true rfl) rfl ?_
  refine g_aload_n (pc := 20) 3 dX7_moveAll_20 rfl rfl ?_
  refine g_iconst (pc := 21) (0) dX7_moveAll_21 (by decide) ?_
  refine gp_7_secondLines (pc := 22) kf_X7_41 dX7_moveAll_22 (fun s1 => ?_)
  refine g_iconst (pc := 25) (0) dX7_moveAll_25 (by decide) ?_
  refine g_istore (pc := 26) (lv' := [(7, .int (0 : Int32)), (6, .int x3), (5, .int x2), (4, .int x1), (0, .ref (q 76)), (1, .ref (q p)), (2, .ref (q q_)), (3, .int place)]) dX7_moveAll_26 (Nat.le_of_ble_eq_true rfl) rfl ?_
  refine g_sub [4, 5, 6, 3, 2, 1, 0] rfl ?_
  refine g_wh2 (pc := 28) (s0 := ((0 : Int32), s1)) (fun (w_ : Int32 × St) => w_.2) (fun (w_ : Int32 × St) => [(0, .ref (q 76)), (1, .ref (q p)), (2, .ref (q q_)), (4, .int x1), (5, .int x2), (6, .int x3), (7, .int w_.1)]) (fun (w_ : St) => w_) (fun (w_ : St) => []) 130 ?_ ?_
  · rintro s13
    try dsimp only [un, Sum.elim_inl]
    exact g_vret (pc := 130) (hro _) rfl dX7_moveAll_130
  · intro K28 hx28 ih28
    rintro ⟨y1, s2⟩
    try dsimp only [b_X7_moveAll_28, un]
    refine g_iload (pc := 28) 6 dX7_moveAll_28 rfl ?_
    refine g_sipush (pc := 30) (256) dX7_moveAll_30 (by decide) ?_
    refine g_icmp_ge (pc := 33) 130 dX7_moveAll_33 (by decide) ?_ ?_
    · exact g_sub [] rfl (hx28 s2)
    · refine g_aload_n (pc := 36) 0 dX7_moveAll_36 rfl rfl ?_
      refine gf_7_firstMoved (pc := 37) kf_X7_35 dX7_moveAll_37 ?_
      refine g_iload (pc := 40) 6 dX7_moveAll_40 rfl ?_
      refine g_iload (pc := 42) 5 dX7_moveAll_42 rfl ?_
      refine g_iconst (pc := 44) (2) dX7_moveAll_44 (by decide) ?_
      refine g_icmp_ne (pc := 45) 60 dX7_moveAll_45 (by decide) ?_ ?_
      · refine g_aload_n (pc := 60) 1 dX7_moveAll_60 rfl rfl ?_
        refine g_iload (pc := 61) 3 dX7_moveAll_61 rfl ?_
        refine g_iload (pc := 63) 6 dX7_moveAll_63 rfl ?_
        refine gV_i (pc := 65) [.int x1, .int y1] [.int y1, .ref (q 81)] (m_X4_steppedState l D cy q s2 p x1 y1 hp) cw_X4_steppedState km_X7_106 ⟨rfl, rfl, by decide, by decide⟩ (by have := hp.lt; show p < 88; omega) (eX_4 (cy := cy) hp (s2.1 p) (s2.2 p)) rfl dX7_moveAll_65 rfl rfl (Nat.le_of_ble_eq_true rfl) (fun r1 => ?_)
        refine a_ist (pc := 68) aX_7_firstMoved dX7_moveAll_68 (fun s3 => ?_)
        refine g_aload_n (pc := 69) 0 dX7_moveAll_69 rfl rfl ?_
        refine gf_7_secondMoved (pc := 70) kf_X7_38 dX7_moveAll_70 ?_
        refine g_iload (pc := 73) 6 dX7_moveAll_73 rfl ?_
        refine g_iload (pc := 75) 5 dX7_moveAll_75 rfl ?_
        refine g_iconst (pc := 77) (1) dX7_moveAll_77 (by decide) ?_
        refine g_icmp_ne (pc := 78) 93 dX7_moveAll_78 (by decide) ?_ ?_
        · refine g_aload_n (pc := 93) 2 dX7_moveAll_93 rfl rfl ?_
          refine g_iload (pc := 94) 4 dX7_moveAll_94 rfl ?_
          refine g_iload (pc := 96) 6 dX7_moveAll_96 rfl ?_
          refine gV_i (pc := 98) [.int x2, .int y1] [.int y1, .ref (q 82)] (m_X4_steppedState l D cy q s3 q_ x2 y1 hq_) cw_X4_steppedState km_X7_106 ⟨rfl, rfl, by decide, by decide⟩ (by have := hq_.lt; show q_ < 88; omega) (eX_4 (cy := cy) hq_ (s3.1 q_) (s3.2 q_)) rfl dX7_moveAll_98 rfl rfl (Nat.le_of_ble_eq_true rfl) (fun r2 => ?_)
          refine a_ist (pc := 101) aX_7_secondMoved dX7_moveAll_101 (fun s4 => ?_)
          refine g_aload_n (pc := 102) 0 dX7_moveAll_102 rfl rfl ?_
          refine g_dup (pc := 103) dX7_moveAll_103 rfl ?_
          refine gf_7_secondLines (pc := 104) kf_X7_41 dX7_moveAll_104 ?_
          refine g_iconst (pc := 107) (1) dX7_moveAll_107 (by decide) ?_
          refine g_aload_n (pc := 108) 0 dX7_moveAll_108 rfl rfl ?_
          refine gf_7_secondMoved (pc := 109) kf_X7_38 dX7_moveAll_109 ?_
          refine g_iload (pc := 112) 6 dX7_moveAll_112 rfl ?_
          refine a_ild (pc := 114) aX_7_secondMoved dX7_moveAll_114 ?_
          refine g_sipush (pc := 115) (256) dX7_moveAll_115 (by decide) ?_
          refine g_idiv (pc := 118) dX7_moveAll_118 ?_
          refine g_ishl (pc := 119) dX7_moveAll_119 ?_
          refine g_ior (pc := 120) dX7_moveAll_120 ?_
          refine gp_7_secondLines (pc := 121) kf_X7_41 dX7_moveAll_121 (fun s5 => ?_)
          refine g_iinc (pc := 124) (j := 6) (1) (lf := fun x4 => [(7, .int x4), (0, .ref (q 76)), (1, .ref (q p)), (2, .ref (q q_)), (4, .int x1), (5, .int x2), (6, .int x3)]) dX7_moveAll_124 rfl (by decide) (Nat.le_of_ble_eq_true rfl) (fun _ => rfl) (fun x4 => ?_)
          refine g_goto (pc := 127) 28 dX7_moveAll_127 (by decide) ?_
          exact g_sub [1, 2, 3, 4, 5, 6, 0] rfl (ih28 (x4, s5))
        · refine g_iload (pc := 81) 4 dX7_moveAll_81 rfl ?_
          refine g_sipush (pc := 83) (256) dX7_moveAll_83 (by decide) ?_
          refine g_imul (pc := 86) dX7_moveAll_86 ?_
          refine g_iload (pc := 87) 6 dX7_moveAll_87 rfl ?_
          refine g_iadd (pc := 89) dX7_moveAll_89 ?_
          refine g_goto (pc := 90) 101 dX7_moveAll_90 (by decide) ?_
          refine a_ist (pc := 101) aX_7_secondMoved dX7_moveAll_101 (fun s6 => ?_)
          refine g_aload_n (pc := 102) 0 dX7_moveAll_102 rfl rfl ?_
          refine g_dup (pc := 103) dX7_moveAll_103 rfl ?_
          refine gf_7_secondLines (pc := 104) kf_X7_41 dX7_moveAll_104 ?_
          refine g_iconst (pc := 107) (1) dX7_moveAll_107 (by decide) ?_
          refine g_aload_n (pc := 108) 0 dX7_moveAll_108 rfl rfl ?_
          refine gf_7_secondMoved (pc := 109) kf_X7_38 dX7_moveAll_109 ?_
          refine g_iload (pc := 112) 6 dX7_moveAll_112 rfl ?_
          refine a_ild (pc := 114) aX_7_secondMoved dX7_moveAll_114 ?_
          refine g_sipush (pc := 115) (256) dX7_moveAll_115 (by decide) ?_
          refine g_idiv (pc := 118) dX7_moveAll_118 ?_
          refine g_ishl (pc := 119) dX7_moveAll_119 ?_
          refine g_ior (pc := 120) dX7_moveAll_120 ?_
          refine gp_7_secondLines (pc := 121) kf_X7_41 dX7_moveAll_121 (fun s7 => ?_)
          refine g_iinc (pc := 124) (j := 6) (1) (lf := fun x5 => [(7, .int x5), (0, .ref (q 76)), (1, .ref (q p)), (2, .ref (q q_)), (4, .int x1), (5, .int x2), (6, .int x3)]) dX7_moveAll_124 rfl (by decide) (Nat.le_of_ble_eq_true rfl) (fun _ => rfl) (fun x5 => ?_)
          refine g_goto (pc := 127) 28 dX7_moveAll_127 (by decide) ?_
          exact g_sub [1, 2, 3, 4, 5, 6, 0] rfl (ih28 (x5, s7))
      · refine g_iload (pc := 48) 3 dX7_moveAll_48 rfl ?_
        refine g_sipush (pc := 50) (256) dX7_moveAll_50 (by decide) ?_
        refine g_imul (pc := 53) dX7_moveAll_53 ?_
        refine g_iload (pc := 54) 6 dX7_moveAll_54 rfl ?_
        refine g_iadd (pc := 56) dX7_moveAll_56 ?_
        refine g_goto (pc := 57) 68 dX7_moveAll_57 (by decide) ?_
        refine a_ist (pc := 68) aX_7_firstMoved dX7_moveAll_68 (fun s8 => ?_)
        refine g_aload_n (pc := 69) 0 dX7_moveAll_69 rfl rfl ?_
        refine gf_7_secondMoved (pc := 70) kf_X7_38 dX7_moveAll_70 ?_
        refine g_iload (pc := 73) 6 dX7_moveAll_73 rfl ?_
        refine g_iload (pc := 75) 5 dX7_moveAll_75 rfl ?_
        refine g_iconst (pc := 77) (1) dX7_moveAll_77 (by decide) ?_
        refine g_icmp_ne (pc := 78) 93 dX7_moveAll_78 (by decide) ?_ ?_
        · refine g_aload_n (pc := 93) 2 dX7_moveAll_93 rfl rfl ?_
          refine g_iload (pc := 94) 4 dX7_moveAll_94 rfl ?_
          refine g_iload (pc := 96) 6 dX7_moveAll_96 rfl ?_
          refine gV_i (pc := 98) [.int x2, .int y1] [.int y1, .ref (q 82)] (m_X4_steppedState l D cy q s8 q_ x2 y1 hq_) cw_X4_steppedState km_X7_106 ⟨rfl, rfl, by decide, by decide⟩ (by have := hq_.lt; show q_ < 88; omega) (eX_4 (cy := cy) hq_ (s8.1 q_) (s8.2 q_)) rfl dX7_moveAll_98 rfl rfl (Nat.le_of_ble_eq_true rfl) (fun r3 => ?_)
          refine a_ist (pc := 101) aX_7_secondMoved dX7_moveAll_101 (fun s9 => ?_)
          refine g_aload_n (pc := 102) 0 dX7_moveAll_102 rfl rfl ?_
          refine g_dup (pc := 103) dX7_moveAll_103 rfl ?_
          refine gf_7_secondLines (pc := 104) kf_X7_41 dX7_moveAll_104 ?_
          refine g_iconst (pc := 107) (1) dX7_moveAll_107 (by decide) ?_
          refine g_aload_n (pc := 108) 0 dX7_moveAll_108 rfl rfl ?_
          refine gf_7_secondMoved (pc := 109) kf_X7_38 dX7_moveAll_109 ?_
          refine g_iload (pc := 112) 6 dX7_moveAll_112 rfl ?_
          refine a_ild (pc := 114) aX_7_secondMoved dX7_moveAll_114 ?_
          refine g_sipush (pc := 115) (256) dX7_moveAll_115 (by decide) ?_
          refine g_idiv (pc := 118) dX7_moveAll_118 ?_
          refine g_ishl (pc := 119) dX7_moveAll_119 ?_
          refine g_ior (pc := 120) dX7_moveAll_120 ?_
          refine gp_7_secondLines (pc := 121) kf_X7_41 dX7_moveAll_121 (fun s10 => ?_)
          refine g_iinc (pc := 124) (j := 6) (1) (lf := fun x6 => [(7, .int x6), (0, .ref (q 76)), (1, .ref (q p)), (2, .ref (q q_)), (4, .int x1), (5, .int x2), (6, .int x3)]) dX7_moveAll_124 rfl (by decide) (Nat.le_of_ble_eq_true rfl) (fun _ => rfl) (fun x6 => ?_)
          refine g_goto (pc := 127) 28 dX7_moveAll_127 (by decide) ?_
          exact g_sub [1, 2, 3, 4, 5, 6, 0] rfl (ih28 (x6, s10))
        · refine g_iload (pc := 81) 4 dX7_moveAll_81 rfl ?_
          refine g_sipush (pc := 83) (256) dX7_moveAll_83 (by decide) ?_
          refine g_imul (pc := 86) dX7_moveAll_86 ?_
          refine g_iload (pc := 87) 6 dX7_moveAll_87 rfl ?_
          refine g_iadd (pc := 89) dX7_moveAll_89 ?_
          refine g_goto (pc := 90) 101 dX7_moveAll_90 (by decide) ?_
          refine a_ist (pc := 101) aX_7_secondMoved dX7_moveAll_101 (fun s11 => ?_)
          refine g_aload_n (pc := 102) 0 dX7_moveAll_102 rfl rfl ?_
          refine g_dup (pc := 103) dX7_moveAll_103 rfl ?_
          refine gf_7_secondLines (pc := 104) kf_X7_41 dX7_moveAll_104 ?_
          refine g_iconst (pc := 107) (1) dX7_moveAll_107 (by decide) ?_
          refine g_aload_n (pc := 108) 0 dX7_moveAll_108 rfl rfl ?_
          refine gf_7_secondMoved (pc := 109) kf_X7_38 dX7_moveAll_109 ?_
          refine g_iload (pc := 112) 6 dX7_moveAll_112 rfl ?_
          refine a_ild (pc := 114) aX_7_secondMoved dX7_moveAll_114 ?_
          refine g_sipush (pc := 115) (256) dX7_moveAll_115 (by decide) ?_
          refine g_idiv (pc := 118) dX7_moveAll_118 ?_
          refine g_ishl (pc := 119) dX7_moveAll_119 ?_
          refine g_ior (pc := 120) dX7_moveAll_120 ?_
          refine gp_7_secondLines (pc := 121) kf_X7_41 dX7_moveAll_121 (fun s12 => ?_)
          refine g_iinc (pc := 124) (j := 6) (1) (lf := fun x7 => [(7, .int x7), (0, .ref (q 76)), (1, .ref (q p)), (2, .ref (q q_)), (4, .int x1), (5, .int x2), (6, .int x3)]) dX7_moveAll_124 rfl (by decide) (Nat.le_of_ble_eq_true rfl) (fun _ => rfl) (fun x7 => ?_)
          refine g_goto (pc := 127) 28 dX7_moveAll_127 (by decide) ?_
          exact g_sub [1, 2, 3, 4, 5, 6, 0] rfl (ih28 (x7, s12))
def b_X7_askNext_4 (state : Int32) : (Int32 × Int32 × St) → Option ((Int32 × Int32 × St) ⊕ (Int32 × St)) := un fun y1 => un fun y2 s1 => (if (13 : Int32) ≤ y2 then some (.inr (y1, s1)) else (if (((s1.1 76 9) >>> (y2 &&& 31)) &&& (1 : Int32)) = (0 : Int32) then nm (y2 + (1 : Int32)) fun x1 => some (.inl (y1, x1, s1)) else chk (nz (256 : Int32)) (chk (inb (((state / (256 : Int32)) * (13 : Int32)) + y2) 169) (nm (s1.1 78 (((state / (256 : Int32)) * (13 : Int32)) + y2).toNatClampNeg) fun x2 => chk (nz (256 : Int32)) ((f_X1_deniedBy x2 (state - state / (256 : Int32) * (256 : Int32))).bind fun r1 => chk (inb y2 13) (nm (stI s1 83 y2.toNatClampNeg r1) fun s2 => chk (inb y2 13) (nm (y1 ||| (s2.1 83 y2.toNatClampNeg)) fun x3 => nm (y2 + (1 : Int32)) fun x4 => some (.inl (x3, x4, s2)))))))))
def f_X7_askNext (state : Int32) (σ : St) : Option (Int32 × St) := (wh FU (b_X7_askNext_4 state) ((0 : Int32), (0 : Int32), σ)).bind (un fun z1 s3 => (if z1 = (0 : Int32) then some ((0 : Int32), s3) else some ((1 : Int32), s3)))
abbrev rm_X7_askNext : Room := { frames := 2, cells := 0, slots := 0, locals := 50 }
set_option maxHeartbeats 4000000 in
set_option maxRecDepth 20000 in
theorem m_X7_askNext (l : Launch) (D : va_G) (cy : Cy) (q : Nat → Nat) (σ : St) (state : Int32)  : ∀ res, f_X7_askNext state σ = some res → MetX (vX D cy q) l yX7_askNext cX7_askNext 5 (some .boolean) rm_X7_askNext [.ref (q 76), .int state] σ (some (.int res.1), res.2) := by
  let fin_ : (Int32 × St) → Option Value × St := fun r => (some (.int r.1), r.2)
  have hro : ∀ (z : Int32 × St) (res : Int32 × St), some z = some res → fin_ res = fin_ z := fun z res h => by cases h; rfl
  refine MetX.of1 (fin := fin_) (lv := [(0, .ref (q 76)), (1, .int state)]) (by decide) (Nat.le_of_ble_eq_true rfl) rfl ?_
  unfold f_X7_askNext
  refine g_iconst (pc := 0) (0) dX7_askNext_0 (by decide) ?_
  refine g_istore_n (pc := 1) (lv' := [(2, .int (0 : Int32)), (0, .ref (q 76)), (1, .int state)]) dX7_askNext_1 rfl (Nat.le_of_ble_eq_true rfl) rfl ?_
  refine g_iconst (pc := 2) (0) dX7_askNext_2 (by decide) ?_
  refine g_istore_n (pc := 3) (lv' := [(3, .int (0 : Int32)), (2, .int (0 : Int32)), (0, .ref (q 76)), (1, .int state)]) dX7_askNext_3 rfl (Nat.le_of_ble_eq_true rfl) rfl ?_
  refine g_sub [2, 3, 1, 0] rfl ?_
  refine g_wh2 (pc := 4) (s0 := ((0 : Int32), (0 : Int32), σ)) (fun (w_ : Int32 × Int32 × St) => w_.2.2) (fun (w_ : Int32 × Int32 × St) => [(0, .ref (q 76)), (1, .int state), (2, .int w_.1), (3, .int w_.2.1)]) (fun (w_ : Int32 × St) => w_.2) (fun (w_ : Int32 × St) => [(2, .int w_.1)]) 73 ?_ ?_
  · rintro ⟨z1, s3⟩
    try dsimp only [un, Sum.elim_inl]
    refine g_iload_n (pc := 73) 0 dX7_askNext_73 rfl rfl ?_
    refine g_if_eq (pc := 74) 81 dX7_askNext_74 (by decide) ?_ ?_
    · refine g_iconst (pc := 81) (0) dX7_askNext_81 (by decide) ?_
      exact g_zret (pc := 82) rfl (hro _) rfl dX7_askNext_82
    · refine g_iconst (pc := 77) (1) dX7_askNext_77 (by decide) ?_
      refine g_goto (pc := 78) 82 dX7_askNext_78 (by decide) ?_
      exact g_zret (pc := 82) rfl (hro _) rfl dX7_askNext_82
  · intro K4 hx4 ih4
    rintro ⟨y1, y2, s1⟩
    try dsimp only [b_X7_askNext_4, un]
    refine g_iload_n (pc := 4) 3 dX7_askNext_4 rfl rfl ?_
    refine g_bipush (pc := 5) (13) dX7_askNext_5 (by decide) ?_
    refine g_icmp_ge (pc := 7) 73 dX7_askNext_7 (by decide) ?_ ?_
    · exact g_sub [2] rfl (hx4 (y1, s1))
    · refine g_aload_n (pc := 10) 0 dX7_askNext_10 rfl rfl ?_
      refine gf_7_secondLines (pc := 11) kf_X7_41 dX7_askNext_11 ?_
      refine g_iload_n (pc := 14) 3 dX7_askNext_14 rfl rfl ?_
      refine g_ishr (pc := 15) dX7_askNext_15 ?_
      refine g_iconst (pc := 16) (1) dX7_askNext_16 (by decide) ?_
      refine g_iand (pc := 17) dX7_askNext_17 ?_
      refine g_if_eq (pc := 18) 67 dX7_askNext_18 (by decide) ?_ ?_
      · refine g_iinc (pc := 67) (j := 3) (1) (lf := fun x1 => [(3, .int x1), (0, .ref (q 76)), (1, .int state), (2, .int y1)]) dX7_askNext_67 rfl (by decide) (Nat.le_of_ble_eq_true rfl) (fun _ => rfl) (fun x1 => ?_)
        refine g_goto (pc := 70) 4 dX7_askNext_70 (by decide) ?_
        exact g_sub [1, 2, 3, 0] rfl (ih4 (y1, x1, s1))
      · refine g_aload_n (pc := 21) 0 dX7_askNext_21 rfl rfl ?_
        refine gf_7_toldShapes (pc := 22) kf_X7_23 dX7_askNext_22 ?_
        refine g_iload_n (pc := 25) 1 dX7_askNext_25 rfl rfl ?_
        refine g_sipush (pc := 26) (256) dX7_askNext_26 (by decide) ?_
        refine g_idiv (pc := 29) dX7_askNext_29 ?_
        refine g_bipush (pc := 30) (13) dX7_askNext_30 (by decide) ?_
        refine g_imul (pc := 32) dX7_askNext_32 ?_
        refine g_iload_n (pc := 33) 3 dX7_askNext_33 rfl rfl ?_
        refine g_iadd (pc := 34) dX7_askNext_34 ?_
        refine a_ild (pc := 35) aX_7_toldShapes dX7_askNext_35 ?_
        refine g_nmi (fun x2 => ?_)
        refine g_istore (pc := 36) (lv' := [(4, .int x2), (0, .ref (q 76)), (1, .int state), (2, .int y1), (3, .int y2)]) dX7_askNext_36 (Nat.le_of_ble_eq_true rfl) rfl ?_
        refine g_aload_n (pc := 38) 1 dX7_askNext_38 rfl rfl ?_
        refine gf_7_deniedNext (pc := 39) kf_X7_44 dX7_askNext_39 ?_
        refine g_iload_n (pc := 42) 4 dX7_askNext_42 rfl rfl ?_
        refine g_aload_n (pc := 43) 1 dX7_askNext_43 rfl rfl ?_
        refine gf_7_forms (pc := 44) kf_X7_9 dX7_askNext_44 ?_
        refine g_iload (pc := 47) 0 dX7_askNext_47 rfl ?_
        refine g_iload_n (pc := 49) 2 dX7_askNext_49 rfl rfl ?_
        refine g_sipush (pc := 50) (256) dX7_askNext_50 (by decide) ?_
        refine g_irem (pc := 53) dX7_askNext_53 ?_
        refine gV_i (pc := 54) [.int x2, .int (state - state / (256 : Int32) * (256 : Int32))] [.int y2, .ref (q 83)] (m_X1_deniedBy l D cy q s1 x2 (state - state / (256 : Int32) * (256 : Int32))) cw_X1_deniedBy km_X7_100 ⟨rfl, rfl, by decide, by decide⟩ (Nat.le_of_ble_eq_true rfl) (eX_1 (cy := cy) (s1.1 0) (s1.2 0)) rfl dX7_askNext_54 rfl rfl (Nat.le_of_ble_eq_true rfl) (fun r1 => ?_)
        refine a_ist (pc := 57) aX_7_deniedNext dX7_askNext_57 (fun s2 => ?_)
        refine g_iload_n (pc := 58) 3 dX7_askNext_58 rfl rfl ?_
        refine g_aload_n (pc := 59) 1 dX7_askNext_59 rfl rfl ?_
        refine gf_7_deniedNext (pc := 60) kf_X7_44 dX7_askNext_60 ?_
        refine g_iload_n (pc := 63) 4 dX7_askNext_63 rfl rfl ?_
        refine a_ild (pc := 64) aX_7_deniedNext dX7_askNext_64 ?_
        refine g_ior (pc := 65) dX7_askNext_65 ?_
        refine g_nmi (fun x3 => ?_)
        refine g_istore_n (pc := 66) (lv' := [(2, .int x3), (4, .int x2), (0, .ref (q 76)), (1, .int state), (3, .int y2)]) dX7_askNext_66 rfl (Nat.le_of_ble_eq_true rfl) rfl ?_
        refine g_iinc (pc := 67) (j := 4) (1) (lf := fun x4 => [(3, .int x4), (2, .int x3), (4, .int x2), (0, .ref (q 76)), (1, .int state)]) dX7_askNext_67 rfl (by decide) (Nat.le_of_ble_eq_true rfl) (fun _ => rfl) (fun x4 => ?_)
        refine g_goto (pc := 70) 4 dX7_askNext_70 (by decide) ?_
        exact g_sub [3, 4, 1, 0] rfl (ih4 (x3, x4, s2))
def b_X7_areKept_2 (denied : Int32) (σ : St) : (Int32) → Option ((Int32) ⊕ ((Unit) ⊕ (Int32))) := fun y1 => (if (256 : Int32) ≤ y1 then some (.inr (.inl ())) else chk (inb y1 256) (nm (σ.1 82 y1.toNatClampNeg) fun x1 => chk (inb y1 256) ((if ((σ.1 1 y1.toNatClampNeg) &&& denied) = (0 : Int32) then chk (nz (256 : Int32)) (chk (inb (x1 - x1 / (256 : Int32) * (256 : Int32)) 256) (chk (nz (256 : Int32)) (chk (inb (x1 / (256 : Int32)) 13) ((if ((σ.1 1 (x1 - x1 / (256 : Int32) * (256 : Int32)).toNatClampNeg) &&& (σ.1 83 (x1 / (256 : Int32)).toNatClampNeg)) = (0 : Int32) then nm (y1 + (1 : Int32)) fun x3 => some (.inl x3) else some (.inr (.inr (0 : Int32)))))))) else nm (y1 + (1 : Int32)) fun x2 => some (.inl x2)))))
def f_X7_areKept (denied : Int32) (σ : St) : Option (Int32) := (wh FU (b_X7_areKept_2 denied σ) (0 : Int32)).bind (Sum.elim (fun _ => some (1 : Int32)) (fun z => some z))
abbrev rm_X7_areKept : Room := { frames := 0, cells := 0, slots := 0, locals := 0 }
set_option maxHeartbeats 4000000 in
set_option maxRecDepth 20000 in
theorem m_X7_areKept (l : Launch) (D : va_G) (cy : Cy) (q : Nat → Nat) (σ : St) (denied : Int32)  : ∀ res, f_X7_areKept denied σ = some res → MetX (vX D cy q) l yX7_areKept cX7_areKept 5 (some .boolean) rm_X7_areKept [.ref (q 76), .int denied] σ (some (.int res), σ) := by
  let fin_ : Int32 → Option Value × St := fun r => (some (.int r), σ)
  have hro : ∀ (z : Int32) (res : Int32), some z = some res → fin_ res = fin_ z := fun z res h => by cases h; rfl
  refine MetX.of1 (fin := fin_) (lv := [(0, .ref (q 76)), (1, .int denied)]) (by decide) (Nat.le_of_ble_eq_true rfl) rfl ?_
  unfold f_X7_areKept
  refine g_iconst (pc := 0) (0) dX7_areKept_0 (by decide) ?_
  refine g_istore_n (pc := 1) (lv' := [(2, .int (0 : Int32)), (0, .ref (q 76)), (1, .int denied)]) dX7_areKept_1 rfl (Nat.le_of_ble_eq_true rfl) rfl ?_
  refine g_sub [1, 2, 0] rfl ?_
  refine g_whr (pc := 2) (s0 := (0 : Int32)) fin_ (fun (w_ : Int32) => σ) (fun (w_ : Int32) => [(0, .ref (q 76)), (1, .int denied), (2, .int w_)]) (fun (w_ : Unit) => σ) (fun (w_ : Unit) => []) 77 (fun z => z) (fun _ => rfl) hro ?_ ?_
  · rintro _
    try dsimp only [un, Sum.elim_inl]
    refine g_iconst (pc := 77) (1) dX7_areKept_77 (by decide) ?_
    exact g_zret (pc := 78) rfl (hro _) rfl dX7_areKept_78
  · intro K2 hr2 hx2 ih2
    rintro y1
    try dsimp only [b_X7_areKept_2, un]
    refine g_iload_n (pc := 2) 2 dX7_areKept_2 rfl rfl ?_
    refine g_sipush (pc := 3) (256) dX7_areKept_3 (by decide) ?_
    refine g_icmp_ge (pc := 6) 77 dX7_areKept_6 (by decide) ?_ ?_
    · exact g_sub [] rfl (hx2 ())
    · refine g_aload_n (pc := 9) 0 dX7_areKept_9 rfl rfl ?_
      refine gf_7_secondMoved (pc := 10) kf_X7_38 dX7_areKept_10 ?_
      refine g_iload_n (pc := 13) 2 dX7_areKept_13 rfl rfl ?_
      refine a_ild (pc := 14) aX_7_secondMoved dX7_areKept_14 ?_
      refine g_nmi (fun x1 => ?_)
      refine g_istore_n (pc := 15) (lv' := [(3, .int x1), (0, .ref (q 76)), (1, .int denied), (2, .int y1)]) dX7_areKept_15 rfl (Nat.le_of_ble_eq_true rfl) rfl ?_
      refine g_aload_n (pc := 16) 1 dX7_areKept_16 rfl rfl ?_
      refine gf_7_forms (pc := 17) kf_X7_9 dX7_areKept_17 ?_
      refine gf_1_hot (pc := 20) kf_X7_64 dX7_areKept_20 ?_
      refine g_iload_n (pc := 23) 3 dX7_areKept_23 rfl rfl ?_
      refine a_ild (pc := 24) aX_1_hot dX7_areKept_24 ?_
      refine g_iload_n (pc := 25) 2 dX7_areKept_25 rfl rfl ?_
      refine g_iand (pc := 26) dX7_areKept_26 ?_
      refine g_if_ne (pc := 27) 34 dX7_areKept_27 (by decide) ?_ ?_
      · refine g_iconst (pc := 34) (0) dX7_areKept_34 (by decide) ?_
        refine g_istore (pc := 35) (lv' := [(4, .int (0 : Int32)), (3, .int x1), (0, .ref (q 76)), (1, .int denied), (2, .int y1)]) dX7_areKept_35 (Nat.le_of_ble_eq_true rfl) rfl ?_
        refine g_iload (pc := 37) 0 dX7_areKept_37 rfl ?_
        refine g_ifeq_y (pc := 39) 71 (by decide) dX7_areKept_39 (by decide) ?_
        refine g_iinc (pc := 71) (j := 4) (1) (lf := fun x2 => [(2, .int x2), (4, .int (0 : Int32)), (3, .int x1), (0, .ref (q 76)), (1, .int denied)]) dX7_areKept_71 rfl (by decide) (Nat.le_of_ble_eq_true rfl) (fun _ => rfl) (fun x2 => ?_)
        refine g_goto (pc := 74) 2 dX7_areKept_74 (by decide) ?_
        exact g_sub [3, 4, 0] rfl (ih2 x2)
      · refine g_iconst (pc := 30) (1) dX7_areKept_30 (by decide) ?_
        refine g_goto (pc := 31) 35 dX7_areKept_31 (by decide) ?_
        refine g_istore (pc := 35) (lv' := [(4, .int (1 : Int32)), (3, .int x1), (0, .ref (q 76)), (1, .int denied), (2, .int y1)]) dX7_areKept_35 (Nat.le_of_ble_eq_true rfl) rfl ?_
        refine g_iload (pc := 37) 0 dX7_areKept_37 rfl ?_
        refine g_ifeq_n (pc := 39) 71 (by decide) dX7_areKept_39 (by decide) ?_
        refine g_aload_n (pc := 42) 2 dX7_areKept_42 rfl rfl ?_
        refine gf_7_forms (pc := 43) kf_X7_9 dX7_areKept_43 ?_
        refine gf_1_hot (pc := 46) kf_X7_64 dX7_areKept_46 ?_
        refine g_iload_n (pc := 49) 1 dX7_areKept_49 rfl rfl ?_
        refine g_sipush (pc := 50) (256) dX7_areKept_50 (by decide) ?_
        refine g_irem (pc := 53) dX7_areKept_53 ?_
        refine a_ild (pc := 54) aX_1_hot dX7_areKept_54 ?_
        refine g_aload_n (pc := 55) 2 dX7_areKept_55 rfl rfl ?_
        refine gf_7_deniedNext (pc := 56) kf_X7_44 dX7_areKept_56 ?_
        refine g_iload_n (pc := 59) 1 dX7_areKept_59 rfl rfl ?_
        refine g_sipush (pc := 60) (256) dX7_areKept_60 (by decide) ?_
        refine g_idiv (pc := 63) dX7_areKept_63 ?_
        refine a_ild (pc := 64) aX_7_deniedNext dX7_areKept_64 ?_
        refine g_iand (pc := 65) dX7_areKept_65 ?_
        refine g_if_eq (pc := 66) 71 dX7_areKept_66 (by decide) ?_ ?_
        · refine g_iinc (pc := 71) (j := 4) (1) (lf := fun x3 => [(2, .int x3), (4, .int (1 : Int32)), (3, .int x1), (0, .ref (q 76)), (1, .int denied)]) dX7_areKept_71 rfl (by decide) (Nat.le_of_ble_eq_true rfl) (fun _ => rfl) (fun x3 => ?_)
          refine g_goto (pc := 74) 2 dX7_areKept_74 (by decide) ?_
          exact g_sub [3, 4, 0] rfl (ih2 x3)
        · refine g_iconst (pc := 69) (0) dX7_areKept_69 (by decide) ?_
          exact g_zret (pc := 70) rfl (hr2 _) rfl dX7_areKept_70
def b_X7_isKept_10 (place : Int32) : (Int32 × St) → Option ((Int32 × St) ⊕ ((St) ⊕ (Int32 × St))) := un fun y1 s2 => (if (256 : Int32) ≤ y1 then some (.inr (.inl s2)) else chk (inb y1 256) ((f_X7_askNext (s2.1 81 y1.toNatClampNeg) s2).bind (un fun r1 s3 => (if r1 = (0 : Int32) then nm (y1 + (1 : Int32)) fun x1 => some (.inl (x1, s3)) else chk (inb place 169) ((f_X1_deniedBy (s3.1 78 place.toNatClampNeg) y1).bind fun r2 => (f_X7_areKept r2 s3).bind fun r3 => (if r3 = (0 : Int32) then some (.inr (.inr ((0 : Int32), s3))) else nm (y1 + (1 : Int32)) fun x2 => some (.inl (x2, s3))))))))
def f_X7_isKept (p : Nat) (q_ : Nat) (place : Int32) (σ : St) : Option (Int32 × St) := (f_X7_moveAll p q_ place σ).bind fun s1 => (wh FU (b_X7_isKept_10 place) ((0 : Int32), s1)).bind (Sum.elim (fun s4 => some ((1 : Int32), s4)) (fun z => some z))
abbrev rm_X7_isKept : Room := { frames := 4, cells := 0, slots := 0, locals := 97 }
set_option maxHeartbeats 4000000 in
set_option maxRecDepth 20000 in
theorem m_X7_isKept (l : Launch) (D : va_G) (cy : Cy) (q : Nat → Nat) (σ : St) (p : Nat) (q_ : Nat) (place : Int32) (hp : isP p) (hq_ : isP q_) : ∀ res, f_X7_isKept p q_ place σ = some res → MetX (vX D cy q) l yX7_isKept cX7_isKept 6 (some .boolean) rm_X7_isKept [.ref (q 76), .ref (q p), .ref (q q_), .int place] σ (some (.int res.1), res.2) := by
  let fin_ : (Int32 × St) → Option Value × St := fun r => (some (.int r.1), r.2)
  have hro : ∀ (z : Int32 × St) (res : Int32 × St), some z = some res → fin_ res = fin_ z := fun z res h => by cases h; rfl
  refine MetX.of1 (fin := fin_) (lv := [(0, .ref (q 76)), (1, .ref (q p)), (2, .ref (q q_)), (3, .int place)]) (by decide) (Nat.le_of_ble_eq_true rfl) rfl ?_
  unfold f_X7_isKept
  refine g_aload_n (pc := 0) 0 dX7_isKept_0 rfl rfl ?_
  refine g_aload_n (pc := 1) 1 dX7_isKept_1 rfl rfl ?_
  refine g_aload_n (pc := 2) 2 dX7_isKept_2 rfl rfl ?_
  refine g_iload_n (pc := 3) 3 dX7_isKept_3 rfl rfl ?_
  refine gV_v (pc := 4) [.ref (q p), .ref (q q_), .int place] [] (m_X7_moveAll l D cy q σ p q_ place hp hq_) cw_X7_moveAll km_X7_92 ⟨rfl, rfl, by decide, by decide⟩ (Nat.le_of_ble_eq_true rfl) (eX_7 (cy := cy) (σ.1 76) (σ.2 76)) rfl dX7_isKept_4 rfl rfl (Nat.le_of_ble_eq_true rfl) (fun s1 => ?_)
  refine g_iconst (pc := 7) (0) dX7_isKept_7 (by decide) ?_
  refine g_istore (pc := 8) (lv' := [(4, .int (0 : Int32)), (0, .ref (q 76)), (1, .ref (q p)), (2, .ref (q q_)), (3, .int place)]) dX7_isKept_8 (Nat.le_of_ble_eq_true rfl) rfl ?_
  refine g_sub [1, 4, 0] rfl ?_
  refine g_whr (pc := 10) (s0 := ((0 : Int32), s1)) fin_ (fun (w_ : Int32 × St) => w_.2) (fun (w_ : Int32 × St) => [(0, .ref (q 76)), (3, .int place), (4, .int w_.1)]) (fun (w_ : St) => w_) (fun (w_ : St) => []) 66 (fun z => z) (fun _ => rfl) hro ?_ ?_
  · rintro s4
    try dsimp only [un, Sum.elim_inl]
    refine g_iconst (pc := 66) (1) dX7_isKept_66 (by decide) ?_
    exact g_zret (pc := 67) rfl (hro _) rfl dX7_isKept_67
  · intro K10 hr10 hx10 ih10
    rintro ⟨y1, s2⟩
    try dsimp only [b_X7_isKept_10, un]
    refine g_iload (pc := 10) 2 dX7_isKept_10 rfl ?_
    refine g_sipush (pc := 12) (256) dX7_isKept_12 (by decide) ?_
    refine g_icmp_ge (pc := 15) 66 dX7_isKept_15 (by decide) ?_ ?_
    · exact g_sub [] rfl (hx10 s2)
    · refine g_aload_n (pc := 18) 0 dX7_isKept_18 rfl rfl ?_
      refine g_aload_n (pc := 19) 0 dX7_isKept_19 rfl rfl ?_
      refine gf_7_firstMoved (pc := 20) kf_X7_35 dX7_isKept_20 ?_
      refine g_iload (pc := 23) 2 dX7_isKept_23 rfl ?_
      refine a_ild (pc := 25) aX_7_firstMoved dX7_isKept_25 ?_
      refine gV_e (pc := 26) [.int (s2.1 81 y1.toNatClampNeg)] [] (m_X7_askNext l D cy q s2 (s2.1 81 y1.toNatClampNeg)) cw_X7_askNext km_X7_96 ⟨rfl, rfl, by decide, by decide⟩ (Nat.le_of_ble_eq_true rfl) (eX_7 (cy := cy) (s2.1 76) (s2.2 76)) rfl dX7_isKept_26 rfl rfl (Nat.le_of_ble_eq_true rfl) (fun r1 s3 => ?_)
      refine g_istore (pc := 29) (lv' := [(5, .int r1), (0, .ref (q 76)), (3, .int place), (4, .int y1)]) dX7_isKept_29 (Nat.le_of_ble_eq_true rfl) rfl ?_
      refine g_iload (pc := 31) 0 dX7_isKept_31 rfl ?_
      refine g_if_eq (pc := 33) 60 dX7_isKept_33 (by decide) ?_ ?_
      · refine g_iinc (pc := 60) (j := 3) (1) (lf := fun x1 => [(4, .int x1), (5, .int r1), (0, .ref (q 76)), (3, .int place)]) dX7_isKept_60 rfl (by decide) (Nat.le_of_ble_eq_true rfl) (fun _ => rfl) (fun x1 => ?_)
        refine g_goto (pc := 63) 10 dX7_isKept_63 (by decide) ?_
        exact g_sub [2, 3, 0] rfl (ih10 (x1, s3))
      · refine g_aload_n (pc := 36) 1 dX7_isKept_36 rfl rfl ?_
        refine g_aload_n (pc := 37) 1 dX7_isKept_37 rfl rfl ?_
        refine gf_7_forms (pc := 38) kf_X7_9 dX7_isKept_38 ?_
        refine g_aload_n (pc := 41) 1 dX7_isKept_41 rfl rfl ?_
        refine gf_7_toldShapes (pc := 42) kf_X7_23 dX7_isKept_42 ?_
        refine g_iload_n (pc := 45) 2 dX7_isKept_45 rfl rfl ?_
        refine a_ild (pc := 46) aX_7_toldShapes dX7_isKept_46 ?_
        refine g_iload (pc := 47) 3 dX7_isKept_47 rfl ?_
        refine gV_i (pc := 49) [.int (s3.1 78 place.toNatClampNeg), .int y1] [.ref (q 76)] (m_X1_deniedBy l D cy q s3 (s3.1 78 place.toNatClampNeg) y1) cw_X1_deniedBy km_X7_100 ⟨rfl, rfl, by decide, by decide⟩ (Nat.le_of_ble_eq_true rfl) (eX_1 (cy := cy) (s3.1 0) (s3.2 0)) rfl dX7_isKept_49 rfl rfl (Nat.le_of_ble_eq_true rfl) (fun r2 => ?_)
        refine gV_i (pc := 52) [.int r2] [] (m_X7_areKept l D cy q s3 r2) cw_X7_areKept km_X7_103 ⟨rfl, rfl, by decide, by decide⟩ (Nat.le_of_ble_eq_true rfl) (eX_7 (cy := cy) (s3.1 76) (s3.2 76)) rfl dX7_isKept_52 rfl rfl (Nat.le_of_ble_eq_true rfl) (fun r3 => ?_)
        refine g_if_ne (pc := 55) 60 dX7_isKept_55 (by decide) ?_ ?_
        · refine g_iinc (pc := 60) (j := 3) (1) (lf := fun x2 => [(4, .int x2), (5, .int r1), (0, .ref (q 76)), (3, .int place)]) dX7_isKept_60 rfl (by decide) (Nat.le_of_ble_eq_true rfl) (fun _ => rfl) (fun x2 => ?_)
          refine g_goto (pc := 63) 10 dX7_isKept_63 (by decide) ?_
          exact g_sub [2, 3, 0] rfl (ih10 (x2, s3))
        · refine g_iconst (pc := 58) (0) dX7_isKept_58 (by decide) ?_
          exact g_zret (pc := 59) rfl (hr10 _) rfl dX7_isKept_59
def b_X7_firstFailing_2 (p : Nat) (q_ : Nat) : (Int32 × St) → Option ((Int32 × St) ⊕ ((St) ⊕ (Int32 × St))) := un fun y1 s1 => (if (168 : Int32) ≤ y1 then some (.inr (.inl s1)) else chk (inb y1 169) ((if (s1.1 80 y1.toNatClampNeg) = (0 : Int32) then nm (y1 + (1 : Int32)) fun x1 => some (.inl (x1, s1)) else (f_X7_isKept p q_ y1 s1).bind (un fun r1 s2 => (if r1 = (0 : Int32) then chk (nz (13 : Int32)) (chk (nz (13 : Int32)) (some (.inr (.inr ((((100 : Int32) * (y1 / (13 : Int32))) + (y1 - y1 / (13 : Int32) * (13 : Int32))), s2))))) else nm (y1 + (1 : Int32)) fun x2 => some (.inl (x2, s2)))))))
def f_X7_firstFailing (p : Nat) (q_ : Nat) (σ : St) : Option (Int32 × St) := (wh FU (b_X7_firstFailing_2 p q_) ((0 : Int32), σ)).bind (Sum.elim (fun s3 => some ((-6 : Int32), s3)) (fun z => some z))
abbrev rm_X7_firstFailing : Room := { frames := 5, cells := 0, slots := 0, locals := 122 }
set_option maxHeartbeats 4000000 in
set_option maxRecDepth 20000 in
theorem m_X7_firstFailing (l : Launch) (D : va_G) (cy : Cy) (q : Nat → Nat) (σ : St) (p : Nat) (q_ : Nat) (hp : isP p) (hq_ : isP q_) : ∀ res, f_X7_firstFailing p q_ σ = some res → MetX (vX D cy q) l yX7_firstFailing cX7_firstFailing 4 (some .int) rm_X7_firstFailing [.ref (q 76), .ref (q p), .ref (q q_)] σ (some (.int res.1), res.2) := by
  let fin_ : (Int32 × St) → Option Value × St := fun r => (some (.int r.1), r.2)
  have hro : ∀ (z : Int32 × St) (res : Int32 × St), some z = some res → fin_ res = fin_ z := fun z res h => by cases h; rfl
  refine MetX.of1 (fin := fin_) (lv := [(0, .ref (q 76)), (1, .ref (q p)), (2, .ref (q q_))]) (by decide) (Nat.le_of_ble_eq_true rfl) rfl ?_
  unfold f_X7_firstFailing
  refine g_iconst (pc := 0) (0) dX7_firstFailing_0 (by decide) ?_
  refine g_istore_n (pc := 1) (lv' := [(3, .int (0 : Int32)), (0, .ref (q 76)), (1, .ref (q p)), (2, .ref (q q_))]) dX7_firstFailing_1 rfl (Nat.le_of_ble_eq_true rfl) rfl ?_
  refine g_sub [1, 2, 3, 0] rfl ?_
  refine g_whr (pc := 2) (s0 := ((0 : Int32), σ)) fin_ (fun (w_ : Int32 × St) => w_.2) (fun (w_ : Int32 × St) => [(0, .ref (q 76)), (1, .ref (q p)), (2, .ref (q q_)), (3, .int w_.1)]) (fun (w_ : St) => w_) (fun (w_ : St) => []) 47 (fun z => z) (fun _ => rfl) hro ?_ ?_
  · rintro s3
    try dsimp only [un, Sum.elim_inl]
    refine g_bipush (pc := 47) (-6) dX7_firstFailing_47 (by decide) ?_
    exact g_iret (pc := 49) (hro _) rfl dX7_firstFailing_49
  · intro K2 hr2 hx2 ih2
    rintro ⟨y1, s1⟩
    try dsimp only [b_X7_firstFailing_2, un]
    refine g_iload_n (pc := 2) 3 dX7_firstFailing_2 rfl rfl ?_
    refine g_sipush (pc := 3) (168) dX7_firstFailing_3 (by decide) ?_
    refine g_icmp_ge (pc := 6) 47 dX7_firstFailing_6 (by decide) ?_ ?_
    · exact g_sub [] rfl (hx2 s1)
    · refine g_aload_n (pc := 9) 0 dX7_firstFailing_9 rfl rfl ?_
      refine gf_7_stood (pc := 10) kf_X7_29 dX7_firstFailing_10 ?_
      refine g_iload_n (pc := 13) 3 dX7_firstFailing_13 rfl rfl ?_
      refine a_ild (pc := 14) aX_7_stood dX7_firstFailing_14 ?_
      refine g_if_eq (pc := 15) 41 dX7_firstFailing_15 (by decide) ?_ ?_
      · refine g_iinc (pc := 41) (j := 3) (1) (lf := fun x1 => [(3, .int x1), (0, .ref (q 76)), (1, .ref (q p)), (2, .ref (q q_))]) dX7_firstFailing_41 rfl (by decide) (Nat.le_of_ble_eq_true rfl) (fun _ => rfl) (fun x1 => ?_)
        refine g_goto (pc := 44) 2 dX7_firstFailing_44 (by decide) ?_
        exact g_sub [1, 2, 3, 0] rfl (ih2 (x1, s1))
      · refine g_aload_n (pc := 18) 0 dX7_firstFailing_18 rfl rfl ?_
        refine g_aload_n (pc := 19) 1 dX7_firstFailing_19 rfl rfl ?_
        refine g_aload_n (pc := 20) 2 dX7_firstFailing_20 rfl rfl ?_
        refine g_iload_n (pc := 21) 3 dX7_firstFailing_21 rfl rfl ?_
        refine gV_e (pc := 22) [.ref (q p), .ref (q q_), .int y1] [] (m_X7_isKept l D cy q s1 p q_ y1 hp hq_) cw_X7_isKept km_X7_88 ⟨rfl, rfl, by decide, by decide⟩ (Nat.le_of_ble_eq_true rfl) (eX_7 (cy := cy) (s1.1 76) (s1.2 76)) rfl dX7_firstFailing_22 rfl rfl (Nat.le_of_ble_eq_true rfl) (fun r1 s2 => ?_)
        refine g_if_ne (pc := 25) 41 dX7_firstFailing_25 (by decide) ?_ ?_
        · refine g_iinc (pc := 41) (j := 3) (1) (lf := fun x2 => [(3, .int x2), (0, .ref (q 76)), (1, .ref (q p)), (2, .ref (q q_))]) dX7_firstFailing_41 rfl (by decide) (Nat.le_of_ble_eq_true rfl) (fun _ => rfl) (fun x2 => ?_)
          refine g_goto (pc := 44) 2 dX7_firstFailing_44 (by decide) ?_
          exact g_sub [1, 2, 3, 0] rfl (ih2 (x2, s2))
        · refine g_bipush (pc := 28) (100) dX7_firstFailing_28 (by decide) ?_
          refine g_iload_n (pc := 30) 3 dX7_firstFailing_30 rfl rfl ?_
          refine g_bipush (pc := 31) (13) dX7_firstFailing_31 (by decide) ?_
          refine g_idiv (pc := 33) dX7_firstFailing_33 ?_
          refine g_imul (pc := 34) dX7_firstFailing_34 ?_
          refine g_iload_n (pc := 35) 3 dX7_firstFailing_35 rfl rfl ?_
          refine g_bipush (pc := 36) (13) dX7_firstFailing_36 (by decide) ?_
          refine g_irem (pc := 38) dX7_firstFailing_38 ?_
          refine g_iadd (pc := 39) dX7_firstFailing_39 ?_
          exact g_iret (pc := 40) (hr2 _) rfl dX7_firstFailing_40
def f_X8_isWithin (number : Int32) (top : Int32) : Option (Int32) := (if number < (0 : Int32) then some (0 : Int32) else (if top < number then some (0 : Int32) else some (1 : Int32)))
abbrev rm_X8_isWithin : Room := { frames := 0, cells := 0, slots := 0, locals := 0 }
set_option maxHeartbeats 4000000 in
set_option maxRecDepth 20000 in
theorem m_X8_isWithin (l : Launch) (D : va_G) (cy : Cy) (q : Nat → Nat) (σ : St) (number : Int32) (top : Int32)  : ∀ res, f_X8_isWithin number top = some res → MetX (vX D cy q) l yX8_isWithin cX8_isWithin 2 (some .boolean) rm_X8_isWithin [.int number, .int top] σ (some (.int res), σ) := by
  let fin_ : Int32 → Option Value × St := fun r => (some (.int r), σ)
  have hro : ∀ (z : Int32) (res : Int32), some z = some res → fin_ res = fin_ z := fun z res h => by cases h; rfl
  refine MetX.of1 (fin := fin_) (lv := [(0, .int number), (1, .int top)]) (by decide) (Nat.le_of_ble_eq_true rfl) rfl ?_
  unfold f_X8_isWithin
  refine g_iload_n (pc := 0) 0 dX8_isWithin_0 rfl rfl ?_
  refine g_if_lt (pc := 1) 13 dX8_isWithin_1 (by decide) ?_ ?_
  · refine g_iconst (pc := 13) (0) dX8_isWithin_13 (by decide) ?_
    exact g_zret (pc := 14) rfl (hro _) rfl dX8_isWithin_14
  · refine g_iload_n (pc := 4) 0 dX8_isWithin_4 rfl rfl ?_
    refine g_iload_n (pc := 5) 1 dX8_isWithin_5 rfl rfl ?_
    refine g_icmp_gt (pc := 6) 13 dX8_isWithin_6 (by decide) ?_ ?_
    · refine g_iconst (pc := 13) (0) dX8_isWithin_13 (by decide) ?_
      exact g_zret (pc := 14) rfl (hro _) rfl dX8_isWithin_14
    · refine g_iconst (pc := 9) (1) dX8_isWithin_9 (by decide) ?_
      refine g_goto (pc := 10) 14 dX8_isWithin_10 (by decide) ?_
      exact g_zret (pc := 14) rfl (hro _) rfl dX8_isWithin_14
def f_X8_isProgram (program : Int32) : Option (Int32) := (f_X8_isWithin program (3 : Int32)).bind fun r1 => chk (isb r1) (some r1)
abbrev rm_X8_isProgram : Room := { frames := 1, cells := 0, slots := 0, locals := 21 }
set_option maxHeartbeats 4000000 in
set_option maxRecDepth 20000 in
theorem m_X8_isProgram (l : Launch) (D : va_G) (cy : Cy) (q : Nat → Nat) (σ : St) (program : Int32)  : ∀ res, f_X8_isProgram program = some res → MetX (vX D cy q) l yX8_isProgram cX8_isProgram 1 (some .boolean) rm_X8_isProgram [.int program] σ (some (.int res), σ) := by
  let fin_ : Int32 → Option Value × St := fun r => (some (.int r), σ)
  have hro : ∀ (z : Int32) (res : Int32), some z = some res → fin_ res = fin_ z := fun z res h => by cases h; rfl
  refine MetX.of1 (fin := fin_) (lv := [(0, .int program)]) (by decide) (Nat.le_of_ble_eq_true rfl) rfl ?_
  unfold f_X8_isProgram
  refine g_iload_n (pc := 0) 0 dX8_isProgram_0 rfl rfl ?_
  refine g_iconst (pc := 1) (3) dX8_isProgram_1 (by decide) ?_
  refine gS_i (pc := 2) [.int program, .int (3 : Int32)] [] (m_X8_isWithin l D cy q σ program (3 : Int32)) cw_X8_isWithin km_X8_99 ⟨rfl, rfl, by decide, by decide⟩ dX8_isProgram_2 rfl rfl (Nat.le_of_ble_eq_true rfl) (fun r1 => ?_)
  exact g_chk fun hb => g_zret (pc := 5) hb (hro _) rfl dX8_isProgram_5
def f_X8_isAct (act : Int32) (a : Int32) (b : Int32) (c : Int32) : Option (Int32) := (if act = (0 : Int32) then (f_X8_isWithin a (3 : Int32)).bind fun r1 => (if r1 = (0 : Int32) then some (0 : Int32) else (f_X8_isWithin b (3 : Int32)).bind fun r2 => (if r2 = (0 : Int32) then some (0 : Int32) else (if c = (0 : Int32) then some (1 : Int32) else some (0 : Int32)))) else (if act = (1 : Int32) then (f_X8_isWithin a (3 : Int32)).bind fun r3 => (if r3 = (0 : Int32) then some (0 : Int32) else (f_X8_isWithin b (3 : Int32)).bind fun r4 => (if r4 = (0 : Int32) then some (0 : Int32) else (if c = (0 : Int32) then some (1 : Int32) else some (0 : Int32)))) else (if act = (2 : Int32) then (f_X8_isWithin a (3 : Int32)).bind fun r5 => (if r5 = (0 : Int32) then some (0 : Int32) else (f_X8_isWithin b (3 : Int32)).bind fun r6 => (if r6 = (0 : Int32) then some (0 : Int32) else (f_X8_isWithin c (3 : Int32)).bind fun r7 => (if r7 = (0 : Int32) then some (0 : Int32) else some (1 : Int32)))) else (if act = (3 : Int32) then (f_X8_isWithin a (3 : Int32)).bind fun r8 => (if r8 = (0 : Int32) then some (0 : Int32) else (f_X8_isWithin b (3 : Int32)).bind fun r9 => (if r9 = (0 : Int32) then some (0 : Int32) else (f_X8_isWithin c (3 : Int32)).bind fun r10 => (if r10 = (0 : Int32) then some (0 : Int32) else some (1 : Int32)))) else (if act = (4 : Int32) then (f_X8_isWithin a (3 : Int32)).bind fun r11 => (if r11 = (0 : Int32) then some (0 : Int32) else (f_X8_isWithin b (3 : Int32)).bind fun r12 => (if r12 = (0 : Int32) then some (0 : Int32) else (f_X8_isWithin c (3 : Int32)).bind fun r13 => (if r13 = (0 : Int32) then some (0 : Int32) else some (1 : Int32)))) else (if act = (5 : Int32) then (f_X8_isWithin a (3 : Int32)).bind fun r14 => (if r14 = (0 : Int32) then some (0 : Int32) else (f_X8_isWithin b (12 : Int32)).bind fun r15 => (if r15 = (0 : Int32) then some (0 : Int32) else (if c = (0 : Int32) then some (1 : Int32) else some (0 : Int32)))) else (if act = (6 : Int32) then (f_X8_isWithin a (3 : Int32)).bind fun r16 => (if r16 = (0 : Int32) then some (0 : Int32) else (if b = (0 : Int32) then (if c = (0 : Int32) then some (1 : Int32) else some (0 : Int32)) else some (0 : Int32))) else (if act = (7 : Int32) then (if a = (0 : Int32) then (if b = (0 : Int32) then (if c = (0 : Int32) then some (1 : Int32) else some (0 : Int32)) else some (0 : Int32)) else some (0 : Int32)) else some (0 : Int32)))))))))
abbrev rm_X8_isAct : Room := { frames := 1, cells := 0, slots := 0, locals := 21 }
set_option maxHeartbeats 4000000 in
set_option maxRecDepth 20000 in
theorem m_X8_isAct (l : Launch) (D : va_G) (cy : Cy) (q : Nat → Nat) (σ : St) (act : Int32) (a : Int32) (b : Int32) (c : Int32)  : ∀ res, f_X8_isAct act a b c = some res → MetX (vX D cy q) l yX8_isAct cX8_isAct 4 (some .boolean) rm_X8_isAct [.int act, .int a, .int b, .int c] σ (some (.int res), σ) := by
  let fin_ : Int32 → Option Value × St := fun r => (some (.int r), σ)
  have hro : ∀ (z : Int32) (res : Int32), some z = some res → fin_ res = fin_ z := fun z res h => by cases h; rfl
  refine MetX.of1 (fin := fin_) (lv := [(0, .int act), (1, .int a), (2, .int b), (3, .int c)]) (by decide) (Nat.le_of_ble_eq_true rfl) rfl ?_
  unfold f_X8_isAct
  refine g_iload_n (pc := 0) 0 dX8_isAct_0 rfl rfl ?_
  refine g_if (fun c1_0 => ?_) (fun n1_0 => ?_)
  · refine g_tbl (pc := 1) (0) 48 dX8_isAct_1 (i32_eq (0) rfl c1_0) (by decide) (by decide) rfl (by decide) ?_
    refine g_iload_n (pc := 48) 1 dX8_isAct_48 rfl rfl ?_
    refine g_iconst (pc := 49) (3) dX8_isAct_49 (by decide) ?_
    refine gS_i (pc := 50) [.int a, .int (3 : Int32)] [] (m_X8_isWithin l D cy q σ a (3 : Int32)) cw_X8_isWithin km_X8_99 ⟨rfl, rfl, by decide, by decide⟩ dX8_isAct_50 rfl rfl (Nat.le_of_ble_eq_true rfl) (fun r1 => ?_)
    refine g_if_eq (pc := 53) 72 dX8_isAct_53 (by decide) ?_ ?_
    · refine g_iconst (pc := 72) (0) dX8_isAct_72 (by decide) ?_
      exact g_zret (pc := 73) rfl (hro _) rfl dX8_isAct_73
    · refine g_iload_n (pc := 56) 2 dX8_isAct_56 rfl rfl ?_
      refine g_iconst (pc := 57) (3) dX8_isAct_57 (by decide) ?_
      refine gS_i (pc := 58) [.int b, .int (3 : Int32)] [] (m_X8_isWithin l D cy q σ b (3 : Int32)) cw_X8_isWithin km_X8_99 ⟨rfl, rfl, by decide, by decide⟩ dX8_isAct_58 rfl rfl (Nat.le_of_ble_eq_true rfl) (fun r2 => ?_)
      refine g_if_eq (pc := 61) 72 dX8_isAct_61 (by decide) ?_ ?_
      · refine g_iconst (pc := 72) (0) dX8_isAct_72 (by decide) ?_
        exact g_zret (pc := 73) rfl (hro _) rfl dX8_isAct_73
      · refine g_iload_n (pc := 64) 3 dX8_isAct_64 rfl rfl ?_
        refine g_if_ne (pc := 65) 72 dX8_isAct_65 (by decide) ?_ ?_
        · refine g_iconst (pc := 72) (0) dX8_isAct_72 (by decide) ?_
          exact g_zret (pc := 73) rfl (hro _) rfl dX8_isAct_73
        · refine g_iconst (pc := 68) (1) dX8_isAct_68 (by decide) ?_
          refine g_goto (pc := 69) 73 dX8_isAct_69 (by decide) ?_
          exact g_zret (pc := 73) rfl (hro _) rfl dX8_isAct_73
  · refine g_if (fun c1_1 => ?_) (fun n1_1 => ?_)
    · refine g_tbl (pc := 1) (1) 48 dX8_isAct_1 (i32_eq (1) rfl c1_1) (by decide) (by decide) rfl (by decide) ?_
      refine g_iload_n (pc := 48) 1 dX8_isAct_48 rfl rfl ?_
      refine g_iconst (pc := 49) (3) dX8_isAct_49 (by decide) ?_
      refine gS_i (pc := 50) [.int a, .int (3 : Int32)] [] (m_X8_isWithin l D cy q σ a (3 : Int32)) cw_X8_isWithin km_X8_99 ⟨rfl, rfl, by decide, by decide⟩ dX8_isAct_50 rfl rfl (Nat.le_of_ble_eq_true rfl) (fun r3 => ?_)
      refine g_if_eq (pc := 53) 72 dX8_isAct_53 (by decide) ?_ ?_
      · refine g_iconst (pc := 72) (0) dX8_isAct_72 (by decide) ?_
        exact g_zret (pc := 73) rfl (hro _) rfl dX8_isAct_73
      · refine g_iload_n (pc := 56) 2 dX8_isAct_56 rfl rfl ?_
        refine g_iconst (pc := 57) (3) dX8_isAct_57 (by decide) ?_
        refine gS_i (pc := 58) [.int b, .int (3 : Int32)] [] (m_X8_isWithin l D cy q σ b (3 : Int32)) cw_X8_isWithin km_X8_99 ⟨rfl, rfl, by decide, by decide⟩ dX8_isAct_58 rfl rfl (Nat.le_of_ble_eq_true rfl) (fun r4 => ?_)
        refine g_if_eq (pc := 61) 72 dX8_isAct_61 (by decide) ?_ ?_
        · refine g_iconst (pc := 72) (0) dX8_isAct_72 (by decide) ?_
          exact g_zret (pc := 73) rfl (hro _) rfl dX8_isAct_73
        · refine g_iload_n (pc := 64) 3 dX8_isAct_64 rfl rfl ?_
          refine g_if_ne (pc := 65) 72 dX8_isAct_65 (by decide) ?_ ?_
          · refine g_iconst (pc := 72) (0) dX8_isAct_72 (by decide) ?_
            exact g_zret (pc := 73) rfl (hro _) rfl dX8_isAct_73
          · refine g_iconst (pc := 68) (1) dX8_isAct_68 (by decide) ?_
            refine g_goto (pc := 69) 73 dX8_isAct_69 (by decide) ?_
            exact g_zret (pc := 73) rfl (hro _) rfl dX8_isAct_73
    · refine g_if (fun c1_2 => ?_) (fun n1_2 => ?_)
      · refine g_tbl (pc := 1) (2) 74 dX8_isAct_1 (i32_eq (2) rfl c1_2) (by decide) (by decide) rfl (by decide) ?_
        refine g_iload_n (pc := 74) 1 dX8_isAct_74 rfl rfl ?_
        refine g_iconst (pc := 75) (3) dX8_isAct_75 (by decide) ?_
        refine gS_i (pc := 76) [.int a, .int (3 : Int32)] [] (m_X8_isWithin l D cy q σ a (3 : Int32)) cw_X8_isWithin km_X8_99 ⟨rfl, rfl, by decide, by decide⟩ dX8_isAct_76 rfl rfl (Nat.le_of_ble_eq_true rfl) (fun r5 => ?_)
        refine g_if_eq (pc := 79) 102 dX8_isAct_79 (by decide) ?_ ?_
        · refine g_iconst (pc := 102) (0) dX8_isAct_102 (by decide) ?_
          exact g_zret (pc := 103) rfl (hro _) rfl dX8_isAct_103
        · refine g_iload_n (pc := 82) 2 dX8_isAct_82 rfl rfl ?_
          refine g_iconst (pc := 83) (3) dX8_isAct_83 (by decide) ?_
          refine gS_i (pc := 84) [.int b, .int (3 : Int32)] [] (m_X8_isWithin l D cy q σ b (3 : Int32)) cw_X8_isWithin km_X8_99 ⟨rfl, rfl, by decide, by decide⟩ dX8_isAct_84 rfl rfl (Nat.le_of_ble_eq_true rfl) (fun r6 => ?_)
          refine g_if_eq (pc := 87) 102 dX8_isAct_87 (by decide) ?_ ?_
          · refine g_iconst (pc := 102) (0) dX8_isAct_102 (by decide) ?_
            exact g_zret (pc := 103) rfl (hro _) rfl dX8_isAct_103
          · refine g_iload_n (pc := 90) 3 dX8_isAct_90 rfl rfl ?_
            refine g_iconst (pc := 91) (3) dX8_isAct_91 (by decide) ?_
            refine gS_i (pc := 92) [.int c, .int (3 : Int32)] [] (m_X8_isWithin l D cy q σ c (3 : Int32)) cw_X8_isWithin km_X8_99 ⟨rfl, rfl, by decide, by decide⟩ dX8_isAct_92 rfl rfl (Nat.le_of_ble_eq_true rfl) (fun r7 => ?_)
            refine g_if_eq (pc := 95) 102 dX8_isAct_95 (by decide) ?_ ?_
            · refine g_iconst (pc := 102) (0) dX8_isAct_102 (by decide) ?_
              exact g_zret (pc := 103) rfl (hro _) rfl dX8_isAct_103
            · refine g_iconst (pc := 98) (1) dX8_isAct_98 (by decide) ?_
              refine g_goto (pc := 99) 103 dX8_isAct_99 (by decide) ?_
              exact g_zret (pc := 103) rfl (hro _) rfl dX8_isAct_103
      · refine g_if (fun c1_3 => ?_) (fun n1_3 => ?_)
        · refine g_tbl (pc := 1) (3) 74 dX8_isAct_1 (i32_eq (3) rfl c1_3) (by decide) (by decide) rfl (by decide) ?_
          refine g_iload_n (pc := 74) 1 dX8_isAct_74 rfl rfl ?_
          refine g_iconst (pc := 75) (3) dX8_isAct_75 (by decide) ?_
          refine gS_i (pc := 76) [.int a, .int (3 : Int32)] [] (m_X8_isWithin l D cy q σ a (3 : Int32)) cw_X8_isWithin km_X8_99 ⟨rfl, rfl, by decide, by decide⟩ dX8_isAct_76 rfl rfl (Nat.le_of_ble_eq_true rfl) (fun r8 => ?_)
          refine g_if_eq (pc := 79) 102 dX8_isAct_79 (by decide) ?_ ?_
          · refine g_iconst (pc := 102) (0) dX8_isAct_102 (by decide) ?_
            exact g_zret (pc := 103) rfl (hro _) rfl dX8_isAct_103
          · refine g_iload_n (pc := 82) 2 dX8_isAct_82 rfl rfl ?_
            refine g_iconst (pc := 83) (3) dX8_isAct_83 (by decide) ?_
            refine gS_i (pc := 84) [.int b, .int (3 : Int32)] [] (m_X8_isWithin l D cy q σ b (3 : Int32)) cw_X8_isWithin km_X8_99 ⟨rfl, rfl, by decide, by decide⟩ dX8_isAct_84 rfl rfl (Nat.le_of_ble_eq_true rfl) (fun r9 => ?_)
            refine g_if_eq (pc := 87) 102 dX8_isAct_87 (by decide) ?_ ?_
            · refine g_iconst (pc := 102) (0) dX8_isAct_102 (by decide) ?_
              exact g_zret (pc := 103) rfl (hro _) rfl dX8_isAct_103
            · refine g_iload_n (pc := 90) 3 dX8_isAct_90 rfl rfl ?_
              refine g_iconst (pc := 91) (3) dX8_isAct_91 (by decide) ?_
              refine gS_i (pc := 92) [.int c, .int (3 : Int32)] [] (m_X8_isWithin l D cy q σ c (3 : Int32)) cw_X8_isWithin km_X8_99 ⟨rfl, rfl, by decide, by decide⟩ dX8_isAct_92 rfl rfl (Nat.le_of_ble_eq_true rfl) (fun r10 => ?_)
              refine g_if_eq (pc := 95) 102 dX8_isAct_95 (by decide) ?_ ?_
              · refine g_iconst (pc := 102) (0) dX8_isAct_102 (by decide) ?_
                exact g_zret (pc := 103) rfl (hro _) rfl dX8_isAct_103
              · refine g_iconst (pc := 98) (1) dX8_isAct_98 (by decide) ?_
                refine g_goto (pc := 99) 103 dX8_isAct_99 (by decide) ?_
                exact g_zret (pc := 103) rfl (hro _) rfl dX8_isAct_103
        · refine g_if (fun c1_4 => ?_) (fun n1_4 => ?_)
          · refine g_tbl (pc := 1) (4) 74 dX8_isAct_1 (i32_eq (4) rfl c1_4) (by decide) (by decide) rfl (by decide) ?_
            refine g_iload_n (pc := 74) 1 dX8_isAct_74 rfl rfl ?_
            refine g_iconst (pc := 75) (3) dX8_isAct_75 (by decide) ?_
            refine gS_i (pc := 76) [.int a, .int (3 : Int32)] [] (m_X8_isWithin l D cy q σ a (3 : Int32)) cw_X8_isWithin km_X8_99 ⟨rfl, rfl, by decide, by decide⟩ dX8_isAct_76 rfl rfl (Nat.le_of_ble_eq_true rfl) (fun r11 => ?_)
            refine g_if_eq (pc := 79) 102 dX8_isAct_79 (by decide) ?_ ?_
            · refine g_iconst (pc := 102) (0) dX8_isAct_102 (by decide) ?_
              exact g_zret (pc := 103) rfl (hro _) rfl dX8_isAct_103
            · refine g_iload_n (pc := 82) 2 dX8_isAct_82 rfl rfl ?_
              refine g_iconst (pc := 83) (3) dX8_isAct_83 (by decide) ?_
              refine gS_i (pc := 84) [.int b, .int (3 : Int32)] [] (m_X8_isWithin l D cy q σ b (3 : Int32)) cw_X8_isWithin km_X8_99 ⟨rfl, rfl, by decide, by decide⟩ dX8_isAct_84 rfl rfl (Nat.le_of_ble_eq_true rfl) (fun r12 => ?_)
              refine g_if_eq (pc := 87) 102 dX8_isAct_87 (by decide) ?_ ?_
              · refine g_iconst (pc := 102) (0) dX8_isAct_102 (by decide) ?_
                exact g_zret (pc := 103) rfl (hro _) rfl dX8_isAct_103
              · refine g_iload_n (pc := 90) 3 dX8_isAct_90 rfl rfl ?_
                refine g_iconst (pc := 91) (3) dX8_isAct_91 (by decide) ?_
                refine gS_i (pc := 92) [.int c, .int (3 : Int32)] [] (m_X8_isWithin l D cy q σ c (3 : Int32)) cw_X8_isWithin km_X8_99 ⟨rfl, rfl, by decide, by decide⟩ dX8_isAct_92 rfl rfl (Nat.le_of_ble_eq_true rfl) (fun r13 => ?_)
                refine g_if_eq (pc := 95) 102 dX8_isAct_95 (by decide) ?_ ?_
                · refine g_iconst (pc := 102) (0) dX8_isAct_102 (by decide) ?_
                  exact g_zret (pc := 103) rfl (hro _) rfl dX8_isAct_103
                · refine g_iconst (pc := 98) (1) dX8_isAct_98 (by decide) ?_
                  refine g_goto (pc := 99) 103 dX8_isAct_99 (by decide) ?_
                  exact g_zret (pc := 103) rfl (hro _) rfl dX8_isAct_103
          · refine g_if (fun c1_5 => ?_) (fun n1_5 => ?_)
            · refine g_tbl (pc := 1) (5) 104 dX8_isAct_1 (i32_eq (5) rfl c1_5) (by decide) (by decide) rfl (by decide) ?_
              refine g_iload_n (pc := 104) 1 dX8_isAct_104 rfl rfl ?_
              refine g_iconst (pc := 105) (3) dX8_isAct_105 (by decide) ?_
              refine gS_i (pc := 106) [.int a, .int (3 : Int32)] [] (m_X8_isWithin l D cy q σ a (3 : Int32)) cw_X8_isWithin km_X8_99 ⟨rfl, rfl, by decide, by decide⟩ dX8_isAct_106 rfl rfl (Nat.le_of_ble_eq_true rfl) (fun r14 => ?_)
              refine g_if_eq (pc := 109) 129 dX8_isAct_109 (by decide) ?_ ?_
              · refine g_iconst (pc := 129) (0) dX8_isAct_129 (by decide) ?_
                exact g_zret (pc := 130) rfl (hro _) rfl dX8_isAct_130
              · refine g_iload_n (pc := 112) 2 dX8_isAct_112 rfl rfl ?_
                refine g_bipush (pc := 113) (12) dX8_isAct_113 (by decide) ?_
                refine gS_i (pc := 115) [.int b, .int (12 : Int32)] [] (m_X8_isWithin l D cy q σ b (12 : Int32)) cw_X8_isWithin km_X8_99 ⟨rfl, rfl, by decide, by decide⟩ dX8_isAct_115 rfl rfl (Nat.le_of_ble_eq_true rfl) (fun r15 => ?_)
                refine g_if_eq (pc := 118) 129 dX8_isAct_118 (by decide) ?_ ?_
                · refine g_iconst (pc := 129) (0) dX8_isAct_129 (by decide) ?_
                  exact g_zret (pc := 130) rfl (hro _) rfl dX8_isAct_130
                · refine g_iload_n (pc := 121) 3 dX8_isAct_121 rfl rfl ?_
                  refine g_if_ne (pc := 122) 129 dX8_isAct_122 (by decide) ?_ ?_
                  · refine g_iconst (pc := 129) (0) dX8_isAct_129 (by decide) ?_
                    exact g_zret (pc := 130) rfl (hro _) rfl dX8_isAct_130
                  · refine g_iconst (pc := 125) (1) dX8_isAct_125 (by decide) ?_
                    refine g_goto (pc := 126) 130 dX8_isAct_126 (by decide) ?_
                    exact g_zret (pc := 130) rfl (hro _) rfl dX8_isAct_130
            · refine g_if (fun c1_6 => ?_) (fun n1_6 => ?_)
              · refine g_tbl (pc := 1) (6) 131 dX8_isAct_1 (i32_eq (6) rfl c1_6) (by decide) (by decide) rfl (by decide) ?_
                refine g_iload_n (pc := 131) 1 dX8_isAct_131 rfl rfl ?_
                refine g_iconst (pc := 132) (3) dX8_isAct_132 (by decide) ?_
                refine gS_i (pc := 133) [.int a, .int (3 : Int32)] [] (m_X8_isWithin l D cy q σ a (3 : Int32)) cw_X8_isWithin km_X8_99 ⟨rfl, rfl, by decide, by decide⟩ dX8_isAct_133 rfl rfl (Nat.le_of_ble_eq_true rfl) (fun r16 => ?_)
                refine g_if_eq (pc := 136) 151 dX8_isAct_136 (by decide) ?_ ?_
                · refine g_iconst (pc := 151) (0) dX8_isAct_151 (by decide) ?_
                  exact g_zret (pc := 152) rfl (hro _) rfl dX8_isAct_152
                · refine g_iload_n (pc := 139) 2 dX8_isAct_139 rfl rfl ?_
                  refine g_if_ne (pc := 140) 151 dX8_isAct_140 (by decide) ?_ ?_
                  · refine g_iconst (pc := 151) (0) dX8_isAct_151 (by decide) ?_
                    exact g_zret (pc := 152) rfl (hro _) rfl dX8_isAct_152
                  · refine g_iload_n (pc := 143) 3 dX8_isAct_143 rfl rfl ?_
                    refine g_if_ne (pc := 144) 151 dX8_isAct_144 (by decide) ?_ ?_
                    · refine g_iconst (pc := 151) (0) dX8_isAct_151 (by decide) ?_
                      exact g_zret (pc := 152) rfl (hro _) rfl dX8_isAct_152
                    · refine g_iconst (pc := 147) (1) dX8_isAct_147 (by decide) ?_
                      refine g_goto (pc := 148) 152 dX8_isAct_148 (by decide) ?_
                      exact g_zret (pc := 152) rfl (hro _) rfl dX8_isAct_152
              · refine g_if (fun c1_7 => ?_) (fun n1_7 => ?_)
                · refine g_tbl (pc := 1) (7) 153 dX8_isAct_1 (i32_eq (7) rfl c1_7) (by decide) (by decide) rfl (by decide) ?_
                  refine g_iload_n (pc := 153) 1 dX8_isAct_153 rfl rfl ?_
                  refine g_if_ne (pc := 154) 169 dX8_isAct_154 (by decide) ?_ ?_
                  · refine g_iconst (pc := 169) (0) dX8_isAct_169 (by decide) ?_
                    exact g_zret (pc := 170) rfl (hro _) rfl dX8_isAct_170
                  · refine g_iload_n (pc := 157) 2 dX8_isAct_157 rfl rfl ?_
                    refine g_if_ne (pc := 158) 169 dX8_isAct_158 (by decide) ?_ ?_
                    · refine g_iconst (pc := 169) (0) dX8_isAct_169 (by decide) ?_
                      exact g_zret (pc := 170) rfl (hro _) rfl dX8_isAct_170
                    · refine g_iload_n (pc := 161) 3 dX8_isAct_161 rfl rfl ?_
                      refine g_if_ne (pc := 162) 169 dX8_isAct_162 (by decide) ?_ ?_
                      · refine g_iconst (pc := 169) (0) dX8_isAct_169 (by decide) ?_
                        exact g_zret (pc := 170) rfl (hro _) rfl dX8_isAct_170
                      · refine g_iconst (pc := 165) (1) dX8_isAct_165 (by decide) ?_
                        refine g_goto (pc := 166) 170 dX8_isAct_166 (by decide) ?_
                        exact g_zret (pc := 170) rfl (hro _) rfl dX8_isAct_170
                · refine g_tblOut (pc := 1) 171 dX8_isAct_1 (by have e0 := i32_ne (0) rfl n1_0; have e1 := i32_ne (1) rfl n1_1; have e2 := i32_ne (2) rfl n1_2; have e3 := i32_ne (3) rfl n1_3; have e4 := i32_ne (4) rfl n1_4; have e5 := i32_ne (5) rfl n1_5; have e6 := i32_ne (6) rfl n1_6; have e7 := i32_ne (7) rfl n1_7; omega) (by decide) ?_
                  refine g_iconst (pc := 171) (0) dX8_isAct_171 (by decide) ?_
                  exact g_zret (pc := 172) rfl (hro _) rfl dX8_isAct_172
