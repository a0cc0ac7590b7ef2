def rX11_feed : Room := { frames := 1, cells := 0, slots := 0, locals := 22 }
def fX11_feed (a1 : Int32) (a2 : Int32) (a3 : Int32) (a4 : Int32) (a5 : Int32) (u : Mem) : Option (Int32 × Mem) := (if ((u.1 182 1) + 20) ≤ 400 then ((fX8_append a1 u).bind fun u3 => ((fX8_append a2 u3).bind fun u5 => ((fX8_append a3 u5).bind fun u7 => ((fX8_append a4 u7).bind fun u9 => ((fX8_append a5 u9).bind fun u11 => (some (u11.1 182 1, u11))))))) else (some ((-1), u)))
set_option maxHeartbeats 4000000 in
set_option maxRecDepth 100000 in
theorem cX11_feed_ct (l : Launch) (D : va_G) (cy : Nat → ClassId) (ad : Nat → Nat) (a1 : Int32) (a2 : Int32) (a3 : Int32) (a4 : Int32) (a5 : Int32) (u : Mem)  (out : (Int32 × Mem)) (h : fX11_feed a1 a2 a3 a4 a5 u = some out) : Met l yX11_feed (.code yX11_feed cX11_feed 6 (some .int) :: gw) rX11_feed (va_Pc [.ref (ad 180), .int a1, .int a2, .int a3, .int a4, .int a5] (wv shX nX D cy ad u)) (qI shX nX D cy ad out.1 out.2) 0 0 (rA ad nX) := by
  refine met_of (cc := cX11_feed) (nL := 6) (by decide) (Nat.le_of_ble_eq_true rfl) (fun p e s m below meth c C hr hlk => ?_)
  unfold fX11_feed at h
  show V shX nX D cy ad 6 p l e rX11_feed s m _ below meth c (MQ below (qI shX nX D cy ad out.1 out.2) _ s 0 0 (rA ad nX)) 0 [(0, .ref (ad 180)), (1, .int a1), (2, .int a2), (3, .int a3), (4, .int a4), (5, .int a5)] [] u
  refine v_aload_n C 0 dX11_feed_0 rfl rfl ?_
  refine v_getr C pX_180 fd_X11_12 rfl dX11_feed_1 ?_
  refine v_geti C pX_182 fd_X11_85 rfl dX11_feed_4 ?_
  refine v_bipush C (v := 20) dX11_feed_7 (by decide) ?_
  refine v_iadd C dX11_feed_9 ?_
  refine v_sipush C (v := 400) dX11_feed_10 (by decide) ?_
  refine v_icmp_le C 18 dX11_feed_13 (by decide) h (fun h => ?_) (fun h => ?_)
  · refine v_aload_n C 0 dX11_feed_18 rfl rfl ?_
    refine v_getr C pX_180 fd_X11_12 rfl dX11_feed_19 ?_
    refine v_iload_n C 1 dX11_feed_22 rfl rfl ?_
    obtain ⟨u3, hc2, h⟩ := bnd h
    refine v_callVv C [.int a1] (cX8_append_ct l D cy ad a1 u u3 hc2) ml_X11_89 pX_182 ⟨Nat.le_of_ble_eq_true rfl, Nat.le_of_ble_eq_true rfl⟩ ⟨rfl, rfl⟩ rfl rfl (Nat.le_of_ble_eq_true rfl) dX11_feed_23 ?_
    refine v_aload_n C 0 dX11_feed_26 rfl rfl ?_
    refine v_getr C pX_180 fd_X11_12 rfl dX11_feed_27 ?_
    refine v_iload_n C 2 dX11_feed_30 rfl rfl ?_
    obtain ⟨u5, hc4, h⟩ := bnd h
    refine v_callVv C [.int a2] (cX8_append_ct l D cy ad a2 u3 u5 hc4) ml_X11_89 pX_182 ⟨Nat.le_of_ble_eq_true rfl, Nat.le_of_ble_eq_true rfl⟩ ⟨rfl, rfl⟩ rfl rfl (Nat.le_of_ble_eq_true rfl) dX11_feed_31 ?_
    refine v_aload_n C 0 dX11_feed_34 rfl rfl ?_
    refine v_getr C pX_180 fd_X11_12 rfl dX11_feed_35 ?_
    refine v_iload_n C 3 dX11_feed_38 rfl rfl ?_
    obtain ⟨u7, hc6, h⟩ := bnd h
    refine v_callVv C [.int a3] (cX8_append_ct l D cy ad a3 u5 u7 hc6) ml_X11_89 pX_182 ⟨Nat.le_of_ble_eq_true rfl, Nat.le_of_ble_eq_true rfl⟩ ⟨rfl, rfl⟩ rfl rfl (Nat.le_of_ble_eq_true rfl) dX11_feed_39 ?_
    refine v_aload_n C 0 dX11_feed_42 rfl rfl ?_
    refine v_getr C pX_180 fd_X11_12 rfl dX11_feed_43 ?_
    refine v_iload C 4 dX11_feed_46 rfl ?_
    obtain ⟨u9, hc8, h⟩ := bnd h
    refine v_callVv C [.int a4] (cX8_append_ct l D cy ad a4 u7 u9 hc8) ml_X11_89 pX_182 ⟨Nat.le_of_ble_eq_true rfl, Nat.le_of_ble_eq_true rfl⟩ ⟨rfl, rfl⟩ rfl rfl (Nat.le_of_ble_eq_true rfl) dX11_feed_48 ?_
    refine v_aload_n C 0 dX11_feed_51 rfl rfl ?_
    refine v_getr C pX_180 fd_X11_12 rfl dX11_feed_52 ?_
    refine v_iload C 5 dX11_feed_55 rfl ?_
    obtain ⟨u11, hc10, h⟩ := bnd h
    refine v_callVv C [.int a5] (cX8_append_ct l D cy ad a5 u9 u11 hc10) ml_X11_89 pX_182 ⟨Nat.le_of_ble_eq_true rfl, Nat.le_of_ble_eq_true rfl⟩ ⟨rfl, rfl⟩ rfl rfl (Nat.le_of_ble_eq_true rfl) dX11_feed_57 ?_
    refine v_aload_n C 0 dX11_feed_60 rfl rfl ?_
    refine v_getr C pX_180 fd_X11_12 rfl dX11_feed_61 ?_
    refine v_geti C pX_182 fd_X11_85 rfl dX11_feed_64 ?_
    cases h
    exact v_iret C hr hlk dX11_feed_67
  · refine v_iconst C (v := (-1)) dX11_feed_16 (by decide) ?_
    cases h
    exact v_iret C hr hlk dX11_feed_17
def rX11_end : Room := { frames := 0, cells := 0, slots := 0, locals := 0 }
def fX11_end (a1 : Int32) (u : Mem) : Option (Int32 × Mem) := (if a1 < 0 then (some ((-1), u)) else (if a1 ≤ (u.1 182 1) then (some (a1, si u 182 1 a1)) else (some ((-1), u))))
set_option maxHeartbeats 4000000 in
set_option maxRecDepth 100000 in
theorem cX11_end_ct (l : Launch) (D : va_G) (cy : Nat → ClassId) (ad : Nat → Nat) (a1 : Int32) (u : Mem)  (out : (Int32 × Mem)) (h : fX11_end a1 u = some out) : Met l yX11_end (.code yX11_end cX11_end 2 (some .int) :: gw) rX11_end (va_Pc [.ref (ad 180), .int a1] (wv shX nX D cy ad u)) (qI shX nX D cy ad out.1 out.2) 0 0 (rA ad nX) := by
  refine met_of (cc := cX11_end) (nL := 2) (by decide) (Nat.le_of_ble_eq_true rfl) (fun p e s m below meth c C hr hlk => ?_)
  unfold fX11_end at h
  show V shX nX D cy ad 2 p l e rX11_end s m _ below meth c (MQ below (qI shX nX D cy ad out.1 out.2) _ s 0 0 (rA ad nX)) 0 [(0, .ref (ad 180)), (1, .int a1)] [] u
  refine v_iload_n C 1 dX11_end_0 rfl rfl ?_
  refine v_if_lt C 15 dX11_end_1 (by decide) h (fun h => ?_) (fun h => ?_)
  · refine v_iconst C (v := (-1)) dX11_end_15 (by decide) ?_
    cases h
    exact v_iret C hr hlk dX11_end_16
  · refine v_iload_n C 1 dX11_end_4 rfl rfl ?_
    refine v_aload_n C 0 dX11_end_5 rfl rfl ?_
    refine v_getr C pX_180 fd_X11_12 rfl dX11_end_6 ?_
    refine v_geti C pX_182 fd_X11_85 rfl dX11_end_9 ?_
    refine v_icmp_le C 17 dX11_end_12 (by decide) h (fun h => ?_) (fun h => ?_)
    · refine v_aload_n C 0 dX11_end_17 rfl rfl ?_
      refine v_getr C pX_180 fd_X11_12 rfl dX11_end_18 ?_
      refine v_iload_n C 1 dX11_end_21 rfl rfl ?_
      refine v_puti C pX_182 fp_X11_85 rfl rfl rfl dX11_end_22 ?_
      refine v_iload_n C 1 dX11_end_25 rfl rfl ?_
      cases h
      exact v_iret C hr hlk dX11_end_26
    · refine v_iconst C (v := (-1)) dX11_end_15 (by decide) ?_
      cases h
      exact v_iret C hr hlk dX11_end_16
def rX11_text : Room := { frames := 9, cells := 0, slots := 0, locals := 195 }
def fX11_text (u : Mem) : Option (Int32 × Mem) := (if (u.1 (176 + 2 * 0) 1) < 30 then (if inB ((u.1 (176 + 2 * 0) 1) + 1) 31 then (if inB (u.1 (176 + 2 * 0) 1) 31 then ((fX3_copyFrom (((u.1 (176 + 2 * 0) 1) + 1).toNatClampNeg) ((u.1 (176 + 2 * 0) 1).toNatClampNeg) u).bind fun u5 => ((fX4_read (((u.1 (176 + 2 * 0) 1) + 1).toNatClampNeg) u5).bind fun q7 => (if q7.1 = true then ((some (si (si q7.2 182 1 0) (176 + 2 * 0) 1 (((si q7.2 182 1 0).1 (176 + 2 * 0) 1) + 1))).bind fun u9 => (some ((si u9 (176 + 2 * 0) 2 (u9.1 (176 + 2 * 0) 1)).1 (176 + 2 * 0) 1, si u9 (176 + 2 * 0) 2 (u9.1 (176 + 2 * 0) 1)))) else (some ((-1), si q7.2 182 1 0))))) else none) else none) else (some ((-1), u)))
set_option maxHeartbeats 4000000 in
set_option maxRecDepth 100000 in
theorem cX11_text_ct (l : Launch) (D : va_G) (cy : Nat → ClassId) (ad : Nat → Nat) (u : Mem)  (out : (Int32 × Mem)) (h : fX11_text u = some out) : Met l yX11_text (.code yX11_text cX11_text 3 (some .int) :: gw) rX11_text (va_Pc [.ref (ad 180)] (wv shX nX D cy ad u)) (qI shX nX D cy ad out.1 out.2) 0 0 (rA ad nX) := by
  refine met_of (cc := cX11_text) (nL := 3) (by decide) (Nat.le_of_ble_eq_true rfl) (fun p e s m below meth c C hr hlk => ?_)
  unfold fX11_text at h
  show V shX nX D cy ad 3 p l e rX11_text s m _ below meth c (MQ below (qI shX nX D cy ad out.1 out.2) _ s 0 0 (rA ad nX)) 0 [(0, .ref (ad 180))] [] u
  refine v_aload_n C 0 dX11_text_0 rfl rfl ?_
  refine v_getr C pX_180 fd_X11_35 rfl dX11_text_1 ?_
  refine v_geti C (pW_0 0 (by decide)) fd_X11_93 rfl dX11_text_4 ?_
  refine v_bipush C (v := 30) dX11_text_7 (by decide) ?_
  refine v_icmp_lt C 14 dX11_text_9 (by decide) h (fun h => ?_) (fun h => ?_)
  · refine v_aload_n C 0 dX11_text_14 rfl rfl ?_
    refine v_getr C pX_180 fd_X11_27 rfl dX11_text_15 ?_
    refine v_aload_n C 0 dX11_text_18 rfl rfl ?_
    refine v_getr C pX_180 fd_X11_35 rfl dX11_text_19 ?_
    refine v_geti C (pW_0 0 (by decide)) fd_X11_93 rfl dX11_text_22 ?_
    refine v_iconst C (v := 1) dX11_text_25 (by decide) ?_
    refine v_iadd C dX11_text_26 ?_
    have hb2 := chk1 h
    refine v_aald4 C pX_181 dX11_text_27 h (fun h => ?_)
    refine v_astore_n C [(1, .ref (ad (5 * (((u.1 (176 + 2 * 0) 1) + 1).toNatClampNeg)))), (0, .ref (ad 180))] dX11_text_28 rfl (by decide) rfl ?_
    refine v_aload_n C 0 dX11_text_29 rfl rfl ?_
    refine v_aload_n C 1 dX11_text_30 rfl rfl ?_
    refine v_getr C pX_180 fd_X11_27 rfl dX11_text_31 ?_
    refine v_aload_n C 1 dX11_text_34 rfl rfl ?_
    refine v_getr C pX_180 fd_X11_35 rfl dX11_text_35 ?_
    refine v_geti C (pW_0 0 (by decide)) fd_X11_93 rfl dX11_text_38 ?_
    have hb3 := chk1 h
    refine v_aald4 C pX_181 dX11_text_41 h (fun h => ?_)
    obtain ⟨u5, hc4, h⟩ := bnd h
    refine v_callVv C [.ref (ad (5 * ((u.1 (176 + 2 * 0) 1).toNatClampNeg)))] (cX3_copyFrom_ct l D cy ad (((u.1 (176 + 2 * 0) 1) + 1).toNatClampNeg) ((u.1 (176 + 2 * 0) 1).toNatClampNeg) u (Nat.lt_trans (inB_lt hb2) (by decide)) (Nat.lt_trans (inB_lt hb3) (by decide)) u5 hc4) ml_X11_96 (pL_0 (((u.1 (176 + 2 * 0) 1) + 1).toNatClampNeg) (Nat.lt_trans (inB_lt hb2) (by decide))) ⟨Nat.le_of_ble_eq_true rfl, Nat.le_of_ble_eq_true rfl⟩ ⟨rfl, rfl⟩ rfl rfl (Nat.le_of_ble_eq_true rfl) dX11_text_42 ?_
    refine v_aload_n C 1 dX11_text_45 rfl rfl ?_
    refine v_getr C pX_180 fd_X11_21 rfl dX11_text_46 ?_
    refine v_aload_n C 0 dX11_text_49 rfl rfl ?_
    obtain ⟨q7, hc6, h⟩ := bnd h
    refine v_callVi C [.ref (ad (5 * (((u.1 (176 + 2 * 0) 1) + 1).toNatClampNeg)))] (cX4_read_ct l D cy ad (((u.1 (176 + 2 * 0) 1) + 1).toNatClampNeg) u5 (Nat.lt_trans (inB_lt hb2) (by decide)) q7 hc6) ml_X11_100 pX_184 ⟨Nat.le_of_ble_eq_true rfl, Nat.le_of_ble_eq_true rfl⟩ ⟨rfl, rfl⟩ rfl rfl (Nat.le_of_ble_eq_true rfl) dX11_text_50 ?_
    refine v_istore_n C [(2, .int (bz q7.1)), (1, .ref (ad (5 * (((u.1 (176 + 2 * 0) 1) + 1).toNatClampNeg)))), (0, .ref (ad 180))] dX11_text_53 rfl (by decide) rfl ?_
    refine v_aload_n C 2 dX11_text_54 rfl rfl ?_
    refine v_getr C pX_180 fd_X11_12 rfl dX11_text_55 ?_
    refine v_iconst C (v := 0) dX11_text_58 (by decide) ?_
    refine v_puti C pX_182 fp_X11_85 rfl rfl rfl dX11_text_59 ?_
    refine v_iload_n C 0 dX11_text_62 rfl rfl ?_
    refine v_z_ne C 68 dX11_text_63 (by decide) h (fun h => ?_) (fun h => ?_)
    · refine v_aload_n C 2 dX11_text_68 rfl rfl ?_
      refine v_getr C pX_180 fd_X11_35 rfl dX11_text_69 ?_
      refine v_dup C rfl dX11_text_72 ?_
      refine v_geti C (pW_0 0 (by decide)) fd_X11_93 rfl dX11_text_73 ?_
      refine v_iconst C (v := 1) dX11_text_76 (by decide) ?_
      refine v_iadd C dX11_text_77 ?_
      refine v_puti C (pW_0 0 (by decide)) fp_X11_93 rfl rfl rfl dX11_text_78 ?_
      refine v_mem (fun u9 hu9 => ?_)
      have h := nmd hu9 h
      refine v_aload_n C 2 dX11_text_81 rfl rfl ?_
      refine v_getr C pX_180 fd_X11_35 rfl dX11_text_82 ?_
      refine v_aload_n C 2 dX11_text_85 rfl rfl ?_
      refine v_getr C pX_180 fd_X11_35 rfl dX11_text_86 ?_
      refine v_geti C (pW_0 0 (by decide)) fd_X11_93 rfl dX11_text_89 ?_
      refine v_puti C (pW_0 0 (by decide)) fp_X11_104 rfl rfl rfl dX11_text_92 ?_
      refine v_aload_n C 2 dX11_text_95 rfl rfl ?_
      refine v_getr C pX_180 fd_X11_35 rfl dX11_text_96 ?_
      refine v_geti C (pW_0 0 (by decide)) fd_X11_93 rfl dX11_text_99 ?_
      cases h
      exact v_iret C hr hlk dX11_text_102
    · refine v_iconst C (v := (-1)) dX11_text_66 (by decide) ?_
      cases h
      exact v_iret C hr hlk dX11_text_67
  · refine v_iconst C (v := (-1)) dX11_text_12 (by decide) ?_
    cases h
    exact v_iret C hr hlk dX11_text_13
def rX11_fault : Room := { frames := 0, cells := 0, slots := 0, locals := 0 }
def fX11_fault (a1 : Int32) (u : Mem) : Option Int32 := (if (u.1 184 8) = 0 then (some (-1)) else (if a1 < 0 then (some (-1)) else (if a1 ≤ 1 then (some (if a1 = 0 then u.1 184 9 else u.1 184 10)) else (some (-1)))))
set_option maxHeartbeats 4000000 in
set_option maxRecDepth 100000 in
theorem cX11_fault_ct (l : Launch) (D : va_G) (cy : Nat → ClassId) (ad : Nat → Nat) (a1 : Int32) (u : Mem)  (out : Int32) (h : fX11_fault a1 u = some out) : Met l yX11_fault (.code yX11_fault cX11_fault 2 (some .int) :: gw) rX11_fault (va_Pc [.ref (ad 180), .int a1] (wv shX nX D cy ad u)) (qI shX nX D cy ad out u) 0 0 (rA ad nX) := by
  refine met_of (cc := cX11_fault) (nL := 2) (by decide) (Nat.le_of_ble_eq_true rfl) (fun p e s m below meth c C hr hlk => ?_)
  unfold fX11_fault at h
  show V shX nX D cy ad 2 p l e rX11_fault s m _ below meth c (MQ below (qI shX nX D cy ad out u) _ s 0 0 (rA ad nX)) 0 [(0, .ref (ad 180)), (1, .int a1)] [] u
  refine v_aload_n C 0 dX11_fault_0 rfl rfl ?_
  refine v_getr C pX_180 fd_X11_21 rfl dX11_fault_1 ?_
  refine v_geti C pX_184 fd_X11_107 rfl dX11_fault_4 ?_
  refine v_if_eq C 19 dX11_fault_7 (by decide) h (fun h => ?_) (fun h => ?_)
  · refine v_iconst C (v := (-1)) dX11_fault_19 (by decide) ?_
    cases h
    exact v_iret C hr hlk dX11_fault_20
  · refine v_iload_n C 1 dX11_fault_10 rfl rfl ?_
    refine v_if_lt C 19 dX11_fault_11 (by decide) h (fun h => ?_) (fun h => ?_)
    · refine v_iconst C (v := (-1)) dX11_fault_19 (by decide) ?_
      cases h
      exact v_iret C hr hlk dX11_fault_20
    · refine v_iload_n C 1 dX11_fault_14 rfl rfl ?_
      refine v_iconst C (v := 1) dX11_fault_15 (by decide) ?_
      refine v_icmp_le C 21 dX11_fault_16 (by decide) h (fun h => ?_) (fun h => ?_)
      · refine v_iload_n C 1 dX11_fault_21 rfl rfl ?_
        refine v_dia 42 (.int (if a1 = 0 then u.1 184 9 else u.1 184 10)) [] ?_ (fun hj => ?_)
        · cases h
          exact v_iret C hr hlk dX11_fault_42
        · refine p_if_ne C 35 dX11_fault_22 (by decide) (fun z5 => ?_) (fun z5 => ?_)
          · refine v_aload_n C 0 dX11_fault_25 rfl rfl ?_
            refine v_getr C pX_180 fd_X11_21 rfl dX11_fault_26 ?_
            refine v_geti C pX_184 fd_X11_111 rfl dX11_fault_29 ?_
            refine v_goto C 42 dX11_fault_32 (by decide) ?_
            exact v_top (by rw [if_pos z5]; first | done | rfl) hj
          · refine v_aload_n C 0 dX11_fault_35 rfl rfl ?_
            refine v_getr C pX_180 fd_X11_21 rfl dX11_fault_36 ?_
            refine v_geti C pX_184 fd_X11_114 rfl dX11_fault_39 ?_
            exact v_top (by rw [if_neg z5]; first | done | rfl) hj
      · refine v_iconst C (v := (-1)) dX11_fault_19 (by decide) ?_
        cases h
        exact v_iret C hr hlk dX11_fault_20
def rX11_look : Room := { frames := 0, cells := 0, slots := 0, locals := 0 }
def fX11_look (a1 : Int32) (u : Mem) : Option (Bool × Mem) := (if a1 < 0 then (some (false, u)) else (if a1 ≤ (u.1 (176 + 2 * 0) 1) then (some (true, si u (176 + 2 * 0) 2 a1)) else (some (false, u))))
set_option maxHeartbeats 4000000 in
set_option maxRecDepth 100000 in
theorem cX11_look_ct (l : Launch) (D : va_G) (cy : Nat → ClassId) (ad : Nat → Nat) (a1 : Int32) (u : Mem)  (out : (Bool × Mem)) (h : fX11_look a1 u = some out) : Met l yX11_look (.code yX11_look cX11_look 2 (some .boolean) :: gw) rX11_look (va_Pc [.ref (ad 180), .int a1] (wv shX nX D cy ad u)) (qI shX nX D cy ad (bz out.1) out.2) 0 0 (rA ad nX) := by
  refine met_of (cc := cX11_look) (nL := 2) (by decide) (Nat.le_of_ble_eq_true rfl) (fun p e s m below meth c C hr hlk => ?_)
  unfold fX11_look at h
  show V shX nX D cy ad 2 p l e rX11_look s m _ below meth c (MQ below (qI shX nX D cy ad (bz out.1) out.2) _ s 0 0 (rA ad nX)) 0 [(0, .ref (ad 180)), (1, .int a1)] [] u
  refine v_iload_n C 1 dX11_look_0 rfl rfl ?_
  refine v_if_lt C 15 dX11_look_1 (by decide) h (fun h => ?_) (fun h => ?_)
  · refine v_iconst C (v := 0) dX11_look_15 (by decide) ?_
    cases h
    exact v_zret (b := false) C hr hlk dX11_look_16
  · refine v_iload_n C 1 dX11_look_4 rfl rfl ?_
    refine v_aload_n C 0 dX11_look_5 rfl rfl ?_
    refine v_getr C pX_180 fd_X11_35 rfl dX11_look_6 ?_
    refine v_geti C (pW_0 0 (by decide)) fd_X11_93 rfl dX11_look_9 ?_
    refine v_icmp_le C 17 dX11_look_12 (by decide) h (fun h => ?_) (fun h => ?_)
    · refine v_aload_n C 0 dX11_look_17 rfl rfl ?_
      refine v_getr C pX_180 fd_X11_35 rfl dX11_look_18 ?_
      refine v_iload_n C 1 dX11_look_21 rfl rfl ?_
      refine v_puti C (pW_0 0 (by decide)) fp_X11_104 rfl rfl rfl dX11_look_22 ?_
      refine v_iconst C (v := 1) dX11_look_25 (by decide) ?_
      cases h
      exact v_zret (b := true) C hr hlk dX11_look_26
    · refine v_iconst C (v := 0) dX11_look_15 (by decide) ?_
      cases h
      exact v_zret (b := false) C hr hlk dX11_look_16
def rX11_weight : Room := { frames := 1, cells := 0, slots := 0, locals := 20 }
def fX11_weight (a1 : Int32) (u : Mem) : Option Int32 := ((fX11_isKind a1).bind fun r2 => (if r2 = true then ((fX11_lawsNow u).bind fun r5 => (if inB a1 6 then (some (u.1 (5 * r5 + 1) a1.toNatClampNeg)) else none)) else (some (-1))))
set_option maxHeartbeats 4000000 in
set_option maxRecDepth 100000 in
theorem cX11_weight_ct (l : Launch) (D : va_G) (cy : Nat → ClassId) (ad : Nat → Nat) (a1 : Int32) (u : Mem)  (out : Int32) (h : fX11_weight a1 u = some out) : Met l yX11_weight (.code yX11_weight cX11_weight 2 (some .int) :: gw) rX11_weight (va_Pc [.ref (ad 180), .int a1] (wv shX nX D cy ad u)) (qI shX nX D cy ad out u) 0 0 (rA ad nX) := by
  refine met_of (cc := cX11_weight) (nL := 2) (by decide) (Nat.le_of_ble_eq_true rfl) (fun p e s m below meth c C hr hlk => ?_)
  unfold fX11_weight at h
  show V shX nX D cy ad 2 p l e rX11_weight s m _ below meth c (MQ below (qI shX nX D cy ad out u) _ s 0 0 (rA ad nX)) 0 [(0, .ref (ad 180)), (1, .int a1)] [] u
  refine v_iload_n C 1 dX11_weight_0 rfl rfl ?_
  obtain ⟨r2, hc1, h⟩ := bnd h
  refine v_callSi C [.int a1] (cX11_isKind_ct l D cy ad a1 _ r2 hc1) ml_X11_117 ⟨Nat.le_of_ble_eq_true rfl, Nat.le_of_ble_eq_true rfl⟩ ⟨rfl, rfl⟩ rfl rfl (Nat.le_of_ble_eq_true rfl) dX11_weight_1 ?_
  refine v_z_eq C 19 dX11_weight_4 (by decide) h (fun h => ?_) (fun h => ?_)
  · refine v_aload_n C 0 dX11_weight_7 rfl rfl ?_
    obtain ⟨r5, hc4, h⟩ := bnd h
    refine v_callVa C [] (cX11_lawsNow_ct l D cy ad u r5 hc4) ml_X11_121 pX_180 ⟨Nat.le_of_ble_eq_true rfl, Nat.le_of_ble_eq_true rfl⟩ ⟨rfl, rfl⟩ rfl rfl (Nat.le_of_ble_eq_true rfl) dX11_weight_8 ?_
    refine v_getr C (pL_0 r5 (iX11_lawsNow_lt hc4)) fd_X11_125 rfl dX11_weight_11 ?_
    refine v_iload_n C 1 dX11_weight_14 rfl rfl ?_
    refine v_iald C (pL_1 r5 (iX11_lawsNow_lt hc4)) dX11_weight_15 h (fun h => ?_)
    refine v_goto C 20 dX11_weight_16 (by decide) ?_
    cases h
    exact v_iret C hr hlk dX11_weight_20
  · refine v_iconst C (v := (-1)) dX11_weight_19 (by decide) ?_
    cases h
    exact v_iret C hr hlk dX11_weight_20
def rX11_chain : Room := { frames := 2, cells := 0, slots := 0, locals := 43 }
def fX11_chain (a1 : Int32) (a2 : Int32) (u : Mem) : Option Int32 := ((fX11_isChain a1).bind fun r2 => (if r2 = true then (if a2 < 0 then (some (-1)) else (if a2 < 5 then ((fX11_lawsNow u).bind fun r8 => ((fX3_isTold r8 a1 u).bind fun r10 => (if r10 = true then ((fX11_lawsNow u).bind fun r13 => ((fX3_ofChain r13 a1 a2 u).bind fun r15 => (some r15))) else (some (-1))))) else (some (-1)))) else (some (-1))))
set_option maxHeartbeats 4000000 in
set_option maxRecDepth 100000 in
theorem cX11_chain_ct (l : Launch) (D : va_G) (cy : Nat → ClassId) (ad : Nat → Nat) (a1 : Int32) (a2 : Int32) (u : Mem)  (out : Int32) (h : fX11_chain a1 a2 u = some out) : Met l yX11_chain (.code yX11_chain cX11_chain 3 (some .int) :: gw) rX11_chain (va_Pc [.ref (ad 180), .int a1, .int a2] (wv shX nX D cy ad u)) (qI shX nX D cy ad out u) 0 0 (rA ad nX) := by
  refine met_of (cc := cX11_chain) (nL := 3) (by decide) (Nat.le_of_ble_eq_true rfl) (fun p e s m below meth c C hr hlk => ?_)
  unfold fX11_chain at h
  show V shX nX D cy ad 3 p l e rX11_chain s m _ below meth c (MQ below (qI shX nX D cy ad out u) _ s 0 0 (rA ad nX)) 0 [(0, .ref (ad 180)), (1, .int a1), (2, .int a2)] [] u
  refine v_iload_n C 1 dX11_chain_0 rfl rfl ?_
  obtain ⟨r2, hc1, h⟩ := bnd h
  refine v_callSi C [.int a1] (cX11_isChain_ct l D cy ad a1 _ r2 hc1) ml_X11_128 ⟨Nat.le_of_ble_eq_true rfl, Nat.le_of_ble_eq_true rfl⟩ ⟨rfl, rfl⟩ rfl rfl (Nat.le_of_ble_eq_true rfl) dX11_chain_1 ?_
  refine v_z_eq C 16 dX11_chain_4 (by decide) h (fun h => ?_) (fun h => ?_)
  · refine v_iload_n C 2 dX11_chain_7 rfl rfl ?_
    refine v_if_lt C 16 dX11_chain_8 (by decide) h (fun h => ?_) (fun h => ?_)
    · refine v_iconst C (v := (-1)) dX11_chain_16 (by decide) ?_
      cases h
      exact v_iret C hr hlk dX11_chain_17
    · refine v_iload_n C 2 dX11_chain_11 rfl rfl ?_
      refine v_iconst C (v := 5) dX11_chain_12 (by decide) ?_
      refine v_icmp_lt C 18 dX11_chain_13 (by decide) h (fun h => ?_) (fun h => ?_)
      · refine v_aload_n C 0 dX11_chain_18 rfl rfl ?_
        obtain ⟨r8, hc7, h⟩ := bnd h
        refine v_callVa C [] (cX11_lawsNow_ct l D cy ad u r8 hc7) ml_X11_121 pX_180 ⟨Nat.le_of_ble_eq_true rfl, Nat.le_of_ble_eq_true rfl⟩ ⟨rfl, rfl⟩ rfl rfl (Nat.le_of_ble_eq_true rfl) dX11_chain_19 ?_
        refine v_iload_n C 1 dX11_chain_22 rfl rfl ?_
        obtain ⟨r10, hc9, h⟩ := bnd h
        refine v_callVi C [.int a1] (cX3_isTold_ct l D cy ad r8 a1 u (iX11_lawsNow_lt hc7) r10 hc9) ml_X11_131 (pL_0 r8 (iX11_lawsNow_lt hc7)) ⟨Nat.le_of_ble_eq_true rfl, Nat.le_of_ble_eq_true rfl⟩ ⟨rfl, rfl⟩ rfl rfl (Nat.le_of_ble_eq_true rfl) dX11_chain_23 ?_
        refine v_z_eq C 41 dX11_chain_26 (by decide) h (fun h => ?_) (fun h => ?_)
        · refine v_aload_n C 0 dX11_chain_29 rfl rfl ?_
          obtain ⟨r13, hc12, h⟩ := bnd h
          refine v_callVa C [] (cX11_lawsNow_ct l D cy ad u r13 hc12) ml_X11_121 pX_180 ⟨Nat.le_of_ble_eq_true rfl, Nat.le_of_ble_eq_true rfl⟩ ⟨rfl, rfl⟩ rfl rfl (Nat.le_of_ble_eq_true rfl) dX11_chain_30 ?_
          refine v_iload_n C 1 dX11_chain_33 rfl rfl ?_
          refine v_iload_n C 2 dX11_chain_34 rfl rfl ?_
          obtain ⟨r15, hc14, h⟩ := bnd h
          refine v_callVi C [.int a1, .int a2] (cX3_ofChain_ct l D cy ad r13 a1 a2 u (iX11_lawsNow_lt hc12) r15 hc14) ml_X11_134 (pL_0 r13 (iX11_lawsNow_lt hc12)) ⟨Nat.le_of_ble_eq_true rfl, Nat.le_of_ble_eq_true rfl⟩ ⟨rfl, rfl⟩ rfl rfl (Nat.le_of_ble_eq_true rfl) dX11_chain_35 ?_
          refine v_goto C 42 dX11_chain_38 (by decide) ?_
          cases h
          exact v_iret C hr hlk dX11_chain_42
        · refine v_iconst C (v := (-1)) dX11_chain_41 (by decide) ?_
          cases h
          exact v_iret C hr hlk dX11_chain_42
      · refine v_iconst C (v := (-1)) dX11_chain_16 (by decide) ?_
        cases h
        exact v_iret C hr hlk dX11_chain_17
  · refine v_iconst C (v := (-1)) dX11_chain_16 (by decide) ?_
    cases h
    exact v_iret C hr hlk dX11_chain_17
def rX11_law : Room := { frames := 2, cells := 0, slots := 0, locals := 54 }
def fX11_law (a1 : Int32) (a2 : Int32) (a3 : Bool) (u : Mem) : Option Int32 := (if a1 < 0 then (some (-1)) else (if 7 ≤ a1 then (some (-1)) else (if a2 < 0 then (some (-1)) else (if a2 ≤ 999 then ((fX11_lawsNow u).bind fun r6 => ((fX3_span r6 a1 a2 a3 u).bind fun r8 => (some r8))) else (some (-1))))))
set_option maxHeartbeats 4000000 in
set_option maxRecDepth 100000 in
theorem cX11_law_ct (l : Launch) (D : va_G) (cy : Nat → ClassId) (ad : Nat → Nat) (a1 : Int32) (a2 : Int32) (a3 : Bool) (u : Mem)  (out : Int32) (h : fX11_law a1 a2 a3 u = some out) : Met l yX11_law (.code yX11_law cX11_law 4 (some .int) :: gw) rX11_law (va_Pc [.ref (ad 180), .int a1, .int a2, .int (bz a3)] (wv shX nX D cy ad u)) (qI shX nX D cy ad out u) 0 0 (rA ad nX) := by
  refine met_of (cc := cX11_law) (nL := 4) (by decide) (Nat.le_of_ble_eq_true rfl) (fun p e s m below meth c C hr hlk => ?_)
  unfold fX11_law at h
  show V shX nX D cy ad 4 p l e rX11_law s m _ below meth c (MQ below (qI shX nX D cy ad out u) _ s 0 0 (rA ad nX)) 0 [(0, .ref (ad 180)), (1, .int a1), (2, .int a2), (3, .int (bz a3))] [] u
  refine v_iload_n C 1 dX11_law_0 rfl rfl ?_
  refine v_if_lt C 21 dX11_law_1 (by decide) h (fun h => ?_) (fun h => ?_)
  · refine v_iconst C (v := (-1)) dX11_law_21 (by decide) ?_
    cases h
    exact v_iret C hr hlk dX11_law_22
  · refine v_iload_n C 1 dX11_law_4 rfl rfl ?_
    refine v_bipush C (v := 7) dX11_law_5 (by decide) ?_
    refine v_icmp_ge C 21 dX11_law_7 (by decide) h (fun h => ?_) (fun h => ?_)
    · refine v_iconst C (v := (-1)) dX11_law_21 (by decide) ?_
      cases h
      exact v_iret C hr hlk dX11_law_22
    · refine v_iload_n C 2 dX11_law_10 rfl rfl ?_
      refine v_if_lt C 21 dX11_law_11 (by decide) h (fun h => ?_) (fun h => ?_)
      · refine v_iconst C (v := (-1)) dX11_law_21 (by decide) ?_
        cases h
        exact v_iret C hr hlk dX11_law_22
      · refine v_iload_n C 2 dX11_law_14 rfl rfl ?_
        refine v_sipush C (v := 999) dX11_law_15 (by decide) ?_
        refine v_icmp_le C 23 dX11_law_18 (by decide) h (fun h => ?_) (fun h => ?_)
        · refine v_aload_n C 0 dX11_law_23 rfl rfl ?_
          obtain ⟨r6, hc5, h⟩ := bnd h
          refine v_callVa C [] (cX11_lawsNow_ct l D cy ad u r6 hc5) ml_X11_121 pX_180 ⟨Nat.le_of_ble_eq_true rfl, Nat.le_of_ble_eq_true rfl⟩ ⟨rfl, rfl⟩ rfl rfl (Nat.le_of_ble_eq_true rfl) dX11_law_24 ?_
          refine v_iload_n C 1 dX11_law_27 rfl rfl ?_
          refine v_iload_n C 2 dX11_law_28 rfl rfl ?_
          refine v_iload_n C 3 dX11_law_29 rfl rfl ?_
          obtain ⟨r8, hc7, h⟩ := bnd h
          refine v_callVi C [.int a1, .int a2, .int (bz a3)] (cX3_span_ct l D cy ad r6 a1 a2 a3 u (iX11_lawsNow_lt hc5) r8 hc7) ml_X11_138 (pL_0 r6 (iX11_lawsNow_lt hc5)) ⟨Nat.le_of_ble_eq_true rfl, Nat.le_of_ble_eq_true rfl⟩ ⟨rfl, rfl⟩ rfl rfl (Nat.le_of_ble_eq_true rfl) dX11_law_30 ?_
          cases h
          exact v_iret C hr hlk dX11_law_33
        · refine v_iconst C (v := (-1)) dX11_law_21 (by decide) ?_
          cases h
          exact v_iret C hr hlk dX11_law_22
def rX11_shell : Room := { frames := 1, cells := 0, slots := 0, locals := 20 }
def fX11_shell (a1 : Int32) (u : Mem) : Option (Int32 × Mem) := ((fX11_isStar a1).bind fun r2 => (if r2 = true then (if inB a1 2 then (if (u.1 (160 + 4 * (2 * 0 + a1.toNatClampNeg)) 3) < 16 then (if inB a1 2 then ((some (si u (160 + 4 * (2 * 0 + a1.toNatClampNeg)) 3 ((u.1 (160 + 4 * (2 * 0 + a1.toNatClampNeg)) 3) + 1))).bind fun u7 => (if inB a1 2 then (some ((u7.1 (160 + 4 * (2 * 0 + a1.toNatClampNeg)) 3) - 1, u7)) else none)) else none) else (some ((-1), u))) else none) else (some ((-1), u))))
set_option maxHeartbeats 4000000 in
set_option maxRecDepth 100000 in
theorem cX11_shell_ct (l : Launch) (D : va_G) (cy : Nat → ClassId) (ad : Nat → Nat) (a1 : Int32) (u : Mem)  (out : (Int32 × Mem)) (h : fX11_shell a1 u = some out) : Met l yX11_shell (.code yX11_shell cX11_shell 2 (some .int) :: gw) rX11_shell (va_Pc [.ref (ad 180), .int a1] (wv shX nX D cy ad u)) (qI shX nX D cy ad out.1 out.2) 0 0 (rA ad nX) := by
  refine met_of (cc := cX11_shell) (nL := 2) (by decide) (Nat.le_of_ble_eq_true rfl) (fun p e s m below meth c C hr hlk => ?_)
  unfold fX11_shell at h
  show V shX nX D cy ad 2 p l e rX11_shell s m _ below meth c (MQ below (qI shX nX D cy ad out.1 out.2) _ s 0 0 (rA ad nX)) 0 [(0, .ref (ad 180)), (1, .int a1)] [] u
  refine v_iload_n C 1 dX11_shell_0 rfl rfl ?_
  obtain ⟨r2, hc1, h⟩ := bnd h
  refine v_callSi C [.int a1] (cX11_isStar_ct l D cy ad a1 _ r2 hc1) ml_X11_142 ⟨Nat.le_of_ble_eq_true rfl, Nat.le_of_ble_eq_true rfl⟩ ⟨rfl, rfl⟩ rfl rfl (Nat.le_of_ble_eq_true rfl) dX11_shell_1 ?_
  refine v_z_eq C 24 dX11_shell_4 (by decide) h (fun h => ?_) (fun h => ?_)
  · refine v_aload_n C 0 dX11_shell_7 rfl rfl ?_
    refine v_getr C pX_180 fd_X11_35 rfl dX11_shell_8 ?_
    refine v_getr C (pW_0 0 (by decide)) fd_X11_145 rfl dX11_shell_11 ?_
    refine v_iload_n C 1 dX11_shell_14 rfl rfl ?_
    have hb4 := chk1 h
    refine v_aald5 C (pW_1 0 (by decide)) dX11_shell_15 h (fun h => ?_)
    refine v_geti C (pS_0 (2 * 0 + a1.toNatClampNeg) (lt24 (by decide) (inB_lt hb4))) fd_X11_149 rfl dX11_shell_16 ?_
    refine v_bipush C (v := 16) dX11_shell_19 (by decide) ?_
    refine v_icmp_lt C 26 dX11_shell_21 (by decide) h (fun h => ?_) (fun h => ?_)
    · refine v_aload_n C 0 dX11_shell_26 rfl rfl ?_
      refine v_getr C pX_180 fd_X11_35 rfl dX11_shell_27 ?_
      refine v_getr C (pW_0 0 (by decide)) fd_X11_145 rfl dX11_shell_30 ?_
      refine v_iload_n C 1 dX11_shell_33 rfl rfl ?_
      have hb6 := chk1 h
      refine v_aald5 C (pW_1 0 (by decide)) dX11_shell_34 h (fun h => ?_)
      refine v_dup C rfl dX11_shell_35 ?_
      refine v_geti C (pS_0 (2 * 0 + a1.toNatClampNeg) (lt24 (by decide) (inB_lt hb6))) fd_X11_149 rfl dX11_shell_36 ?_
      refine v_iconst C (v := 1) dX11_shell_39 (by decide) ?_
      refine v_iadd C dX11_shell_40 ?_
      refine v_puti C (pS_0 (2 * 0 + a1.toNatClampNeg) (lt24 (by decide) (inB_lt hb6))) fp_X11_149 rfl rfl rfl dX11_shell_41 ?_
      refine v_mem (fun u7 hu7 => ?_)
      have h := nmd hu7 h
      refine v_aload_n C 0 dX11_shell_44 rfl rfl ?_
      refine v_getr C pX_180 fd_X11_35 rfl dX11_shell_45 ?_
      refine v_getr C (pW_0 0 (by decide)) fd_X11_145 rfl dX11_shell_48 ?_
      refine v_iload_n C 1 dX11_shell_51 rfl rfl ?_
      have hb8 := chk1 h
      refine v_aald5 C (pW_1 0 (by decide)) dX11_shell_52 h (fun h => ?_)
      refine v_geti C (pS_0 (2 * 0 + a1.toNatClampNeg) (lt24 (by decide) (inB_lt hb8))) fd_X11_149 rfl dX11_shell_53 ?_
      refine v_iconst C (v := 1) dX11_shell_56 (by decide) ?_
      refine v_isub C dX11_shell_57 ?_
      cases h
      exact v_iret C hr hlk dX11_shell_58
    · refine v_iconst C (v := (-1)) dX11_shell_24 (by decide) ?_
      cases h
      exact v_iret C hr hlk dX11_shell_25
  · refine v_iconst C (v := (-1)) dX11_shell_24 (by decide) ?_
    cases h
    exact v_iret C hr hlk dX11_shell_25
def rX11_isShell : Room := { frames := 1, cells := 0, slots := 0, locals := 20 }
def fX11_isShell (a1 : Int32) (a2 : Int32) (u : Mem) : Option Bool := ((fX11_isStar a1).bind fun r2 => (if r2 = true then (if a2 < 0 then (some false) else (if inB a1 2 then (some (if (u.1 (160 + 4 * (2 * 0 + a1.toNatClampNeg)) 3) ≤ a2 then false else true)) else none)) else (some false)))
set_option maxHeartbeats 4000000 in
set_option maxRecDepth 100000 in
theorem cX11_isShell_ct (l : Launch) (D : va_G) (cy : Nat → ClassId) (ad : Nat → Nat) (a1 : Int32) (a2 : Int32) (u : Mem)  (out : Bool) (h : fX11_isShell a1 a2 u = some out) : Met l yX11_isShell (.code yX11_isShell cX11_isShell 3 (some .boolean) :: gw) rX11_isShell (va_Pc [.ref (ad 180), .int a1, .int a2] (wv shX nX D cy ad u)) (qI shX nX D cy ad (bz out) u) 0 0 (rA ad nX) := by
  refine met_of (cc := cX11_isShell) (nL := 3) (by decide) (Nat.le_of_ble_eq_true rfl) (fun p e s m below meth c C hr hlk => ?_)
  unfold fX11_isShell at h
  show V shX nX D cy ad 3 p l e rX11_isShell s m _ below meth c (MQ below (qI shX nX D cy ad (bz out) u) _ s 0 0 (rA ad nX)) 0 [(0, .ref (ad 180)), (1, .int a1), (2, .int a2)] [] u
  refine v_iload_n C 1 dX11_isShell_0 rfl rfl ?_
  obtain ⟨r2, hc1, h⟩ := bnd h
  refine v_callSi C [.int a1] (cX11_isStar_ct l D cy ad a1 _ r2 hc1) ml_X11_142 ⟨Nat.le_of_ble_eq_true rfl, Nat.le_of_ble_eq_true rfl⟩ ⟨rfl, rfl⟩ rfl rfl (Nat.le_of_ble_eq_true rfl) dX11_isShell_1 ?_
  refine v_z_eq C 31 dX11_isShell_4 (by decide) h (fun h => ?_) (fun h => ?_)
  · refine v_iload_n C 2 dX11_isShell_7 rfl rfl ?_
    refine v_if_lt C 31 dX11_isShell_8 (by decide) h (fun h => ?_) (fun h => ?_)
    · refine v_iconst C (v := 0) dX11_isShell_31 (by decide) ?_
      cases h
      exact v_zret (b := false) C hr hlk dX11_isShell_32
    · refine v_iload_n C 2 dX11_isShell_11 rfl rfl ?_
      refine v_aload_n C 0 dX11_isShell_12 rfl rfl ?_
      refine v_getr C pX_180 fd_X11_35 rfl dX11_isShell_13 ?_
      refine v_getr C (pW_0 0 (by decide)) fd_X11_145 rfl dX11_isShell_16 ?_
      refine v_iload_n C 1 dX11_isShell_19 rfl rfl ?_
      have hb6 := chk1 h
      refine v_aald5 C (pW_1 0 (by decide)) dX11_isShell_20 h (fun h => ?_)
      refine v_geti C (pS_0 (2 * 0 + a1.toNatClampNeg) (lt24 (by decide) (inB_lt hb6))) fd_X11_149 rfl dX11_isShell_21 ?_
      refine v_dia 32 (.int (bz (if (u.1 (160 + 4 * (2 * 0 + a1.toNatClampNeg)) 3) ≤ a2 then false else true))) [] ?_ (fun hj => ?_)
      · cases h
        exact v_zret (b := (if (u.1 (160 + 4 * (2 * 0 + a1.toNatClampNeg)) 3) ≤ a2 then false else true)) C hr hlk dX11_isShell_32
      · refine p_icmp_ge C 31 dX11_isShell_24 (by decide) (fun z7 => ?_) (fun z7 => ?_)
        · refine v_iconst C (v := 0) dX11_isShell_31 (by decide) ?_
          exact v_top (by rw [if_pos z7]; first | done | rfl) hj
        · refine v_iconst C (v := 1) dX11_isShell_27 (by decide) ?_
          refine v_goto C 32 dX11_isShell_28 (by decide) ?_
          exact v_top (by rw [if_neg z7]; first | done | rfl) hj
  · refine v_iconst C (v := 0) dX11_isShell_31 (by decide) ?_
    cases h
    exact v_zret (b := false) C hr hlk dX11_isShell_32
def rX11_fill : Room := { frames := 2, cells := 0, slots := 0, locals := 42 }
def fX11_fill (a1 : Int32) (a2 : Int32) (a3 : Int32) (a4 : Int32) (u : Mem) : Option (Bool × Mem) := ((fX11_isShell a1 a2 u).bind fun r2 => (if r2 = true then ((fX11_isKind a3).bind fun r5 => (if r5 = true then (if a4 < 0 then (some (false, u)) else (if a4 ≤ 100000 then (if inB a1 2 then ((fX7_setParts (2 * 0 + a1.toNatClampNeg) a2 a3 a4 u).bind fun u12 => (some (true, u12))) else none) else (some (false, u)))) else (some (false, u)))) else (some (false, u))))
set_option maxHeartbeats 4000000 in
set_option maxRecDepth 100000 in
theorem cX11_fill_ct (l : Launch) (D : va_G) (cy : Nat → ClassId) (ad : Nat → Nat) (a1 : Int32) (a2 : Int32) (a3 : Int32) (a4 : Int32) (u : Mem)  (out : (Bool × Mem)) (h : fX11_fill a1 a2 a3 a4 u = some out) : Met l yX11_fill (.code yX11_fill cX11_fill 5 (some .boolean) :: gw) rX11_fill (va_Pc [.ref (ad 180), .int a1, .int a2, .int a3, .int a4] (wv shX nX D cy ad u)) (qI shX nX D cy ad (bz out.1) out.2) 0 0 (rA ad nX) := by
  refine met_of (cc := cX11_fill) (nL := 5) (by decide) (Nat.le_of_ble_eq_true rfl) (fun p e s m below meth c C hr hlk => ?_)
  unfold fX11_fill at h
  show V shX nX D cy ad 5 p l e rX11_fill s m _ below meth c (MQ below (qI shX nX D cy ad (bz out.1) out.2) _ s 0 0 (rA ad nX)) 0 [(0, .ref (ad 180)), (1, .int a1), (2, .int a2), (3, .int a3), (4, .int a4)] [] u
  refine v_aload_n C 0 dX11_fill_0 rfl rfl ?_
  refine v_iload_n C 1 dX11_fill_1 rfl rfl ?_
  refine v_iload_n C 2 dX11_fill_2 rfl rfl ?_
  obtain ⟨r2, hc1, h⟩ := bnd h
  refine v_callVi C [.int a1, .int a2] (cX11_isShell_ct l D cy ad a1 a2 u r2 hc1) ml_X11_154 pX_180 ⟨Nat.le_of_ble_eq_true rfl, Nat.le_of_ble_eq_true rfl⟩ ⟨rfl, rfl⟩ rfl rfl (Nat.le_of_ble_eq_true rfl) dX11_fill_3 ?_
  refine v_z_eq C 28 dX11_fill_6 (by decide) h (fun h => ?_) (fun h => ?_)
  · refine v_iload_n C 3 dX11_fill_9 rfl rfl ?_
    obtain ⟨r5, hc4, h⟩ := bnd h
    refine v_callSi C [.int a3] (cX11_isKind_ct l D cy ad a3 _ r5 hc4) ml_X11_117 ⟨Nat.le_of_ble_eq_true rfl, Nat.le_of_ble_eq_true rfl⟩ ⟨rfl, rfl⟩ rfl rfl (Nat.le_of_ble_eq_true rfl) dX11_fill_10 ?_
    refine v_z_eq C 28 dX11_fill_13 (by decide) h (fun h => ?_) (fun h => ?_)
    · refine v_iload C 4 dX11_fill_16 rfl ?_
      refine v_if_lt C 28 dX11_fill_18 (by decide) h (fun h => ?_) (fun h => ?_)
      · refine v_iconst C (v := 0) dX11_fill_28 (by decide) ?_
        cases h
        exact v_zret (b := false) C hr hlk dX11_fill_29
      · refine v_iload C 4 dX11_fill_21 rfl ?_
        refine v_ldc C kc_X11_158 dX11_fill_23 ?_
        refine v_icmp_le C 30 dX11_fill_25 (by decide) h (fun h => ?_) (fun h => ?_)
        · refine v_aload_n C 0 dX11_fill_30 rfl rfl ?_
          refine v_getr C pX_180 fd_X11_35 rfl dX11_fill_31 ?_
          refine v_getr C (pW_0 0 (by decide)) fd_X11_145 rfl dX11_fill_34 ?_
          refine v_iload_n C 1 dX11_fill_37 rfl rfl ?_
          have hb10 := chk1 h
          refine v_aald5 C (pW_1 0 (by decide)) dX11_fill_38 h (fun h => ?_)
          refine v_iload_n C 2 dX11_fill_39 rfl rfl ?_
          refine v_iload_n C 3 dX11_fill_40 rfl rfl ?_
          refine v_iload C 4 dX11_fill_41 rfl ?_
          obtain ⟨u12, hc11, h⟩ := bnd h
          refine v_callVv C [.int a2, .int a3, .int a4] (cX7_setParts_ct l D cy ad (2 * 0 + a1.toNatClampNeg) a2 a3 a4 u (lt24 (by decide) (inB_lt hb10)) u12 hc11) ml_X11_159 (pS_0 (2 * 0 + a1.toNatClampNeg) (lt24 (by decide) (inB_lt hb10))) ⟨Nat.le_of_ble_eq_true rfl, Nat.le_of_ble_eq_true rfl⟩ ⟨rfl, rfl⟩ rfl rfl (Nat.le_of_ble_eq_true rfl) dX11_fill_43 ?_
          refine v_iconst C (v := 1) dX11_fill_46 (by decide) ?_
          cases h
          exact v_zret (b := true) C hr hlk dX11_fill_47
        · refine v_iconst C (v := 0) dX11_fill_28 (by decide) ?_
          cases h
          exact v_zret (b := false) C hr hlk dX11_fill_29
    · refine v_iconst C (v := 0) dX11_fill_28 (by decide) ?_
      cases h
      exact v_zret (b := false) C hr hlk dX11_fill_29
  · refine v_iconst C (v := 0) dX11_fill_28 (by decide) ?_
    cases h
    exact v_zret (b := false) C hr hlk dX11_fill_29
def rX11_parts : Room := { frames := 2, cells := 0, slots := 0, locals := 42 }
def fX11_parts (a1 : Int32) (a2 : Int32) (a3 : Int32) (u : Mem) : Option Int32 := ((fX11_isShell a1 a2 u).bind fun r2 => (if r2 = true then ((fX11_isKind a3).bind fun r5 => (if r5 = true then (if inB a1 2 then ((fX7_partsOf (2 * 0 + a1.toNatClampNeg) a2 a3 u).bind fun r9 => (some r9)) else none) else (some (-1)))) else (some (-1))))
set_option maxHeartbeats 4000000 in
set_option maxRecDepth 100000 in
theorem cX11_parts_ct (l : Launch) (D : va_G) (cy : Nat → ClassId) (ad : Nat → Nat) (a1 : Int32) (a2 : Int32) (a3 : Int32) (u : Mem)  (out : Int32) (h : fX11_parts a1 a2 a3 u = some out) : Met l yX11_parts (.code yX11_parts cX11_parts 4 (some .int) :: gw) rX11_parts (va_Pc [.ref (ad 180), .int a1, .int a2, .int a3] (wv shX nX D cy ad u)) (qI shX nX D cy ad out u) 0 0 (rA ad nX) := by
  refine met_of (cc := cX11_parts) (nL := 4) (by decide) (Nat.le_of_ble_eq_true rfl) (fun p e s m below meth c C hr hlk => ?_)
  unfold fX11_parts at h
  show V shX nX D cy ad 4 p l e rX11_parts s m _ below meth c (MQ below (qI shX nX D cy ad out u) _ s 0 0 (rA ad nX)) 0 [(0, .ref (ad 180)), (1, .int a1), (2, .int a2), (3, .int a3)] [] u
  refine v_aload_n C 0 dX11_parts_0 rfl rfl ?_
  refine v_iload_n C 1 dX11_parts_1 rfl rfl ?_
  refine v_iload_n C 2 dX11_parts_2 rfl rfl ?_
  obtain ⟨r2, hc1, h⟩ := bnd h
  refine v_callVi C [.int a1, .int a2] (cX11_isShell_ct l D cy ad a1 a2 u r2 hc1) ml_X11_154 pX_180 ⟨Nat.le_of_ble_eq_true rfl, Nat.le_of_ble_eq_true rfl⟩ ⟨rfl, rfl⟩ rfl rfl (Nat.le_of_ble_eq_true rfl) dX11_parts_3 ?_
  refine v_z_eq C 16 dX11_parts_6 (by decide) h (fun h => ?_) (fun h => ?_)
  · refine v_iload_n C 3 dX11_parts_9 rfl rfl ?_
    obtain ⟨r5, hc4, h⟩ := bnd h
    refine v_callSi C [.int a3] (cX11_isKind_ct l D cy ad a3 _ r5 hc4) ml_X11_117 ⟨Nat.le_of_ble_eq_true rfl, Nat.le_of_ble_eq_true rfl⟩ ⟨rfl, rfl⟩ rfl rfl (Nat.le_of_ble_eq_true rfl) dX11_parts_10 ?_
    refine v_z_ne C 18 dX11_parts_13 (by decide) h (fun h => ?_) (fun h => ?_)
    · refine v_aload_n C 0 dX11_parts_18 rfl rfl ?_
      refine v_getr C pX_180 fd_X11_35 rfl dX11_parts_19 ?_
      refine v_getr C (pW_0 0 (by decide)) fd_X11_145 rfl dX11_parts_22 ?_
      refine v_iload_n C 1 dX11_parts_25 rfl rfl ?_
      have hb7 := chk1 h
      refine v_aald5 C (pW_1 0 (by decide)) dX11_parts_26 h (fun h => ?_)
      refine v_iload_n C 2 dX11_parts_27 rfl rfl ?_
      refine v_iload_n C 3 dX11_parts_28 rfl rfl ?_
      obtain ⟨r9, hc8, h⟩ := bnd h
      refine v_callVi C [.int a2, .int a3] (cX7_partsOf_ct l D cy ad (2 * 0 + a1.toNatClampNeg) a2 a3 u (lt24 (by decide) (inB_lt hb7)) r9 hc8) ml_X11_163 (pS_0 (2 * 0 + a1.toNatClampNeg) (lt24 (by decide) (inB_lt hb7))) ⟨Nat.le_of_ble_eq_true rfl, Nat.le_of_ble_eq_true rfl⟩ ⟨rfl, rfl⟩ rfl rfl (Nat.le_of_ble_eq_true rfl) dX11_parts_29 ?_
      cases h
      exact v_iret C hr hlk dX11_parts_32
    · refine v_iconst C (v := (-1)) dX11_parts_16 (by decide) ?_
      cases h
      exact v_iret C hr hlk dX11_parts_17
  · refine v_iconst C (v := (-1)) dX11_parts_16 (by decide) ?_
    cases h
    exact v_iret C hr hlk dX11_parts_17
def rX11_rules : Room := { frames := 1, cells := 0, slots := 0, locals := 20 }
def fX11_rules (a1 : Int32) (a2 : Int32) (a3 : Int32) (u : Mem) : Option (Bool × Mem) := ((fX11_isStar a1).bind fun r2 => (if r2 = true then (if a2 < 1 then (some (false, u)) else (if 100000 < a2 then (some (false, u)) else (if a3 < 0 then (some (false, u)) else (if a3 ≤ 1000000 then (if inB a1 2 then ((some (si u (160 + 4 * (2 * 0 + a1.toNatClampNeg)) 4 a2)).bind fun u10 => (if inB a1 2 then ((some (si u10 (160 + 4 * (2 * 0 + a1.toNatClampNeg)) 5 a3)).bind fun u12 => (some (true, u12))) else none)) else none) else (some (false, u)))))) else (some (false, u))))
set_option maxHeartbeats 4000000 in
set_option maxRecDepth 100000 in
theorem cX11_rules_ct (l : Launch) (D : va_G) (cy : Nat → ClassId) (ad : Nat → Nat) (a1 : Int32) (a2 : Int32) (a3 : Int32) (u : Mem)  (out : (Bool × Mem)) (h : fX11_rules a1 a2 a3 u = some out) : Met l yX11_rules (.code yX11_rules cX11_rules 4 (some .boolean) :: gw) rX11_rules (va_Pc [.ref (ad 180), .int a1, .int a2, .int a3] (wv shX nX D cy ad u)) (qI shX nX D cy ad (bz out.1) out.2) 0 0 (rA ad nX) := by
  refine met_of (cc := cX11_rules) (nL := 4) (by decide) (Nat.le_of_ble_eq_true rfl) (fun p e s m below meth c C hr hlk => ?_)
  unfold fX11_rules at h
  show V shX nX D cy ad 4 p l e rX11_rules s m _ below meth c (MQ below (qI shX nX D cy ad (bz out.1) out.2) _ s 0 0 (rA ad nX)) 0 [(0, .ref (ad 180)), (1, .int a1), (2, .int a2), (3, .int a3)] [] u
  refine v_iload_n C 1 dX11_rules_0 rfl rfl ?_
  obtain ⟨r2, hc1, h⟩ := bnd h
  refine v_callSi C [.int a1] (cX11_isStar_ct l D cy ad a1 _ r2 hc1) ml_X11_142 ⟨Nat.le_of_ble_eq_true rfl, Nat.le_of_ble_eq_true rfl⟩ ⟨rfl, rfl⟩ rfl rfl (Nat.le_of_ble_eq_true rfl) dX11_rules_1 ?_
  refine v_z_eq C 28 dX11_rules_4 (by decide) h (fun h => ?_) (fun h => ?_)
  · refine v_iload_n C 2 dX11_rules_7 rfl rfl ?_
    refine v_iconst C (v := 1) dX11_rules_8 (by decide) ?_
    refine v_icmp_lt C 28 dX11_rules_9 (by decide) h (fun h => ?_) (fun h => ?_)
    · refine v_iconst C (v := 0) dX11_rules_28 (by decide) ?_
      cases h
      exact v_zret (b := false) C hr hlk dX11_rules_29
    · refine v_iload_n C 2 dX11_rules_12 rfl rfl ?_
      refine v_ldc C kc_X11_158 dX11_rules_13 ?_
      refine v_icmp_gt C 28 dX11_rules_15 (by decide) h (fun h => ?_) (fun h => ?_)
      · refine v_iconst C (v := 0) dX11_rules_28 (by decide) ?_
        cases h
        exact v_zret (b := false) C hr hlk dX11_rules_29
      · refine v_iload_n C 3 dX11_rules_18 rfl rfl ?_
        refine v_if_lt C 28 dX11_rules_19 (by decide) h (fun h => ?_) (fun h => ?_)
        · refine v_iconst C (v := 0) dX11_rules_28 (by decide) ?_
          cases h
          exact v_zret (b := false) C hr hlk dX11_rules_29
        · refine v_iload_n C 3 dX11_rules_22 rfl rfl ?_
          refine v_ldc C kc_X11_166 dX11_rules_23 ?_
          refine v_icmp_le C 30 dX11_rules_25 (by decide) h (fun h => ?_) (fun h => ?_)
          · refine v_aload_n C 0 dX11_rules_30 rfl rfl ?_
            refine v_getr C pX_180 fd_X11_35 rfl dX11_rules_31 ?_
            refine v_getr C (pW_0 0 (by decide)) fd_X11_145 rfl dX11_rules_34 ?_
            refine v_iload_n C 1 dX11_rules_37 rfl rfl ?_
            have hb9 := chk1 h
            refine v_aald5 C (pW_1 0 (by decide)) dX11_rules_38 h (fun h => ?_)
            refine v_iload_n C 2 dX11_rules_39 rfl rfl ?_
            refine v_puti C (pS_0 (2 * 0 + a1.toNatClampNeg) (lt24 (by decide) (inB_lt hb9))) fp_X11_167 rfl rfl rfl dX11_rules_40 ?_
            refine v_mem (fun u10 hu10 => ?_)
            have h := nmd hu10 h
            refine v_aload_n C 0 dX11_rules_43 rfl rfl ?_
            refine v_getr C pX_180 fd_X11_35 rfl dX11_rules_44 ?_
            refine v_getr C (pW_0 0 (by decide)) fd_X11_145 rfl dX11_rules_47 ?_
            refine v_iload_n C 1 dX11_rules_50 rfl rfl ?_
            have hb11 := chk1 h
            refine v_aald5 C (pW_1 0 (by decide)) dX11_rules_51 h (fun h => ?_)
            refine v_iload_n C 3 dX11_rules_52 rfl rfl ?_
            refine v_puti C (pS_0 (2 * 0 + a1.toNatClampNeg) (lt24 (by decide) (inB_lt hb11))) fp_X11_170 rfl rfl rfl dX11_rules_53 ?_
            refine v_mem (fun u12 hu12 => ?_)
            have h := nmd hu12 h
            refine v_iconst C (v := 1) dX11_rules_56 (by decide) ?_
            cases h
            exact v_zret (b := true) C hr hlk dX11_rules_57
          · refine v_iconst C (v := 0) dX11_rules_28 (by decide) ?_
            cases h
            exact v_zret (b := false) C hr hlk dX11_rules_29
  · refine v_iconst C (v := 0) dX11_rules_28 (by decide) ?_
    cases h
    exact v_zret (b := false) C hr hlk dX11_rules_29
def rX11_enter : Room := { frames := 5, cells := 0, slots := 0, locals := 128 }
def fX11_enter (a1 : Int32) (u : Mem) : Option Mem := (if inB a1 2 then ((fX11_lawsNow u).bind fun r3 => (if inB a1 2 then ((fX2_settle (2 * 0 + a1.toNatClampNeg) r3 (u.1 (160 + 4 * (2 * 0 + a1.toNatClampNeg)) 4) u).bind fun u6 => (some u6)) else none)) else none)
set_option maxHeartbeats 4000000 in
set_option maxRecDepth 100000 in
theorem cX11_enter_ct (l : Launch) (D : va_G) (cy : Nat → ClassId) (ad : Nat → Nat) (a1 : Int32) (u : Mem)  (out : Mem) (h : fX11_enter a1 u = some out) : Met l yX11_enter (.code yX11_enter cX11_enter 2 (none) :: gw) rX11_enter (va_Pc [.ref (ad 180), .int a1] (wv shX nX D cy ad u)) (qV shX nX D cy ad out) 0 0 (rA ad nX) := by
  refine met_of (cc := cX11_enter) (nL := 2) (by decide) (Nat.le_of_ble_eq_true rfl) (fun p e s m below meth c C hr hlk => ?_)
  unfold fX11_enter at h
  show V shX nX D cy ad 2 p l e rX11_enter s m _ below meth c (MQ below (qV shX nX D cy ad out) _ s 0 0 (rA ad nX)) 0 [(0, .ref (ad 180)), (1, .int a1)] [] u
  refine v_aload_n C 0 dX11_enter_0 rfl rfl ?_
  refine v_getr C pX_180 fd_X11_66 rfl dX11_enter_1 ?_
  refine v_aload_n C 0 dX11_enter_4 rfl rfl ?_
  refine v_getr C pX_180 fd_X11_35 rfl dX11_enter_5 ?_
  refine v_getr C (pW_0 0 (by decide)) fd_X11_145 rfl dX11_enter_8 ?_
  refine v_iload_n C 1 dX11_enter_11 rfl rfl ?_
  have hb1 := chk1 h
  refine v_aald5 C (pW_1 0 (by decide)) dX11_enter_12 h (fun h => ?_)
  refine v_aload_n C 0 dX11_enter_13 rfl rfl ?_
  obtain ⟨r3, hc2, h⟩ := bnd h
  refine v_callVa C [] (cX11_lawsNow_ct l D cy ad u r3 hc2) ml_X11_121 pX_180 ⟨Nat.le_of_ble_eq_true rfl, Nat.le_of_ble_eq_true rfl⟩ ⟨rfl, rfl⟩ rfl rfl (Nat.le_of_ble_eq_true rfl) dX11_enter_14 ?_
  refine v_aload_n C 0 dX11_enter_17 rfl rfl ?_
  refine v_getr C pX_180 fd_X11_35 rfl dX11_enter_18 ?_
  refine v_getr C (pW_0 0 (by decide)) fd_X11_145 rfl dX11_enter_21 ?_
  refine v_iload_n C 1 dX11_enter_24 rfl rfl ?_
  have hb4 := chk1 h
  refine v_aald5 C (pW_1 0 (by decide)) dX11_enter_25 h (fun h => ?_)
  refine v_geti C (pS_0 (2 * 0 + a1.toNatClampNeg) (lt24 (by decide) (inB_lt hb4))) fd_X11_167 rfl dX11_enter_26 ?_
  obtain ⟨u6, hc5, h⟩ := bnd h
  refine v_callVv C [.ref (ad (160 + 4 * (2 * 0 + a1.toNatClampNeg))), .ref (ad (5 * r3)), .int (u.1 (160 + 4 * (2 * 0 + a1.toNatClampNeg)) 4)] (cX2_settle_ct l D cy ad (2 * 0 + a1.toNatClampNeg) r3 (u.1 (160 + 4 * (2 * 0 + a1.toNatClampNeg)) 4) u (lt24 (by decide) (inB_lt hb1)) (iX11_lawsNow_lt hc2) u6 hc5) ml_X11_300 pX_195 ⟨Nat.le_of_ble_eq_true rfl, Nat.le_of_ble_eq_true rfl⟩ ⟨rfl, rfl⟩ rfl rfl (Nat.le_of_ble_eq_true rfl) dX11_enter_29 ?_
  cases h
  exact v_vret C hr hlk dX11_enter_32
def rX11_of : Room := { frames := 6, cells := 0, slots := 0, locals := 149 }
def fX11_of (a1 : Int32) (a2 : Int32) (a3 : Int32) (u : Mem) : Option (Int32 × Mem) := ((fX11_isShell a1 a2 u).bind fun r2 => (if r2 = true then ((fX11_enter a1 u).bind fun u5 => (if a3 = 0 then (if inB a2 16 then (some (u5.1 196 a2.toNatClampNeg, u5)) else none) else (if a3 = 1 then (if inB a2 16 then (some (u5.1 197 a2.toNatClampNeg, u5)) else none) else (if a3 = 2 then (if inB a2 16 then (some (u5.1 198 a2.toNatClampNeg, u5)) else none) else (if a3 = 3 then (if inB a2 16 then (some (u5.1 199 a2.toNatClampNeg, u5)) else none) else (if a3 = 4 then (if inB a2 16 then (some (u5.1 200 a2.toNatClampNeg, u5)) else none) else (if a3 = 5 then (if inB a1 2 then ((fX11_lawsNow u5).bind fun r8 => ((fX2_shine (2 * 0 + a1.toNatClampNeg) r8 u5).bind fun u10 => (if inB a2 16 then (some (u10.1 201 a2.toNatClampNeg, u10)) else none))) else none) else (some ((-1), u5))))))))) else (some ((-1), u))))
set_option maxHeartbeats 4000000 in
set_option maxRecDepth 100000 in
theorem cX11_of_ct (l : Launch) (D : va_G) (cy : Nat → ClassId) (ad : Nat → Nat) (a1 : Int32) (a2 : Int32) (a3 : Int32) (u : Mem)  (out : (Int32 × Mem)) (h : fX11_of a1 a2 a3 u = some out) : Met l yX11_of (.code yX11_of cX11_of 4 (some .int) :: gw) rX11_of (va_Pc [.ref (ad 180), .int a1, .int a2, .int a3] (wv shX nX D cy ad u)) (qI shX nX D cy ad out.1 out.2) 0 0 (rA ad nX) := by
  refine met_of (cc := cX11_of) (nL := 4) (by decide) (Nat.le_of_ble_eq_true rfl) (fun p e s m below meth c C hr hlk => ?_)
  unfold fX11_of at h
  show V shX nX D cy ad 4 p l e rX11_of s m _ below meth c (MQ below (qI shX nX D cy ad out.1 out.2) _ s 0 0 (rA ad nX)) 0 [(0, .ref (ad 180)), (1, .int a1), (2, .int a2), (3, .int a3)] [] u
  refine v_aload_n C 0 dX11_of_0 rfl rfl ?_
  refine v_iload_n C 1 dX11_of_1 rfl rfl ?_
  refine v_iload_n C 2 dX11_of_2 rfl rfl ?_
  obtain ⟨r2, hc1, h⟩ := bnd h
  refine v_callVi C [.int a1, .int a2] (cX11_isShell_ct l D cy ad a1 a2 u r2 hc1) ml_X11_154 pX_180 ⟨Nat.le_of_ble_eq_true rfl, Nat.le_of_ble_eq_true rfl⟩ ⟨rfl, rfl⟩ rfl rfl (Nat.le_of_ble_eq_true rfl) dX11_of_3 ?_
  refine v_z_ne C 11 dX11_of_6 (by decide) h (fun h => ?_) (fun h => ?_)
  · refine v_aload_n C 0 dX11_of_11 rfl rfl ?_
    refine v_iload_n C 1 dX11_of_12 rfl rfl ?_
    obtain ⟨u5, hc4, h⟩ := bnd h
    refine v_callVv C [.int a1] (cX11_enter_ct l D cy ad a1 u u5 hc4) ml_X11_173 pX_180 ⟨Nat.le_of_ble_eq_true rfl, Nat.le_of_ble_eq_true rfl⟩ ⟨rfl, rfl⟩ rfl rfl (Nat.le_of_ble_eq_true rfl) dX11_of_13 ?_
    refine v_iload_n C 3 dX11_of_16 rfl rfl ?_
    by_cases z0 : a3 = 0
    · rw [if_pos z0] at h
      refine v_tabIn C 56 (k0 := 0) z0 dX11_of_17 (by decide) (by decide) (by decide) (by decide) ?_
      refine v_aload_n C 0 dX11_of_56 rfl rfl ?_
      refine v_getr C pX_180 fd_X11_66 rfl dX11_of_57 ?_
      refine v_getr C pX_195 fd_X11_176 rfl dX11_of_60 ?_
      refine v_iload_n C 2 dX11_of_63 rfl rfl ?_
      refine v_iald C pX_196 dX11_of_64 h (fun h => ?_)
      cases h
      exact v_iret C hr hlk dX11_of_65
    rw [if_neg z0] at h
    by_cases z1 : a3 = 1
    · rw [if_pos z1] at h
      refine v_tabIn C 66 (k0 := 1) z1 dX11_of_17 (by decide) (by decide) (by decide) (by decide) ?_
      refine v_aload_n C 0 dX11_of_66 rfl rfl ?_
      refine v_getr C pX_180 fd_X11_66 rfl dX11_of_67 ?_
      refine v_getr C pX_195 fd_X11_177 rfl dX11_of_70 ?_
      refine v_iload_n C 2 dX11_of_73 rfl rfl ?_
      refine v_iald C pX_197 dX11_of_74 h (fun h => ?_)
      cases h
      exact v_iret C hr hlk dX11_of_75
    rw [if_neg z1] at h
    by_cases z2 : a3 = 2
    · rw [if_pos z2] at h
      refine v_tabIn C 76 (k0 := 2) z2 dX11_of_17 (by decide) (by decide) (by decide) (by decide) ?_
      refine v_aload_n C 0 dX11_of_76 rfl rfl ?_
      refine v_getr C pX_180 fd_X11_66 rfl dX11_of_77 ?_
      refine v_getr C pX_195 fd_X11_180 rfl dX11_of_80 ?_
      refine v_iload_n C 2 dX11_of_83 rfl rfl ?_
      refine v_iald C pX_198 dX11_of_84 h (fun h => ?_)
      cases h
      exact v_iret C hr hlk dX11_of_85
    rw [if_neg z2] at h
    by_cases z3 : a3 = 3
    · rw [if_pos z3] at h
      refine v_tabIn C 86 (k0 := 3) z3 dX11_of_17 (by decide) (by decide) (by decide) (by decide) ?_
      refine v_aload_n C 0 dX11_of_86 rfl rfl ?_
      refine v_getr C pX_180 fd_X11_66 rfl dX11_of_87 ?_
      refine v_getr C pX_195 fd_X11_183 rfl dX11_of_90 ?_
      refine v_iload_n C 2 dX11_of_93 rfl rfl ?_
      refine v_iald C pX_199 dX11_of_94 h (fun h => ?_)
      cases h
      exact v_iret C hr hlk dX11_of_95
    rw [if_neg z3] at h
    by_cases z4 : a3 = 4
    · rw [if_pos z4] at h
      refine v_tabIn C 96 (k0 := 4) z4 dX11_of_17 (by decide) (by decide) (by decide) (by decide) ?_
      refine v_aload_n C 0 dX11_of_96 rfl rfl ?_
      refine v_getr C pX_180 fd_X11_66 rfl dX11_of_97 ?_
      refine v_getr C pX_195 fd_X11_186 rfl dX11_of_100 ?_
      refine v_iload_n C 2 dX11_of_103 rfl rfl ?_
      refine v_iald C pX_200 dX11_of_104 h (fun h => ?_)
      cases h
      exact v_iret C hr hlk dX11_of_105
    rw [if_neg z4] at h
    by_cases z5 : a3 = 5
    · rw [if_pos z5] at h
      refine v_tabIn C 106 (k0 := 5) z5 dX11_of_17 (by decide) (by decide) (by decide) (by decide) ?_
      refine v_aload_n C 0 dX11_of_106 rfl rfl ?_
      refine v_getr C pX_180 fd_X11_66 rfl dX11_of_107 ?_
      refine v_aload_n C 0 dX11_of_110 rfl rfl ?_
      refine v_getr C pX_180 fd_X11_35 rfl dX11_of_111 ?_
      refine v_getr C (pW_0 0 (by decide)) fd_X11_145 rfl dX11_of_114 ?_
      refine v_iload_n C 1 dX11_of_117 rfl rfl ?_
      have hb6 := chk1 h
      refine v_aald5 C (pW_1 0 (by decide)) dX11_of_118 h (fun h => ?_)
      refine v_aload_n C 0 dX11_of_119 rfl rfl ?_
      obtain ⟨r8, hc7, h⟩ := bnd h
      refine v_callVa C [] (cX11_lawsNow_ct l D cy ad u5 r8 hc7) ml_X11_121 pX_180 ⟨Nat.le_of_ble_eq_true rfl, Nat.le_of_ble_eq_true rfl⟩ ⟨rfl, rfl⟩ rfl rfl (Nat.le_of_ble_eq_true rfl) dX11_of_120 ?_
      obtain ⟨u10, hc9, h⟩ := bnd h
      refine v_callVv C [.ref (ad (160 + 4 * (2 * 0 + a1.toNatClampNeg))), .ref (ad (5 * r8))] (cX2_shine_ct l D cy ad (2 * 0 + a1.toNatClampNeg) r8 u5 (lt24 (by decide) (inB_lt hb6)) (iX11_lawsNow_lt hc7) u10 hc9) ml_X11_189 pX_195 ⟨Nat.le_of_ble_eq_true rfl, Nat.le_of_ble_eq_true rfl⟩ ⟨rfl, rfl⟩ rfl rfl (Nat.le_of_ble_eq_true rfl) dX11_of_123 ?_
      refine v_aload_n C 0 dX11_of_126 rfl rfl ?_
      refine v_getr C pX_180 fd_X11_66 rfl dX11_of_127 ?_
      refine v_getr C pX_195 fd_X11_193 rfl dX11_of_130 ?_
      refine v_iload_n C 2 dX11_of_133 rfl rfl ?_
      refine v_iald C pX_201 dX11_of_134 h (fun h => ?_)
      cases h
      exact v_iret C hr hlk dX11_of_135
    rw [if_neg z5] at h
    refine v_tabOut C 136 dX11_of_17 (by have n0 := lv_neT z0 (a := 0) (by decide); have n1 := lv_neT z1 (a := 1) (by decide); have n2 := lv_neT z2 (a := 2) (by decide); have n3 := lv_neT z3 (a := 3) (by decide); have n4 := lv_neT z4 (a := 4) (by decide); have n5 := lv_neT z5 (a := 5) (by decide); omega) (by decide) ?_
    refine v_iconst C (v := (-1)) dX11_of_136 (by decide) ?_
    cases h
    exact v_iret C hr hlk dX11_of_137
  · refine v_iconst C (v := (-1)) dX11_of_9 (by decide) ?_
    cases h
    exact v_iret C hr hlk dX11_of_10
def rX11_box : Room := { frames := 6, cells := 0, slots := 0, locals := 149 }
def fX11_box (a1 : Int32) (a2 : Int32) (a3 : Int32) (a4 : Bool) (u : Mem) : Option (Int32 × Mem) := ((fX11_isShell a1 a2 u).bind fun r2 => (if r2 = true then ((fX11_enter a1 u).bind fun u5 => ((fX11_lawsNow u5).bind fun r7 => (if inB a2 16 then ((fX0_find r7 (u5.1 197 a2.toNatClampNeg) u5).bind fun u9 => (if a3 < 0 then (some ((-1), u9)) else (if a3 < (u9.1 204 2) then (if a4 = true then (if inB a3 9 then (some (u9.1 206 a3.toNatClampNeg, u9)) else none) else (if inB a3 9 then (some (u9.1 205 a3.toNatClampNeg, u9)) else none)) else (some ((-1), u9))))) else none))) else (some ((-1), u))))
set_option maxHeartbeats 4000000 in
set_option maxRecDepth 100000 in
theorem cX11_box_ct (l : Launch) (D : va_G) (cy : Nat → ClassId) (ad : Nat → Nat) (a1 : Int32) (a2 : Int32) (a3 : Int32) (a4 : Bool) (u : Mem)  (out : (Int32 × Mem)) (h : fX11_box a1 a2 a3 a4 u = some out) : Met l yX11_box (.code yX11_box cX11_box 6 (some .int) :: gw) rX11_box (va_Pc [.ref (ad 180), .int a1, .int a2, .int a3, .int (bz a4)] (wv shX nX D cy ad u)) (qI shX nX D cy ad out.1 out.2) 0 0 (rA ad nX) := by
  refine met_of (cc := cX11_box) (nL := 6) (by decide) (Nat.le_of_ble_eq_true rfl) (fun p e s m below meth c C hr hlk => ?_)
  unfold fX11_box at h
  show V shX nX D cy ad 6 p l e rX11_box s m _ below meth c (MQ below (qI shX nX D cy ad out.1 out.2) _ s 0 0 (rA ad nX)) 0 [(0, .ref (ad 180)), (1, .int a1), (2, .int a2), (3, .int a3), (4, .int (bz a4))] [] u
  refine v_aload_n C 0 dX11_box_0 rfl rfl ?_
  refine v_iload_n C 1 dX11_box_1 rfl rfl ?_
  refine v_iload_n C 2 dX11_box_2 rfl rfl ?_
  obtain ⟨r2, hc1, h⟩ := bnd h
  refine v_callVi C [.int a1, .int a2] (cX11_isShell_ct l D cy ad a1 a2 u r2 hc1) ml_X11_154 pX_180 ⟨Nat.le_of_ble_eq_true rfl, Nat.le_of_ble_eq_true rfl⟩ ⟨rfl, rfl⟩ rfl rfl (Nat.le_of_ble_eq_true rfl) dX11_box_3 ?_
  refine v_z_ne C 11 dX11_box_6 (by decide) h (fun h => ?_) (fun h => ?_)
  · refine v_aload_n C 0 dX11_box_11 rfl rfl ?_
    refine v_iload_n C 1 dX11_box_12 rfl rfl ?_
    obtain ⟨u5, hc4, h⟩ := bnd h
    refine v_callVv C [.int a1] (cX11_enter_ct l D cy ad a1 u u5 hc4) ml_X11_173 pX_180 ⟨Nat.le_of_ble_eq_true rfl, Nat.le_of_ble_eq_true rfl⟩ ⟨rfl, rfl⟩ rfl rfl (Nat.le_of_ble_eq_true rfl) dX11_box_13 ?_
    refine v_aload_n C 0 dX11_box_16 rfl rfl ?_
    refine v_getr C pX_180 fd_X11_66 rfl dX11_box_17 ?_
    refine v_getr C pX_195 fd_X11_196 rfl dX11_box_20 ?_
    refine v_astore C [(5, .ref (ad 204)), (0, .ref (ad 180)), (1, .int a1), (2, .int a2), (3, .int a3), (4, .int (bz a4))] dX11_box_23 (by decide) rfl ?_
    refine v_aload C 0 dX11_box_25 rfl ?_
    refine v_aload_n C 1 dX11_box_27 rfl rfl ?_
    obtain ⟨r7, hc6, h⟩ := bnd h
    refine v_callVa C [] (cX11_lawsNow_ct l D cy ad u5 r7 hc6) ml_X11_121 pX_180 ⟨Nat.le_of_ble_eq_true rfl, Nat.le_of_ble_eq_true rfl⟩ ⟨rfl, rfl⟩ rfl rfl (Nat.le_of_ble_eq_true rfl) dX11_box_28 ?_
    refine v_aload_n C 1 dX11_box_31 rfl rfl ?_
    refine v_getr C pX_180 fd_X11_66 rfl dX11_box_32 ?_
    refine v_getr C pX_195 fd_X11_177 rfl dX11_box_35 ?_
    refine v_iload_n C 3 dX11_box_38 rfl rfl ?_
    refine v_iald C pX_197 dX11_box_39 h (fun h => ?_)
    obtain ⟨u9, hc8, h⟩ := bnd h
    refine v_callVv C [.ref (ad (5 * r7)), .int (u5.1 197 a2.toNatClampNeg)] (cX0_find_ct l D cy ad r7 (u5.1 197 a2.toNatClampNeg) u5 (iX11_lawsNow_lt hc6) u9 hc8) ml_X11_200 pX_204 ⟨Nat.le_of_ble_eq_true rfl, Nat.le_of_ble_eq_true rfl⟩ ⟨rfl, rfl⟩ rfl rfl (Nat.le_of_ble_eq_true rfl) dX11_box_40 ?_
    refine v_iload_n C 4 dX11_box_43 rfl rfl ?_
    refine v_if_lt C 56 dX11_box_44 (by decide) h (fun h => ?_) (fun h => ?_)
    · refine v_iconst C (v := (-1)) dX11_box_56 (by decide) ?_
      cases h
      exact v_iret C hr hlk dX11_box_57
    · refine v_iload_n C 4 dX11_box_47 rfl rfl ?_
      refine v_aload C 0 dX11_box_48 rfl ?_
      refine v_geti C pX_204 fd_X11_206 rfl dX11_box_50 ?_
      refine v_icmp_lt C 58 dX11_box_53 (by decide) h (fun h => ?_) (fun h => ?_)
      · refine v_iload C 5 dX11_box_58 rfl ?_
        refine v_z_eq C 73 dX11_box_60 (by decide) h (fun h => ?_) (fun h => ?_)
        · refine v_aload C 0 dX11_box_63 rfl ?_
          refine v_getr C pX_204 fd_X11_209 rfl dX11_box_65 ?_
          refine v_iload_n C 4 dX11_box_68 rfl rfl ?_
          refine v_iald C pX_206 dX11_box_69 h (fun h => ?_)
          refine v_goto C 80 dX11_box_70 (by decide) ?_
          cases h
          exact v_iret C hr hlk dX11_box_80
        · refine v_aload C 0 dX11_box_73 rfl ?_
          refine v_getr C pX_204 fd_X11_212 rfl dX11_box_75 ?_
          refine v_iload_n C 4 dX11_box_78 rfl rfl ?_
          refine v_iald C pX_205 dX11_box_79 h (fun h => ?_)
          cases h
          exact v_iret C hr hlk dX11_box_80
      · refine v_iconst C (v := (-1)) dX11_box_56 (by decide) ?_
        cases h
        exact v_iret C hr hlk dX11_box_57
  · refine v_iconst C (v := (-1)) dX11_box_9 (by decide) ?_
    cases h
    exact v_iret C hr hlk dX11_box_10
def rX11_through : Room := { frames := 6, cells := 0, slots := 0, locals := 149 }
def fX11_through (a1 : Int32) (a2 : Int32) (a3 : Bool) (u : Mem) : Option (Int64 × Mem) := ((fX11_isShell a1 a2 u).bind fun r2 => (if r2 = true then ((fX11_enter a1 u).bind fun u5 => (if inB a1 2 then ((fX11_lawsNow u5).bind fun r8 => ((fX2_shine (2 * 0 + a1.toNatClampNeg) r8 u5).bind fun u10 => (if a3 = true then (if inB a2 16 then (some (u10.2 203 a2.toNatClampNeg, u10)) else none) else (if inB a2 16 then (some (u10.2 202 a2.toNatClampNeg, u10)) else none)))) else none)) else (some ((-1), u))))
set_option maxHeartbeats 4000000 in
set_option maxRecDepth 100000 in
theorem cX11_through_ct (l : Launch) (D : va_G) (cy : Nat → ClassId) (ad : Nat → Nat) (a1 : Int32) (a2 : Int32) (a3 : Bool) (u : Mem)  (out : (Int64 × Mem)) (h : fX11_through a1 a2 a3 u = some out) : Met l yX11_through (.code yX11_through cX11_through 4 (some .long) :: gw) rX11_through (va_Pc [.ref (ad 180), .int a1, .int a2, .int (bz a3)] (wv shX nX D cy ad u)) (qL shX nX D cy ad out.1 out.2) 0 0 (rA ad nX) := by
  refine met_of (cc := cX11_through) (nL := 4) (by decide) (Nat.le_of_ble_eq_true rfl) (fun p e s m below meth c C hr hlk => ?_)
  unfold fX11_through at h
  show V shX nX D cy ad 4 p l e rX11_through s m _ below meth c (MQ below (qL shX nX D cy ad out.1 out.2) _ s 0 0 (rA ad nX)) 0 [(0, .ref (ad 180)), (1, .int a1), (2, .int a2), (3, .int (bz a3))] [] u
  refine v_aload_n C 0 dX11_through_0 rfl rfl ?_
  refine v_iload_n C 1 dX11_through_1 rfl rfl ?_
  refine v_iload_n C 2 dX11_through_2 rfl rfl ?_
  obtain ⟨r2, hc1, h⟩ := bnd h
  refine v_callVi C [.int a1, .int a2] (cX11_isShell_ct l D cy ad a1 a2 u r2 hc1) ml_X11_154 pX_180 ⟨Nat.le_of_ble_eq_true rfl, Nat.le_of_ble_eq_true rfl⟩ ⟨rfl, rfl⟩ rfl rfl (Nat.le_of_ble_eq_true rfl) dX11_through_3 ?_
  refine v_z_ne C 13 dX11_through_6 (by decide) h (fun h => ?_) (fun h => ?_)
  · refine v_aload_n C 0 dX11_through_13 rfl rfl ?_
    refine v_iload_n C 1 dX11_through_14 rfl rfl ?_
    obtain ⟨u5, hc4, h⟩ := bnd h
    refine v_callVv C [.int a1] (cX11_enter_ct l D cy ad a1 u u5 hc4) ml_X11_173 pX_180 ⟨Nat.le_of_ble_eq_true rfl, Nat.le_of_ble_eq_true rfl⟩ ⟨rfl, rfl⟩ rfl rfl (Nat.le_of_ble_eq_true rfl) dX11_through_15 ?_
    refine v_aload_n C 0 dX11_through_18 rfl rfl ?_
    refine v_getr C pX_180 fd_X11_66 rfl dX11_through_19 ?_
    refine v_aload_n C 0 dX11_through_22 rfl rfl ?_
    refine v_getr C pX_180 fd_X11_35 rfl dX11_through_23 ?_
    refine v_getr C (pW_0 0 (by decide)) fd_X11_145 rfl dX11_through_26 ?_
    refine v_iload_n C 1 dX11_through_29 rfl rfl ?_
    have hb6 := chk1 h
    refine v_aald5 C (pW_1 0 (by decide)) dX11_through_30 h (fun h => ?_)
    refine v_aload_n C 0 dX11_through_31 rfl rfl ?_
    obtain ⟨r8, hc7, h⟩ := bnd h
    refine v_callVa C [] (cX11_lawsNow_ct l D cy ad u5 r8 hc7) ml_X11_121 pX_180 ⟨Nat.le_of_ble_eq_true rfl, Nat.le_of_ble_eq_true rfl⟩ ⟨rfl, rfl⟩ rfl rfl (Nat.le_of_ble_eq_true rfl) dX11_through_32 ?_
    obtain ⟨u10, hc9, h⟩ := bnd h
    refine v_callVv C [.ref (ad (160 + 4 * (2 * 0 + a1.toNatClampNeg))), .ref (ad (5 * r8))] (cX2_shine_ct l D cy ad (2 * 0 + a1.toNatClampNeg) r8 u5 (lt24 (by decide) (inB_lt hb6)) (iX11_lawsNow_lt hc7) u10 hc9) ml_X11_189 pX_195 ⟨Nat.le_of_ble_eq_true rfl, Nat.le_of_ble_eq_true rfl⟩ ⟨rfl, rfl⟩ rfl rfl (Nat.le_of_ble_eq_true rfl) dX11_through_35 ?_
    refine v_iload_n C 3 dX11_through_38 rfl rfl ?_
    refine v_z_eq C 54 dX11_through_39 (by decide) h (fun h => ?_) (fun h => ?_)
    · refine v_aload_n C 0 dX11_through_42 rfl rfl ?_
      refine v_getr C pX_180 fd_X11_66 rfl dX11_through_43 ?_
      refine v_getr C pX_195 fd_X11_217 rfl dX11_through_46 ?_
      refine v_iload_n C 2 dX11_through_49 rfl rfl ?_
      refine v_lald C pX_203 dX11_through_50 h (fun h => ?_)
      refine v_goto C 63 dX11_through_51 (by decide) ?_
      cases h
      exact v_lret C hr hlk dX11_through_63
    · refine v_aload_n C 0 dX11_through_54 rfl rfl ?_
      refine v_getr C pX_180 fd_X11_66 rfl dX11_through_55 ?_
      refine v_getr C pX_195 fd_X11_220 rfl dX11_through_58 ?_
      refine v_iload_n C 2 dX11_through_61 rfl rfl ?_
      refine v_lald C pX_202 dX11_through_62 h (fun h => ?_)
      cases h
      exact v_lret C hr hlk dX11_through_63
  · refine v_ldc2 C kc_X11_215 dX11_through_9 ?_
    cases h
    exact v_lret C hr hlk dX11_through_12
def rX11_settled : Room := { frames := 6, cells := 0, slots := 0, locals := 149 }
def fX11_settled (a1 : Int32) (u : Mem) : Option (Int32 × Mem) := ((fX11_isStar a1).bind fun r2 => (if r2 = true then ((fX11_enter a1 u).bind fun u5 => (some (u5.1 195 10, u5))) else (some ((-1), u))))
set_option maxHeartbeats 4000000 in
set_option maxRecDepth 100000 in
theorem cX11_settled_ct (l : Launch) (D : va_G) (cy : Nat → ClassId) (ad : Nat → Nat) (a1 : Int32) (u : Mem)  (out : (Int32 × Mem)) (h : fX11_settled a1 u = some out) : Met l yX11_settled (.code yX11_settled cX11_settled 2 (some .int) :: gw) rX11_settled (va_Pc [.ref (ad 180), .int a1] (wv shX nX D cy ad u)) (qI shX nX D cy ad out.1 out.2) 0 0 (rA ad nX) := by
  refine met_of (cc := cX11_settled) (nL := 2) (by decide) (Nat.le_of_ble_eq_true rfl) (fun p e s m below meth c C hr hlk => ?_)
  unfold fX11_settled at h
  show V shX nX D cy ad 2 p l e rX11_settled s m _ below meth c (MQ below (qI shX nX D cy ad out.1 out.2) _ s 0 0 (rA ad nX)) 0 [(0, .ref (ad 180)), (1, .int a1)] [] u
  refine v_iload_n C 1 dX11_settled_0 rfl rfl ?_
  obtain ⟨r2, hc1, h⟩ := bnd h
  refine v_callSi C [.int a1] (cX11_isStar_ct l D cy ad a1 _ r2 hc1) ml_X11_142 ⟨Nat.le_of_ble_eq_true rfl, Nat.le_of_ble_eq_true rfl⟩ ⟨rfl, rfl⟩ rfl rfl (Nat.le_of_ble_eq_true rfl) dX11_settled_1 ?_
  refine v_z_ne C 9 dX11_settled_4 (by decide) h (fun h => ?_) (fun h => ?_)
  · refine v_aload_n C 0 dX11_settled_9 rfl rfl ?_
    refine v_iload_n C 1 dX11_settled_10 rfl rfl ?_
    obtain ⟨u5, hc4, h⟩ := bnd h
    refine v_callVv C [.int a1] (cX11_enter_ct l D cy ad a1 u u5 hc4) ml_X11_173 pX_180 ⟨Nat.le_of_ble_eq_true rfl, Nat.le_of_ble_eq_true rfl⟩ ⟨rfl, rfl⟩ rfl rfl (Nat.le_of_ble_eq_true rfl) dX11_settled_11 ?_
    refine v_aload_n C 0 dX11_settled_14 rfl rfl ?_
    refine v_getr C pX_180 fd_X11_66 rfl dX11_settled_15 ?_
    refine v_geti C pX_195 fd_X11_223 rfl dX11_settled_18 ?_
    cases h
    exact v_iret C hr hlk dX11_settled_21
  · refine v_iconst C (v := (-1)) dX11_settled_7 (by decide) ?_
    cases h
    exact v_iret C hr hlk dX11_settled_8
def rX11_burnShell : Room := { frames := 3, cells := 0, slots := 0, locals := 77 }
def fX11_burnShell_L8 (a1 : Nat) (a2 : Int32) (a3 : Nat) (K35 : Mem → Option Mem) : Nat → Int32 → Mem → Option Mem
  | 0, _, _ => none
  | t + 1, a4, u => (if 6 ≤ a4 then K35 u else ((fX7_partsOf a1 a2 a4 u).bind fun r5 => (if inB a4 6 then fX11_burnShell_L8 a1 a2 a3 K35 t (a4 + 1) (si u 209 a4.toNatClampNeg r5) else none)))
def fX11_burnShell_L38 (a1 : Nat) (a2 : Int32) (a3 : Nat) : Nat → Int32 → Mem → Option Mem
  | 0, _, _ => none
  | t + 1, a4, u => (if 5 ≤ a4 then (some u) else (if inB a4 5 then ((fX3_isTold a3 a4 (sl u 210 a4.toNatClampNeg 0)).bind fun r9 => (if r9 = true then (if inB a2 16 then ((fX3_span a3 (2 + a4) ((sl u 210 a4.toNatClampNeg 0).1 199 a2.toNatClampNeg) false (sl u 210 a4.toNatClampNeg 0)).bind fun r12 => ((fX7_burn a1 a2 a4 a3 r12 (sl u 210 a4.toNatClampNeg 0)).bind fun q14 => (if inB a4 5 then fX11_burnShell_L38 a1 a2 a3 t (a4 + 1) (sl q14.2 210 a4.toNatClampNeg q14.1) else none))) else none) else fX11_burnShell_L38 a1 a2 a3 t (a4 + 1) (sl u 210 a4.toNatClampNeg 0))) else none))
def fX11_burnShell (i1 : Nat) (a2 : Int32) (u : Mem) : Option Mem := ((fX11_lawsNow u).bind fun r2 => fX11_burnShell_L8 i1 a2 r2 (fun u6 => fX11_burnShell_L38 i1 a2 r2 fu0 0 u6) fu0 0 u)
set_option maxHeartbeats 4000000 in
set_option maxRecDepth 100000 in
theorem kX11_burnShell_L8 {l : Launch} {D : va_G} {cy : Nat → ClassId} {ad : Nat → Nat} {p : Program} {e : Env} {s : State} {m : MethodId} {args : Array Value} {below : List Frame} {meth : Method} {c : Code} (C : Cx nX D cy ad 6 cX11_burnShell RX11 rX11_burnShell p s m args c) (hr : meth.sig.returnType = none) (hlk : meth.locks = false) (a1 : Nat) (a2 : Int32) (a3 : Nat) (ha1 : a1 < 4) (ha3 : a3 < 32) {out : Mem} (K35 : Mem → Option Mem) (hK35 : ∀ (w : Mem), K35 w = some out → V shX nX D cy ad 6 p l e rX11_burnShell s m args below meth c (MQ below (qV shX nX D cy ad out) args s 0 0 (rA ad nX)) 35 [(0, .ref (ad 180)), (1, .ref (ad (160 + 4 * a1))), (2, .int a2), (3, .ref (ad (5 * a3)))] [] w) : ∀ (t : Nat) (a4 : Int32) (u : Mem), fX11_burnShell_L8 a1 a2 a3 K35 t a4 u = some out → V shX nX D cy ad 6 p l e rX11_burnShell s m args below meth c (MQ below (qV shX nX D cy ad out) args s 0 0 (rA ad nX)) 8 [(0, .ref (ad 180)), (1, .ref (ad (160 + 4 * a1))), (2, .int a2), (3, .ref (ad (5 * a3))), (4, .int a4)] [] u := by
  intro t
  induction t with
  | zero => intro a4 u h; rw [fX11_burnShell_L8] at h; cases h
  | succ t ih =>
    intro a4 u h
    rw [fX11_burnShell_L8] at h
    refine v_iload C 4 dX11_burnShell_8 rfl ?_
    refine v_bipush C (v := 6) dX11_burnShell_10 (by decide) ?_
    refine v_icmp_ge C 35 dX11_burnShell_12 (by decide) h (fun h => ?_) (fun h => ?_)
    · refine v_sub [0, 1, 2, 3] rfl ?_
      exact hK35 u h
    · refine v_aload_n C 0 dX11_burnShell_15 rfl rfl ?_
      refine v_getr C pX_180 fd_X11_77 rfl dX11_burnShell_16 ?_
      refine v_iload C 4 dX11_burnShell_19 rfl ?_
      refine v_aload_n C 1 dX11_burnShell_21 rfl rfl ?_
      refine v_iload_n C 2 dX11_burnShell_22 rfl rfl ?_
      refine v_iload C 4 dX11_burnShell_23 rfl ?_
      obtain ⟨r5, hc4, h⟩ := bnd h
      refine v_callVi C [.int a2, .int a4] (cX7_partsOf_ct l D cy ad a1 a2 a4 u ha1 r5 hc4) ml_X11_163 (pS_0 a1 ha1) ⟨Nat.le_of_ble_eq_true rfl, Nat.le_of_ble_eq_true rfl⟩ ⟨rfl, rfl⟩ rfl rfl (Nat.le_of_ble_eq_true rfl) dX11_burnShell_25 ?_
      refine v_iast C pX_209 dX11_burnShell_28 h (fun h => ?_)
      refine v_iinc C 4 (v := a4 + 1) [(4, .int (a4 + 1)), (0, .ref (ad 180)), (1, .ref (ad (160 + 4 * a1))), (2, .int a2), (3, .ref (ad (5 * a3)))] dX11_burnShell_29 rfl rfl (by decide) rfl ?_
      refine v_goto C 8 dX11_burnShell_32 (by decide) ?_
      refine v_sub [1, 2, 3, 4, 0] rfl ?_
      exact ih (a4 + 1) (si u 209 a4.toNatClampNeg r5) h
set_option maxHeartbeats 4000000 in
set_option maxRecDepth 100000 in
theorem kX11_burnShell_L38 {l : Launch} {D : va_G} {cy : Nat → ClassId} {ad : Nat → Nat} {p : Program} {e : Env} {s : State} {m : MethodId} {args : Array Value} {below : List Frame} {meth : Method} {c : Code} (C : Cx nX D cy ad 6 cX11_burnShell RX11 rX11_burnShell p s m args c) (hr : meth.sig.returnType = none) (hlk : meth.locks = false) (a1 : Nat) (a2 : Int32) (a3 : Nat) (ha1 : a1 < 4) (ha3 : a3 < 32) {out : Mem}  : ∀ (t : Nat) (a4 : Int32) (u : Mem), fX11_burnShell_L38 a1 a2 a3 t a4 u = some out → V shX nX D cy ad 6 p l e rX11_burnShell s m args below meth c (MQ below (qV shX nX D cy ad out) args s 0 0 (rA ad nX)) 38 [(0, .ref (ad 180)), (1, .ref (ad (160 + 4 * a1))), (2, .int a2), (3, .ref (ad (5 * a3))), (4, .int a4)] [] u := by
  intro t
  induction t with
  | zero => intro a4 u h; rw [fX11_burnShell_L38] at h; cases h
  | succ t ih =>
    intro a4 u h
    rw [fX11_burnShell_L38] at h
    refine v_iload C 4 dX11_burnShell_38 rfl ?_
    refine v_iconst C (v := 5) dX11_burnShell_40 (by decide) ?_
    refine v_icmp_ge C 104 dX11_burnShell_41 (by decide) h (fun h => ?_) (fun h => ?_)
    · cases h
      exact v_vret C hr hlk dX11_burnShell_104
    · refine v_aload_n C 0 dX11_burnShell_44 rfl rfl ?_
      refine v_getr C pX_180 fd_X11_81 rfl dX11_burnShell_45 ?_
      refine v_iload C 4 dX11_burnShell_48 rfl ?_
      refine v_lconst C (v := 0) dX11_burnShell_50 (by decide) ?_
      refine v_last C pX_210 dX11_burnShell_51 h (fun h => ?_)
      refine v_aload_n C 3 dX11_burnShell_52 rfl rfl ?_
      refine v_iload C 4 dX11_burnShell_53 rfl ?_
      obtain ⟨r9, hc8, h⟩ := bnd h
      refine v_callVi C [.int a4] (cX3_isTold_ct l D cy ad a3 a4 (sl u 210 a4.toNatClampNeg 0) ha3 r9 hc8) ml_X11_131 (pL_0 a3 ha3) ⟨Nat.le_of_ble_eq_true rfl, Nat.le_of_ble_eq_true rfl⟩ ⟨rfl, rfl⟩ rfl rfl (Nat.le_of_ble_eq_true rfl) dX11_burnShell_55 ?_
      refine v_z_eq C 98 dX11_burnShell_58 (by decide) h (fun h => ?_) (fun h => ?_)
      · refine v_aload_n C 3 dX11_burnShell_61 rfl rfl ?_
        refine v_iconst C (v := 2) dX11_burnShell_62 (by decide) ?_
        refine v_iload C 4 dX11_burnShell_63 rfl ?_
        refine v_iadd C dX11_burnShell_65 ?_
        refine v_aload_n C 0 dX11_burnShell_66 rfl rfl ?_
        refine v_getr C pX_180 fd_X11_66 rfl dX11_burnShell_67 ?_
        refine v_getr C pX_195 fd_X11_183 rfl dX11_burnShell_70 ?_
        refine v_iload_n C 2 dX11_burnShell_73 rfl rfl ?_
        refine v_iald C pX_199 dX11_burnShell_74 h (fun h => ?_)
        refine v_iconst C (v := 0) dX11_burnShell_75 (by decide) ?_
        obtain ⟨r12, hc11, h⟩ := bnd h
        refine v_callVi C [.int (2 + a4), .int ((sl u 210 a4.toNatClampNeg 0).1 199 a2.toNatClampNeg), .int (bz false)] (cX3_span_ct l D cy ad a3 (2 + a4) ((sl u 210 a4.toNatClampNeg 0).1 199 a2.toNatClampNeg) false (sl u 210 a4.toNatClampNeg 0) ha3 r12 hc11) ml_X11_138 (pL_0 a3 ha3) ⟨Nat.le_of_ble_eq_true rfl, Nat.le_of_ble_eq_true rfl⟩ ⟨rfl, rfl⟩ rfl rfl (Nat.le_of_ble_eq_true rfl) dX11_burnShell_76 ?_
        refine v_istore C [(5, .int r12), (0, .ref (ad 180)), (1, .ref (ad (160 + 4 * a1))), (2, .int a2), (3, .ref (ad (5 * a3))), (4, .int a4)] dX11_burnShell_79 (by decide) rfl ?_
        refine v_aload_n C 1 dX11_burnShell_81 rfl rfl ?_
        refine v_getr C pX_180 fd_X11_81 rfl dX11_burnShell_82 ?_
        refine v_iload C 5 dX11_burnShell_85 rfl ?_
        refine v_aload_n C 2 dX11_burnShell_87 rfl rfl ?_
        refine v_iload_n C 3 dX11_burnShell_88 rfl rfl ?_
        refine v_iload C 5 dX11_burnShell_89 rfl ?_
        refine v_aload_n C 4 dX11_burnShell_91 rfl rfl ?_
        refine v_iload C 0 dX11_burnShell_92 rfl ?_
        obtain ⟨q14, hc13, h⟩ := bnd h
        refine v_callVl C [.int a2, .int a4, .ref (ad (5 * a3)), .int r12] (cX7_burn_ct l D cy ad a1 a2 a4 a3 r12 (sl u 210 a4.toNatClampNeg 0) ha1 ha3 q14 hc13) ml_X11_325 (pS_0 a1 ha1) ⟨Nat.le_of_ble_eq_true rfl, Nat.le_of_ble_eq_true rfl⟩ ⟨rfl, rfl⟩ rfl rfl (Nat.le_of_ble_eq_true rfl) dX11_burnShell_94 ?_
        refine v_last C pX_210 dX11_burnShell_97 h (fun h => ?_)
        refine v_iinc C 5 (v := a4 + 1) [(4, .int (a4 + 1)), (5, .int r12), (0, .ref (ad 180)), (1, .ref (ad (160 + 4 * a1))), (2, .int a2), (3, .ref (ad (5 * a3)))] dX11_burnShell_98 rfl rfl (by decide) rfl ?_
        refine v_goto C 38 dX11_burnShell_101 (by decide) ?_
        refine v_sub [2, 3, 4, 5, 0] rfl ?_
        exact ih (a4 + 1) (sl q14.2 210 a4.toNatClampNeg q14.1) h
      · refine v_iinc C 4 (v := a4 + 1) [(4, .int (a4 + 1)), (0, .ref (ad 180)), (1, .ref (ad (160 + 4 * a1))), (2, .int a2), (3, .ref (ad (5 * a3)))] dX11_burnShell_98 rfl rfl (by decide) rfl ?_
        refine v_goto C 38 dX11_burnShell_101 (by decide) ?_
        refine v_sub [1, 2, 3, 4, 0] rfl ?_
        exact ih (a4 + 1) (sl u 210 a4.toNatClampNeg 0) h
set_option maxHeartbeats 4000000 in
set_option maxRecDepth 100000 in
theorem cX11_burnShell_ct (l : Launch) (D : va_G) (cy : Nat → ClassId) (ad : Nat → Nat) (i1 : Nat) (a2 : Int32) (u : Mem) (hi1 : i1 < 4) (out : Mem) (h : fX11_burnShell i1 a2 u = some out) : Met l yX11_burnShell (.code yX11_burnShell cX11_burnShell 6 (none) :: gw) rX11_burnShell (va_Pc [.ref (ad 180), .ref (ad (160 + 4 * i1)), .int a2] (wv shX nX D cy ad u)) (qV shX nX D cy ad out) 0 0 (rA ad nX) := by
  refine met_of (cc := cX11_burnShell) (nL := 6) (by decide) (Nat.le_of_ble_eq_true rfl) (fun p e s m below meth c C hr hlk => ?_)
  unfold fX11_burnShell at h
  show V shX nX D cy ad 6 p l e rX11_burnShell s m _ below meth c (MQ below (qV shX nX D cy ad out) _ s 0 0 (rA ad nX)) 0 [(0, .ref (ad 180)), (1, .ref (ad (160 + 4 * i1))), (2, .int a2)] [] u
  refine v_aload_n C 0 dX11_burnShell_0 rfl rfl ?_
  obtain ⟨r2, hc1, h⟩ := bnd h
  refine v_callVa C [] (cX11_lawsNow_ct l D cy ad u r2 hc1) ml_X11_121 pX_180 ⟨Nat.le_of_ble_eq_true rfl, Nat.le_of_ble_eq_true rfl⟩ ⟨rfl, rfl⟩ rfl rfl (Nat.le_of_ble_eq_true rfl) dX11_burnShell_1 ?_
  refine v_astore_n C [(3, .ref (ad (5 * r2))), (0, .ref (ad 180)), (1, .ref (ad (160 + 4 * i1))), (2, .int a2)] dX11_burnShell_4 rfl (by decide) rfl ?_
  refine v_iconst C (v := 0) dX11_burnShell_5 (by decide) ?_
  refine v_istore C [(4, .int 0), (3, .ref (ad (5 * r2))), (0, .ref (ad 180)), (1, .ref (ad (160 + 4 * i1))), (2, .int a2)] dX11_burnShell_6 (by decide) rfl ?_
  refine v_sub [2, 3, 4, 1, 0] rfl ?_
  refine kX11_burnShell_L8 C hr hlk i1 a2 r2 hi1 (iX11_lawsNow_lt hc1) _ (fun u6 h => ?_) fu0 0 u h
  · refine v_iconst C (v := 0) dX11_burnShell_35 (by decide) ?_
    refine v_istore C [(4, .int 0), (0, .ref (ad 180)), (1, .ref (ad (160 + 4 * i1))), (2, .int a2), (3, .ref (ad (5 * r2)))] dX11_burnShell_36 (by decide) rfl ?_
    refine v_sub [1, 2, 3, 4, 0] rfl ?_
    refine kX11_burnShell_L38 C hr hlk i1 a2 r2 hi1 (iX11_lawsNow_lt hc1)   fu0 0 u6 h
def rX11_keepEvent : Room := { frames := 0, cells := 0, slots := 0, locals := 0 }
def fX11_keepEvent (a1 : Int32) (a2 : Int32) (a3 : Int32) (a4 : Int32) (u : Mem) : Option Mem := (if (u.1 (176 + 2 * 0) 4) < 200 then (if inB ((u.1 (176 + 2 * 0) 4) * 5) 1000 then ((some (si u 187 ((u.1 (176 + 2 * 0) 4) * 5).toNatClampNeg (u.1 (176 + 2 * 0) 3))).bind fun u2 => (if inB (((u.1 (176 + 2 * 0) 4) * 5) + 1) 1000 then ((some (si u2 187 (((u.1 (176 + 2 * 0) 4) * 5) + 1).toNatClampNeg a1)).bind fun u3 => (if inB (((u.1 (176 + 2 * 0) 4) * 5) + 2) 1000 then ((some (si u3 187 (((u.1 (176 + 2 * 0) 4) * 5) + 2).toNatClampNeg a2)).bind fun u4 => (if inB (((u.1 (176 + 2 * 0) 4) * 5) + 3) 1000 then ((some (si u4 187 (((u.1 (176 + 2 * 0) 4) * 5) + 3).toNatClampNeg a3)).bind fun u5 => (if inB (((u.1 (176 + 2 * 0) 4) * 5) + 4) 1000 then ((some (si u5 187 (((u.1 (176 + 2 * 0) 4) * 5) + 4).toNatClampNeg a4)).bind fun u6 => (some (si u6 (176 + 2 * 0) 4 ((u6.1 (176 + 2 * 0) 4) + 1)))) else none)) else none)) else none)) else none)) else none) else (some u))
set_option maxHeartbeats 4000000 in
set_option maxRecDepth 100000 in
theorem cX11_keepEvent_ct (l : Launch) (D : va_G) (cy : Nat → ClassId) (ad : Nat → Nat) (a1 : Int32) (a2 : Int32) (a3 : Int32) (a4 : Int32) (u : Mem)  (out : Mem) (h : fX11_keepEvent a1 a2 a3 a4 u = some out) : Met l yX11_keepEvent (.code yX11_keepEvent cX11_keepEvent 6 (none) :: gw) rX11_keepEvent (va_Pc [.ref (ad 180), .int a1, .int a2, .int a3, .int a4] (wv shX nX D cy ad u)) (qV shX nX D cy ad out) 0 0 (rA ad nX) := by
  refine met_of (cc := cX11_keepEvent) (nL := 6) (by decide) (Nat.le_of_ble_eq_true rfl) (fun p e s m below meth c C hr hlk => ?_)
  unfold fX11_keepEvent at h
  show V shX nX D cy ad 6 p l e rX11_keepEvent s m _ below meth c (MQ below (qV shX nX D cy ad out) _ s 0 0 (rA ad nX)) 0 [(0, .ref (ad 180)), (1, .int a1), (2, .int a2), (3, .int a3), (4, .int a4)] [] u
  refine v_aload_n C 0 dX11_keepEvent_0 rfl rfl ?_
  refine v_getr C pX_180 fd_X11_35 rfl dX11_keepEvent_1 ?_
  refine v_geti C (pW_0 0 (by decide)) fd_X11_229 rfl dX11_keepEvent_4 ?_
  refine v_sipush C (v := 200) dX11_keepEvent_7 (by decide) ?_
  refine v_icmp_lt C 14 dX11_keepEvent_10 (by decide) h (fun h => ?_) (fun h => ?_)
  · refine v_aload_n C 0 dX11_keepEvent_14 rfl rfl ?_
    refine v_getr C pX_180 fd_X11_35 rfl dX11_keepEvent_15 ?_
    refine v_geti C (pW_0 0 (by decide)) fd_X11_229 rfl dX11_keepEvent_18 ?_
    refine v_iconst C (v := 5) dX11_keepEvent_21 (by decide) ?_
    refine v_imul C dX11_keepEvent_22 ?_
    refine v_istore C [(5, .int ((u.1 (176 + 2 * 0) 4) * 5)), (0, .ref (ad 180)), (1, .int a1), (2, .int a2), (3, .int a3), (4, .int a4)] dX11_keepEvent_23 (by decide) rfl ?_
    refine v_aload_n C 1 dX11_keepEvent_25 rfl rfl ?_
    refine v_getr C pX_180 fd_X11_45 rfl dX11_keepEvent_26 ?_
    refine v_getr C pX_186 fd_X11_231 rfl dX11_keepEvent_29 ?_
    refine v_iload C 0 dX11_keepEvent_32 rfl ?_
    refine v_aload_n C 1 dX11_keepEvent_34 rfl rfl ?_
    refine v_getr C pX_180 fd_X11_35 rfl dX11_keepEvent_35 ?_
    refine v_geti C (pW_0 0 (by decide)) fd_X11_294 rfl dX11_keepEvent_38 ?_
    refine v_iast C pX_187 dX11_keepEvent_41 h (fun h => ?_)
    refine v_mem (fun u2 hu2 => ?_)
    have h := nmd hu2 h
    refine v_aload_n C 1 dX11_keepEvent_42 rfl rfl ?_
    refine v_getr C pX_180 fd_X11_45 rfl dX11_keepEvent_43 ?_
    refine v_getr C pX_186 fd_X11_231 rfl dX11_keepEvent_46 ?_
    refine v_iload C 0 dX11_keepEvent_49 rfl ?_
    refine v_iconst C (v := 1) dX11_keepEvent_51 (by decide) ?_
    refine v_iadd C dX11_keepEvent_52 ?_
    refine v_iload_n C 2 dX11_keepEvent_53 rfl rfl ?_
    refine v_iast C pX_187 dX11_keepEvent_54 h (fun h => ?_)
    refine v_mem (fun u3 hu3 => ?_)
    have h := nmd hu3 h
    refine v_aload_n C 1 dX11_keepEvent_55 rfl rfl ?_
    refine v_getr C pX_180 fd_X11_45 rfl dX11_keepEvent_56 ?_
    refine v_getr C pX_186 fd_X11_231 rfl dX11_keepEvent_59 ?_
    refine v_iload C 0 dX11_keepEvent_62 rfl ?_
    refine v_iconst C (v := 2) dX11_keepEvent_64 (by decide) ?_
    refine v_iadd C dX11_keepEvent_65 ?_
    refine v_iload_n C 3 dX11_keepEvent_66 rfl rfl ?_
    refine v_iast C pX_187 dX11_keepEvent_67 h (fun h => ?_)
    refine v_mem (fun u4 hu4 => ?_)
    have h := nmd hu4 h
    refine v_aload_n C 1 dX11_keepEvent_68 rfl rfl ?_
    refine v_getr C pX_180 fd_X11_45 rfl dX11_keepEvent_69 ?_
    refine v_getr C pX_186 fd_X11_231 rfl dX11_keepEvent_72 ?_
    refine v_iload C 0 dX11_keepEvent_75 rfl ?_
    refine v_iconst C (v := 3) dX11_keepEvent_77 (by decide) ?_
    refine v_iadd C dX11_keepEvent_78 ?_
    refine v_iload_n C 4 dX11_keepEvent_79 rfl rfl ?_
    refine v_iast C pX_187 dX11_keepEvent_80 h (fun h => ?_)
    refine v_mem (fun u5 hu5 => ?_)
    have h := nmd hu5 h
    refine v_aload_n C 1 dX11_keepEvent_81 rfl rfl ?_
    refine v_getr C pX_180 fd_X11_45 rfl dX11_keepEvent_82 ?_
    refine v_getr C pX_186 fd_X11_231 rfl dX11_keepEvent_85 ?_
    refine v_iload C 0 dX11_keepEvent_88 rfl ?_
    refine v_iconst C (v := 4) dX11_keepEvent_90 (by decide) ?_
    refine v_iadd C dX11_keepEvent_91 ?_
    refine v_iload C 5 dX11_keepEvent_92 rfl ?_
    refine v_iast C pX_187 dX11_keepEvent_94 h (fun h => ?_)
    refine v_mem (fun u6 hu6 => ?_)
    have h := nmd hu6 h
    refine v_aload_n C 1 dX11_keepEvent_95 rfl rfl ?_
    refine v_getr C pX_180 fd_X11_35 rfl dX11_keepEvent_96 ?_
    refine v_dup C rfl dX11_keepEvent_99 ?_
    refine v_geti C (pW_0 0 (by decide)) fd_X11_229 rfl dX11_keepEvent_100 ?_
    refine v_iconst C (v := 1) dX11_keepEvent_103 (by decide) ?_
    refine v_iadd C dX11_keepEvent_104 ?_
    refine v_puti C (pW_0 0 (by decide)) fp_X11_229 rfl rfl rfl dX11_keepEvent_105 ?_
    cases h
    exact v_vret C hr hlk dX11_keepEvent_108
  · cases h
    exact v_vret C hr hlk dX11_keepEvent_13
def rX11_tellEvents : Room := { frames := 2, cells := 0, slots := 0, locals := 43 }
def fX11_tellEvents_J96 (Rc19 : Int32 → Mem → Option Mem) (a1 : Int32) (a2 : Int32) (a3 : Nat) (a4 : Nat) (a5 : Int32) (a6 : Int32) (u : Mem) : Option Mem := (if inB a5 5 then (if (if (u.2 210 a5.toNatClampNeg) ≤ 0 then false else true) = true then (if inB a6 80 then (if (u.1 (160 + 4 * a3 + 3) a6.toNatClampNeg) = 0 then ((fX11_keepEvent a1 a2 a5 1 u).bind fun u19 => (if inB a6 80 then ((some (si u19 (160 + 4 * a3 + 3) a6.toNatClampNeg (bz (if (u.2 210 a5.toNatClampNeg) ≤ 0 then false else true)))).bind fun u20 => Rc19 (a5 + 1) u20) else none)) else (if inB a6 80 then ((some (si u (160 + 4 * a3 + 3) a6.toNatClampNeg (bz (if (u.2 210 a5.toNatClampNeg) ≤ 0 then false else true)))).bind fun u21 => Rc19 (a5 + 1) u21) else none)) else none) else (if inB a6 80 then ((some (si u (160 + 4 * a3 + 3) a6.toNatClampNeg (bz (if (u.2 210 a5.toNatClampNeg) ≤ 0 then false else true)))).bind fun u22 => Rc19 (a5 + 1) u22) else none)) else none)
def fX11_tellEvents_L19 (a1 : Int32) (a2 : Int32) (a3 : Nat) (a4 : Nat) : Nat → Int32 → Mem → Option Mem
  | 0, _, _ => none
  | t + 1, a5, u => (if 5 ≤ a5 then (some u) else ((fX3_isTold a4 a5 u).bind fun r6 => (if r6 = true then ((fX3_ofChain a4 a5 0 u).bind fun r9 => ((fX3_ofChain a4 a5 1 u).bind fun r11 => ((fX7_partsOf a3 a2 r9 u).bind fun r13 => (if r11 ≤ r13 then fX11_tellEvents_J96 (fX11_tellEvents_L19 a1 a2 a3 a4 t) a1 a2 a3 a4 a5 ((a2 * 5) + a5) u else (if inB r9 6 then (if (u.1 209 r9.toNatClampNeg) < r11 then fX11_tellEvents_J96 (fX11_tellEvents_L19 a1 a2 a3 a4 t) a1 a2 a3 a4 a5 ((a2 * 5) + a5) u else ((fX11_keepEvent a1 a2 a5 0 u).bind fun u25 => fX11_tellEvents_J96 (fX11_tellEvents_L19 a1 a2 a3 a4 t) a1 a2 a3 a4 a5 ((a2 * 5) + a5) u25)) else none))))) else fX11_tellEvents_J96 (fX11_tellEvents_L19 a1 a2 a3 a4 t) a1 a2 a3 a4 a5 ((a2 * 5) + a5) u)))
def fX11_tellEvents (a1 : Int32) (a2 : Int32) (u : Mem) : Option Mem := (if inB a1 2 then ((fX11_lawsNow u).bind fun r3 => fX11_tellEvents_L19 a1 a2 (2 * 0 + a1.toNatClampNeg) r3 fu0 0 u) else none)
set_option maxHeartbeats 4000000 in
set_option maxRecDepth 100000 in
theorem kX11_tellEvents_J96 {l : Launch} {D : va_G} {cy : Nat → ClassId} {ad : Nat → Nat} {p : Program} {e : Env} {s : State} {m : MethodId} {args : Array Value} {below : List Frame} {meth : Method} {c : Code} (C : Cx nX D cy ad 9 cX11_tellEvents RX11 rX11_tellEvents p s m args c) (hr : meth.sig.returnType = none) (hlk : meth.locks = false) {out : Mem} (Rc19 : Int32 → Mem → Option Mem)  (a1 : Int32) (a2 : Int32) (a3 : Nat) (a4 : Nat) (a5 : Int32) (a6 : Int32) (u : Mem) (ha3 : a3 < 4) (ha4 : a4 < 32) (hRc19 : ∀ (a5 : Int32) (w : Mem), Rc19 a5 w = some out → V shX nX D cy ad 9 p l e rX11_tellEvents s m args below meth c (MQ below (qV shX nX D cy ad out) args s 0 0 (rA ad nX)) 19 [(0, .ref (ad 180)), (1, .int a1), (2, .int a2), (3, .ref (ad (160 + 4 * a3))), (4, .ref (ad (5 * a4))), (5, .int a5)] [] w) (h : fX11_tellEvents_J96 Rc19 a1 a2 a3 a4 a5 a6 u = some out) : V shX nX D cy ad 9 p l e rX11_tellEvents s m args below meth c (MQ below (qV shX nX D cy ad out) args s 0 0 (rA ad nX)) 96 [(0, .ref (ad 180)), (1, .int a1), (2, .int a2), (3, .ref (ad (160 + 4 * a3))), (4, .ref (ad (5 * a4))), (5, .int a5), (6, .int a6)] [] u := by
  unfold fX11_tellEvents_J96 at h
  refine v_aload_n C 0 dX11_tellEvents_96 rfl rfl ?_
  refine v_getr C pX_180 fd_X11_81 rfl dX11_tellEvents_97 ?_
  refine v_iload C 5 dX11_tellEvents_100 rfl ?_
  refine v_lald C pX_210 dX11_tellEvents_102 h (fun h => ?_)
  refine v_lconst C (v := 0) dX11_tellEvents_103 (by decide) ?_
  refine v_dia 113 (.int (bz (if (u.2 210 a5.toNatClampNeg) ≤ 0 then false else true))) [] ?_ (fun hj => ?_)
  · refine v_istore C [(7, .int (bz (if (u.2 210 a5.toNatClampNeg) ≤ 0 then false else true))), (0, .ref (ad 180)), (1, .int a1), (2, .int a2), (3, .ref (ad (160 + 4 * a3))), (4, .ref (ad (5 * a4))), (5, .int a5), (6, .int a6)] dX11_tellEvents_113 (by decide) rfl ?_
    refine v_iload C 0 dX11_tellEvents_115 rfl ?_
    refine v_z_eq C 139 dX11_tellEvents_117 (by decide) h (fun h => ?_) (fun h => ?_)
    · refine v_aload_n C 4 dX11_tellEvents_120 rfl rfl ?_
      refine v_getr C (pS_0 a3 ha3) fd_X11_333 rfl dX11_tellEvents_121 ?_
      refine v_iload C 7 dX11_tellEvents_124 rfl ?_
      refine v_zald C (pS_3 a3 ha3) dX11_tellEvents_126 h (fun h => ?_)
      refine v_if_ne C 139 dX11_tellEvents_127 (by decide) h (fun h => ?_) (fun h => ?_)
      · refine v_aload_n C 1 dX11_tellEvents_130 rfl rfl ?_
        refine v_iload_n C 2 dX11_tellEvents_131 rfl rfl ?_
        refine v_iload_n C 3 dX11_tellEvents_132 rfl rfl ?_
        refine v_iload C 6 dX11_tellEvents_133 rfl ?_
        refine v_iconst C (v := 1) dX11_tellEvents_135 (by decide) ?_
        obtain ⟨u19, hc18, h⟩ := bnd h
        refine v_callVv C [.int a1, .int a2, .int a5, .int 1] (cX11_keepEvent_ct l D cy ad a1 a2 a5 1 u u19 hc18) ml_X11_329 pX_180 ⟨Nat.le_of_ble_eq_true rfl, Nat.le_of_ble_eq_true rfl⟩ ⟨rfl, rfl⟩ rfl rfl (Nat.le_of_ble_eq_true rfl) dX11_tellEvents_136 ?_
        refine v_aload_n C 4 dX11_tellEvents_139 rfl rfl ?_
        refine v_getr C (pS_0 a3 ha3) fd_X11_333 rfl dX11_tellEvents_140 ?_
        refine v_iload C 7 dX11_tellEvents_143 rfl ?_
        refine v_iload C 0 dX11_tellEvents_145 rfl ?_
        refine v_zast C (pS_3 a3 ha3) (bz_nar _) dX11_tellEvents_147 h (fun h => ?_)
        refine v_mem (fun u20 hu20 => ?_)
        have h := nmd hu20 h
        refine v_iinc C 6 (v := a5 + 1) [(5, .int (a5 + 1)), (7, .int (bz (if (u.2 210 a5.toNatClampNeg) ≤ 0 then false else true))), (0, .ref (ad 180)), (1, .int a1), (2, .int a2), (3, .ref (ad (160 + 4 * a3))), (4, .ref (ad (5 * a4))), (6, .int a6)] dX11_tellEvents_148 rfl rfl (by decide) rfl ?_
        refine v_goto C 19 dX11_tellEvents_151 (by decide) ?_
        refine v_sub [2, 3, 4, 5, 6, 0] rfl ?_
        exact hRc19 (a5 + 1) u20 h
      · refine v_aload_n C 4 dX11_tellEvents_139 rfl rfl ?_
        refine v_getr C (pS_0 a3 ha3) fd_X11_333 rfl dX11_tellEvents_140 ?_
        refine v_iload C 7 dX11_tellEvents_143 rfl ?_
        refine v_iload C 0 dX11_tellEvents_145 rfl ?_
        refine v_zast C (pS_3 a3 ha3) (bz_nar _) dX11_tellEvents_147 h (fun h => ?_)
        refine v_mem (fun u21 hu21 => ?_)
        have h := nmd hu21 h
        refine v_iinc C 6 (v := a5 + 1) [(5, .int (a5 + 1)), (7, .int (bz (if (u.2 210 a5.toNatClampNeg) ≤ 0 then false else true))), (0, .ref (ad 180)), (1, .int a1), (2, .int a2), (3, .ref (ad (160 + 4 * a3))), (4, .ref (ad (5 * a4))), (6, .int a6)] dX11_tellEvents_148 rfl rfl (by decide) rfl ?_
        refine v_goto C 19 dX11_tellEvents_151 (by decide) ?_
        refine v_sub [2, 3, 4, 5, 6, 0] rfl ?_
        exact hRc19 (a5 + 1) u21 h
    · refine v_aload_n C 4 dX11_tellEvents_139 rfl rfl ?_
      refine v_getr C (pS_0 a3 ha3) fd_X11_333 rfl dX11_tellEvents_140 ?_
      refine v_iload C 7 dX11_tellEvents_143 rfl ?_
      refine v_iload C 0 dX11_tellEvents_145 rfl ?_
      refine v_zast C (pS_3 a3 ha3) (bz_nar _) dX11_tellEvents_147 h (fun h => ?_)
      refine v_mem (fun u22 hu22 => ?_)
      have h := nmd hu22 h
      refine v_iinc C 6 (v := a5 + 1) [(5, .int (a5 + 1)), (7, .int (bz (if (u.2 210 a5.toNatClampNeg) ≤ 0 then false else true))), (0, .ref (ad 180)), (1, .int a1), (2, .int a2), (3, .ref (ad (160 + 4 * a3))), (4, .ref (ad (5 * a4))), (6, .int a6)] dX11_tellEvents_148 rfl rfl (by decide) rfl ?_
      refine v_goto C 19 dX11_tellEvents_151 (by decide) ?_
      refine v_sub [2, 3, 4, 5, 6, 0] rfl ?_
      exact hRc19 (a5 + 1) u22 h
  · refine p_lcmp_le C 112 dX11_tellEvents_104 dX11_tellEvents_105 (by decide) (fun z15 => ?_) (fun z15 => ?_)
    · refine v_iconst C (v := 0) dX11_tellEvents_112 (by decide) ?_
      exact v_top (by rw [if_pos z15]; first | done | rfl) hj
    · refine v_iconst C (v := 1) dX11_tellEvents_108 (by decide) ?_
      refine v_goto C 113 dX11_tellEvents_109 (by decide) ?_
      exact v_top (by rw [if_neg z15]; first | done | rfl) hj
set_option maxHeartbeats 4000000 in
set_option maxRecDepth 100000 in
theorem kX11_tellEvents_L19 {l : Launch} {D : va_G} {cy : Nat → ClassId} {ad : Nat → Nat} {p : Program} {e : Env} {s : State} {m : MethodId} {args : Array Value} {below : List Frame} {meth : Method} {c : Code} (C : Cx nX D cy ad 9 cX11_tellEvents RX11 rX11_tellEvents p s m args c) (hr : meth.sig.returnType = none) (hlk : meth.locks = false) (a1 : Int32) (a2 : Int32) (a3 : Nat) (a4 : Nat) (ha3 : a3 < 4) (ha4 : a4 < 32) {out : Mem}  : ∀ (t : Nat) (a5 : Int32) (u : Mem), fX11_tellEvents_L19 a1 a2 a3 a4 t a5 u = some out → V shX nX D cy ad 9 p l e rX11_tellEvents s m args below meth c (MQ below (qV shX nX D cy ad out) args s 0 0 (rA ad nX)) 19 [(0, .ref (ad 180)), (1, .int a1), (2, .int a2), (3, .ref (ad (160 + 4 * a3))), (4, .ref (ad (5 * a4))), (5, .int a5)] [] u := by
  intro t
  induction t with
  | zero => intro a5 u h; rw [fX11_tellEvents_L19] at h; cases h
  | succ t ih =>
    intro a5 u h
    rw [fX11_tellEvents_L19] at h
    refine v_iload C 5 dX11_tellEvents_19 rfl ?_
    refine v_iconst C (v := 5) dX11_tellEvents_21 (by decide) ?_
    refine v_icmp_ge C 154 dX11_tellEvents_22 (by decide) h (fun h => ?_) (fun h => ?_)
    · cases h
      exact v_vret C hr hlk dX11_tellEvents_154
    · refine v_iload_n C 2 dX11_tellEvents_25 rfl rfl ?_
      refine v_iconst C (v := 5) dX11_tellEvents_26 (by decide) ?_
      refine v_imul C dX11_tellEvents_27 ?_
      refine v_iload C 5 dX11_tellEvents_28 rfl ?_
      refine v_iadd C dX11_tellEvents_30 ?_
      refine v_istore C [(6, .int ((a2 * 5) + a5)), (0, .ref (ad 180)), (1, .int a1), (2, .int a2), (3, .ref (ad (160 + 4 * a3))), (4, .ref (ad (5 * a4))), (5, .int a5)] dX11_tellEvents_31 (by decide) rfl ?_
      refine v_aload C 5 dX11_tellEvents_33 rfl ?_
      refine v_iload C 6 dX11_tellEvents_35 rfl ?_
      obtain ⟨r6, hc5, h⟩ := bnd h
      refine v_callVi C [.int a5] (cX3_isTold_ct l D cy ad a4 a5 u ha4 r6 hc5) ml_X11_131 (pL_0 a4 ha4) ⟨Nat.le_of_ble_eq_true rfl, Nat.le_of_ble_eq_true rfl⟩ ⟨rfl, rfl⟩ rfl rfl (Nat.le_of_ble_eq_true rfl) dX11_tellEvents_37 ?_
      refine v_z_eq C 96 dX11_tellEvents_40 (by decide) h (fun h => ?_) (fun h => ?_)
      · refine v_aload C 5 dX11_tellEvents_43 rfl ?_
        refine v_iload C 6 dX11_tellEvents_45 rfl ?_
        refine v_iconst C (v := 0) dX11_tellEvents_47 (by decide) ?_
        obtain ⟨r9, hc8, h⟩ := bnd h
        refine v_callVi C [.int a5, .int 0] (cX3_ofChain_ct l D cy ad a4 a5 0 u ha4 r9 hc8) ml_X11_134 (pL_0 a4 ha4) ⟨Nat.le_of_ble_eq_true rfl, Nat.le_of_ble_eq_true rfl⟩ ⟨rfl, rfl⟩ rfl rfl (Nat.le_of_ble_eq_true rfl) dX11_tellEvents_48 ?_
        refine v_istore C [(7, .int r9), (6, .int ((a2 * 5) + a5)), (0, .ref (ad 180)), (1, .int a1), (2, .int a2), (3, .ref (ad (160 + 4 * a3))), (4, .ref (ad (5 * a4))), (5, .int a5)] dX11_tellEvents_51 (by decide) rfl ?_
        refine v_aload C 6 dX11_tellEvents_53 rfl ?_
        refine v_iload C 7 dX11_tellEvents_55 rfl ?_
        refine v_iconst C (v := 1) dX11_tellEvents_57 (by decide) ?_
        obtain ⟨r11, hc10, h⟩ := bnd h
        refine v_callVi C [.int a5, .int 1] (cX3_ofChain_ct l D cy ad a4 a5 1 u ha4 r11 hc10) ml_X11_134 (pL_0 a4 ha4) ⟨Nat.le_of_ble_eq_true rfl, Nat.le_of_ble_eq_true rfl⟩ ⟨rfl, rfl⟩ rfl rfl (Nat.le_of_ble_eq_true rfl) dX11_tellEvents_58 ?_
        refine v_istore C [(8, .int r11), (7, .int r9), (6, .int ((a2 * 5) + a5)), (0, .ref (ad 180)), (1, .int a1), (2, .int a2), (3, .ref (ad (160 + 4 * a3))), (4, .ref (ad (5 * a4))), (5, .int a5)] dX11_tellEvents_61 (by decide) rfl ?_
        refine v_aload_n C 6 dX11_tellEvents_63 rfl rfl ?_
        refine v_iload_n C 5 dX11_tellEvents_64 rfl rfl ?_
        refine v_iload C 1 dX11_tellEvents_65 rfl ?_
        obtain ⟨r13, hc12, h⟩ := bnd h
        refine v_callVi C [.int a2, .int r9] (cX7_partsOf_ct l D cy ad a3 a2 r9 u ha3 r13 hc12) ml_X11_163 (pS_0 a3 ha3) ⟨Nat.le_of_ble_eq_true rfl, Nat.le_of_ble_eq_true rfl⟩ ⟨rfl, rfl⟩ rfl rfl (Nat.le_of_ble_eq_true rfl) dX11_tellEvents_67 ?_
        refine v_iload C 0 dX11_tellEvents_70 rfl ?_
        refine v_icmp_ge C 96 dX11_tellEvents_72 (by decide) h (fun h => ?_) (fun h => ?_)
        · refine v_sub [3, 4, 5, 6, 7, 8, 2] rfl ?_
          exact kX11_tellEvents_J96 C hr hlk (fX11_tellEvents_L19 a1 a2 a3 a4 t) a1 a2 a3 a4 a5 ((a2 * 5) + a5) u ha3 ha4 ih h
        · refine v_aload_n C 3 dX11_tellEvents_75 rfl rfl ?_
          refine v_getr C pX_180 fd_X11_77 rfl dX11_tellEvents_76 ?_
          refine v_iload C 1 dX11_tellEvents_79 rfl ?_
          refine v_iald C pX_209 dX11_tellEvents_81 h (fun h => ?_)
          refine v_iload C 0 dX11_tellEvents_82 rfl ?_
          refine v_icmp_lt C 96 dX11_tellEvents_84 (by decide) h (fun h => ?_) (fun h => ?_)
          · refine v_sub [3, 4, 5, 6, 7, 8, 2] rfl ?_
            exact kX11_tellEvents_J96 C hr hlk (fX11_tellEvents_L19 a1 a2 a3 a4 t) a1 a2 a3 a4 a5 ((a2 * 5) + a5) u ha3 ha4 ih h
          · refine v_aload_n C 3 dX11_tellEvents_87 rfl rfl ?_
            refine v_iload_n C 4 dX11_tellEvents_88 rfl rfl ?_
            refine v_iload_n C 5 dX11_tellEvents_89 rfl rfl ?_
            refine v_iload C 8 dX11_tellEvents_90 rfl ?_
            refine v_iconst C (v := 0) dX11_tellEvents_92 (by decide) ?_
            obtain ⟨u25, hc24, h⟩ := bnd h
            refine v_callVv C [.int a1, .int a2, .int a5, .int 0] (cX11_keepEvent_ct l D cy ad a1 a2 a5 0 u u25 hc24) ml_X11_329 pX_180 ⟨Nat.le_of_ble_eq_true rfl, Nat.le_of_ble_eq_true rfl⟩ ⟨rfl, rfl⟩ rfl rfl (Nat.le_of_ble_eq_true rfl) dX11_tellEvents_93 ?_
            refine v_sub [3, 4, 5, 6, 7, 8, 2] rfl ?_
            exact kX11_tellEvents_J96 C hr hlk (fX11_tellEvents_L19 a1 a2 a3 a4 t) a1 a2 a3 a4 a5 ((a2 * 5) + a5) u25 ha3 ha4 ih h
      · refine v_sub [1, 2, 3, 4, 5, 6, 0] rfl ?_
        exact kX11_tellEvents_J96 C hr hlk (fX11_tellEvents_L19 a1 a2 a3 a4 t) a1 a2 a3 a4 a5 ((a2 * 5) + a5) u ha3 ha4 ih h
set_option maxHeartbeats 4000000 in
set_option maxRecDepth 100000 in
theorem cX11_tellEvents_ct (l : Launch) (D : va_G) (cy : Nat → ClassId) (ad : Nat → Nat) (a1 : Int32) (a2 : Int32) (u : Mem)  (out : Mem) (h : fX11_tellEvents a1 a2 u = some out) : Met l yX11_tellEvents (.code yX11_tellEvents cX11_tellEvents 9 (none) :: gw) rX11_tellEvents (va_Pc [.ref (ad 180), .int a1, .int a2] (wv shX nX D cy ad u)) (qV shX nX D cy ad out) 0 0 (rA ad nX) := by
  refine met_of (cc := cX11_tellEvents) (nL := 9) (by decide) (Nat.le_of_ble_eq_true rfl) (fun p e s m below meth c C hr hlk => ?_)
  unfold fX11_tellEvents at h
  show V shX nX D cy ad 9 p l e rX11_tellEvents s m _ below meth c (MQ below (qV shX nX D cy ad out) _ s 0 0 (rA ad nX)) 0 [(0, .ref (ad 180)), (1, .int a1), (2, .int a2)] [] u
  refine v_aload_n C 0 dX11_tellEvents_0 rfl rfl ?_
  refine v_getr C pX_180 fd_X11_35 rfl dX11_tellEvents_1 ?_
  refine v_getr C (pW_0 0 (by decide)) fd_X11_145 rfl dX11_tellEvents_4 ?_
  refine v_iload_n C 1 dX11_tellEvents_7 rfl rfl ?_
  have hb1 := chk1 h
  refine v_aald5 C (pW_1 0 (by decide)) dX11_tellEvents_8 h (fun h => ?_)
  refine v_astore_n C [(3, .ref (ad (160 + 4 * (2 * 0 + a1.toNatClampNeg)))), (0, .ref (ad 180)), (1, .int a1), (2, .int a2)] dX11_tellEvents_9 rfl (by decide) rfl ?_
  refine v_aload_n C 1 dX11_tellEvents_10 rfl rfl ?_
  obtain ⟨r3, hc2, h⟩ := bnd h
  refine v_callVa C [] (cX11_lawsNow_ct l D cy ad u r3 hc2) ml_X11_121 pX_180 ⟨Nat.le_of_ble_eq_true rfl, Nat.le_of_ble_eq_true rfl⟩ ⟨rfl, rfl⟩ rfl rfl (Nat.le_of_ble_eq_true rfl) dX11_tellEvents_11 ?_
  refine v_astore C [(4, .ref (ad (5 * r3))), (3, .ref (ad (160 + 4 * (2 * 0 + a1.toNatClampNeg)))), (0, .ref (ad 180)), (1, .int a1), (2, .int a2)] dX11_tellEvents_14 (by decide) rfl ?_
  refine v_iconst C (v := 0) dX11_tellEvents_16 (by decide) ?_
  refine v_istore C [(5, .int 0), (4, .ref (ad (5 * r3))), (3, .ref (ad (160 + 4 * (2 * 0 + a1.toNatClampNeg)))), (0, .ref (ad 180)), (1, .int a1), (2, .int a2)] dX11_tellEvents_17 (by decide) rfl ?_
  refine v_sub [3, 4, 5, 2, 1, 0] rfl ?_
  refine kX11_tellEvents_L19 C hr hlk a1 a2 (2 * 0 + a1.toNatClampNeg) r3 (lt24 (by decide) (inB_lt hb1)) (iX11_lawsNow_lt hc2)   fu0 0 u h
def rX11_mixChurned : Room := { frames := 2, cells := 0, slots := 0, locals := 51 }
def fX11_mixChurned_L4 (a1 : Nat) : Nat → Int32 → Int32 → Mem → Option Mem
  | 0, _, _, _ => none
  | t + 1, a2, a3, u => (if (u.1 (160 + 4 * a1) 3) ≤ a3 then (some u) else (if inB a3 16 then (if (u.1 201 a3.toNatClampNeg) = 1 then (if (a3 + 1) = (u.1 (160 + 4 * a1) 3) then ((fX7_mix a1 a2 a3 u).bind fun u6 => fX11_mixChurned_L4 a1 t a2 (a3 + 1) u6) else (if inB (a3 + 1) 16 then (if (u.1 201 (a3 + 1).toNatClampNeg) = 1 then fX11_mixChurned_L4 a1 t a2 (a3 + 1) u else ((fX7_mix a1 a2 a3 u).bind fun u9 => fX11_mixChurned_L4 a1 t a2 (a3 + 1) u9)) else none)) else fX11_mixChurned_L4 a1 t (a3 + 1) (a3 + 1) u) else none))
def fX11_mixChurned (i1 : Nat) (u : Mem) : Option Mem := fX11_mixChurned_L4 i1 fu0 0 0 u
set_option maxHeartbeats 4000000 in
set_option maxRecDepth 100000 in
theorem kX11_mixChurned_L4 {l : Launch} {D : va_G} {cy : Nat → ClassId} {ad : Nat → Nat} {p : Program} {e : Env} {s : State} {m : MethodId} {args : Array Value} {below : List Frame} {meth : Method} {c : Code} (C : Cx nX D cy ad 4 cX11_mixChurned RX11 rX11_mixChurned p s m args c) (hr : meth.sig.returnType = none) (hlk : meth.locks = false) (a1 : Nat) (ha1 : a1 < 4) {out : Mem}  : ∀ (t : Nat) (a2 : Int32) (a3 : Int32) (u : Mem), fX11_mixChurned_L4 a1 t a2 a3 u = some out → V shX nX D cy ad 4 p l e rX11_mixChurned s m args below meth c (MQ below (qV shX nX D cy ad out) args s 0 0 (rA ad nX)) 4 [(0, .ref (ad 180)), (1, .ref (ad (160 + 4 * a1))), (2, .int a2), (3, .int a3)] [] u := by
  intro t
  induction t with
  | zero => intro a2 a3 u h; rw [fX11_mixChurned_L4] at h; cases h
  | succ t ih =>
    intro a2 a3 u h
    rw [fX11_mixChurned_L4] at h
    refine v_iload_n C 3 dX11_mixChurned_4 rfl rfl ?_
    refine v_aload_n C 1 dX11_mixChurned_5 rfl rfl ?_
    refine v_geti C (pS_0 a1 ha1) fd_X11_149 rfl dX11_mixChurned_6 ?_
    refine v_icmp_ge C 69 dX11_mixChurned_9 (by decide) h (fun h => ?_) (fun h => ?_)
    · cases h
      exact v_vret C hr hlk dX11_mixChurned_69
    · refine v_aload_n C 0 dX11_mixChurned_12 rfl rfl ?_
      refine v_getr C pX_180 fd_X11_66 rfl dX11_mixChurned_13 ?_
      refine v_getr C pX_195 fd_X11_193 rfl dX11_mixChurned_16 ?_
      refine v_iload_n C 3 dX11_mixChurned_19 rfl rfl ?_
      refine v_iald C pX_201 dX11_mixChurned_20 h (fun h => ?_)
      refine v_iconst C (v := 1) dX11_mixChurned_21 (by decide) ?_
      refine v_icmp_eq C 32 dX11_mixChurned_22 (by decide) h (fun h => ?_) (fun h => ?_)
      · refine v_iload_n C 3 dX11_mixChurned_32 rfl rfl ?_
        refine v_iconst C (v := 1) dX11_mixChurned_33 (by decide) ?_
        refine v_iadd C dX11_mixChurned_34 ?_
        refine v_aload_n C 1 dX11_mixChurned_35 rfl rfl ?_
        refine v_geti C (pS_0 a1 ha1) fd_X11_149 rfl dX11_mixChurned_36 ?_
        refine v_icmp_eq C 57 dX11_mixChurned_39 (by decide) h (fun h => ?_) (fun h => ?_)
        · refine v_aload_n C 1 dX11_mixChurned_57 rfl rfl ?_
          refine v_iload_n C 2 dX11_mixChurned_58 rfl rfl ?_
          refine v_iload_n C 3 dX11_mixChurned_59 rfl rfl ?_
          obtain ⟨u6, hc5, h⟩ := bnd h
          refine v_callVv C [.int a2, .int a3] (cX7_mix_ct l D cy ad a1 a2 a3 u ha1 u6 hc5) ml_X11_337 (pS_0 a1 ha1) ⟨Nat.le_of_ble_eq_true rfl, Nat.le_of_ble_eq_true rfl⟩ ⟨rfl, rfl⟩ rfl rfl (Nat.le_of_ble_eq_true rfl) dX11_mixChurned_60 ?_
          refine v_iinc C 3 (v := a3 + 1) [(3, .int (a3 + 1)), (0, .ref (ad 180)), (1, .ref (ad (160 + 4 * a1))), (2, .int a2)] dX11_mixChurned_63 rfl rfl (by decide) rfl ?_
          refine v_goto C 4 dX11_mixChurned_66 (by decide) ?_
          refine v_sub [1, 2, 3, 0] rfl ?_
          exact ih a2 (a3 + 1) u6 h
        · refine v_aload_n C 0 dX11_mixChurned_42 rfl rfl ?_
          refine v_getr C pX_180 fd_X11_66 rfl dX11_mixChurned_43 ?_
          refine v_getr C pX_195 fd_X11_193 rfl dX11_mixChurned_46 ?_
          refine v_iload_n C 3 dX11_mixChurned_49 rfl rfl ?_
          refine v_iconst C (v := 1) dX11_mixChurned_50 (by decide) ?_
          refine v_iadd C dX11_mixChurned_51 ?_
          refine v_iald C pX_201 dX11_mixChurned_52 h (fun h => ?_)
          refine v_iconst C (v := 1) dX11_mixChurned_53 (by decide) ?_
          refine v_icmp_eq C 63 dX11_mixChurned_54 (by decide) h (fun h => ?_) (fun h => ?_)
          · refine v_iinc C 3 (v := a3 + 1) [(3, .int (a3 + 1)), (0, .ref (ad 180)), (1, .ref (ad (160 + 4 * a1))), (2, .int a2)] dX11_mixChurned_63 rfl rfl (by decide) rfl ?_
            refine v_goto C 4 dX11_mixChurned_66 (by decide) ?_
            refine v_sub [1, 2, 3, 0] rfl ?_
            exact ih a2 (a3 + 1) u h
          · refine v_aload_n C 1 dX11_mixChurned_57 rfl rfl ?_
            refine v_iload_n C 2 dX11_mixChurned_58 rfl rfl ?_
            refine v_iload_n C 3 dX11_mixChurned_59 rfl rfl ?_
            obtain ⟨u9, hc8, h⟩ := bnd h
            refine v_callVv C [.int a2, .int a3] (cX7_mix_ct l D cy ad a1 a2 a3 u ha1 u9 hc8) ml_X11_337 (pS_0 a1 ha1) ⟨Nat.le_of_ble_eq_true rfl, Nat.le_of_ble_eq_true rfl⟩ ⟨rfl, rfl⟩ rfl rfl (Nat.le_of_ble_eq_true rfl) dX11_mixChurned_60 ?_
            refine v_iinc C 3 (v := a3 + 1) [(3, .int (a3 + 1)), (0, .ref (ad 180)), (1, .ref (ad (160 + 4 * a1))), (2, .int a2)] dX11_mixChurned_63 rfl rfl (by decide) rfl ?_
            refine v_goto C 4 dX11_mixChurned_66 (by decide) ?_
            refine v_sub [1, 2, 3, 0] rfl ?_
            exact ih a2 (a3 + 1) u9 h
      · refine v_iload_n C 3 dX11_mixChurned_25 rfl rfl ?_
        refine v_iconst C (v := 1) dX11_mixChurned_26 (by decide) ?_
        refine v_iadd C dX11_mixChurned_27 ?_
        refine v_istore_n C [(2, .int (a3 + 1)), (0, .ref (ad 180)), (1, .ref (ad (160 + 4 * a1))), (3, .int a3)] dX11_mixChurned_28 rfl (by decide) rfl ?_
        refine v_goto C 63 dX11_mixChurned_29 (by decide) ?_
        refine v_iinc C 3 (v := a3 + 1) [(3, .int (a3 + 1)), (2, .int (a3 + 1)), (0, .ref (ad 180)), (1, .ref (ad (160 + 4 * a1)))] dX11_mixChurned_63 rfl rfl (by decide) rfl ?_
        refine v_goto C 4 dX11_mixChurned_66 (by decide) ?_
        refine v_sub [2, 3, 1, 0] rfl ?_
        exact ih (a3 + 1) (a3 + 1) u h
set_option maxHeartbeats 4000000 in
set_option maxRecDepth 100000 in
theorem cX11_mixChurned_ct (l : Launch) (D : va_G) (cy : Nat → ClassId) (ad : Nat → Nat) (i1 : Nat) (u : Mem) (hi1 : i1 < 4) (out : Mem) (h : fX11_mixChurned i1 u = some out) : Met l yX11_mixChurned (.code yX11_mixChurned cX11_mixChurned 4 (none) :: gw) rX11_mixChurned (va_Pc [.ref (ad 180), .ref (ad (160 + 4 * i1))] (wv shX nX D cy ad u)) (qV shX nX D cy ad out) 0 0 (rA ad nX) := by
  refine met_of (cc := cX11_mixChurned) (nL := 4) (by decide) (Nat.le_of_ble_eq_true rfl) (fun p e s m below meth c C hr hlk => ?_)
  unfold fX11_mixChurned at h
  show V shX nX D cy ad 4 p l e rX11_mixChurned s m _ below meth c (MQ below (qV shX nX D cy ad out) _ s 0 0 (rA ad nX)) 0 [(0, .ref (ad 180)), (1, .ref (ad (160 + 4 * i1)))] [] u
  refine v_iconst C (v := 0) dX11_mixChurned_0 (by decide) ?_
  refine v_istore_n C [(2, .int 0), (0, .ref (ad 180)), (1, .ref (ad (160 + 4 * i1)))] dX11_mixChurned_1 rfl (by decide) rfl ?_
  refine v_iconst C (v := 0) dX11_mixChurned_2 (by decide) ?_
  refine v_istore_n C [(3, .int 0), (2, .int 0), (0, .ref (ad 180)), (1, .ref (ad (160 + 4 * i1)))] dX11_mixChurned_3 rfl (by decide) rfl ?_
  refine v_sub [2, 3, 1, 0] rfl ?_
  refine kX11_mixChurned_L4 C hr hlk i1 hi1   fu0 0 0 u h
def rX11_makeStep : Room := { frames := 6, cells := 0, slots := 0, locals := 149 }
def fX11_makeStep_L56 (a1 : Int32) (a2 : Nat) (K82 : Mem → Option (Bool × Mem)) : Nat → Int32 → Mem → Option (Bool × Mem)
  | 0, _, _ => none
  | t + 1, a3, u => (if (u.1 (160 + 4 * a2) 3) ≤ a3 then K82 u else ((fX11_burnShell a2 a3 u).bind fun u12 => ((fX11_tellEvents a1 a3 u12).bind fun u14 => fX11_makeStep_L56 a1 a2 K82 t (a3 + 1) u14)))
def fX11_makeStep (a1 : Int32) (u : Mem) : Option (Bool × Mem) := (if (u.1 (176 + 2 * 0) 3) < 300 then ((fX11_enter a1 u).bind fun u3 => (if (u3.1 195 10) = 0 then (some (false, u3)) else (if inB a1 2 then ((fX11_lawsNow u3).bind fun r7 => ((fX2_shine (2 * 0 + a1.toNatClampNeg) r7 u3).bind fun u9 => fX11_makeStep_L56 a1 (2 * 0 + a1.toNatClampNeg) (fun u15 => ((fX11_mixChurned (2 * 0 + a1.toNatClampNeg) u15).bind fun u17 => ((some (si u17 (176 + 2 * 0) 3 ((u17.1 (176 + 2 * 0) 3) + 1))).bind fun u18 => (some (true, u18))))) fu0 0 u9)) else none))) else (some (false, u)))
set_option maxHeartbeats 4000000 in
set_option maxRecDepth 100000 in
theorem kX11_makeStep_L56 {l : Launch} {D : va_G} {cy : Nat → ClassId} {ad : Nat → Nat} {p : Program} {e : Env} {s : State} {m : MethodId} {args : Array Value} {below : List Frame} {meth : Method} {c : Code} (C : Cx nX D cy ad 4 cX11_makeStep RX11 rX11_makeStep p s m args c) (hr : meth.sig.returnType = some .boolean) (hlk : meth.locks = false) (a1 : Int32) (a2 : Nat) (ha2 : a2 < 4) {out : (Bool × Mem)} (K82 : Mem → Option (Bool × Mem)) (hK82 : ∀ (w : Mem), K82 w = some out → V shX nX D cy ad 4 p l e rX11_makeStep s m args below meth c (MQ below (qI shX nX D cy ad (bz out.1) out.2) args s 0 0 (rA ad nX)) 82 [(0, .ref (ad 180)), (2, .ref (ad (160 + 4 * a2)))] [] w) : ∀ (t : Nat) (a3 : Int32) (u : Mem), fX11_makeStep_L56 a1 a2 K82 t a3 u = some out → V shX nX D cy ad 4 p l e rX11_makeStep s m args below meth c (MQ below (qI shX nX D cy ad (bz out.1) out.2) args s 0 0 (rA ad nX)) 56 [(0, .ref (ad 180)), (1, .int a1), (2, .ref (ad (160 + 4 * a2))), (3, .int a3)] [] u := by
  intro t
  induction t with
  | zero => intro a3 u h; rw [fX11_makeStep_L56] at h; cases h
  | succ t ih =>
    intro a3 u h
    rw [fX11_makeStep_L56] at h
    refine v_iload_n C 3 dX11_makeStep_56 rfl rfl ?_
    refine v_aload_n C 2 dX11_makeStep_57 rfl rfl ?_
    refine v_geti C (pS_0 a2 ha2) fd_X11_149 rfl dX11_makeStep_58 ?_
    refine v_icmp_ge C 82 dX11_makeStep_61 (by decide) h (fun h => ?_) (fun h => ?_)
    · refine v_sub [0, 2] rfl ?_
      exact hK82 u h
    · refine v_aload_n C 0 dX11_makeStep_64 rfl rfl ?_
      refine v_aload_n C 2 dX11_makeStep_65 rfl rfl ?_
      refine v_iload_n C 3 dX11_makeStep_66 rfl rfl ?_
      obtain ⟨u12, hc11, h⟩ := bnd h
      refine v_callVv C [.ref (ad (160 + 4 * a2)), .int a3] (cX11_burnShell_ct l D cy ad a2 a3 u ha2 u12 hc11) ml_X11_313 pX_180 ⟨Nat.le_of_ble_eq_true rfl, Nat.le_of_ble_eq_true rfl⟩ ⟨rfl, rfl⟩ rfl rfl (Nat.le_of_ble_eq_true rfl) dX11_makeStep_67 ?_
      refine v_aload_n C 0 dX11_makeStep_70 rfl rfl ?_
      refine v_iload_n C 1 dX11_makeStep_71 rfl rfl ?_
      refine v_iload_n C 3 dX11_makeStep_72 rfl rfl ?_
      obtain ⟨u14, hc13, h⟩ := bnd h
      refine v_callVv C [.int a1, .int a3] (cX11_tellEvents_ct l D cy ad a1 a3 u12 u14 hc13) ml_X11_317 pX_180 ⟨Nat.le_of_ble_eq_true rfl, Nat.le_of_ble_eq_true rfl⟩ ⟨rfl, rfl⟩ rfl rfl (Nat.le_of_ble_eq_true rfl) dX11_makeStep_73 ?_
      refine v_iinc C 3 (v := a3 + 1) [(3, .int (a3 + 1)), (0, .ref (ad 180)), (1, .int a1), (2, .ref (ad (160 + 4 * a2)))] dX11_makeStep_76 rfl rfl (by decide) rfl ?_
      refine v_goto C 56 dX11_makeStep_79 (by decide) ?_
      refine v_sub [1, 2, 3, 0] rfl ?_
      exact ih (a3 + 1) u14 h
set_option maxHeartbeats 4000000 in
set_option maxRecDepth 100000 in
theorem cX11_makeStep_ct (l : Launch) (D : va_G) (cy : Nat → ClassId) (ad : Nat → Nat) (a1 : Int32) (u : Mem)  (out : (Bool × Mem)) (h : fX11_makeStep a1 u = some out) : Met l yX11_makeStep (.code yX11_makeStep cX11_makeStep 4 (some .boolean) :: gw) rX11_makeStep (va_Pc [.ref (ad 180), .int a1] (wv shX nX D cy ad u)) (qI shX nX D cy ad (bz out.1) out.2) 0 0 (rA ad nX) := by
  refine met_of (cc := cX11_makeStep) (nL := 4) (by decide) (Nat.le_of_ble_eq_true rfl) (fun p e s m below meth c C hr hlk => ?_)
  unfold fX11_makeStep at h
  show V shX nX D cy ad 4 p l e rX11_makeStep s m _ below meth c (MQ below (qI shX nX D cy ad (bz out.1) out.2) _ s 0 0 (rA ad nX)) 0 [(0, .ref (ad 180)), (1, .int a1)] [] u
  refine v_aload_n C 0 dX11_makeStep_0 rfl rfl ?_
  refine v_getr C pX_180 fd_X11_35 rfl dX11_makeStep_1 ?_
  refine v_geti C (pW_0 0 (by decide)) fd_X11_294 rfl dX11_makeStep_4 ?_
  refine v_sipush C (v := 300) dX11_makeStep_7 (by decide) ?_
  refine v_icmp_lt C 15 dX11_makeStep_10 (by decide) h (fun h => ?_) (fun h => ?_)
  · refine v_aload_n C 0 dX11_makeStep_15 rfl rfl ?_
    refine v_iload_n C 1 dX11_makeStep_16 rfl rfl ?_
    obtain ⟨u3, hc2, h⟩ := bnd h
    refine v_callVv C [.int a1] (cX11_enter_ct l D cy ad a1 u u3 hc2) ml_X11_173 pX_180 ⟨Nat.le_of_ble_eq_true rfl, Nat.le_of_ble_eq_true rfl⟩ ⟨rfl, rfl⟩ rfl rfl (Nat.le_of_ble_eq_true rfl) dX11_makeStep_17 ?_
    refine v_aload_n C 0 dX11_makeStep_20 rfl rfl ?_
    refine v_getr C pX_180 fd_X11_66 rfl dX11_makeStep_21 ?_
    refine v_geti C pX_195 fd_X11_223 rfl dX11_makeStep_24 ?_
    refine v_if_ne C 32 dX11_makeStep_27 (by decide) h (fun h => ?_) (fun h => ?_)
    · refine v_iconst C (v := 0) dX11_makeStep_30 (by decide) ?_
      cases h
      exact v_zret (b := false) C hr hlk dX11_makeStep_31
    · refine v_aload_n C 0 dX11_makeStep_32 rfl rfl ?_
      refine v_getr C pX_180 fd_X11_35 rfl dX11_makeStep_33 ?_
      refine v_getr C (pW_0 0 (by decide)) fd_X11_145 rfl dX11_makeStep_36 ?_
      refine v_iload_n C 1 dX11_makeStep_39 rfl rfl ?_
      have hb5 := chk1 h
      refine v_aald5 C (pW_1 0 (by decide)) dX11_makeStep_40 h (fun h => ?_)
      refine v_astore_n C [(2, .ref (ad (160 + 4 * (2 * 0 + a1.toNatClampNeg)))), (0, .ref (ad 180)), (1, .int a1)] dX11_makeStep_41 rfl (by decide) rfl ?_
      refine v_aload_n C 1 dX11_makeStep_42 rfl rfl ?_
      refine v_getr C pX_180 fd_X11_66 rfl dX11_makeStep_43 ?_
      refine v_aload_n C 0 dX11_makeStep_46 rfl rfl ?_
      refine v_aload_n C 1 dX11_makeStep_47 rfl rfl ?_
      obtain ⟨r7, hc6, h⟩ := bnd h
      refine v_callVa C [] (cX11_lawsNow_ct l D cy ad u3 r7 hc6) ml_X11_121 pX_180 ⟨Nat.le_of_ble_eq_true rfl, Nat.le_of_ble_eq_true rfl⟩ ⟨rfl, rfl⟩ rfl rfl (Nat.le_of_ble_eq_true rfl) dX11_makeStep_48 ?_
      obtain ⟨u9, hc8, h⟩ := bnd h
      refine v_callVv C [.ref (ad (160 + 4 * (2 * 0 + a1.toNatClampNeg))), .ref (ad (5 * r7))] (cX2_shine_ct l D cy ad (2 * 0 + a1.toNatClampNeg) r7 u3 (lt24 (by decide) (inB_lt hb5)) (iX11_lawsNow_lt hc6) u9 hc8) ml_X11_189 pX_195 ⟨Nat.le_of_ble_eq_true rfl, Nat.le_of_ble_eq_true rfl⟩ ⟨rfl, rfl⟩ rfl rfl (Nat.le_of_ble_eq_true rfl) dX11_makeStep_51 ?_
      refine v_iconst C (v := 0) dX11_makeStep_54 (by decide) ?_
      refine v_istore_n C [(3, .int 0), (2, .ref (ad (160 + 4 * (2 * 0 + a1.toNatClampNeg)))), (0, .ref (ad 180)), (1, .int a1)] dX11_makeStep_55 rfl (by decide) rfl ?_
      refine v_sub [2, 3, 1, 0] rfl ?_
      refine kX11_makeStep_L56 C hr hlk a1 (2 * 0 + a1.toNatClampNeg) (lt24 (by decide) (inB_lt hb5)) _ (fun u15 h => ?_) fu0 0 u9 h
      · refine v_aload_n C 0 dX11_makeStep_82 rfl rfl ?_
        refine v_aload_n C 1 dX11_makeStep_83 rfl rfl ?_
        obtain ⟨u17, hc16, h⟩ := bnd h
        refine v_callVv C [.ref (ad (160 + 4 * (2 * 0 + a1.toNatClampNeg)))] (cX11_mixChurned_ct l D cy ad (2 * 0 + a1.toNatClampNeg) u15 (lt24 (by decide) (inB_lt hb5)) u17 hc16) ml_X11_321 pX_180 ⟨Nat.le_of_ble_eq_true rfl, Nat.le_of_ble_eq_true rfl⟩ ⟨rfl, rfl⟩ rfl rfl (Nat.le_of_ble_eq_true rfl) dX11_makeStep_84 ?_
        refine v_aload_n C 0 dX11_makeStep_87 rfl rfl ?_
        refine v_getr C pX_180 fd_X11_35 rfl dX11_makeStep_88 ?_
        refine v_dup C rfl dX11_makeStep_91 ?_
        refine v_geti C (pW_0 0 (by decide)) fd_X11_294 rfl dX11_makeStep_92 ?_
        refine v_iconst C (v := 1) dX11_makeStep_95 (by decide) ?_
        refine v_iadd C dX11_makeStep_96 ?_
        refine v_puti C (pW_0 0 (by decide)) fp_X11_294 rfl rfl rfl dX11_makeStep_97 ?_
        refine v_mem (fun u18 hu18 => ?_)
        have h := nmd hu18 h
        refine v_iconst C (v := 1) dX11_makeStep_100 (by decide) ?_
        cases h
        exact v_zret (b := true) C hr hlk dX11_makeStep_101
  · refine v_iconst C (v := 0) dX11_makeStep_13 (by decide) ?_
    cases h
    exact v_zret (b := false) C hr hlk dX11_makeStep_14
def rX11_steps : Room := { frames := 7, cells := 0, slots := 0, locals := 172 }
def fX11_steps_L22 (a1 : Int32) (a2 : Int32) : Nat → Int32 → Mem → Option (Int32 × Mem)
  | 0, _, _ => none
  | t + 1, a3, u => (if a2 ≤ a3 then (some (a3, u)) else ((fX11_makeStep a1 u).bind fun q9 => (if q9.1 = true then fX11_steps_L22 a1 a2 t (a3 + 1) q9.2 else (some (a3, q9.2)))))
def fX11_steps (a1 : Int32) (a2 : Int32) (u : Mem) : Option (Int32 × Mem) := ((fX11_isStar a1).bind fun r2 => (if r2 = true then (if a2 < 1 then (some ((-1), u)) else (if a2 ≤ 50 then fX11_steps_L22 a1 a2 fu0 0 u else (some ((-1), u)))) else (some ((-1), u))))
set_option maxHeartbeats 4000000 in
set_option maxRecDepth 100000 in
theorem kX11_steps_L22 {l : Launch} {D : va_G} {cy : Nat → ClassId} {ad : Nat → Nat} {p : Program} {e : Env} {s : State} {m : MethodId} {args : Array Value} {below : List Frame} {meth : Method} {c : Code} (C : Cx nX D cy ad 4 cX11_steps RX11 rX11_steps p s m args c) (hr : meth.sig.returnType = some .int) (hlk : meth.locks = false) (a1 : Int32) (a2 : Int32)  {out : (Int32 × Mem)}  : ∀ (t : Nat) (a3 : Int32) (u : Mem), fX11_steps_L22 a1 a2 t a3 u = some out → V shX nX D cy ad 4 p l e rX11_steps s m args below meth c (MQ below (qI shX nX D cy ad out.1 out.2) args s 0 0 (rA ad nX)) 22 [(0, .ref (ad 180)), (1, .int a1), (2, .int a2), (3, .int a3)] [] u := by
  intro t
  induction t with
  | zero => intro a3 u h; rw [fX11_steps_L22] at h; cases h
  | succ t ih =>
    intro a3 u h
    rw [fX11_steps_L22] at h
    refine v_iload_n C 3 dX11_steps_22 rfl rfl ?_
    refine v_iload_n C 2 dX11_steps_23 rfl rfl ?_
    refine v_icmp_ge C 41 dX11_steps_24 (by decide) h (fun h => ?_) (fun h => ?_)
    · refine v_iload_n C 3 dX11_steps_41 rfl rfl ?_
      cases h
      exact v_iret C hr hlk dX11_steps_42
    · refine v_aload_n C 0 dX11_steps_27 rfl rfl ?_
      refine v_iload_n C 1 dX11_steps_28 rfl rfl ?_
      obtain ⟨q9, hc8, h⟩ := bnd h
      refine v_callVi C [.int a1] (cX11_makeStep_ct l D cy ad a1 u q9 hc8) ml_X11_226 pX_180 ⟨Nat.le_of_ble_eq_true rfl, Nat.le_of_ble_eq_true rfl⟩ ⟨rfl, rfl⟩ rfl rfl (Nat.le_of_ble_eq_true rfl) dX11_steps_29 ?_
      refine v_z_eq C 41 dX11_steps_32 (by decide) h (fun h => ?_) (fun h => ?_)
      · refine v_iinc C 3 (v := a3 + 1) [(3, .int (a3 + 1)), (0, .ref (ad 180)), (1, .int a1), (2, .int a2)] dX11_steps_35 rfl rfl (by decide) rfl ?_
        refine v_goto C 22 dX11_steps_38 (by decide) ?_
        refine v_sub [1, 2, 3, 0] rfl ?_
        exact ih (a3 + 1) q9.2 h
      · refine v_iload_n C 3 dX11_steps_41 rfl rfl ?_
        cases h
        exact v_iret C hr hlk dX11_steps_42
set_option maxHeartbeats 4000000 in
set_option maxRecDepth 100000 in
theorem cX11_steps_ct (l : Launch) (D : va_G) (cy : Nat → ClassId) (ad : Nat → Nat) (a1 : Int32) (a2 : Int32) (u : Mem)  (out : (Int32 × Mem)) (h : fX11_steps a1 a2 u = some out) : Met l yX11_steps (.code yX11_steps cX11_steps 4 (some .int) :: gw) rX11_steps (va_Pc [.ref (ad 180), .int a1, .int a2] (wv shX nX D cy ad u)) (qI shX nX D cy ad out.1 out.2) 0 0 (rA ad nX) := by
  refine met_of (cc := cX11_steps) (nL := 4) (by decide) (Nat.le_of_ble_eq_true rfl) (fun p e s m below meth c C hr hlk => ?_)
  unfold fX11_steps at h
  show V shX nX D cy ad 4 p l e rX11_steps s m _ below meth c (MQ below (qI shX nX D cy ad out.1 out.2) _ s 0 0 (rA ad nX)) 0 [(0, .ref (ad 180)), (1, .int a1), (2, .int a2)] [] u
  refine v_iload_n C 1 dX11_steps_0 rfl rfl ?_
  obtain ⟨r2, hc1, h⟩ := bnd h
  refine v_callSi C [.int a1] (cX11_isStar_ct l D cy ad a1 _ r2 hc1) ml_X11_142 ⟨Nat.le_of_ble_eq_true rfl, Nat.le_of_ble_eq_true rfl⟩ ⟨rfl, rfl⟩ rfl rfl (Nat.le_of_ble_eq_true rfl) dX11_steps_1 ?_
  refine v_z_eq C 18 dX11_steps_4 (by decide) h (fun h => ?_) (fun h => ?_)
  · refine v_iload_n C 2 dX11_steps_7 rfl rfl ?_
    refine v_iconst C (v := 1) dX11_steps_8 (by decide) ?_
    refine v_icmp_lt C 18 dX11_steps_9 (by decide) h (fun h => ?_) (fun h => ?_)
    · refine v_iconst C (v := (-1)) dX11_steps_18 (by decide) ?_
      cases h
      exact v_iret C hr hlk dX11_steps_19
    · refine v_iload_n C 2 dX11_steps_12 rfl rfl ?_
      refine v_bipush C (v := 50) dX11_steps_13 (by decide) ?_
      refine v_icmp_le C 20 dX11_steps_15 (by decide) h (fun h => ?_) (fun h => ?_)
      · refine v_iconst C (v := 0) dX11_steps_20 (by decide) ?_
        refine v_istore_n C [(3, .int 0), (0, .ref (ad 180)), (1, .int a1), (2, .int a2)] dX11_steps_21 rfl (by decide) rfl ?_
        refine v_sub [1, 2, 3, 0] rfl ?_
        refine kX11_steps_L22 C hr hlk a1 a2   fu0 0 u h
      · refine v_iconst C (v := (-1)) dX11_steps_18 (by decide) ?_
        cases h
        exact v_iret C hr hlk dX11_steps_19
  · refine v_iconst C (v := (-1)) dX11_steps_18 (by decide) ?_
    cases h
    exact v_iret C hr hlk dX11_steps_19
def rX11_event : Room := { frames := 0, cells := 0, slots := 0, locals := 0 }
def fX11_event (a1 : Int32) (a2 : Int32) (u : Mem) : Option Int32 := (if a1 < 0 then (some (-1)) else (if (u.1 (176 + 2 * 0) 4) ≤ a1 then (some (-1)) else (if a2 < 0 then (some (-1)) else (if a2 < 5 then (if inB ((a1 * 5) + a2) 1000 then (some (u.1 187 ((a1 * 5) + a2).toNatClampNeg)) else none) else (some (-1))))))
set_option maxHeartbeats 4000000 in
set_option maxRecDepth 100000 in
theorem cX11_event_ct (l : Launch) (D : va_G) (cy : Nat → ClassId) (ad : Nat → Nat) (a1 : Int32) (a2 : Int32) (u : Mem)  (out : Int32) (h : fX11_event a1 a2 u = some out) : Met l yX11_event (.code yX11_event cX11_event 3 (some .int) :: gw) rX11_event (va_Pc [.ref (ad 180), .int a1, .int a2] (wv shX nX D cy ad u)) (qI shX nX D cy ad out u) 0 0 (rA ad nX) := by
  refine met_of (cc := cX11_event) (nL := 3) (by decide) (Nat.le_of_ble_eq_true rfl) (fun p e s m below meth c C hr hlk => ?_)
  unfold fX11_event at h
  show V shX nX D cy ad 3 p l e rX11_event s m _ below meth c (MQ below (qI shX nX D cy ad out u) _ s 0 0 (rA ad nX)) 0 [(0, .ref (ad 180)), (1, .int a1), (2, .int a2)] [] u
  refine v_iload_n C 1 dX11_event_0 rfl rfl ?_
  refine v_if_lt C 24 dX11_event_1 (by decide) h (fun h => ?_) (fun h => ?_)
  · refine v_iconst C (v := (-1)) dX11_event_24 (by decide) ?_
    cases h
    exact v_iret C hr hlk dX11_event_25
  · refine v_iload_n C 1 dX11_event_4 rfl rfl ?_
    refine v_aload_n C 0 dX11_event_5 rfl rfl ?_
    refine v_getr C pX_180 fd_X11_35 rfl dX11_event_6 ?_
    refine v_geti C (pW_0 0 (by decide)) fd_X11_229 rfl dX11_event_9 ?_
    refine v_icmp_ge C 24 dX11_event_12 (by decide) h (fun h => ?_) (fun h => ?_)
    · refine v_iconst C (v := (-1)) dX11_event_24 (by decide) ?_
      cases h
      exact v_iret C hr hlk dX11_event_25
    · refine v_iload_n C 2 dX11_event_15 rfl rfl ?_
      refine v_if_lt C 24 dX11_event_16 (by decide) h (fun h => ?_) (fun h => ?_)
      · refine v_iconst C (v := (-1)) dX11_event_24 (by decide) ?_
        cases h
        exact v_iret C hr hlk dX11_event_25
      · refine v_iload_n C 2 dX11_event_19 rfl rfl ?_
        refine v_iconst C (v := 5) dX11_event_20 (by decide) ?_
        refine v_icmp_lt C 26 dX11_event_21 (by decide) h (fun h => ?_) (fun h => ?_)
        · refine v_aload_n C 0 dX11_event_26 rfl rfl ?_
          refine v_getr C pX_180 fd_X11_45 rfl dX11_event_27 ?_
          refine v_getr C pX_186 fd_X11_231 rfl dX11_event_30 ?_
          refine v_iload_n C 1 dX11_event_33 rfl rfl ?_
          refine v_iconst C (v := 5) dX11_event_34 (by decide) ?_
          refine v_imul C dX11_event_35 ?_
          refine v_iload_n C 2 dX11_event_36 rfl rfl ?_
          refine v_iadd C dX11_event_37 ?_
          refine v_iald C pX_187 dX11_event_38 h (fun h => ?_)
          cases h
          exact v_iret C hr hlk dX11_event_39
        · refine v_iconst C (v := (-1)) dX11_event_24 (by decide) ?_
          cases h
          exact v_iret C hr hlk dX11_event_25
def rX11_hand : Room := { frames := 2, cells := 0, slots := 0, locals := 48 }
def fX11_hand (a1 : Int32) (a2 : Int32) (u : Mem) : Option (Bool × Mem) := ((fX11_isStar a1).bind fun r2 => (if r2 = true then (if a2 < 1 then (some (false, u)) else (if a2 ≤ 100000 then (if inB a1 2 then (if inB (1 - a1) 2 then ((fX7_giveRim (2 * 0 + a1.toNatClampNeg) (2 * 0 + (1 - a1).toNatClampNeg) a2 u).bind fun q10 => (some (q10.1, q10.2))) else none) else none) else (some (false, u)))) else (some (false, u))))
set_option maxHeartbeats 4000000 in
set_option maxRecDepth 100000 in
theorem cX11_hand_ct (l : Launch) (D : va_G) (cy : Nat → ClassId) (ad : Nat → Nat) (a1 : Int32) (a2 : Int32) (u : Mem)  (out : (Bool × Mem)) (h : fX11_hand a1 a2 u = some out) : Met l yX11_hand (.code yX11_hand cX11_hand 3 (some .boolean) :: gw) rX11_hand (va_Pc [.ref (ad 180), .int a1, .int a2] (wv shX nX D cy ad u)) (qI shX nX D cy ad (bz out.1) out.2) 0 0 (rA ad nX) := by
  refine met_of (cc := cX11_hand) (nL := 3) (by decide) (Nat.le_of_ble_eq_true rfl) (fun p e s m below meth c C hr hlk => ?_)
  unfold fX11_hand at h
  show V shX nX D cy ad 3 p l e rX11_hand s m _ below meth c (MQ below (qI shX nX D cy ad (bz out.1) out.2) _ s 0 0 (rA ad nX)) 0 [(0, .ref (ad 180)), (1, .int a1), (2, .int a2)] [] u
  refine v_iload_n C 1 dX11_hand_0 rfl rfl ?_
  obtain ⟨r2, hc1, h⟩ := bnd h
  refine v_callSi C [.int a1] (cX11_isStar_ct l D cy ad a1 _ r2 hc1) ml_X11_142 ⟨Nat.le_of_ble_eq_true rfl, Nat.le_of_ble_eq_true rfl⟩ ⟨rfl, rfl⟩ rfl rfl (Nat.le_of_ble_eq_true rfl) dX11_hand_1 ?_
  refine v_z_eq C 18 dX11_hand_4 (by decide) h (fun h => ?_) (fun h => ?_)
  · refine v_iload_n C 2 dX11_hand_7 rfl rfl ?_
    refine v_iconst C (v := 1) dX11_hand_8 (by decide) ?_
    refine v_icmp_lt C 18 dX11_hand_9 (by decide) h (fun h => ?_) (fun h => ?_)
    · refine v_iconst C (v := 0) dX11_hand_18 (by decide) ?_
      cases h
      exact v_zret (b := false) C hr hlk dX11_hand_19
    · refine v_iload_n C 2 dX11_hand_12 rfl rfl ?_
      refine v_ldc C kc_X11_158 dX11_hand_13 ?_
      refine v_icmp_le C 20 dX11_hand_15 (by decide) h (fun h => ?_) (fun h => ?_)
      · refine v_aload_n C 0 dX11_hand_20 rfl rfl ?_
        refine v_getr C pX_180 fd_X11_35 rfl dX11_hand_21 ?_
        refine v_getr C (pW_0 0 (by decide)) fd_X11_145 rfl dX11_hand_24 ?_
        refine v_iload_n C 1 dX11_hand_27 rfl rfl ?_
        have hb7 := chk1 h
        refine v_aald5 C (pW_1 0 (by decide)) dX11_hand_28 h (fun h => ?_)
        refine v_aload_n C 0 dX11_hand_29 rfl rfl ?_
        refine v_getr C pX_180 fd_X11_35 rfl dX11_hand_30 ?_
        refine v_getr C (pW_0 0 (by decide)) fd_X11_145 rfl dX11_hand_33 ?_
        refine v_iconst C (v := 1) dX11_hand_36 (by decide) ?_
        refine v_iload_n C 1 dX11_hand_37 rfl rfl ?_
        refine v_isub C dX11_hand_38 ?_
        have hb8 := chk1 h
        refine v_aald5 C (pW_1 0 (by decide)) dX11_hand_39 h (fun h => ?_)
        refine v_iload_n C 2 dX11_hand_40 rfl rfl ?_
        obtain ⟨q10, hc9, h⟩ := bnd h
        refine v_callVi C [.ref (ad (160 + 4 * (2 * 0 + (1 - a1).toNatClampNeg))), .int a2] (cX7_giveRim_ct l D cy ad (2 * 0 + a1.toNatClampNeg) (2 * 0 + (1 - a1).toNatClampNeg) a2 u (lt24 (by decide) (inB_lt hb7)) (lt24 (by decide) (inB_lt hb8)) q10 hc9) ml_X11_234 (pS_0 (2 * 0 + a1.toNatClampNeg) (lt24 (by decide) (inB_lt hb7))) ⟨Nat.le_of_ble_eq_true rfl, Nat.le_of_ble_eq_true rfl⟩ ⟨rfl, rfl⟩ rfl rfl (Nat.le_of_ble_eq_true rfl) dX11_hand_41 ?_
        cases h
        exact v_zret C hr hlk dX11_hand_44
      · refine v_iconst C (v := 0) dX11_hand_18 (by decide) ?_
        cases h
        exact v_zret (b := false) C hr hlk dX11_hand_19
  · refine v_iconst C (v := 0) dX11_hand_18 (by decide) ?_
    cases h
    exact v_zret (b := false) C hr hlk dX11_hand_19
def rX11_light : Room := { frames := 2, cells := 0, slots := 0, locals := 42 }
def fX11_light (a1 : Int32) (a2 : Int32) (a3 : Int32) (u : Mem) : Option Int64 := ((fX11_isShell a1 a2 u).bind fun r2 => (if r2 = true then ((fX11_isChain a3).bind fun r5 => (if r5 = true then (if inB a1 2 then (if inB ((a2 * 5) + a3) 80 then (some (u.2 (160 + 4 * (2 * 0 + a1.toNatClampNeg) + 2) ((a2 * 5) + a3).toNatClampNeg)) else none) else none) else (some (-1)))) else (some (-1))))
set_option maxHeartbeats 4000000 in
set_option maxRecDepth 100000 in
theorem cX11_light_ct (l : Launch) (D : va_G) (cy : Nat → ClassId) (ad : Nat → Nat) (a1 : Int32) (a2 : Int32) (a3 : Int32) (u : Mem)  (out : Int64) (h : fX11_light a1 a2 a3 u = some out) : Met l yX11_light (.code yX11_light cX11_light 4 (some .long) :: gw) rX11_light (va_Pc [.ref (ad 180), .int a1, .int a2, .int a3] (wv shX nX D cy ad u)) (qL shX nX D cy ad out u) 0 0 (rA ad nX) := by
  refine met_of (cc := cX11_light) (nL := 4) (by decide) (Nat.le_of_ble_eq_true rfl) (fun p e s m below meth c C hr hlk => ?_)
  unfold fX11_light at h
  show V shX nX D cy ad 4 p l e rX11_light s m _ below meth c (MQ below (qL shX nX D cy ad out u) _ s 0 0 (rA ad nX)) 0 [(0, .ref (ad 180)), (1, .int a1), (2, .int a2), (3, .int a3)] [] u
  refine v_aload_n C 0 dX11_light_0 rfl rfl ?_
  refine v_iload_n C 1 dX11_light_1 rfl rfl ?_
  refine v_iload_n C 2 dX11_light_2 rfl rfl ?_
  obtain ⟨r2, hc1, h⟩ := bnd h
  refine v_callVi C [.int a1, .int a2] (cX11_isShell_ct l D cy ad a1 a2 u r2 hc1) ml_X11_154 pX_180 ⟨Nat.le_of_ble_eq_true rfl, Nat.le_of_ble_eq_true rfl⟩ ⟨rfl, rfl⟩ rfl rfl (Nat.le_of_ble_eq_true rfl) dX11_light_3 ?_
  refine v_z_eq C 16 dX11_light_6 (by decide) h (fun h => ?_) (fun h => ?_)
  · refine v_iload_n C 3 dX11_light_9 rfl rfl ?_
    obtain ⟨r5, hc4, h⟩ := bnd h
    refine v_callSi C [.int a3] (cX11_isChain_ct l D cy ad a3 _ r5 hc4) ml_X11_128 ⟨Nat.le_of_ble_eq_true rfl, Nat.le_of_ble_eq_true rfl⟩ ⟨rfl, rfl⟩ rfl rfl (Nat.le_of_ble_eq_true rfl) dX11_light_10 ?_
    refine v_z_ne C 20 dX11_light_13 (by decide) h (fun h => ?_) (fun h => ?_)
    · refine v_aload_n C 0 dX11_light_20 rfl rfl ?_
      refine v_getr C pX_180 fd_X11_35 rfl dX11_light_21 ?_
      refine v_getr C (pW_0 0 (by decide)) fd_X11_145 rfl dX11_light_24 ?_
      refine v_iload_n C 1 dX11_light_27 rfl rfl ?_
      have hb7 := chk1 h
      refine v_aald5 C (pW_1 0 (by decide)) dX11_light_28 h (fun h => ?_)
      refine v_getr C (pS_0 (2 * 0 + a1.toNatClampNeg) (lt24 (by decide) (inB_lt hb7))) fd_X11_238 rfl dX11_light_29 ?_
      refine v_iload_n C 2 dX11_light_32 rfl rfl ?_
      refine v_iconst C (v := 5) dX11_light_33 (by decide) ?_
      refine v_imul C dX11_light_34 ?_
      refine v_iload_n C 3 dX11_light_35 rfl rfl ?_
      refine v_iadd C dX11_light_36 ?_
      refine v_lald C (pS_2 (2 * 0 + a1.toNatClampNeg) (lt24 (by decide) (inB_lt hb7))) dX11_light_37 h (fun h => ?_)
      cases h
      exact v_lret C hr hlk dX11_light_38
    · refine v_ldc2 C kc_X11_215 dX11_light_16 ?_
      cases h
      exact v_lret C hr hlk dX11_light_19
  · refine v_ldc2 C kc_X11_215 dX11_light_16 ?_
    cases h
    exact v_lret C hr hlk dX11_light_19
def rX11_sheet : Room := { frames := 2, cells := 0, slots := 0, locals := 61 }
def fX11_sheet (a1 : Int32) (u : Mem) : Option (Bool × Mem) := ((fX11_isStar a1).bind fun r2 => (if r2 = true then (if inB a1 2 then ((fX5_take a1 (2 * 0 + a1.toNatClampNeg) u).bind fun u6 => (some (true, u6))) else none) else (some (false, u))))
set_option maxHeartbeats 4000000 in
set_option maxRecDepth 100000 in
theorem cX11_sheet_ct (l : Launch) (D : va_G) (cy : Nat → ClassId) (ad : Nat → Nat) (a1 : Int32) (u : Mem)  (out : (Bool × Mem)) (h : fX11_sheet a1 u = some out) : Met l yX11_sheet (.code yX11_sheet cX11_sheet 2 (some .boolean) :: gw) rX11_sheet (va_Pc [.ref (ad 180), .int a1] (wv shX nX D cy ad u)) (qI shX nX D cy ad (bz out.1) out.2) 0 0 (rA ad nX) := by
  refine met_of (cc := cX11_sheet) (nL := 2) (by decide) (Nat.le_of_ble_eq_true rfl) (fun p e s m below meth c C hr hlk => ?_)
  unfold fX11_sheet at h
  show V shX nX D cy ad 2 p l e rX11_sheet s m _ below meth c (MQ below (qI shX nX D cy ad (bz out.1) out.2) _ s 0 0 (rA ad nX)) 0 [(0, .ref (ad 180)), (1, .int a1)] [] u
  refine v_iload_n C 1 dX11_sheet_0 rfl rfl ?_
  obtain ⟨r2, hc1, h⟩ := bnd h
  refine v_callSi C [.int a1] (cX11_isStar_ct l D cy ad a1 _ r2 hc1) ml_X11_142 ⟨Nat.le_of_ble_eq_true rfl, Nat.le_of_ble_eq_true rfl⟩ ⟨rfl, rfl⟩ rfl rfl (Nat.le_of_ble_eq_true rfl) dX11_sheet_1 ?_
  refine v_z_ne C 9 dX11_sheet_4 (by decide) h (fun h => ?_) (fun h => ?_)
  · refine v_aload_n C 0 dX11_sheet_9 rfl rfl ?_
    refine v_getr C pX_180 fd_X11_59 rfl dX11_sheet_10 ?_
    refine v_iload_n C 1 dX11_sheet_13 rfl rfl ?_
    refine v_aload_n C 0 dX11_sheet_14 rfl rfl ?_
    refine v_getr C pX_180 fd_X11_35 rfl dX11_sheet_15 ?_
    refine v_getr C (pW_0 0 (by decide)) fd_X11_145 rfl dX11_sheet_18 ?_
    refine v_iload_n C 1 dX11_sheet_21 rfl rfl ?_
    have hb4 := chk1 h
    refine v_aald5 C (pW_1 0 (by decide)) dX11_sheet_22 h (fun h => ?_)
    refine v_getr C (pS_0 (2 * 0 + a1.toNatClampNeg) (lt24 (by decide) (inB_lt hb4))) fd_X11_238 rfl dX11_sheet_23 ?_
    obtain ⟨u6, hc5, h⟩ := bnd h
    refine v_callVv C [.int a1, .ref (ad (160 + 4 * (2 * 0 + a1.toNatClampNeg) + 2))] (cX5_take_ct l D cy ad a1 (2 * 0 + a1.toNatClampNeg) u (lt24 (by decide) (inB_lt hb4)) u6 hc5) ml_X11_241 pX_193 ⟨Nat.le_of_ble_eq_true rfl, Nat.le_of_ble_eq_true rfl⟩ ⟨rfl, rfl⟩ rfl rfl (Nat.le_of_ble_eq_true rfl) dX11_sheet_26 ?_
    refine v_iconst C (v := 1) dX11_sheet_29 (by decide) ?_
    cases h
    exact v_zret (b := true) C hr hlk dX11_sheet_30
  · refine v_iconst C (v := 0) dX11_sheet_7 (by decide) ?_
    cases h
    exact v_zret (b := false) C hr hlk dX11_sheet_8
def rX11_alter : Room := { frames := 1, cells := 0, slots := 0, locals := 20 }
def fX11_alter (a1 : Int32) (a2 : Int32) (a3 : Int64) (u : Mem) : Option (Bool × Mem) := (if (u.1 193 1) = (-1) then (some (false, u)) else (if a1 < 0 then (some (false, u)) else (if 16 ≤ a1 then (some (false, u)) else ((fX11_isChain a2).bind fun r5 => (if r5 = true then (if a3 = 0 then (some (false, u)) else (if inB ((a1 * 5) + a2) 80 then (if inB ((a1 * 5) + a2) 80 then ((some (sl u 194 ((a1 * 5) + a2).toNatClampNeg ((u.2 194 ((a1 * 5) + a2).toNatClampNeg) ^^^ a3))).bind fun u9 => (some (true, u9))) else none) else none)) else (some (false, u)))))))
set_option maxHeartbeats 4000000 in
set_option maxRecDepth 100000 in
theorem cX11_alter_ct (l : Launch) (D : va_G) (cy : Nat → ClassId) (ad : Nat → Nat) (a1 : Int32) (a2 : Int32) (a3 : Int64) (u : Mem)  (out : (Bool × Mem)) (h : fX11_alter a1 a2 a3 u = some out) : Met l yX11_alter (.code yX11_alter cX11_alter 5 (some .boolean) :: gw) rX11_alter (va_Pc [.ref (ad 180), .int a1, .int a2, .long a3] (wv shX nX D cy ad u)) (qI shX nX D cy ad (bz out.1) out.2) 0 0 (rA ad nX) := by
  refine met_of (cc := cX11_alter) (nL := 5) (by decide) (Nat.le_of_ble_eq_true rfl) (fun p e s m below meth c C hr hlk => ?_)
  unfold fX11_alter at h
  show V shX nX D cy ad 5 p l e rX11_alter s m _ below meth c (MQ below (qI shX nX D cy ad (bz out.1) out.2) _ s 0 0 (rA ad nX)) 0 [(0, .ref (ad 180)), (1, .int a1), (2, .int a2), (3, .long a3)] [] u
  refine v_aload_n C 0 dX11_alter_0 rfl rfl ?_
  refine v_getr C pX_180 fd_X11_59 rfl dX11_alter_1 ?_
  refine v_geti C pX_193 fd_X11_245 rfl dX11_alter_4 ?_
  refine v_iconst C (v := (-1)) dX11_alter_7 (by decide) ?_
  refine v_icmp_eq C 34 dX11_alter_8 (by decide) h (fun h => ?_) (fun h => ?_)
  · refine v_iconst C (v := 0) dX11_alter_34 (by decide) ?_
    cases h
    exact v_zret (b := false) C hr hlk dX11_alter_35
  · refine v_iload_n C 1 dX11_alter_11 rfl rfl ?_
    refine v_if_lt C 34 dX11_alter_12 (by decide) h (fun h => ?_) (fun h => ?_)
    · refine v_iconst C (v := 0) dX11_alter_34 (by decide) ?_
      cases h
      exact v_zret (b := false) C hr hlk dX11_alter_35
    · refine v_iload_n C 1 dX11_alter_15 rfl rfl ?_
      refine v_bipush C (v := 16) dX11_alter_16 (by decide) ?_
      refine v_icmp_ge C 34 dX11_alter_18 (by decide) h (fun h => ?_) (fun h => ?_)
      · refine v_iconst C (v := 0) dX11_alter_34 (by decide) ?_
        cases h
        exact v_zret (b := false) C hr hlk dX11_alter_35
      · refine v_iload_n C 2 dX11_alter_21 rfl rfl ?_
        obtain ⟨r5, hc4, h⟩ := bnd h
        refine v_callSi C [.int a2] (cX11_isChain_ct l D cy ad a2 _ r5 hc4) ml_X11_128 ⟨Nat.le_of_ble_eq_true rfl, Nat.le_of_ble_eq_true rfl⟩ ⟨rfl, rfl⟩ rfl rfl (Nat.le_of_ble_eq_true rfl) dX11_alter_22 ?_
        refine v_z_eq C 34 dX11_alter_25 (by decide) h (fun h => ?_) (fun h => ?_)
        · refine v_lload_n C 3 dX11_alter_28 rfl rfl ?_
          refine v_lconst C (v := 0) dX11_alter_29 (by decide) ?_
          refine v_lcmp_ne C 36 dX11_alter_30 dX11_alter_31 (by decide) h (fun h => ?_) (fun h => ?_)
          · refine v_iconst C (v := 0) dX11_alter_34 (by decide) ?_
            cases h
            exact v_zret (b := false) C hr hlk dX11_alter_35
          · refine v_aload_n C 0 dX11_alter_36 rfl rfl ?_
            refine v_getr C pX_180 fd_X11_59 rfl dX11_alter_37 ?_
            refine v_getr C pX_193 fd_X11_248 rfl dX11_alter_40 ?_
            refine v_iload_n C 1 dX11_alter_43 rfl rfl ?_
            refine v_iconst C (v := 5) dX11_alter_44 (by decide) ?_
            refine v_imul C dX11_alter_45 ?_
            refine v_iload_n C 2 dX11_alter_46 rfl rfl ?_
            refine v_iadd C dX11_alter_47 ?_
            refine v_dup2 C rfl rfl dX11_alter_48 ?_
            refine v_lald C pX_194 dX11_alter_49 h (fun h => ?_)
            refine v_lload_n C 3 dX11_alter_50 rfl rfl ?_
            refine v_lxor C dX11_alter_51 ?_
            refine v_last C pX_194 dX11_alter_52 h (fun h => ?_)
            refine v_mem (fun u9 hu9 => ?_)
            have h := nmd hu9 h
            refine v_iconst C (v := 1) dX11_alter_53 (by decide) ?_
            cases h
            exact v_zret (b := true) C hr hlk dX11_alter_54
        · refine v_iconst C (v := 0) dX11_alter_34 (by decide) ?_
          cases h
          exact v_zret (b := false) C hr hlk dX11_alter_35
def rX11_check : Room := { frames := 1, cells := 0, slots := 0, locals := 22 }
def fX11_check (a1 : Int32) (u : Mem) : Option (Int32 × Mem) := ((fX11_isStar (u.1 193 1)).bind fun r2 => (if r2 = true then (if a1 < 0 then (some ((-1), u)) else (if a1 ≤ 2 then (if inB (u.1 193 1) 2 then ((fX5_compare (2 * 0 + (u.1 193 1).toNatClampNeg) u).bind fun u9 => (if a1 = 0 then (some (u9.1 193 2, u9)) else (if (u9.1 193 2) = 1 then (if a1 = 1 then (some ((u9.1 193 3) / 5, u9)) else (some ((u9.1 193 3) - (u9.1 193 3) / 5 * 5, u9))) else (some ((-1), u9))))) else none) else (some ((-1), u)))) else (some ((-1), u))))
set_option maxHeartbeats 4000000 in
set_option maxRecDepth 100000 in
theorem cX11_check_ct (l : Launch) (D : va_G) (cy : Nat → ClassId) (ad : Nat → Nat) (a1 : Int32) (u : Mem)  (out : (Int32 × Mem)) (h : fX11_check a1 u = some out) : Met l yX11_check (.code yX11_check cX11_check 2 (some .int) :: gw) rX11_check (va_Pc [.ref (ad 180), .int a1] (wv shX nX D cy ad u)) (qI shX nX D cy ad out.1 out.2) 0 0 (rA ad nX) := by
  refine met_of (cc := cX11_check) (nL := 2) (by decide) (Nat.le_of_ble_eq_true rfl) (fun p e s m below meth c C hr hlk => ?_)
  unfold fX11_check at h
  show V shX nX D cy ad 2 p l e rX11_check s m _ below meth c (MQ below (qI shX nX D cy ad out.1 out.2) _ s 0 0 (rA ad nX)) 0 [(0, .ref (ad 180)), (1, .int a1)] [] u
  refine v_aload_n C 0 dX11_check_0 rfl rfl ?_
  refine v_getr C pX_180 fd_X11_59 rfl dX11_check_1 ?_
  refine v_geti C pX_193 fd_X11_245 rfl dX11_check_4 ?_
  obtain ⟨r2, hc1, h⟩ := bnd h
  refine v_callSi C [.int (u.1 193 1)] (cX11_isStar_ct l D cy ad (u.1 193 1) _ r2 hc1) ml_X11_142 ⟨Nat.le_of_ble_eq_true rfl, Nat.le_of_ble_eq_true rfl⟩ ⟨rfl, rfl⟩ rfl rfl (Nat.le_of_ble_eq_true rfl) dX11_check_7 ?_
  refine v_z_eq C 22 dX11_check_10 (by decide) h (fun h => ?_) (fun h => ?_)
  · refine v_iload_n C 1 dX11_check_13 rfl rfl ?_
    refine v_if_lt C 22 dX11_check_14 (by decide) h (fun h => ?_) (fun h => ?_)
    · refine v_iconst C (v := (-1)) dX11_check_22 (by decide) ?_
      cases h
      exact v_iret C hr hlk dX11_check_23
    · refine v_iload_n C 1 dX11_check_17 rfl rfl ?_
      refine v_iconst C (v := 2) dX11_check_18 (by decide) ?_
      refine v_icmp_le C 24 dX11_check_19 (by decide) h (fun h => ?_) (fun h => ?_)
      · refine v_aload_n C 0 dX11_check_24 rfl rfl ?_
        refine v_getr C pX_180 fd_X11_59 rfl dX11_check_25 ?_
        refine v_aload_n C 0 dX11_check_28 rfl rfl ?_
        refine v_getr C pX_180 fd_X11_35 rfl dX11_check_29 ?_
        refine v_getr C (pW_0 0 (by decide)) fd_X11_145 rfl dX11_check_32 ?_
        refine v_aload_n C 0 dX11_check_35 rfl rfl ?_
        refine v_getr C pX_180 fd_X11_59 rfl dX11_check_36 ?_
        refine v_geti C pX_193 fd_X11_245 rfl dX11_check_39 ?_
        have hb7 := chk1 h
        refine v_aald5 C (pW_1 0 (by decide)) dX11_check_42 h (fun h => ?_)
        refine v_getr C (pS_0 (2 * 0 + (u.1 193 1).toNatClampNeg) (lt24 (by decide) (inB_lt hb7))) fd_X11_238 rfl dX11_check_43 ?_
        obtain ⟨u9, hc8, h⟩ := bnd h
        refine v_callVv C [.ref (ad (160 + 4 * (2 * 0 + (u.1 193 1).toNatClampNeg) + 2))] (cX5_compare_ct l D cy ad (2 * 0 + (u.1 193 1).toNatClampNeg) u (lt24 (by decide) (inB_lt hb7)) u9 hc8) ml_X11_251 pX_193 ⟨Nat.le_of_ble_eq_true rfl, Nat.le_of_ble_eq_true rfl⟩ ⟨rfl, rfl⟩ rfl rfl (Nat.le_of_ble_eq_true rfl) dX11_check_46 ?_
        refine v_iload_n C 1 dX11_check_49 rfl rfl ?_
        refine v_if_ne C 61 dX11_check_50 (by decide) h (fun h => ?_) (fun h => ?_)
        · refine v_aload_n C 0 dX11_check_53 rfl rfl ?_
          refine v_getr C pX_180 fd_X11_59 rfl dX11_check_54 ?_
          refine v_geti C pX_193 fd_X11_255 rfl dX11_check_57 ?_
          cases h
          exact v_iret C hr hlk dX11_check_60
        · refine v_aload_n C 0 dX11_check_61 rfl rfl ?_
          refine v_getr C pX_180 fd_X11_59 rfl dX11_check_62 ?_
          refine v_geti C pX_193 fd_X11_255 rfl dX11_check_65 ?_
          refine v_iconst C (v := 1) dX11_check_68 (by decide) ?_
          refine v_icmp_eq C 74 dX11_check_69 (by decide) h (fun h => ?_) (fun h => ?_)
          · refine v_iload_n C 1 dX11_check_74 rfl rfl ?_
            refine v_iconst C (v := 1) dX11_check_75 (by decide) ?_
            refine v_icmp_ne C 91 dX11_check_76 (by decide) h (fun h => ?_) (fun h => ?_)
            · refine v_aload_n C 0 dX11_check_79 rfl rfl ?_
              refine v_getr C pX_180 fd_X11_59 rfl dX11_check_80 ?_
              refine v_geti C pX_193 fd_X11_258 rfl dX11_check_83 ?_
              refine v_iconst C (v := 5) dX11_check_86 (by decide) ?_
              refine v_idivN C dX11_check_87 (by decide) ?_
              refine v_goto C 100 dX11_check_88 (by decide) ?_
              cases h
              exact v_iret C hr hlk dX11_check_100
            · refine v_aload_n C 0 dX11_check_91 rfl rfl ?_
              refine v_getr C pX_180 fd_X11_59 rfl dX11_check_92 ?_
              refine v_geti C pX_193 fd_X11_258 rfl dX11_check_95 ?_
              refine v_iconst C (v := 5) dX11_check_98 (by decide) ?_
              refine v_iremN C dX11_check_99 (by decide) ?_
              cases h
              exact v_iret C hr hlk dX11_check_100
          · refine v_iconst C (v := (-1)) dX11_check_72 (by decide) ?_
            cases h
            exact v_iret C hr hlk dX11_check_73
      · refine v_iconst C (v := (-1)) dX11_check_22 (by decide) ?_
        cases h
        exact v_iret C hr hlk dX11_check_23
  · refine v_iconst C (v := (-1)) dX11_check_22 (by decide) ?_
    cases h
    exact v_iret C hr hlk dX11_check_23
def rX11_hear : Room := { frames := 6, cells := 0, slots := 0, locals := 149 }
def fX11_hear (a1 : Int32) (u : Mem) : Option (Bool × Mem) := ((fX11_isStar a1).bind fun r2 => (if r2 = true then ((fX11_enter a1 u).bind fun u5 => (if (u5.1 195 10) ≤ 0 then (some (false, u5)) else ((fX9_listen u5).bind fun q8 => (some ((if q8.1 = true then true else false), q8.2))))) else (some (false, u))))
set_option maxHeartbeats 4000000 in
set_option maxRecDepth 100000 in
theorem cX11_hear_ct (l : Launch) (D : va_G) (cy : Nat → ClassId) (ad : Nat → Nat) (a1 : Int32) (u : Mem)  (out : (Bool × Mem)) (h : fX11_hear a1 u = some out) : Met l yX11_hear (.code yX11_hear cX11_hear 2 (some .boolean) :: gw) rX11_hear (va_Pc [.ref (ad 180), .int a1] (wv shX nX D cy ad u)) (qI shX nX D cy ad (bz out.1) out.2) 0 0 (rA ad nX) := by
  refine met_of (cc := cX11_hear) (nL := 2) (by decide) (Nat.le_of_ble_eq_true rfl) (fun p e s m below meth c C hr hlk => ?_)
  unfold fX11_hear at h
  show V shX nX D cy ad 2 p l e rX11_hear s m _ below meth c (MQ below (qI shX nX D cy ad (bz out.1) out.2) _ s 0 0 (rA ad nX)) 0 [(0, .ref (ad 180)), (1, .int a1)] [] u
  refine v_iload_n C 1 dX11_hear_0 rfl rfl ?_
  obtain ⟨r2, hc1, h⟩ := bnd h
  refine v_callSi C [.int a1] (cX11_isStar_ct l D cy ad a1 _ r2 hc1) ml_X11_142 ⟨Nat.le_of_ble_eq_true rfl, Nat.le_of_ble_eq_true rfl⟩ ⟨rfl, rfl⟩ rfl rfl (Nat.le_of_ble_eq_true rfl) dX11_hear_1 ?_
  refine v_z_ne C 9 dX11_hear_4 (by decide) h (fun h => ?_) (fun h => ?_)
  · refine v_aload_n C 0 dX11_hear_9 rfl rfl ?_
    refine v_iload_n C 1 dX11_hear_10 rfl rfl ?_
    obtain ⟨u5, hc4, h⟩ := bnd h
    refine v_callVv C [.int a1] (cX11_enter_ct l D cy ad a1 u u5 hc4) ml_X11_173 pX_180 ⟨Nat.le_of_ble_eq_true rfl, Nat.le_of_ble_eq_true rfl⟩ ⟨rfl, rfl⟩ rfl rfl (Nat.le_of_ble_eq_true rfl) dX11_hear_11 ?_
    refine v_aload_n C 0 dX11_hear_14 rfl rfl ?_
    refine v_getr C pX_180 fd_X11_66 rfl dX11_hear_15 ?_
    refine v_geti C pX_195 fd_X11_223 rfl dX11_hear_18 ?_
    refine v_if_le C 42 dX11_hear_21 (by decide) h (fun h => ?_) (fun h => ?_)
    · refine v_iconst C (v := 0) dX11_hear_42 (by decide) ?_
      cases h
      exact v_zret (b := false) C hr hlk dX11_hear_43
    · refine v_aload_n C 0 dX11_hear_24 rfl rfl ?_
      refine v_getr C pX_180 fd_X11_73 rfl dX11_hear_25 ?_
      refine v_aload_n C 0 dX11_hear_28 rfl rfl ?_
      refine v_getr C pX_180 fd_X11_66 rfl dX11_hear_29 ?_
      obtain ⟨q8, hc7, h⟩ := bnd h
      refine v_callVi C [.ref (ad 195)] (cX9_listen_ct l D cy ad u5 q8 hc7) ml_X11_304 pX_207 ⟨Nat.le_of_ble_eq_true rfl, Nat.le_of_ble_eq_true rfl⟩ ⟨rfl, rfl⟩ rfl rfl (Nat.le_of_ble_eq_true rfl) dX11_hear_32 ?_
      refine v_dia 43 (.int (bz (if q8.1 = true then true else false))) [] ?_ (fun hj => ?_)
      · cases h
        exact v_zret (b := (if q8.1 = true then true else false)) C hr hlk dX11_hear_43
      · refine p_z_eq C 42 dX11_hear_35 (by decide) (fun z9 => ?_) (fun z9 => ?_)
        · refine v_iconst C (v := 1) dX11_hear_38 (by decide) ?_
          refine v_goto C 43 dX11_hear_39 (by decide) ?_
          exact v_top (by rw [if_pos z9]; first | done | rfl) hj
        · refine v_iconst C (v := 0) dX11_hear_42 (by decide) ?_
          exact v_top (by rw [if_neg z9]; first | done | rfl) hj
  · refine v_iconst C (v := 0) dX11_hear_7 (by decide) ?_
    cases h
    exact v_zret (b := false) C hr hlk dX11_hear_8
def rX11_below : Room := { frames := 7, cells := 0, slots := 0, locals := 170 }
def fX11_below (a1 : Int32) (a2 : Int32) (u : Mem) : Option (Int32 × Mem) := (if a2 < 0 then (some ((-1), u)) else (if 400 < a2 then (some ((-1), u)) else ((fX11_hear a1 u).bind fun q4 => (if q4.1 = true then ((fX9_countBelow a2 q4.2).bind fun r7 => (some (r7, q4.2))) else (some ((-1), q4.2))))))
set_option maxHeartbeats 4000000 in
set_option maxRecDepth 100000 in
theorem cX11_below_ct (l : Launch) (D : va_G) (cy : Nat → ClassId) (ad : Nat → Nat) (a1 : Int32) (a2 : Int32) (u : Mem)  (out : (Int32 × Mem)) (h : fX11_below a1 a2 u = some out) : Met l yX11_below (.code yX11_below cX11_below 3 (some .int) :: gw) rX11_below (va_Pc [.ref (ad 180), .int a1, .int a2] (wv shX nX D cy ad u)) (qI shX nX D cy ad out.1 out.2) 0 0 (rA ad nX) := by
  refine met_of (cc := cX11_below) (nL := 3) (by decide) (Nat.le_of_ble_eq_true rfl) (fun p e s m below meth c C hr hlk => ?_)
  unfold fX11_below at h
  show V shX nX D cy ad 3 p l e rX11_below s m _ below meth c (MQ below (qI shX nX D cy ad out.1 out.2) _ s 0 0 (rA ad nX)) 0 [(0, .ref (ad 180)), (1, .int a1), (2, .int a2)] [] u
  refine v_iload_n C 2 dX11_below_0 rfl rfl ?_
  refine v_if_lt C 19 dX11_below_1 (by decide) h (fun h => ?_) (fun h => ?_)
  · refine v_iconst C (v := (-1)) dX11_below_19 (by decide) ?_
    cases h
    exact v_iret C hr hlk dX11_below_20
  · refine v_iload_n C 2 dX11_below_4 rfl rfl ?_
    refine v_sipush C (v := 400) dX11_below_5 (by decide) ?_
    refine v_icmp_gt C 19 dX11_below_8 (by decide) h (fun h => ?_) (fun h => ?_)
    · refine v_iconst C (v := (-1)) dX11_below_19 (by decide) ?_
      cases h
      exact v_iret C hr hlk dX11_below_20
    · refine v_aload_n C 0 dX11_below_11 rfl rfl ?_
      refine v_iload_n C 1 dX11_below_12 rfl rfl ?_
      obtain ⟨q4, hc3, h⟩ := bnd h
      refine v_callVi C [.int a1] (cX11_hear_ct l D cy ad a1 u q4 hc3) ml_X11_261 pX_180 ⟨Nat.le_of_ble_eq_true rfl, Nat.le_of_ble_eq_true rfl⟩ ⟨rfl, rfl⟩ rfl rfl (Nat.le_of_ble_eq_true rfl) dX11_below_13 ?_
      refine v_z_ne C 21 dX11_below_16 (by decide) h (fun h => ?_) (fun h => ?_)
      · refine v_aload_n C 0 dX11_below_21 rfl rfl ?_
        refine v_getr C pX_180 fd_X11_73 rfl dX11_below_22 ?_
        refine v_iload_n C 2 dX11_below_25 rfl rfl ?_
        obtain ⟨r7, hc6, h⟩ := bnd h
        refine v_callVi C [.int a2] (cX9_countBelow_ct l D cy ad a2 q4.2 r7 hc6) ml_X11_264 pX_207 ⟨Nat.le_of_ble_eq_true rfl, Nat.le_of_ble_eq_true rfl⟩ ⟨rfl, rfl⟩ rfl rfl (Nat.le_of_ble_eq_true rfl) dX11_below_26 ?_
        cases h
        exact v_iret C hr hlk dX11_below_29
      · refine v_iconst C (v := (-1)) dX11_below_19 (by decide) ?_
        cases h
        exact v_iret C hr hlk dX11_below_20
def rX11_tone : Room := { frames := 7, cells := 0, slots := 0, locals := 170 }
def fX11_tone (a1 : Int32) (a2 : Int32) (u : Mem) : Option (Int32 × Mem) := ((fX11_hear a1 u).bind fun q2 => (if q2.1 = true then ((fX9_boxOf a2 q2.2).bind fun r5 => (some (r5, q2.2))) else (some ((-1), q2.2))))
set_option maxHeartbeats 4000000 in
set_option maxRecDepth 100000 in
theorem cX11_tone_ct (l : Launch) (D : va_G) (cy : Nat → ClassId) (ad : Nat → Nat) (a1 : Int32) (a2 : Int32) (u : Mem)  (out : (Int32 × Mem)) (h : fX11_tone a1 a2 u = some out) : Met l yX11_tone (.code yX11_tone cX11_tone 3 (some .int) :: gw) rX11_tone (va_Pc [.ref (ad 180), .int a1, .int a2] (wv shX nX D cy ad u)) (qI shX nX D cy ad out.1 out.2) 0 0 (rA ad nX) := by
  refine met_of (cc := cX11_tone) (nL := 3) (by decide) (Nat.le_of_ble_eq_true rfl) (fun p e s m below meth c C hr hlk => ?_)
  unfold fX11_tone at h
  show V shX nX D cy ad 3 p l e rX11_tone s m _ below meth c (MQ below (qI shX nX D cy ad out.1 out.2) _ s 0 0 (rA ad nX)) 0 [(0, .ref (ad 180)), (1, .int a1), (2, .int a2)] [] u
  refine v_aload_n C 0 dX11_tone_0 rfl rfl ?_
  refine v_iload_n C 1 dX11_tone_1 rfl rfl ?_
  obtain ⟨q2, hc1, h⟩ := bnd h
  refine v_callVi C [.int a1] (cX11_hear_ct l D cy ad a1 u q2 hc1) ml_X11_261 pX_180 ⟨Nat.le_of_ble_eq_true rfl, Nat.le_of_ble_eq_true rfl⟩ ⟨rfl, rfl⟩ rfl rfl (Nat.le_of_ble_eq_true rfl) dX11_tone_2 ?_
  refine v_z_eq C 19 dX11_tone_5 (by decide) h (fun h => ?_) (fun h => ?_)
  · refine v_aload_n C 0 dX11_tone_8 rfl rfl ?_
    refine v_getr C pX_180 fd_X11_73 rfl dX11_tone_9 ?_
    refine v_iload_n C 2 dX11_tone_12 rfl rfl ?_
    obtain ⟨r5, hc4, h⟩ := bnd h
    refine v_callVi C [.int a2] (cX9_boxOf_ct l D cy ad a2 q2.2 r5 hc4) ml_X11_268 pX_207 ⟨Nat.le_of_ble_eq_true rfl, Nat.le_of_ble_eq_true rfl⟩ ⟨rfl, rfl⟩ rfl rfl (Nat.le_of_ble_eq_true rfl) dX11_tone_13 ?_
    refine v_goto C 20 dX11_tone_16 (by decide) ?_
    cases h
    exact v_iret C hr hlk dX11_tone_20
  · refine v_iconst C (v := (-1)) dX11_tone_19 (by decide) ?_
    cases h
    exact v_iret C hr hlk dX11_tone_20
def rX11_seen : Room := { frames := 1, cells := 0, slots := 0, locals := 20 }
def fX11_seen (a1 : Int32) (a2 : Int32) (a3 : Int32) (a4 : Int32) (u : Mem) : Option (Int32 × Mem) := ((fX11_isStar a1).bind fun r3 => (if r3 = true then (if a2 < (-1) then (some ((-1), u)) else (if 7 ≤ a2 then (some ((-1), u)) else (if (u.1 (176 + 2 * 0) 5) < 20 then (if a3 < 0 then (some ((-1), u)) else (if a4 < a3 then (some ((-1), u)) else (if a4 ≤ ((if a2 = (-1) then 1000000000 else 400) : Int32) then (if inB (u.1 (176 + 2 * 0) 5) 20 then ((some (si u 189 (u.1 (176 + 2 * 0) 5).toNatClampNeg a1)).bind fun u13 => (if inB (u13.1 (176 + 2 * 0) 5) 20 then ((some (si u13 190 (u13.1 (176 + 2 * 0) 5).toNatClampNeg a2)).bind fun u14 => (if inB (u14.1 (176 + 2 * 0) 5) 20 then ((some (si u14 191 (u14.1 (176 + 2 * 0) 5).toNatClampNeg a3)).bind fun u15 => (if inB (u15.1 (176 + 2 * 0) 5) 20 then ((some (si u15 192 (u15.1 (176 + 2 * 0) 5).toNatClampNeg a4)).bind fun u16 => ((some (si u16 (176 + 2 * 0) 5 ((u16.1 (176 + 2 * 0) 5) + 1))).bind fun u17 => (some (u17.1 (176 + 2 * 0) 5, u17)))) else none)) else none)) else none)) else none) else (some ((-1), u))))) else (some ((-1), u))))) else (some ((-1), u))))
set_option maxHeartbeats 4000000 in
set_option maxRecDepth 100000 in
theorem cX11_seen_ct (l : Launch) (D : va_G) (cy : Nat → ClassId) (ad : Nat → Nat) (a1 : Int32) (a2 : Int32) (a3 : Int32) (a4 : Int32) (u : Mem)  (out : (Int32 × Mem)) (h : fX11_seen a1 a2 a3 a4 u = some out) : Met l yX11_seen (.code yX11_seen cX11_seen 6 (some .int) :: gw) rX11_seen (va_Pc [.ref (ad 180), .int a1, .int a2, .int a3, .int a4] (wv shX nX D cy ad u)) (qI shX nX D cy ad out.1 out.2) 0 0 (rA ad nX) := by
  refine met_of (cc := cX11_seen) (nL := 6) (by decide) (Nat.le_of_ble_eq_true rfl) (fun p e s m below meth c C hr hlk => ?_)
  unfold fX11_seen at h
  show V shX nX D cy ad 6 p l e rX11_seen s m _ below meth c (MQ below (qI shX nX D cy ad out.1 out.2) _ s 0 0 (rA ad nX)) 0 [(0, .ref (ad 180)), (1, .int a1), (2, .int a2), (3, .int a3), (4, .int a4)] [] u
  refine v_iload_n C 2 dX11_seen_0 rfl rfl ?_
  refine v_iconst C (v := (-1)) dX11_seen_1 (by decide) ?_
  refine v_dia 14 (.int ((if a2 = (-1) then 1000000000 else 400) : Int32)) [] ?_ (fun hj => ?_)
  · refine v_istore C [(5, .int ((if a2 = (-1) then 1000000000 else 400) : Int32)), (0, .ref (ad 180)), (1, .int a1), (2, .int a2), (3, .int a3), (4, .int a4)] dX11_seen_14 (by decide) rfl ?_
    refine v_iload_n C 2 dX11_seen_16 rfl rfl ?_
    obtain ⟨r3, hc2, h⟩ := bnd h
    refine v_callSi C [.int a1] (cX11_isStar_ct l D cy ad a1 _ r3 hc2) ml_X11_142 ⟨Nat.le_of_ble_eq_true rfl, Nat.le_of_ble_eq_true rfl⟩ ⟨rfl, rfl⟩ rfl rfl (Nat.le_of_ble_eq_true rfl) dX11_seen_17 ?_
    refine v_z_eq C 46 dX11_seen_20 (by decide) h (fun h => ?_) (fun h => ?_)
    · refine v_iload_n C 3 dX11_seen_23 rfl rfl ?_
      refine v_iconst C (v := (-1)) dX11_seen_24 (by decide) ?_
      refine v_icmp_lt C 46 dX11_seen_25 (by decide) h (fun h => ?_) (fun h => ?_)
      · refine v_iconst C (v := (-1)) dX11_seen_46 (by decide) ?_
        cases h
        exact v_iret C hr hlk dX11_seen_47
      · refine v_iload_n C 3 dX11_seen_28 rfl rfl ?_
        refine v_bipush C (v := 7) dX11_seen_29 (by decide) ?_
        refine v_icmp_ge C 46 dX11_seen_31 (by decide) h (fun h => ?_) (fun h => ?_)
        · refine v_iconst C (v := (-1)) dX11_seen_46 (by decide) ?_
          cases h
          exact v_iret C hr hlk dX11_seen_47
        · refine v_aload_n C 1 dX11_seen_34 rfl rfl ?_
          refine v_getr C pX_180 fd_X11_35 rfl dX11_seen_35 ?_
          refine v_geti C (pW_0 0 (by decide)) fd_X11_272 rfl dX11_seen_38 ?_
          refine v_bipush C (v := 20) dX11_seen_41 (by decide) ?_
          refine v_icmp_lt C 48 dX11_seen_43 (by decide) h (fun h => ?_) (fun h => ?_)
          · refine v_iload_n C 4 dX11_seen_48 rfl rfl ?_
            refine v_if_lt C 65 dX11_seen_49 (by decide) h (fun h => ?_) (fun h => ?_)
            · refine v_iconst C (v := (-1)) dX11_seen_65 (by decide) ?_
              cases h
              exact v_iret C hr hlk dX11_seen_66
            · refine v_iload_n C 4 dX11_seen_52 rfl rfl ?_
              refine v_iload C 5 dX11_seen_53 rfl ?_
              refine v_icmp_gt C 65 dX11_seen_55 (by decide) h (fun h => ?_) (fun h => ?_)
              · refine v_iconst C (v := (-1)) dX11_seen_65 (by decide) ?_
                cases h
                exact v_iret C hr hlk dX11_seen_66
              · refine v_iload C 5 dX11_seen_58 rfl ?_
                refine v_iload C 0 dX11_seen_60 rfl ?_
                refine v_icmp_le C 67 dX11_seen_62 (by decide) h (fun h => ?_) (fun h => ?_)
                · refine v_aload_n C 1 dX11_seen_67 rfl rfl ?_
                  refine v_getr C pX_180 fd_X11_52 rfl dX11_seen_68 ?_
                  refine v_getr C pX_188 fd_X11_274 rfl dX11_seen_71 ?_
                  refine v_aload_n C 1 dX11_seen_74 rfl rfl ?_
                  refine v_getr C pX_180 fd_X11_35 rfl dX11_seen_75 ?_
                  refine v_geti C (pW_0 0 (by decide)) fd_X11_272 rfl dX11_seen_78 ?_
                  refine v_iload_n C 2 dX11_seen_81 rfl rfl ?_
                  refine v_iast C pX_189 dX11_seen_82 h (fun h => ?_)
                  refine v_mem (fun u13 hu13 => ?_)
                  have h := nmd hu13 h
                  refine v_aload_n C 1 dX11_seen_83 rfl rfl ?_
                  refine v_getr C pX_180 fd_X11_52 rfl dX11_seen_84 ?_
                  refine v_getr C pX_188 fd_X11_276 rfl dX11_seen_87 ?_
                  refine v_aload_n C 1 dX11_seen_90 rfl rfl ?_
                  refine v_getr C pX_180 fd_X11_35 rfl dX11_seen_91 ?_
                  refine v_geti C (pW_0 0 (by decide)) fd_X11_272 rfl dX11_seen_94 ?_
                  refine v_iload_n C 3 dX11_seen_97 rfl rfl ?_
                  refine v_iast C pX_190 dX11_seen_98 h (fun h => ?_)
                  refine v_mem (fun u14 hu14 => ?_)
                  have h := nmd hu14 h
                  refine v_aload_n C 1 dX11_seen_99 rfl rfl ?_
                  refine v_getr C pX_180 fd_X11_52 rfl dX11_seen_100 ?_
                  refine v_getr C pX_188 fd_X11_278 rfl dX11_seen_103 ?_
                  refine v_aload_n C 1 dX11_seen_106 rfl rfl ?_
                  refine v_getr C pX_180 fd_X11_35 rfl dX11_seen_107 ?_
                  refine v_geti C (pW_0 0 (by decide)) fd_X11_272 rfl dX11_seen_110 ?_
                  refine v_iload_n C 4 dX11_seen_113 rfl rfl ?_
                  refine v_iast C pX_191 dX11_seen_114 h (fun h => ?_)
                  refine v_mem (fun u15 hu15 => ?_)
                  have h := nmd hu15 h
                  refine v_aload_n C 1 dX11_seen_115 rfl rfl ?_
                  refine v_getr C pX_180 fd_X11_52 rfl dX11_seen_116 ?_
                  refine v_getr C pX_188 fd_X11_281 rfl dX11_seen_119 ?_
                  refine v_aload_n C 1 dX11_seen_122 rfl rfl ?_
                  refine v_getr C pX_180 fd_X11_35 rfl dX11_seen_123 ?_
                  refine v_geti C (pW_0 0 (by decide)) fd_X11_272 rfl dX11_seen_126 ?_
                  refine v_iload C 5 dX11_seen_129 rfl ?_
                  refine v_iast C pX_192 dX11_seen_131 h (fun h => ?_)
                  refine v_mem (fun u16 hu16 => ?_)
                  have h := nmd hu16 h
                  refine v_aload_n C 1 dX11_seen_132 rfl rfl ?_
                  refine v_getr C pX_180 fd_X11_35 rfl dX11_seen_133 ?_
                  refine v_dup C rfl dX11_seen_136 ?_
                  refine v_geti C (pW_0 0 (by decide)) fd_X11_272 rfl dX11_seen_137 ?_
                  refine v_iconst C (v := 1) dX11_seen_140 (by decide) ?_
                  refine v_iadd C dX11_seen_141 ?_
                  refine v_puti C (pW_0 0 (by decide)) fp_X11_272 rfl rfl rfl dX11_seen_142 ?_
                  refine v_mem (fun u17 hu17 => ?_)
                  have h := nmd hu17 h
                  refine v_aload_n C 1 dX11_seen_145 rfl rfl ?_
                  refine v_getr C pX_180 fd_X11_35 rfl dX11_seen_146 ?_
                  refine v_geti C (pW_0 0 (by decide)) fd_X11_272 rfl dX11_seen_149 ?_
                  cases h
                  exact v_iret C hr hlk dX11_seen_152
                · refine v_iconst C (v := (-1)) dX11_seen_65 (by decide) ?_
                  cases h
                  exact v_iret C hr hlk dX11_seen_66
          · refine v_iconst C (v := (-1)) dX11_seen_46 (by decide) ?_
            cases h
            exact v_iret C hr hlk dX11_seen_47
    · refine v_iconst C (v := (-1)) dX11_seen_46 (by decide) ?_
      cases h
      exact v_iret C hr hlk dX11_seen_47
  · refine p_icmp_ne C 11 dX11_seen_2 (by decide) (fun z1 => ?_) (fun z1 => ?_)
    · refine v_ldc_w C kc_X11_271 dX11_seen_5 ?_
      refine v_goto C 14 dX11_seen_8 (by decide) ?_
      exact v_top (by rw [if_pos z1]; first | done | rfl) hj
    · refine v_sipush C (v := 400) dX11_seen_11 (by decide) ?_
      exact v_top (by rw [if_neg z1]; first | done | rfl) hj
def rX11_sawLight : Room := { frames := 0, cells := 0, slots := 0, locals := 0 }
def fX11_sawLight_L2 (a1 : Int32) (u : Mem) : Nat → Int32 → Option Bool
  | 0, _ => none
  | t + 1, a2 => (if (u.1 (176 + 2 * 0) 5) ≤ a2 then (some false) else (if inB a2 20 then (if (u.1 189 a2.toNatClampNeg) = a1 then (if inB a2 20 then (if (u.1 190 a2.toNatClampNeg) = (-1) then (some true) else fX11_sawLight_L2 a1 u t (a2 + 1)) else none) else fX11_sawLight_L2 a1 u t (a2 + 1)) else none))
def fX11_sawLight (a1 : Int32) (u : Mem) : Option Bool := fX11_sawLight_L2 a1 u fu0 0
set_option maxHeartbeats 4000000 in
set_option maxRecDepth 100000 in
theorem kX11_sawLight_L2 {l : Launch} {D : va_G} {cy : Nat → ClassId} {ad : Nat → Nat} {p : Program} {e : Env} {s : State} {m : MethodId} {args : Array Value} {below : List Frame} {meth : Method} {c : Code} (C : Cx nX D cy ad 3 cX11_sawLight RX11 rX11_sawLight p s m args c) (hr : meth.sig.returnType = some .boolean) (hlk : meth.locks = false) (a1 : Int32)  (u : Mem) {out : Bool}  : ∀ (t : Nat) (a2 : Int32), fX11_sawLight_L2 a1 u t a2 = some out → V shX nX D cy ad 3 p l e rX11_sawLight s m args below meth c (MQ below (qI shX nX D cy ad (bz out) u) args s 0 0 (rA ad nX)) 2 [(0, .ref (ad 180)), (1, .int a1), (2, .int a2)] [] u := by
  intro t
  induction t with
  | zero => intro a2 h; rw [fX11_sawLight_L2] at h; cases h
  | succ t ih =>
    intro a2 h
    rw [fX11_sawLight_L2] at h
    refine v_iload_n C 2 dX11_sawLight_2 rfl rfl ?_
    refine v_aload_n C 0 dX11_sawLight_3 rfl rfl ?_
    refine v_getr C pX_180 fd_X11_35 rfl dX11_sawLight_4 ?_
    refine v_geti C (pW_0 0 (by decide)) fd_X11_272 rfl dX11_sawLight_7 ?_
    refine v_icmp_ge C 47 dX11_sawLight_10 (by decide) h (fun h => ?_) (fun h => ?_)
    · refine v_iconst C (v := 0) dX11_sawLight_47 (by decide) ?_
      cases h
      exact v_zret (b := false) C hr hlk dX11_sawLight_48
    · refine v_aload_n C 0 dX11_sawLight_13 rfl rfl ?_
      refine v_getr C pX_180 fd_X11_52 rfl dX11_sawLight_14 ?_
      refine v_getr C pX_188 fd_X11_274 rfl dX11_sawLight_17 ?_
      refine v_iload_n C 2 dX11_sawLight_20 rfl rfl ?_
      refine v_iald C pX_189 dX11_sawLight_21 h (fun h => ?_)
      refine v_iload_n C 1 dX11_sawLight_22 rfl rfl ?_
      refine v_icmp_ne C 41 dX11_sawLight_23 (by decide) h (fun h => ?_) (fun h => ?_)
      · refine v_aload_n C 0 dX11_sawLight_26 rfl rfl ?_
        refine v_getr C pX_180 fd_X11_52 rfl dX11_sawLight_27 ?_
        refine v_getr C pX_188 fd_X11_276 rfl dX11_sawLight_30 ?_
        refine v_iload_n C 2 dX11_sawLight_33 rfl rfl ?_
        refine v_iald C pX_190 dX11_sawLight_34 h (fun h => ?_)
        refine v_iconst C (v := (-1)) dX11_sawLight_35 (by decide) ?_
        refine v_icmp_ne C 41 dX11_sawLight_36 (by decide) h (fun h => ?_) (fun h => ?_)
        · refine v_iconst C (v := 1) dX11_sawLight_39 (by decide) ?_
          cases h
          exact v_zret (b := true) C hr hlk dX11_sawLight_40
        · refine v_iinc C 2 (v := a2 + 1) [(2, .int (a2 + 1)), (0, .ref (ad 180)), (1, .int a1)] dX11_sawLight_41 rfl rfl (by decide) rfl ?_
          refine v_goto C 2 dX11_sawLight_44 (by decide) ?_
          refine v_sub [1, 2, 0] rfl ?_
          exact ih (a2 + 1) h
      · refine v_iinc C 2 (v := a2 + 1) [(2, .int (a2 + 1)), (0, .ref (ad 180)), (1, .int a1)] dX11_sawLight_41 rfl rfl (by decide) rfl ?_
        refine v_goto C 2 dX11_sawLight_44 (by decide) ?_
        refine v_sub [1, 2, 0] rfl ?_
        exact ih (a2 + 1) h
set_option maxHeartbeats 4000000 in
set_option maxRecDepth 100000 in
theorem cX11_sawLight_ct (l : Launch) (D : va_G) (cy : Nat → ClassId) (ad : Nat → Nat) (a1 : Int32) (u : Mem)  (out : Bool) (h : fX11_sawLight a1 u = some out) : Met l yX11_sawLight (.code yX11_sawLight cX11_sawLight 3 (some .boolean) :: gw) rX11_sawLight (va_Pc [.ref (ad 180), .int a1] (wv shX nX D cy ad u)) (qI shX nX D cy ad (bz out) u) 0 0 (rA ad nX) := by
  refine met_of (cc := cX11_sawLight) (nL := 3) (by decide) (Nat.le_of_ble_eq_true rfl) (fun p e s m below meth c C hr hlk => ?_)
  unfold fX11_sawLight at h
  show V shX nX D cy ad 3 p l e rX11_sawLight s m _ below meth c (MQ below (qI shX nX D cy ad (bz out) u) _ s 0 0 (rA ad nX)) 0 [(0, .ref (ad 180)), (1, .int a1)] [] u
  refine v_iconst C (v := 0) dX11_sawLight_0 (by decide) ?_
  refine v_istore_n C [(2, .int 0), (0, .ref (ad 180)), (1, .int a1)] dX11_sawLight_1 rfl (by decide) rfl ?_
  refine v_sub [1, 2, 0] rfl ?_
  refine kX11_sawLight_L2 C hr hlk a1 u   fu0 0 h
def rX11_agrees : Room := { frames := 2, cells := 0, slots := 0, locals := 57 }
def fX11_agrees (a1 : Int32) (a2 : Bool) (u : Mem) : Option Bool := (if inB a1 20 then (if inB a1 20 then (if inB a1 20 then (if (u.1 190 a1.toNatClampNeg) = (-1) then (if ((u.1 195 9) - 1) < 0 then (some false) else (if inB ((u.1 195 9) - 1) 16 then (if ((u.1 192 a1.toNatClampNeg).toInt64) < (u.2 202 ((u.1 195 9) - 1).toNatClampNeg) then (some false) else (if inB ((u.1 195 9) - 1) 16 then (some (if (u.2 203 ((u.1 195 9) - 1).toNatClampNeg) < ((u.1 191 a1.toNatClampNeg).toInt64) then false else true)) else none)) else none)) else (if a2 = true then ((fX9_boxOf (u.1 190 a1.toNatClampNeg) u).bind fun r7 => (some (if r7 < (u.1 191 a1.toNatClampNeg) then false else (if (u.1 192 a1.toNatClampNeg) < r7 then false else true)))) else (some (if (-1) < (u.1 191 a1.toNatClampNeg) then false else (if (u.1 192 a1.toNatClampNeg) < (-1) then false else true))))) else none) else none) else none)
set_option maxHeartbeats 4000000 in
set_option maxRecDepth 100000 in
theorem cX11_agrees_ct (l : Launch) (D : va_G) (cy : Nat → ClassId) (ad : Nat → Nat) (a1 : Int32) (a2 : Bool) (u : Mem)  (out : Bool) (h : fX11_agrees a1 a2 u = some out) : Met l yX11_agrees (.code yX11_agrees cX11_agrees 7 (some .boolean) :: gw) rX11_agrees (va_Pc [.ref (ad 180), .int a1, .int (bz a2)] (wv shX nX D cy ad u)) (qI shX nX D cy ad (bz out) u) 0 0 (rA ad nX) := by
  refine met_of (cc := cX11_agrees) (nL := 7) (by decide) (Nat.le_of_ble_eq_true rfl) (fun p e s m below meth c C hr hlk => ?_)
  unfold fX11_agrees at h
  show V shX nX D cy ad 7 p l e rX11_agrees s m _ below meth c (MQ below (qI shX nX D cy ad (bz out) u) _ s 0 0 (rA ad nX)) 0 [(0, .ref (ad 180)), (1, .int a1), (2, .int (bz a2))] [] u
  refine v_aload_n C 0 dX11_agrees_0 rfl rfl ?_
  refine v_getr C pX_180 fd_X11_52 rfl dX11_agrees_1 ?_
  refine v_getr C pX_188 fd_X11_278 rfl dX11_agrees_4 ?_
  refine v_iload_n C 1 dX11_agrees_7 rfl rfl ?_
  refine v_iald C pX_191 dX11_agrees_8 h (fun h => ?_)
  refine v_istore_n C [(3, .int (u.1 191 a1.toNatClampNeg)), (0, .ref (ad 180)), (1, .int a1), (2, .int (bz a2))] dX11_agrees_9 rfl (by decide) rfl ?_
  refine v_aload_n C 1 dX11_agrees_10 rfl rfl ?_
  refine v_getr C pX_180 fd_X11_52 rfl dX11_agrees_11 ?_
  refine v_getr C pX_188 fd_X11_281 rfl dX11_agrees_14 ?_
  refine v_iload_n C 2 dX11_agrees_17 rfl rfl ?_
  refine v_iald C pX_192 dX11_agrees_18 h (fun h => ?_)
  refine v_istore C [(4, .int (u.1 192 a1.toNatClampNeg)), (3, .int (u.1 191 a1.toNatClampNeg)), (0, .ref (ad 180)), (1, .int a1), (2, .int (bz a2))] dX11_agrees_19 (by decide) rfl ?_
  refine v_aload_n C 2 dX11_agrees_21 rfl rfl ?_
  refine v_getr C pX_180 fd_X11_52 rfl dX11_agrees_22 ?_
  refine v_getr C pX_188 fd_X11_276 rfl dX11_agrees_25 ?_
  refine v_iload_n C 3 dX11_agrees_28 rfl rfl ?_
  refine v_iald C pX_190 dX11_agrees_29 h (fun h => ?_)
  refine v_istore C [(5, .int (u.1 190 a1.toNatClampNeg)), (4, .int (u.1 192 a1.toNatClampNeg)), (3, .int (u.1 191 a1.toNatClampNeg)), (0, .ref (ad 180)), (1, .int a1), (2, .int (bz a2))] dX11_agrees_30 (by decide) rfl ?_
  refine v_iload C 0 dX11_agrees_32 rfl ?_
  refine v_iconst C (v := (-1)) dX11_agrees_34 (by decide) ?_
  refine v_icmp_ne C 93 dX11_agrees_35 (by decide) h (fun h => ?_) (fun h => ?_)
  · refine v_aload_n C 3 dX11_agrees_38 rfl rfl ?_
    refine v_getr C pX_180 fd_X11_66 rfl dX11_agrees_39 ?_
    refine v_geti C pX_195 fd_X11_312 rfl dX11_agrees_42 ?_
    refine v_iconst C (v := 1) dX11_agrees_45 (by decide) ?_
    refine v_isub C dX11_agrees_46 ?_
    refine v_istore C [(6, .int ((u.1 195 9) - 1)), (5, .int (u.1 190 a1.toNatClampNeg)), (4, .int (u.1 192 a1.toNatClampNeg)), (3, .int (u.1 191 a1.toNatClampNeg)), (0, .ref (ad 180)), (1, .int a1), (2, .int (bz a2))] dX11_agrees_47 (by decide) rfl ?_
    refine v_iload C 0 dX11_agrees_49 rfl ?_
    refine v_if_lt C 91 dX11_agrees_51 (by decide) h (fun h => ?_) (fun h => ?_)
    · refine v_iconst C (v := 0) dX11_agrees_91 (by decide) ?_
      cases h
      exact v_zret (b := false) C hr hlk dX11_agrees_92
    · refine v_aload_n C 4 dX11_agrees_54 rfl rfl ?_
      refine v_getr C pX_180 fd_X11_66 rfl dX11_agrees_55 ?_
      refine v_getr C pX_195 fd_X11_220 rfl dX11_agrees_58 ?_
      refine v_iload C 0 dX11_agrees_61 rfl ?_
      refine v_lald C pX_202 dX11_agrees_63 h (fun h => ?_)
      refine v_iload C 2 dX11_agrees_64 rfl ?_
      refine v_i2l C dX11_agrees_66 ?_
      refine v_lcmp_gt C 91 dX11_agrees_67 dX11_agrees_68 (by decide) h (fun h => ?_) (fun h => ?_)
      · refine v_iconst C (v := 0) dX11_agrees_91 (by decide) ?_
        cases h
        exact v_zret (b := false) C hr hlk dX11_agrees_92
      · refine v_aload_n C 4 dX11_agrees_71 rfl rfl ?_
        refine v_getr C pX_180 fd_X11_66 rfl dX11_agrees_72 ?_
        refine v_getr C pX_195 fd_X11_217 rfl dX11_agrees_75 ?_
        refine v_iload C 0 dX11_agrees_78 rfl ?_
        refine v_lald C pX_203 dX11_agrees_80 h (fun h => ?_)
        refine v_iload_n C 3 dX11_agrees_81 rfl rfl ?_
        refine v_i2l C dX11_agrees_82 ?_
        refine v_dia 92 (.int (bz (if (u.2 203 ((u.1 195 9) - 1).toNatClampNeg) < ((u.1 191 a1.toNatClampNeg).toInt64) then false else true))) [] ?_ (fun hj => ?_)
        · cases h
          exact v_zret (b := (if (u.2 203 ((u.1 195 9) - 1).toNatClampNeg) < ((u.1 191 a1.toNatClampNeg).toInt64) then false else true)) C hr hlk dX11_agrees_92
        · refine p_lcmp_lt C 91 dX11_agrees_83 dX11_agrees_84 (by decide) (fun z4 => ?_) (fun z4 => ?_)
          · refine v_iconst C (v := 0) dX11_agrees_91 (by decide) ?_
            exact v_top (by rw [if_pos z4]; first | done | rfl) hj
          · refine v_iconst C (v := 1) dX11_agrees_87 (by decide) ?_
            refine v_goto C 92 dX11_agrees_88 (by decide) ?_
            exact v_top (by rw [if_neg z4]; first | done | rfl) hj
  · refine v_iload_n C 5 dX11_agrees_93 rfl rfl ?_
    refine v_z_eq C 109 dX11_agrees_94 (by decide) h (fun h => ?_) (fun h => ?_)
    · refine v_aload_n C 3 dX11_agrees_97 rfl rfl ?_
      refine v_getr C pX_180 fd_X11_73 rfl dX11_agrees_98 ?_
      refine v_iload C 0 dX11_agrees_101 rfl ?_
      obtain ⟨r7, hc6, h⟩ := bnd h
      refine v_callVi C [.int (u.1 190 a1.toNatClampNeg)] (cX9_boxOf_ct l D cy ad (u.1 190 a1.toNatClampNeg) u r7 hc6) ml_X11_268 pX_207 ⟨Nat.le_of_ble_eq_true rfl, Nat.le_of_ble_eq_true rfl⟩ ⟨rfl, rfl⟩ rfl rfl (Nat.le_of_ble_eq_true rfl) dX11_agrees_103 ?_
      refine v_goto C 110 dX11_agrees_106 (by decide) ?_
      refine v_istore C [(6, .int r7), (5, .int (u.1 190 a1.toNatClampNeg)), (4, .int (u.1 192 a1.toNatClampNeg)), (3, .int (u.1 191 a1.toNatClampNeg)), (0, .ref (ad 180)), (1, .int a1), (2, .int (bz a2))] dX11_agrees_110 (by decide) rfl ?_
      refine v_iload C 0 dX11_agrees_112 rfl ?_
      refine v_iload_n C 3 dX11_agrees_114 rfl rfl ?_
      refine v_dia 130 (.int (bz (if r7 < (u.1 191 a1.toNatClampNeg) then false else (if (u.1 192 a1.toNatClampNeg) < r7 then false else true)))) [] ?_ (fun hj => ?_)
      · cases h
        exact v_zret (b := (if r7 < (u.1 191 a1.toNatClampNeg) then false else (if (u.1 192 a1.toNatClampNeg) < r7 then false else true))) C hr hlk dX11_agrees_130
      · refine p_icmp_lt C 129 dX11_agrees_115 (by decide) (fun z8 => ?_) (fun z8 => ?_)
        · refine v_iconst C (v := 0) dX11_agrees_129 (by decide) ?_
          exact v_top (by rw [if_pos z8]; first | done | rfl) hj
        · refine v_iload C 0 dX11_agrees_118 rfl ?_
          refine v_iload C 2 dX11_agrees_120 rfl ?_
          refine p_icmp_gt C 129 dX11_agrees_122 (by decide) (fun z9 => ?_) (fun z9 => ?_)
          · refine v_iconst C (v := 0) dX11_agrees_129 (by decide) ?_
            exact v_top (by rw [if_neg z8, if_pos z9]; first | done | rfl) hj
          · refine v_iconst C (v := 1) dX11_agrees_125 (by decide) ?_
            refine v_goto C 130 dX11_agrees_126 (by decide) ?_
            exact v_top (by rw [if_neg z8, if_neg z9]; first | done | rfl) hj
    · refine v_iconst C (v := (-1)) dX11_agrees_109 (by decide) ?_
      refine v_istore C [(6, .int (-1)), (5, .int (u.1 190 a1.toNatClampNeg)), (4, .int (u.1 192 a1.toNatClampNeg)), (3, .int (u.1 191 a1.toNatClampNeg)), (0, .ref (ad 180)), (1, .int a1), (2, .int (bz a2))] dX11_agrees_110 (by decide) rfl ?_
      refine v_iload C 0 dX11_agrees_112 rfl ?_
      refine v_iload_n C 3 dX11_agrees_114 rfl rfl ?_
      refine v_dia 130 (.int (bz (if (-1) < (u.1 191 a1.toNatClampNeg) then false else (if (u.1 192 a1.toNatClampNeg) < (-1) then false else true)))) [] ?_ (fun hj => ?_)
      · cases h
        exact v_zret (b := (if (-1) < (u.1 191 a1.toNatClampNeg) then false else (if (u.1 192 a1.toNatClampNeg) < (-1) then false else true))) C hr hlk dX11_agrees_130
      · refine p_icmp_lt C 129 dX11_agrees_115 (by decide) (fun z10 => ?_) (fun z10 => ?_)
        · refine v_iconst C (v := 0) dX11_agrees_129 (by decide) ?_
          exact v_top (by rw [if_pos z10]; first | done | rfl) hj
        · refine v_iload C 0 dX11_agrees_118 rfl ?_
          refine v_iload C 2 dX11_agrees_120 rfl ?_
          refine p_icmp_gt C 129 dX11_agrees_122 (by decide) (fun z11 => ?_) (fun z11 => ?_)
          · refine v_iconst C (v := 0) dX11_agrees_129 (by decide) ?_
            exact v_top (by rw [if_neg z10, if_pos z11]; first | done | rfl) hj
          · refine v_iconst C (v := 1) dX11_agrees_125 (by decide) ?_
            refine v_goto C 130 dX11_agrees_126 (by decide) ?_
            exact v_top (by rw [if_neg z10, if_neg z11]; first | done | rfl) hj
def rX11_fitsWith : Room := { frames := 5, cells := 0, slots := 0, locals := 139 }
def fX11_fitsWith_L73 (a1 : Int32) (a4 : Bool) (u : Mem) : Nat → Int32 → Option (Bool × Mem)
  | 0, _ => none
  | t + 1, a5 => (if (u.1 (176 + 2 * 0) 5) ≤ a5 then (some (true, u)) else (if inB a5 20 then (if (u.1 189 a5.toNatClampNeg) = a1 then ((fX11_agrees a5 a4 u).bind fun r18 => (if r18 = true then fX11_fitsWith_L73 a1 a4 u t (a5 + 1) else (some (false, u)))) else fX11_fitsWith_L73 a1 a4 u t (a5 + 1)) else none))
def fX11_fitsWith_J57 (a1 : Int32) (u : Mem) : Option (Bool × Mem) := ((fX9_listen u).bind fun q14 => fX11_fitsWith_L73 a1 q14.1 q14.2 fu0 0)
def fX11_fitsWith (a1 : Int32) (a2 : Int32) (a3 : Bool) (u : Mem) : Option (Bool × Mem) := (if inB a1 2 then ((fX11_lawsNow u).bind fun r3 => ((fX2_settle (2 * 0 + a1.toNatClampNeg) r3 a2 u).bind fun u5 => (if (u5.1 195 10) = 0 then (some (false, u5)) else (if a3 = true then (if inB a1 2 then ((fX11_lawsNow u5).bind fun r10 => ((fX2_shine (2 * 0 + a1.toNatClampNeg) r10 u5).bind fun u12 => fX11_fitsWith_J57 a1 u12)) else none) else fX11_fitsWith_J57 a1 u5)))) else none)
set_option maxHeartbeats 4000000 in
set_option maxRecDepth 100000 in
theorem kX11_fitsWith_L73 {l : Launch} {D : va_G} {cy : Nat → ClassId} {ad : Nat → Nat} {p : Program} {e : Env} {s : State} {m : MethodId} {args : Array Value} {below : List Frame} {meth : Method} {c : Code} (C : Cx nX D cy ad 6 cX11_fitsWith RX11 rX11_fitsWith p s m args c) (hr : meth.sig.returnType = some .boolean) (hlk : meth.locks = false) (a1 : Int32) (a4 : Bool)  (u : Mem) {out : (Bool × Mem)}  : ∀ (t : Nat) (a5 : Int32), fX11_fitsWith_L73 a1 a4 u t a5 = some out → V shX nX D cy ad 6 p l e rX11_fitsWith s m args below meth c (MQ below (qI shX nX D cy ad (bz out.1) out.2) args s 0 0 (rA ad nX)) 73 [(0, .ref (ad 180)), (1, .int a1), (4, .int (bz a4)), (5, .int a5)] [] u := by
  intro t
  induction t with
  | zero => intro a5 h; rw [fX11_fitsWith_L73] at h; cases h
  | succ t ih =>
    intro a5 h
    rw [fX11_fitsWith_L73] at h
    refine v_iload C 3 dX11_fitsWith_73 rfl ?_
    refine v_aload_n C 0 dX11_fitsWith_75 rfl rfl ?_
    refine v_getr C pX_180 fd_X11_35 rfl dX11_fitsWith_76 ?_
    refine v_geti C (pW_0 0 (by decide)) fd_X11_272 rfl dX11_fitsWith_79 ?_
    refine v_icmp_ge C 118 dX11_fitsWith_82 (by decide) h (fun h => ?_) (fun h => ?_)
    · refine v_iconst C (v := 1) dX11_fitsWith_118 (by decide) ?_
      cases h
      exact v_zret (b := true) C hr hlk dX11_fitsWith_119
    · refine v_aload_n C 0 dX11_fitsWith_85 rfl rfl ?_
      refine v_getr C pX_180 fd_X11_52 rfl dX11_fitsWith_86 ?_
      refine v_getr C pX_188 fd_X11_274 rfl dX11_fitsWith_89 ?_
      refine v_iload C 3 dX11_fitsWith_92 rfl ?_
      refine v_iald C pX_189 dX11_fitsWith_94 h (fun h => ?_)
      refine v_iload_n C 1 dX11_fitsWith_95 rfl rfl ?_
      refine v_icmp_ne C 112 dX11_fitsWith_96 (by decide) h (fun h => ?_) (fun h => ?_)
      · refine v_aload_n C 0 dX11_fitsWith_99 rfl rfl ?_
        refine v_iload C 3 dX11_fitsWith_100 rfl ?_
        refine v_iload C 2 dX11_fitsWith_102 rfl ?_
        obtain ⟨r18, hc17, h⟩ := bnd h
        refine v_callVi C [.int a5, .int (bz a4)] (cX11_agrees_ct l D cy ad a5 a4 u r18 hc17) ml_X11_308 pX_180 ⟨Nat.le_of_ble_eq_true rfl, Nat.le_of_ble_eq_true rfl⟩ ⟨rfl, rfl⟩ rfl rfl (Nat.le_of_ble_eq_true rfl) dX11_fitsWith_104 ?_
        refine v_z_ne C 112 dX11_fitsWith_107 (by decide) h (fun h => ?_) (fun h => ?_)
        · refine v_iinc C 3 (v := a5 + 1) [(5, .int (a5 + 1)), (0, .ref (ad 180)), (1, .int a1), (4, .int (bz a4))] dX11_fitsWith_112 rfl rfl (by decide) rfl ?_
          refine v_goto C 73 dX11_fitsWith_115 (by decide) ?_
          refine v_sub [1, 2, 3, 0] rfl ?_
          exact ih (a5 + 1) h
        · refine v_iconst C (v := 0) dX11_fitsWith_110 (by decide) ?_
          cases h
          exact v_zret (b := false) C hr hlk dX11_fitsWith_111
      · refine v_iinc C 3 (v := a5 + 1) [(5, .int (a5 + 1)), (0, .ref (ad 180)), (1, .int a1), (4, .int (bz a4))] dX11_fitsWith_112 rfl rfl (by decide) rfl ?_
        refine v_goto C 73 dX11_fitsWith_115 (by decide) ?_
        refine v_sub [1, 2, 3, 0] rfl ?_
        exact ih (a5 + 1) h
set_option maxHeartbeats 4000000 in
set_option maxRecDepth 100000 in
theorem kX11_fitsWith_J57 {l : Launch} {D : va_G} {cy : Nat → ClassId} {ad : Nat → Nat} {p : Program} {e : Env} {s : State} {m : MethodId} {args : Array Value} {below : List Frame} {meth : Method} {c : Code} (C : Cx nX D cy ad 6 cX11_fitsWith RX11 rX11_fitsWith p s m args c) (hr : meth.sig.returnType = some .boolean) (hlk : meth.locks = false) {out : (Bool × Mem)}  (a1 : Int32) (u : Mem)   (h : fX11_fitsWith_J57 a1 u = some out) : V shX nX D cy ad 6 p l e rX11_fitsWith s m args below meth c (MQ below (qI shX nX D cy ad (bz out.1) out.2) args s 0 0 (rA ad nX)) 57 [(0, .ref (ad 180)), (1, .int a1)] [] u := by
  unfold fX11_fitsWith_J57 at h
  refine v_aload_n C 0 dX11_fitsWith_57 rfl rfl ?_
  refine v_getr C pX_180 fd_X11_73 rfl dX11_fitsWith_58 ?_
  refine v_aload_n C 0 dX11_fitsWith_61 rfl rfl ?_
  refine v_getr C pX_180 fd_X11_66 rfl dX11_fitsWith_62 ?_
  obtain ⟨q14, hc13, h⟩ := bnd h
  refine v_callVi C [.ref (ad 195)] (cX9_listen_ct l D cy ad u q14 hc13) ml_X11_304 pX_207 ⟨Nat.le_of_ble_eq_true rfl, Nat.le_of_ble_eq_true rfl⟩ ⟨rfl, rfl⟩ rfl rfl (Nat.le_of_ble_eq_true rfl) dX11_fitsWith_65 ?_
  refine v_istore C [(4, .int (bz q14.1)), (0, .ref (ad 180)), (1, .int a1)] dX11_fitsWith_68 (by decide) rfl ?_
  refine v_iconst C (v := 0) dX11_fitsWith_70 (by decide) ?_
  refine v_istore C [(5, .int 0), (4, .int (bz q14.1)), (0, .ref (ad 180)), (1, .int a1)] dX11_fitsWith_71 (by decide) rfl ?_
  refine v_sub [2, 3, 1, 0] rfl ?_
  refine kX11_fitsWith_L73 C hr hlk a1 q14.1 q14.2   fu0 0 h
set_option maxHeartbeats 4000000 in
set_option maxRecDepth 100000 in
theorem cX11_fitsWith_ct (l : Launch) (D : va_G) (cy : Nat → ClassId) (ad : Nat → Nat) (a1 : Int32) (a2 : Int32) (a3 : Bool) (u : Mem)  (out : (Bool × Mem)) (h : fX11_fitsWith a1 a2 a3 u = some out) : Met l yX11_fitsWith (.code yX11_fitsWith cX11_fitsWith 6 (some .boolean) :: gw) rX11_fitsWith (va_Pc [.ref (ad 180), .int a1, .int a2, .int (bz a3)] (wv shX nX D cy ad u)) (qI shX nX D cy ad (bz out.1) out.2) 0 0 (rA ad nX) := by
  refine met_of (cc := cX11_fitsWith) (nL := 6) (by decide) (Nat.le_of_ble_eq_true rfl) (fun p e s m below meth c C hr hlk => ?_)
  unfold fX11_fitsWith at h
  show V shX nX D cy ad 6 p l e rX11_fitsWith s m _ below meth c (MQ below (qI shX nX D cy ad (bz out.1) out.2) _ s 0 0 (rA ad nX)) 0 [(0, .ref (ad 180)), (1, .int a1), (2, .int a2), (3, .int (bz a3))] [] u
  refine v_aload_n C 0 dX11_fitsWith_0 rfl rfl ?_
  refine v_getr C pX_180 fd_X11_66 rfl dX11_fitsWith_1 ?_
  refine v_aload_n C 0 dX11_fitsWith_4 rfl rfl ?_
  refine v_getr C pX_180 fd_X11_35 rfl dX11_fitsWith_5 ?_
  refine v_getr C (pW_0 0 (by decide)) fd_X11_145 rfl dX11_fitsWith_8 ?_
  refine v_iload_n C 1 dX11_fitsWith_11 rfl rfl ?_
  have hb1 := chk1 h
  refine v_aald5 C (pW_1 0 (by decide)) dX11_fitsWith_12 h (fun h => ?_)
  refine v_aload_n C 0 dX11_fitsWith_13 rfl rfl ?_
  obtain ⟨r3, hc2, h⟩ := bnd h
  refine v_callVa C [] (cX11_lawsNow_ct l D cy ad u r3 hc2) ml_X11_121 pX_180 ⟨Nat.le_of_ble_eq_true rfl, Nat.le_of_ble_eq_true rfl⟩ ⟨rfl, rfl⟩ rfl rfl (Nat.le_of_ble_eq_true rfl) dX11_fitsWith_14 ?_
  refine v_iload_n C 2 dX11_fitsWith_17 rfl rfl ?_
  obtain ⟨u5, hc4, h⟩ := bnd h
  refine v_callVv C [.ref (ad (160 + 4 * (2 * 0 + a1.toNatClampNeg))), .ref (ad (5 * r3)), .int a2] (cX2_settle_ct l D cy ad (2 * 0 + a1.toNatClampNeg) r3 a2 u (lt24 (by decide) (inB_lt hb1)) (iX11_lawsNow_lt hc2) u5 hc4) ml_X11_300 pX_195 ⟨Nat.le_of_ble_eq_true rfl, Nat.le_of_ble_eq_true rfl⟩ ⟨rfl, rfl⟩ rfl rfl (Nat.le_of_ble_eq_true rfl) dX11_fitsWith_18 ?_
  refine v_aload_n C 0 dX11_fitsWith_21 rfl rfl ?_
  refine v_getr C pX_180 fd_X11_66 rfl dX11_fitsWith_22 ?_
  refine v_geti C pX_195 fd_X11_223 rfl dX11_fitsWith_25 ?_
  refine v_if_ne C 33 dX11_fitsWith_28 (by decide) h (fun h => ?_) (fun h => ?_)
  · refine v_iconst C (v := 0) dX11_fitsWith_31 (by decide) ?_
    cases h
    exact v_zret (b := false) C hr hlk dX11_fitsWith_32
  · refine v_iload_n C 3 dX11_fitsWith_33 rfl rfl ?_
    refine v_z_eq C 57 dX11_fitsWith_34 (by decide) h (fun h => ?_) (fun h => ?_)
    · refine v_aload_n C 0 dX11_fitsWith_37 rfl rfl ?_
      refine v_getr C pX_180 fd_X11_66 rfl dX11_fitsWith_38 ?_
      refine v_aload_n C 0 dX11_fitsWith_41 rfl rfl ?_
      refine v_getr C pX_180 fd_X11_35 rfl dX11_fitsWith_42 ?_
      refine v_getr C (pW_0 0 (by decide)) fd_X11_145 rfl dX11_fitsWith_45 ?_
      refine v_iload_n C 1 dX11_fitsWith_48 rfl rfl ?_
      have hb8 := chk1 h
      refine v_aald5 C (pW_1 0 (by decide)) dX11_fitsWith_49 h (fun h => ?_)
      refine v_aload_n C 0 dX11_fitsWith_50 rfl rfl ?_
      obtain ⟨r10, hc9, h⟩ := bnd h
      refine v_callVa C [] (cX11_lawsNow_ct l D cy ad u5 r10 hc9) ml_X11_121 pX_180 ⟨Nat.le_of_ble_eq_true rfl, Nat.le_of_ble_eq_true rfl⟩ ⟨rfl, rfl⟩ rfl rfl (Nat.le_of_ble_eq_true rfl) dX11_fitsWith_51 ?_
      obtain ⟨u12, hc11, h⟩ := bnd h
      refine v_callVv C [.ref (ad (160 + 4 * (2 * 0 + a1.toNatClampNeg))), .ref (ad (5 * r10))] (cX2_shine_ct l D cy ad (2 * 0 + a1.toNatClampNeg) r10 u5 (lt24 (by decide) (inB_lt hb8)) (iX11_lawsNow_lt hc9) u12 hc11) ml_X11_189 pX_195 ⟨Nat.le_of_ble_eq_true rfl, Nat.le_of_ble_eq_true rfl⟩ ⟨rfl, rfl⟩ rfl rfl (Nat.le_of_ble_eq_true rfl) dX11_fitsWith_54 ?_
      refine v_sub [0, 1] rfl ?_
      exact kX11_fitsWith_J57 C hr hlk a1 u12 h
    · refine v_sub [0, 1] rfl ?_
      exact kX11_fitsWith_J57 C hr hlk a1 u5 h
def rX11_fits : Room := { frames := 6, cells := 0, slots := 0, locals := 164 }
def fX11_fits_L26 (a1 : Int32) (a2 : Int32) (a3 : Bool) : Nat → Int32 → Int32 → Mem → Option (Int32 × Mem)
  | 0, _, _, _ => none
  | t + 1, a4, a5, u => (if 200 < a5 then (some ((if a2 = (-1) then a4 else (-1)), u)) else ((fX11_fitsWith a1 a5 a3 u).bind fun q12 => (if q12.1 = true then (if a4 = a2 then (some (a5, q12.2)) else fX11_fits_L26 a1 a2 a3 t (a4 + 1) (a5 + 1) q12.2) else fX11_fits_L26 a1 a2 a3 t a4 (a5 + 1) q12.2)))
def fX11_fits (a1 : Int32) (a2 : Int32) (u : Mem) : Option (Int32 × Mem) := ((fX11_isStar a1).bind fun r2 => (if r2 = true then (if (-1) ≤ a2 then ((fX11_sawLight a1 u).bind fun r7 => fX11_fits_L26 a1 a2 r7 fu0 0 1 u) else (some ((-1), u))) else (some ((-1), u))))
set_option maxHeartbeats 4000000 in
set_option maxRecDepth 100000 in
theorem kX11_fits_L26 {l : Launch} {D : va_G} {cy : Nat → ClassId} {ad : Nat → Nat} {p : Program} {e : Env} {s : State} {m : MethodId} {args : Array Value} {below : List Frame} {meth : Method} {c : Code} (C : Cx nX D cy ad 6 cX11_fits RX11 rX11_fits p s m args c) (hr : meth.sig.returnType = some .int) (hlk : meth.locks = false) (a1 : Int32) (a2 : Int32) (a3 : Bool)  {out : (Int32 × Mem)}  : ∀ (t : Nat) (a4 : Int32) (a5 : Int32) (u : Mem), fX11_fits_L26 a1 a2 a3 t a4 a5 u = some out → V shX nX D cy ad 6 p l e rX11_fits s m args below meth c (MQ below (qI shX nX D cy ad out.1 out.2) args s 0 0 (rA ad nX)) 26 [(0, .ref (ad 180)), (1, .int a1), (2, .int a2), (3, .int (bz a3)), (4, .int a4), (5, .int a5)] [] u := by
  intro t
  induction t with
  | zero => intro a4 a5 u h; rw [fX11_fits_L26] at h; cases h
  | succ t ih =>
    intro a4 a5 u h
    rw [fX11_fits_L26] at h
    refine v_iload C 5 dX11_fits_26 rfl ?_
    refine v_sipush C (v := 200) dX11_fits_28 (by decide) ?_
    refine v_icmp_gt C 63 dX11_fits_31 (by decide) h (fun h => ?_) (fun h => ?_)
    · refine v_iload_n C 2 dX11_fits_63 rfl rfl ?_
      refine v_iconst C (v := (-1)) dX11_fits_64 (by decide) ?_
      refine v_dia 74 (.int (if a2 = (-1) then a4 else (-1))) [] ?_ (fun hj => ?_)
      · cases h
        exact v_iret C hr hlk dX11_fits_74
      · refine p_icmp_ne C 73 dX11_fits_65 (by decide) (fun z10 => ?_) (fun z10 => ?_)
        · refine v_iload C 4 dX11_fits_68 rfl ?_
          refine v_goto C 74 dX11_fits_70 (by decide) ?_
          exact v_top (by rw [if_pos z10]; first | done | rfl) hj
        · refine v_iconst C (v := (-1)) dX11_fits_73 (by decide) ?_
          exact v_top (by rw [if_neg z10]; first | done | rfl) hj
    · refine v_aload_n C 0 dX11_fits_34 rfl rfl ?_
      refine v_iload_n C 1 dX11_fits_35 rfl rfl ?_
      refine v_iload C 5 dX11_fits_36 rfl ?_
      refine v_iload_n C 3 dX11_fits_38 rfl rfl ?_
      obtain ⟨q12, hc11, h⟩ := bnd h
      refine v_callVi C [.int a1, .int a5, .int (bz a3)] (cX11_fitsWith_ct l D cy ad a1 a5 a3 u q12 hc11) ml_X11_287 pX_180 ⟨Nat.le_of_ble_eq_true rfl, Nat.le_of_ble_eq_true rfl⟩ ⟨rfl, rfl⟩ rfl rfl (Nat.le_of_ble_eq_true rfl) dX11_fits_39 ?_
      refine v_z_eq C 57 dX11_fits_42 (by decide) h (fun h => ?_) (fun h => ?_)
      · refine v_iload C 4 dX11_fits_45 rfl ?_
        refine v_iload_n C 2 dX11_fits_47 rfl rfl ?_
        refine v_icmp_ne C 54 dX11_fits_48 (by decide) h (fun h => ?_) (fun h => ?_)
        · refine v_iload C 5 dX11_fits_51 rfl ?_
          cases h
          exact v_iret C hr hlk dX11_fits_53
        · refine v_iinc C 4 (v := a4 + 1) [(4, .int (a4 + 1)), (0, .ref (ad 180)), (1, .int a1), (2, .int a2), (3, .int (bz a3)), (5, .int a5)] dX11_fits_54 rfl rfl (by decide) rfl ?_
          refine v_iinc C 5 (v := a5 + 1) [(5, .int (a5 + 1)), (4, .int (a4 + 1)), (0, .ref (ad 180)), (1, .int a1), (2, .int a2), (3, .int (bz a3))] dX11_fits_57 rfl rfl (by decide) rfl ?_
          refine v_goto C 26 dX11_fits_60 (by decide) ?_
          refine v_sub [2, 3, 4, 5, 1, 0] rfl ?_
          exact ih (a4 + 1) (a5 + 1) q12.2 h
      · refine v_iinc C 5 (v := a5 + 1) [(5, .int (a5 + 1)), (0, .ref (ad 180)), (1, .int a1), (2, .int a2), (3, .int (bz a3)), (4, .int a4)] dX11_fits_57 rfl rfl (by decide) rfl ?_
        refine v_goto C 26 dX11_fits_60 (by decide) ?_
        refine v_sub [1, 2, 3, 4, 5, 0] rfl ?_
        exact ih a4 (a5 + 1) q12.2 h
set_option maxHeartbeats 4000000 in
set_option maxRecDepth 100000 in
theorem cX11_fits_ct (l : Launch) (D : va_G) (cy : Nat → ClassId) (ad : Nat → Nat) (a1 : Int32) (a2 : Int32) (u : Mem)  (out : (Int32 × Mem)) (h : fX11_fits a1 a2 u = some out) : Met l yX11_fits (.code yX11_fits cX11_fits 6 (some .int) :: gw) rX11_fits (va_Pc [.ref (ad 180), .int a1, .int a2] (wv shX nX D cy ad u)) (qI shX nX D cy ad out.1 out.2) 0 0 (rA ad nX) := by
  refine met_of (cc := cX11_fits) (nL := 6) (by decide) (Nat.le_of_ble_eq_true rfl) (fun p e s m below meth c C hr hlk => ?_)
  unfold fX11_fits at h
  show V shX nX D cy ad 6 p l e rX11_fits s m _ below meth c (MQ below (qI shX nX D cy ad out.1 out.2) _ s 0 0 (rA ad nX)) 0 [(0, .ref (ad 180)), (1, .int a1), (2, .int a2)] [] u
  refine v_iload_n C 1 dX11_fits_0 rfl rfl ?_
  obtain ⟨r2, hc1, h⟩ := bnd h
  refine v_callSi C [.int a1] (cX11_isStar_ct l D cy ad a1 _ r2 hc1) ml_X11_142 ⟨Nat.le_of_ble_eq_true rfl, Nat.le_of_ble_eq_true rfl⟩ ⟨rfl, rfl⟩ rfl rfl (Nat.le_of_ble_eq_true rfl) dX11_fits_1 ?_
  refine v_z_eq C 12 dX11_fits_4 (by decide) h (fun h => ?_) (fun h => ?_)
  · refine v_iload_n C 2 dX11_fits_7 rfl rfl ?_
    refine v_iconst C (v := (-1)) dX11_fits_8 (by decide) ?_
    refine v_icmp_ge C 14 dX11_fits_9 (by decide) h (fun h => ?_) (fun h => ?_)
    · refine v_aload_n C 0 dX11_fits_14 rfl rfl ?_
      refine v_iload_n C 1 dX11_fits_15 rfl rfl ?_
      obtain ⟨r7, hc6, h⟩ := bnd h
      refine v_callVi C [.int a1] (cX11_sawLight_ct l D cy ad a1 u r7 hc6) ml_X11_284 pX_180 ⟨Nat.le_of_ble_eq_true rfl, Nat.le_of_ble_eq_true rfl⟩ ⟨rfl, rfl⟩ rfl rfl (Nat.le_of_ble_eq_true rfl) dX11_fits_16 ?_
      refine v_istore_n C [(3, .int (bz r7)), (0, .ref (ad 180)), (1, .int a1), (2, .int a2)] dX11_fits_19 rfl (by decide) rfl ?_
      refine v_iconst C (v := 0) dX11_fits_20 (by decide) ?_
      refine v_istore C [(4, .int 0), (3, .int (bz r7)), (0, .ref (ad 180)), (1, .int a1), (2, .int a2)] dX11_fits_21 (by decide) rfl ?_
      refine v_iconst C (v := 1) dX11_fits_23 (by decide) ?_
      refine v_istore C [(5, .int 1), (4, .int 0), (3, .int (bz r7)), (0, .ref (ad 180)), (1, .int a1), (2, .int a2)] dX11_fits_24 (by decide) rfl ?_
      refine v_sub [3, 4, 5, 2, 1, 0] rfl ?_
      refine kX11_fits_L26 C hr hlk a1 a2 r7   fu0 0 1 u h
    · refine v_iconst C (v := (-1)) dX11_fits_12 (by decide) ?_
      cases h
      exact v_iret C hr hlk dX11_fits_13
  · refine v_iconst C (v := (-1)) dX11_fits_12 (by decide) ?_
    cases h
    exact v_iret C hr hlk dX11_fits_13
def rX11_image : Room := { frames := 3, cells := 0, slots := 0, locals := 83 }
def fX11_image (u : Mem) : Option (Int32 × Mem) := ((fX10_copyFrom 1 0 u).bind fun u2 => (some (u2.1 (176 + 2 * 0) 1, u2)))
set_option maxHeartbeats 4000000 in
set_option maxRecDepth 100000 in
theorem cX11_image_ct (l : Launch) (D : va_G) (cy : Nat → ClassId) (ad : Nat → Nat) (u : Mem)  (out : (Int32 × Mem)) (h : fX11_image u = some out) : Met l yX11_image (.code yX11_image cX11_image 1 (some .int) :: gw) rX11_image (va_Pc [.ref (ad 180)] (wv shX nX D cy ad u)) (qI shX nX D cy ad out.1 out.2) 0 0 (rA ad nX) := by
  refine met_of (cc := cX11_image) (nL := 1) (by decide) (Nat.le_of_ble_eq_true rfl) (fun p e s m below meth c C hr hlk => ?_)
  unfold fX11_image at h
  show V shX nX D cy ad 1 p l e rX11_image s m _ below meth c (MQ below (qI shX nX D cy ad out.1 out.2) _ s 0 0 (rA ad nX)) 0 [(0, .ref (ad 180))] [] u
  refine v_aload_n C 0 dX11_image_0 rfl rfl ?_
  refine v_getr C pX_180 fd_X11_39 rfl dX11_image_1 ?_
  refine v_aload_n C 0 dX11_image_4 rfl rfl ?_
  refine v_getr C pX_180 fd_X11_35 rfl dX11_image_5 ?_
  obtain ⟨u2, hc1, h⟩ := bnd h
  refine v_callVv C [.ref (ad (176 + 2 * 0))] (cX10_copyFrom_ct l D cy ad 1 0 u (by decide) (by decide) u2 hc1) ml_X11_291 (pW_0 1 (by decide)) ⟨Nat.le_of_ble_eq_true rfl, Nat.le_of_ble_eq_true rfl⟩ ⟨rfl, rfl⟩ rfl rfl (Nat.le_of_ble_eq_true rfl) dX11_image_8 ?_
  refine v_aload_n C 0 dX11_image_11 rfl rfl ?_
  refine v_getr C pX_180 fd_X11_35 rfl dX11_image_12 ?_
  refine v_geti C (pW_0 0 (by decide)) fd_X11_93 rfl dX11_image_15 ?_
  cases h
  exact v_iret C hr hlk dX11_image_18
def rX11_back : Room := { frames := 3, cells := 0, slots := 0, locals := 83 }
def fX11_back (u : Mem) : Option (Int32 × Mem) := ((fX10_copyFrom 0 1 u).bind fun u2 => (some (u2.1 (176 + 2 * 0) 1, u2)))
set_option maxHeartbeats 4000000 in
set_option maxRecDepth 100000 in
theorem cX11_back_ct (l : Launch) (D : va_G) (cy : Nat → ClassId) (ad : Nat → Nat) (u : Mem)  (out : (Int32 × Mem)) (h : fX11_back u = some out) : Met l yX11_back (.code yX11_back cX11_back 1 (some .int) :: gw) rX11_back (va_Pc [.ref (ad 180)] (wv shX nX D cy ad u)) (qI shX nX D cy ad out.1 out.2) 0 0 (rA ad nX) := by
  refine met_of (cc := cX11_back) (nL := 1) (by decide) (Nat.le_of_ble_eq_true rfl) (fun p e s m below meth c C hr hlk => ?_)
  unfold fX11_back at h
  show V shX nX D cy ad 1 p l e rX11_back s m _ below meth c (MQ below (qI shX nX D cy ad out.1 out.2) _ s 0 0 (rA ad nX)) 0 [(0, .ref (ad 180))] [] u
  refine v_aload_n C 0 dX11_back_0 rfl rfl ?_
  refine v_getr C pX_180 fd_X11_35 rfl dX11_back_1 ?_
  refine v_aload_n C 0 dX11_back_4 rfl rfl ?_
  refine v_getr C pX_180 fd_X11_39 rfl dX11_back_5 ?_
  obtain ⟨u2, hc1, h⟩ := bnd h
  refine v_callVv C [.ref (ad (176 + 2 * 1))] (cX10_copyFrom_ct l D cy ad 0 1 u (by decide) (by decide) u2 hc1) ml_X11_291 (pW_0 0 (by decide)) ⟨Nat.le_of_ble_eq_true rfl, Nat.le_of_ble_eq_true rfl⟩ ⟨rfl, rfl⟩ rfl rfl (Nat.le_of_ble_eq_true rfl) dX11_back_8 ?_
  refine v_aload_n C 0 dX11_back_11 rfl rfl ?_
  refine v_getr C pX_180 fd_X11_35 rfl dX11_back_12 ?_
  refine v_geti C (pW_0 0 (by decide)) fd_X11_93 rfl dX11_back_15 ?_
  cases h
  exact v_iret C hr hlk dX11_back_18
def rX11_about : Room := { frames := 0, cells := 0, slots := 0, locals := 0 }
def fX11_about (a1 : Int32) (u : Mem) : Option Int32 := (if a1 = 0 then (some (u.1 (176 + 2 * 0) 1)) else (if a1 = 1 then (some (u.1 (176 + 2 * 0) 2)) else (if a1 = 2 then (if inB (a1 - 2) 2 then (some (u.1 (160 + 4 * (2 * 0 + (a1 - 2).toNatClampNeg)) 3)) else none) else (if a1 = 3 then (if inB (a1 - 2) 2 then (some (u.1 (160 + 4 * (2 * 0 + (a1 - 2).toNatClampNeg)) 3)) else none) else (if a1 = 4 then (some (u.1 (176 + 2 * 0) 3)) else (if a1 = 5 then (some (u.1 (176 + 2 * 0) 4)) else (if a1 = 6 then (some (u.1 (176 + 2 * 0) 5)) else (if a1 = 7 then (some (u.1 182 1)) else (if a1 = 8 then (if inB (u.1 (176 + 2 * 0) 1) 31 then (some (u.1 (5 * ((u.1 (176 + 2 * 0) 1).toNatClampNeg)) 4)) else none) else (if a1 = 10 then (if inB (a1 - 10) 2 then (some (u.1 (160 + 4 * (2 * 0 + (a1 - 10).toNatClampNeg)) 4)) else none) else (if a1 = 11 then (if inB (a1 - 10) 2 then (some (u.1 (160 + 4 * (2 * 0 + (a1 - 10).toNatClampNeg)) 4)) else none) else (if a1 = 20 then (if inB (a1 - 20) 2 then (some (u.1 (160 + 4 * (2 * 0 + (a1 - 20).toNatClampNeg)) 5)) else none) else (if a1 = 21 then (if inB (a1 - 20) 2 then (some (u.1 (160 + 4 * (2 * 0 + (a1 - 20).toNatClampNeg)) 5)) else none) else (some (-1)))))))))))))))
set_option maxHeartbeats 4000000 in
set_option maxRecDepth 100000 in
theorem cX11_about_ct (l : Launch) (D : va_G) (cy : Nat → ClassId) (ad : Nat → Nat) (a1 : Int32) (u : Mem)  (out : Int32) (h : fX11_about a1 u = some out) : Met l yX11_about (.code yX11_about cX11_about 2 (some .int) :: gw) rX11_about (va_Pc [.ref (ad 180), .int a1] (wv shX nX D cy ad u)) (qI shX nX D cy ad out u) 0 0 (rA ad nX) := by
  refine met_of (cc := cX11_about) (nL := 2) (by decide) (Nat.le_of_ble_eq_true rfl) (fun p e s m below meth c C hr hlk => ?_)
  unfold fX11_about at h
  show V shX nX D cy ad 2 p l e rX11_about s m _ below meth c (MQ below (qI shX nX D cy ad out u) _ s 0 0 (rA ad nX)) 0 [(0, .ref (ad 180)), (1, .int a1)] [] u
  refine v_iload_n C 1 dX11_about_0 rfl rfl ?_
  by_cases z0 : a1 = 0
  · rw [if_pos z0] at h
    refine v_tabIn C 104 (k0 := 0) z0 dX11_about_1 (by decide) (by decide) (by decide) (by decide) ?_
    refine v_aload_n C 0 dX11_about_104 rfl rfl ?_
    refine v_getr C pX_180 fd_X11_35 rfl dX11_about_105 ?_
    refine v_geti C (pW_0 0 (by decide)) fd_X11_93 rfl dX11_about_108 ?_
    cases h
    exact v_iret C hr hlk dX11_about_111
  rw [if_neg z0] at h
  by_cases z1 : a1 = 1
  · rw [if_pos z1] at h
    refine v_tabIn C 112 (k0 := 1) z1 dX11_about_1 (by decide) (by decide) (by decide) (by decide) ?_
    refine v_aload_n C 0 dX11_about_112 rfl rfl ?_
    refine v_getr C pX_180 fd_X11_35 rfl dX11_about_113 ?_
    refine v_geti C (pW_0 0 (by decide)) fd_X11_104 rfl dX11_about_116 ?_
    cases h
    exact v_iret C hr hlk dX11_about_119
  rw [if_neg z1] at h
  by_cases z2 : a1 = 2
  · rw [if_pos z2] at h
    refine v_tabIn C 120 (k0 := 2) z2 dX11_about_1 (by decide) (by decide) (by decide) (by decide) ?_
    refine v_aload_n C 0 dX11_about_120 rfl rfl ?_
    refine v_getr C pX_180 fd_X11_35 rfl dX11_about_121 ?_
    refine v_getr C (pW_0 0 (by decide)) fd_X11_145 rfl dX11_about_124 ?_
    refine v_iload_n C 1 dX11_about_127 rfl rfl ?_
    refine v_iconst C (v := 2) dX11_about_128 (by decide) ?_
    refine v_isub C dX11_about_129 ?_
    have hb1 := chk1 h
    refine v_aald5 C (pW_1 0 (by decide)) dX11_about_130 h (fun h => ?_)
    refine v_geti C (pS_0 (2 * 0 + (a1 - 2).toNatClampNeg) (lt24 (by decide) (inB_lt hb1))) fd_X11_149 rfl dX11_about_131 ?_
    cases h
    exact v_iret C hr hlk dX11_about_134
  rw [if_neg z2] at h
  by_cases z3 : a1 = 3
  · rw [if_pos z3] at h
    refine v_tabIn C 120 (k0 := 3) z3 dX11_about_1 (by decide) (by decide) (by decide) (by decide) ?_
    refine v_aload_n C 0 dX11_about_120 rfl rfl ?_
    refine v_getr C pX_180 fd_X11_35 rfl dX11_about_121 ?_
    refine v_getr C (pW_0 0 (by decide)) fd_X11_145 rfl dX11_about_124 ?_
    refine v_iload_n C 1 dX11_about_127 rfl rfl ?_
    refine v_iconst C (v := 2) dX11_about_128 (by decide) ?_
    refine v_isub C dX11_about_129 ?_
    have hb2 := chk1 h
    refine v_aald5 C (pW_1 0 (by decide)) dX11_about_130 h (fun h => ?_)
    refine v_geti C (pS_0 (2 * 0 + (a1 - 2).toNatClampNeg) (lt24 (by decide) (inB_lt hb2))) fd_X11_149 rfl dX11_about_131 ?_
    cases h
    exact v_iret C hr hlk dX11_about_134
  rw [if_neg z3] at h
  by_cases z4 : a1 = 4
  · rw [if_pos z4] at h
    refine v_tabIn C 135 (k0 := 4) z4 dX11_about_1 (by decide) (by decide) (by decide) (by decide) ?_
    refine v_aload_n C 0 dX11_about_135 rfl rfl ?_
    refine v_getr C pX_180 fd_X11_35 rfl dX11_about_136 ?_
    refine v_geti C (pW_0 0 (by decide)) fd_X11_294 rfl dX11_about_139 ?_
    cases h
    exact v_iret C hr hlk dX11_about_142
  rw [if_neg z4] at h
  by_cases z5 : a1 = 5
  · rw [if_pos z5] at h
    refine v_tabIn C 143 (k0 := 5) z5 dX11_about_1 (by decide) (by decide) (by decide) (by decide) ?_
    refine v_aload_n C 0 dX11_about_143 rfl rfl ?_
    refine v_getr C pX_180 fd_X11_35 rfl dX11_about_144 ?_
    refine v_geti C (pW_0 0 (by decide)) fd_X11_229 rfl dX11_about_147 ?_
    cases h
    exact v_iret C hr hlk dX11_about_150
  rw [if_neg z5] at h
  by_cases z6 : a1 = 6
  · rw [if_pos z6] at h
    refine v_tabIn C 151 (k0 := 6) z6 dX11_about_1 (by decide) (by decide) (by decide) (by decide) ?_
    refine v_aload_n C 0 dX11_about_151 rfl rfl ?_
    refine v_getr C pX_180 fd_X11_35 rfl dX11_about_152 ?_
    refine v_geti C (pW_0 0 (by decide)) fd_X11_272 rfl dX11_about_155 ?_
    cases h
    exact v_iret C hr hlk dX11_about_158
  rw [if_neg z6] at h
  by_cases z7 : a1 = 7
  · rw [if_pos z7] at h
    refine v_tabIn C 159 (k0 := 7) z7 dX11_about_1 (by decide) (by decide) (by decide) (by decide) ?_
    refine v_aload_n C 0 dX11_about_159 rfl rfl ?_
    refine v_getr C pX_180 fd_X11_12 rfl dX11_about_160 ?_
    refine v_geti C pX_182 fd_X11_85 rfl dX11_about_163 ?_
    cases h
    exact v_iret C hr hlk dX11_about_166
  rw [if_neg z7] at h
  by_cases z8 : a1 = 8
  · rw [if_pos z8] at h
    refine v_tabIn C 167 (k0 := 8) z8 dX11_about_1 (by decide) (by decide) (by decide) (by decide) ?_
    refine v_aload_n C 0 dX11_about_167 rfl rfl ?_
    refine v_getr C pX_180 fd_X11_27 rfl dX11_about_168 ?_
    refine v_aload_n C 0 dX11_about_171 rfl rfl ?_
    refine v_getr C pX_180 fd_X11_35 rfl dX11_about_172 ?_
    refine v_geti C (pW_0 0 (by decide)) fd_X11_93 rfl dX11_about_175 ?_
    have hb3 := chk1 h
    refine v_aald4 C pX_181 dX11_about_178 h (fun h => ?_)
    refine v_geti C (pL_0 ((u.1 (176 + 2 * 0) 1).toNatClampNeg) (Nat.lt_trans (inB_lt hb3) (by decide))) fd_X11_297 rfl dX11_about_179 ?_
    cases h
    exact v_iret C hr hlk dX11_about_182
  rw [if_neg z8] at h
  by_cases z10 : a1 = 10
  · rw [if_pos z10] at h
    refine v_tabIn C 183 (k0 := 10) z10 dX11_about_1 (by decide) (by decide) (by decide) (by decide) ?_
    refine v_aload_n C 0 dX11_about_183 rfl rfl ?_
    refine v_getr C pX_180 fd_X11_35 rfl dX11_about_184 ?_
    refine v_getr C (pW_0 0 (by decide)) fd_X11_145 rfl dX11_about_187 ?_
    refine v_iload_n C 1 dX11_about_190 rfl rfl ?_
    refine v_bipush C (v := 10) dX11_about_191 (by decide) ?_
    refine v_isub C dX11_about_193 ?_
    have hb4 := chk1 h
    refine v_aald5 C (pW_1 0 (by decide)) dX11_about_194 h (fun h => ?_)
    refine v_geti C (pS_0 (2 * 0 + (a1 - 10).toNatClampNeg) (lt24 (by decide) (inB_lt hb4))) fd_X11_167 rfl dX11_about_195 ?_
    cases h
    exact v_iret C hr hlk dX11_about_198
  rw [if_neg z10] at h
  by_cases z11 : a1 = 11
  · rw [if_pos z11] at h
    refine v_tabIn C 183 (k0 := 11) z11 dX11_about_1 (by decide) (by decide) (by decide) (by decide) ?_
    refine v_aload_n C 0 dX11_about_183 rfl rfl ?_
    refine v_getr C pX_180 fd_X11_35 rfl dX11_about_184 ?_
    refine v_getr C (pW_0 0 (by decide)) fd_X11_145 rfl dX11_about_187 ?_
    refine v_iload_n C 1 dX11_about_190 rfl rfl ?_
    refine v_bipush C (v := 10) dX11_about_191 (by decide) ?_
    refine v_isub C dX11_about_193 ?_
    have hb5 := chk1 h
    refine v_aald5 C (pW_1 0 (by decide)) dX11_about_194 h (fun h => ?_)
    refine v_geti C (pS_0 (2 * 0 + (a1 - 10).toNatClampNeg) (lt24 (by decide) (inB_lt hb5))) fd_X11_167 rfl dX11_about_195 ?_
    cases h
    exact v_iret C hr hlk dX11_about_198
  rw [if_neg z11] at h
  by_cases z20 : a1 = 20
  · rw [if_pos z20] at h
    refine v_tabIn C 199 (k0 := 20) z20 dX11_about_1 (by decide) (by decide) (by decide) (by decide) ?_
    refine v_aload_n C 0 dX11_about_199 rfl rfl ?_
    refine v_getr C pX_180 fd_X11_35 rfl dX11_about_200 ?_
    refine v_getr C (pW_0 0 (by decide)) fd_X11_145 rfl dX11_about_203 ?_
    refine v_iload_n C 1 dX11_about_206 rfl rfl ?_
    refine v_bipush C (v := 20) dX11_about_207 (by decide) ?_
    refine v_isub C dX11_about_209 ?_
    have hb6 := chk1 h
    refine v_aald5 C (pW_1 0 (by decide)) dX11_about_210 h (fun h => ?_)
    refine v_geti C (pS_0 (2 * 0 + (a1 - 20).toNatClampNeg) (lt24 (by decide) (inB_lt hb6))) fd_X11_170 rfl dX11_about_211 ?_
    cases h
    exact v_iret C hr hlk dX11_about_214
  rw [if_neg z20] at h
  by_cases z21 : a1 = 21
  · rw [if_pos z21] at h
    refine v_tabIn C 199 (k0 := 21) z21 dX11_about_1 (by decide) (by decide) (by decide) (by decide) ?_
    refine v_aload_n C 0 dX11_about_199 rfl rfl ?_
    refine v_getr C pX_180 fd_X11_35 rfl dX11_about_200 ?_
    refine v_getr C (pW_0 0 (by decide)) fd_X11_145 rfl dX11_about_203 ?_
    refine v_iload_n C 1 dX11_about_206 rfl rfl ?_
    refine v_bipush C (v := 20) dX11_about_207 (by decide) ?_
    refine v_isub C dX11_about_209 ?_
    have hb7 := chk1 h
    refine v_aald5 C (pW_1 0 (by decide)) dX11_about_210 h (fun h => ?_)
    refine v_geti C (pS_0 (2 * 0 + (a1 - 20).toNatClampNeg) (lt24 (by decide) (inB_lt hb7))) fd_X11_170 rfl dX11_about_211 ?_
    cases h
    exact v_iret C hr hlk dX11_about_214
  rw [if_neg z21] at h
  refine v_dflt 215 ?_ (fun hd0 => ?_)
  · refine v_iconst C (v := (-1)) dX11_about_215 (by decide) ?_
    cases h
    exact v_iret C hr hlk dX11_about_216
  by_cases z9 : a1 = 9
  · exact v_tabIn C 215 (k0 := 9) z9 dX11_about_1 (by decide) (by decide) (by decide) (by decide) hd0
  by_cases z12 : a1 = 12
  · exact v_tabIn C 215 (k0 := 12) z12 dX11_about_1 (by decide) (by decide) (by decide) (by decide) hd0
  by_cases z13 : a1 = 13
  · exact v_tabIn C 215 (k0 := 13) z13 dX11_about_1 (by decide) (by decide) (by decide) (by decide) hd0
  by_cases z14 : a1 = 14
  · exact v_tabIn C 215 (k0 := 14) z14 dX11_about_1 (by decide) (by decide) (by decide) (by decide) hd0
  by_cases z15 : a1 = 15
  · exact v_tabIn C 215 (k0 := 15) z15 dX11_about_1 (by decide) (by decide) (by decide) (by decide) hd0
  by_cases z16 : a1 = 16
  · exact v_tabIn C 215 (k0 := 16) z16 dX11_about_1 (by decide) (by decide) (by decide) (by decide) hd0
  by_cases z17 : a1 = 17
  · exact v_tabIn C 215 (k0 := 17) z17 dX11_about_1 (by decide) (by decide) (by decide) (by decide) hd0
  by_cases z18 : a1 = 18
  · exact v_tabIn C 215 (k0 := 18) z18 dX11_about_1 (by decide) (by decide) (by decide) (by decide) hd0
  by_cases z19 : a1 = 19
  · exact v_tabIn C 215 (k0 := 19) z19 dX11_about_1 (by decide) (by decide) (by decide) (by decide) hd0
  exact v_tabOut C 215 dX11_about_1 (by have n0 := lv_neT z0 (a := 0) (by decide); have n1 := lv_neT z1 (a := 1) (by decide); have n2 := lv_neT z2 (a := 2) (by decide); have n3 := lv_neT z3 (a := 3) (by decide); have n4 := lv_neT z4 (a := 4) (by decide); have n5 := lv_neT z5 (a := 5) (by decide); have n6 := lv_neT z6 (a := 6) (by decide); have n7 := lv_neT z7 (a := 7) (by decide); have n8 := lv_neT z8 (a := 8) (by decide); have n9 := lv_neT z9 (a := 9) (by decide); have n10 := lv_neT z10 (a := 10) (by decide); have n11 := lv_neT z11 (a := 11) (by decide); have n12 := lv_neT z12 (a := 12) (by decide); have n13 := lv_neT z13 (a := 13) (by decide); have n14 := lv_neT z14 (a := 14) (by decide); have n15 := lv_neT z15 (a := 15) (by decide); have n16 := lv_neT z16 (a := 16) (by decide); have n17 := lv_neT z17 (a := 17) (by decide); have n18 := lv_neT z18 (a := 18) (by decide); have n19 := lv_neT z19 (a := 19) (by decide); have n20 := lv_neT z20 (a := 20) (by decide); have n21 := lv_neT z21 (a := 21) (by decide); omega) (by decide) hd0
