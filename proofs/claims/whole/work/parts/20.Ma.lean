def rX12_in : Room := { frames := 0, cells := 0, slots := 0, locals := 0 }
def fX12_in (a0 : Int64) (a2 : Int64) (a4 : Int64) : Option Bool := (some (if a0 < a2 then false else (if a4 < a0 then false else true)))
set_option maxHeartbeats 4000000 in
set_option maxRecDepth 100000 in
theorem cX12_in_ct (l : Launch) (D : va_G) (cy : Nat → ClassId) (ad : Nat → Nat) (a0 : Int64) (a2 : Int64) (a4 : Int64) (u : Mem)  (out : Bool) (h : fX12_in a0 a2 a4 = some out) : Met l yX12_in (.code yX12_in cX12_in 6 (some .boolean) :: gw) rX12_in (va_Pc [.long a0, .long a2, .long a4] (wv shM nM D cy ad u)) (qI shM nM D cy ad (bz out) u) 0 0 (rA ad nM) := by
  refine met_of (cc := cX12_in) (nL := 6) (by decide) (Nat.le_of_ble_eq_true rfl) (fun p e s m below meth c C hr hlk => ?_)
  unfold fX12_in at h
  show V shM nM D cy ad 6 p l e rX12_in s m _ below meth c (MQ below (qI shM nM D cy ad (bz out) u) _ s 0 0 (rA ad nM)) 0 [(0, .long a0), (2, .long a2), (4, .long a4)] [] u
  refine v_lload_n C 0 dX12_in_0 rfl rfl ?_
  refine v_lload_n C 1 dX12_in_1 rfl rfl ?_
  refine v_dia 18 (.int (bz (if a0 < a2 then false else (if a4 < a0 then false else true)))) [] ?_ (fun hj => ?_)
  · cases h
    exact v_zret (b := (if a0 < a2 then false else (if a4 < a0 then false else true))) C hr hlk dX12_in_18
  · refine p_lcmp_lt C 17 dX12_in_2 dX12_in_3 (by decide) (fun z1 => ?_) (fun z1 => ?_)
    · refine v_iconst C (v := 0) dX12_in_17 (by decide) ?_
      exact v_top (by rw [if_pos z1]; first | done | rfl) hj
    · refine v_lload_n C 0 dX12_in_6 rfl rfl ?_
      refine v_lload C 2 dX12_in_7 rfl ?_
      refine p_lcmp_gt C 17 dX12_in_9 dX12_in_10 (by decide) (fun z2 => ?_) (fun z2 => ?_)
      · refine v_iconst C (v := 0) dX12_in_17 (by decide) ?_
        exact v_top (by rw [if_neg z1, if_pos z2]; first | done | rfl) hj
      · refine v_iconst C (v := 1) dX12_in_13 (by decide) ?_
        refine v_goto C 18 dX12_in_14 (by decide) ?_
        exact v_top (by rw [if_neg z1, if_neg z2]; first | done | rfl) hj
def rX12_isStar : Room := { frames := 1, cells := 0, slots := 0, locals := 25 }
def fX12_isStar (a0 : Int32) : Option Bool := ((fX12_in a0.toInt64 0 1).bind fun r2 => (some r2))
set_option maxHeartbeats 4000000 in
set_option maxRecDepth 100000 in
theorem cX12_isStar_ct (l : Launch) (D : va_G) (cy : Nat → ClassId) (ad : Nat → Nat) (a0 : Int32) (u : Mem)  (out : Bool) (h : fX12_isStar a0 = some out) : Met l yX12_isStar (.code yX12_isStar cX12_isStar 1 (some .boolean) :: gw) rX12_isStar (va_Pc [.int a0] (wv shM nM D cy ad u)) (qI shM nM D cy ad (bz out) u) 0 0 (rA ad nM) := by
  refine met_of (cc := cX12_isStar) (nL := 1) (by decide) (Nat.le_of_ble_eq_true rfl) (fun p e s m below meth c C hr hlk => ?_)
  unfold fX12_isStar at h
  show V shM nM D cy ad 1 p l e rX12_isStar s m _ below meth c (MQ below (qI shM nM D cy ad (bz out) u) _ s 0 0 (rA ad nM)) 0 [(0, .int a0)] [] u
  refine v_iload_n C 0 dX12_isStar_0 rfl rfl ?_
  refine v_i2l C dX12_isStar_1 ?_
  refine v_lconst C (v := 0) dX12_isStar_2 (by decide) ?_
  refine v_lconst C (v := 1) dX12_isStar_3 (by decide) ?_
  obtain ⟨r2, hc1, h⟩ := bnd h
  refine v_callSi C [.long a0.toInt64, .long 0, .long 1] (cX12_in_ct l D cy ad a0.toInt64 0 1 _ r2 hc1) ml_X12_78 ⟨Nat.le_of_ble_eq_true rfl, Nat.le_of_ble_eq_true rfl⟩ ⟨rfl, rfl⟩ rfl rfl (Nat.le_of_ble_eq_true rfl) dX12_isStar_4 ?_
  cases h
  exact v_zret C hr hlk dX12_isStar_7
def rX12_isShell : Room := { frames := 2, cells := 0, slots := 0, locals := 45 }
def fX12_isShell (a1 : Int32) (a2 : Int32) (u : Mem) : Option Bool := ((fX12_isStar a1).bind fun r2 => (if r2 = true then (if inB (2 + a1) 8320 then ((fX12_in a2.toInt64 0 (((u.1 1 (2 + a1).toNatClampNeg) - 1).toInt64)).bind fun r5 => (some (if r5 = true then true else false))) else none) else (some false)))
set_option maxHeartbeats 4000000 in
set_option maxRecDepth 100000 in
theorem cX12_isShell_ct (l : Launch) (D : va_G) (cy : Nat → ClassId) (ad : Nat → Nat) (a1 : Int32) (a2 : Int32) (u : Mem)  (out : Bool) (h : fX12_isShell a1 a2 u = some out) : Met l yX12_isShell (.code yX12_isShell cX12_isShell 3 (some .boolean) :: gw) rX12_isShell (va_Pc [.ref (ad 0), .int a1, .int a2] (wv shM nM D cy ad u)) (qI shM nM D cy ad (bz out) u) 0 0 (rA ad nM) := by
  refine met_of (cc := cX12_isShell) (nL := 3) (by decide) (Nat.le_of_ble_eq_true rfl) (fun p e s m below meth c C hr hlk => ?_)
  unfold fX12_isShell at h
  show V shM nM D cy ad 3 p l e rX12_isShell s m _ below meth c (MQ below (qI shM nM D cy ad (bz out) u) _ s 0 0 (rA ad nM)) 0 [(0, .ref (ad 0)), (1, .int a1), (2, .int a2)] [] u
  refine v_iload_n C 1 dX12_isShell_0 rfl rfl ?_
  obtain ⟨r2, hc1, h⟩ := bnd h
  refine v_callSi C [.int a1] (cX12_isStar_ct l D cy ad a1 _ r2 hc1) ml_X12_82 ⟨Nat.le_of_ble_eq_true rfl, Nat.le_of_ble_eq_true rfl⟩ ⟨rfl, rfl⟩ rfl rfl (Nat.le_of_ble_eq_true rfl) dX12_isShell_1 ?_
  refine v_z_eq C 31 dX12_isShell_4 (by decide) h (fun h => ?_) (fun h => ?_)
  · refine v_iload_n C 2 dX12_isShell_7 rfl rfl ?_
    refine v_i2l C dX12_isShell_8 ?_
    refine v_lconst C (v := 0) dX12_isShell_9 (by decide) ?_
    refine v_aload_n C 0 dX12_isShell_10 rfl rfl ?_
    refine v_getr C pM_0 fd_X12_7 rfl dX12_isShell_11 ?_
    refine v_iconst C (v := 2) dX12_isShell_14 (by decide) ?_
    refine v_iload_n C 1 dX12_isShell_15 rfl rfl ?_
    refine v_iadd C dX12_isShell_16 ?_
    refine v_iald C pM_1 dX12_isShell_17 h (fun h => ?_)
    refine v_iconst C (v := 1) dX12_isShell_18 (by decide) ?_
    refine v_isub C dX12_isShell_19 ?_
    refine v_i2l C dX12_isShell_20 ?_
    obtain ⟨r5, hc4, h⟩ := bnd h
    refine v_callSi C [.long a2.toInt64, .long 0, .long (((u.1 1 (2 + a1).toNatClampNeg) - 1).toInt64)] (cX12_in_ct l D cy ad a2.toInt64 0 (((u.1 1 (2 + a1).toNatClampNeg) - 1).toInt64) _ r5 hc4) ml_X12_78 ⟨Nat.le_of_ble_eq_true rfl, Nat.le_of_ble_eq_true rfl⟩ ⟨rfl, rfl⟩ rfl rfl (Nat.le_of_ble_eq_true rfl) dX12_isShell_21 ?_
    refine v_dia 32 (.int (bz (if r5 = true then true else false))) [] ?_ (fun hj => ?_)
    · cases h
      exact v_zret (b := (if r5 = true then true else false)) C hr hlk dX12_isShell_32
    · refine p_z_eq C 31 dX12_isShell_24 (by decide) (fun z6 => ?_) (fun z6 => ?_)
      · refine v_iconst C (v := 1) dX12_isShell_27 (by decide) ?_
        refine v_goto C 32 dX12_isShell_28 (by decide) ?_
        exact v_top (by rw [if_pos z6]; first | done | rfl) hj
      · refine v_iconst C (v := 0) dX12_isShell_31 (by decide) ?_
        exact v_top (by rw [if_neg z6]; first | done | rfl) hj
  · refine v_iconst C (v := 0) dX12_isShell_31 (by decide) ?_
    cases h
    exact v_zret (b := false) C hr hlk dX12_isShell_32
def rX12_put : Room := { frames := 0, cells := 0, slots := 0, locals := 0 }
def fX12_put (a1 : Int32) (u : Mem) : Option Mem := (if inB (u.1 0 7) 400 then ((some (si u 6 (u.1 0 7).toNatClampNeg ((a1 >>> (24 &&& 31)).toInt8.toInt32))).bind fun u1 => (if inB ((u1.1 0 7) + 1) 400 then ((some (si u1 6 ((u1.1 0 7) + 1).toNatClampNeg ((a1 >>> (16 &&& 31)).toInt8.toInt32))).bind fun u2 => (if inB ((u2.1 0 7) + 2) 400 then ((some (si u2 6 ((u2.1 0 7) + 2).toNatClampNeg ((a1 >>> (8 &&& 31)).toInt8.toInt32))).bind fun u3 => (if inB ((u3.1 0 7) + 3) 400 then ((some (si u3 6 ((u3.1 0 7) + 3).toNatClampNeg a1.toInt8.toInt32)).bind fun u4 => (some (si u4 0 7 ((u4.1 0 7) + 4)))) else none)) else none)) else none)) else none)
set_option maxHeartbeats 4000000 in
set_option maxRecDepth 100000 in
theorem cX12_put_ct (l : Launch) (D : va_G) (cy : Nat → ClassId) (ad : Nat → Nat) (a1 : Int32) (u : Mem)  (out : Mem) (h : fX12_put a1 u = some out) : Met l yX12_put (.code yX12_put cX12_put 2 (none) :: gw) rX12_put (va_Pc [.ref (ad 0), .int a1] (wv shM nM D cy ad u)) (qV shM nM D cy ad out) 0 0 (rA ad nM) := by
  refine met_of (cc := cX12_put) (nL := 2) (by decide) (Nat.le_of_ble_eq_true rfl) (fun p e s m below meth c C hr hlk => ?_)
  unfold fX12_put at h
  show V shM nM D cy ad 2 p l e rX12_put s m _ below meth c (MQ below (qV shM nM D cy ad out) _ s 0 0 (rA ad nM)) 0 [(0, .ref (ad 0)), (1, .int a1)] [] u
  refine v_aload_n C 0 dX12_put_0 rfl rfl ?_
  refine v_getr C pM_0 fd_X12_30 rfl dX12_put_1 ?_
  refine v_aload_n C 0 dX12_put_4 rfl rfl ?_
  refine v_geti C pM_0 fd_X12_86 rfl dX12_put_5 ?_
  refine v_iload_n C 1 dX12_put_8 rfl rfl ?_
  refine v_bipush C (v := 24) dX12_put_9 (by decide) ?_
  refine v_ishr C dX12_put_11 ?_
  refine v_i2b C dX12_put_12 ?_
  refine v_bast C pM_6 (pk_vb _) dX12_put_13 h (fun h => ?_)
  refine v_mem (fun u1 hu1 => ?_)
  have h := nmd hu1 h
  refine v_aload_n C 0 dX12_put_14 rfl rfl ?_
  refine v_getr C pM_0 fd_X12_30 rfl dX12_put_15 ?_
  refine v_aload_n C 0 dX12_put_18 rfl rfl ?_
  refine v_geti C pM_0 fd_X12_86 rfl dX12_put_19 ?_
  refine v_iconst C (v := 1) dX12_put_22 (by decide) ?_
  refine v_iadd C dX12_put_23 ?_
  refine v_iload_n C 1 dX12_put_24 rfl rfl ?_
  refine v_bipush C (v := 16) dX12_put_25 (by decide) ?_
  refine v_ishr C dX12_put_27 ?_
  refine v_i2b C dX12_put_28 ?_
  refine v_bast C pM_6 (pk_vb _) dX12_put_29 h (fun h => ?_)
  refine v_mem (fun u2 hu2 => ?_)
  have h := nmd hu2 h
  refine v_aload_n C 0 dX12_put_30 rfl rfl ?_
  refine v_getr C pM_0 fd_X12_30 rfl dX12_put_31 ?_
  refine v_aload_n C 0 dX12_put_34 rfl rfl ?_
  refine v_geti C pM_0 fd_X12_86 rfl dX12_put_35 ?_
  refine v_iconst C (v := 2) dX12_put_38 (by decide) ?_
  refine v_iadd C dX12_put_39 ?_
  refine v_iload_n C 1 dX12_put_40 rfl rfl ?_
  refine v_bipush C (v := 8) dX12_put_41 (by decide) ?_
  refine v_ishr C dX12_put_43 ?_
  refine v_i2b C dX12_put_44 ?_
  refine v_bast C pM_6 (pk_vb _) dX12_put_45 h (fun h => ?_)
  refine v_mem (fun u3 hu3 => ?_)
  have h := nmd hu3 h
  refine v_aload_n C 0 dX12_put_46 rfl rfl ?_
  refine v_getr C pM_0 fd_X12_30 rfl dX12_put_47 ?_
  refine v_aload_n C 0 dX12_put_50 rfl rfl ?_
  refine v_geti C pM_0 fd_X12_86 rfl dX12_put_51 ?_
  refine v_iconst C (v := 3) dX12_put_54 (by decide) ?_
  refine v_iadd C dX12_put_55 ?_
  refine v_iload_n C 1 dX12_put_56 rfl rfl ?_
  refine v_i2b C dX12_put_57 ?_
  refine v_bast C pM_6 (pk_vb _) dX12_put_58 h (fun h => ?_)
  refine v_mem (fun u4 hu4 => ?_)
  have h := nmd hu4 h
  refine v_aload_n C 0 dX12_put_59 rfl rfl ?_
  refine v_dup C rfl dX12_put_60 ?_
  refine v_geti C pM_0 fd_X12_86 rfl dX12_put_61 ?_
  refine v_iconst C (v := 4) dX12_put_64 (by decide) ?_
  refine v_iadd C dX12_put_65 ?_
  refine v_puti C pM_0 fp_X12_86 rfl rfl rfl dX12_put_66 ?_
  cases h
  exact v_vret C hr hlk dX12_put_69
def rX12_feed : Room := { frames := 1, cells := 0, slots := 0, locals := 21 }
def fX12_feed (a1 : Int32) (a2 : Int32) (a3 : Int32) (a4 : Int32) (a5 : Int32) (u : Mem) : Option (Int32 × Mem) := (if ((u.1 0 7) + 20) ≤ 400 then ((fX12_put a1 u).bind fun u3 => ((fX12_put a2 u3).bind fun u5 => ((fX12_put a3 u5).bind fun u7 => ((fX12_put a4 u7).bind fun u9 => ((fX12_put a5 u9).bind fun u11 => (some (u11.1 0 7, u11))))))) else (some ((-1), u)))
set_option maxHeartbeats 4000000 in
set_option maxRecDepth 100000 in
theorem cX12_feed_ct (l : Launch) (D : va_G) (cy : Nat → ClassId) (ad : Nat → Nat) (a1 : Int32) (a2 : Int32) (a3 : Int32) (a4 : Int32) (a5 : Int32) (u : Mem)  (out : (Int32 × Mem)) (h : fX12_feed a1 a2 a3 a4 a5 u = some out) : Met l yX12_feed (.code yX12_feed cX12_feed 6 (some .int) :: gw) rX12_feed (va_Pc [.ref (ad 0), .int a1, .int a2, .int a3, .int a4, .int a5] (wv shM nM D cy ad u)) (qI shM nM D cy ad out.1 out.2) 0 0 (rA ad nM) := by
  refine met_of (cc := cX12_feed) (nL := 6) (by decide) (Nat.le_of_ble_eq_true rfl) (fun p e s m below meth c C hr hlk => ?_)
  unfold fX12_feed at h
  show V shM nM D cy ad 6 p l e rX12_feed s m _ below meth c (MQ below (qI shM nM D cy ad out.1 out.2) _ s 0 0 (rA ad nM)) 0 [(0, .ref (ad 0)), (1, .int a1), (2, .int a2), (3, .int a3), (4, .int a4), (5, .int a5)] [] u
  refine v_aload_n C 0 dX12_feed_0 rfl rfl ?_
  refine v_geti C pM_0 fd_X12_86 rfl dX12_feed_1 ?_
  refine v_bipush C (v := 20) dX12_feed_4 (by decide) ?_
  refine v_iadd C dX12_feed_6 ?_
  refine v_sipush C (v := 400) dX12_feed_7 (by decide) ?_
  refine v_icmp_le C 15 dX12_feed_10 (by decide) h (fun h => ?_) (fun h => ?_)
  · refine v_aload_n C 0 dX12_feed_15 rfl rfl ?_
    refine v_iload_n C 1 dX12_feed_16 rfl rfl ?_
    obtain ⟨u3, hc2, h⟩ := bnd h
    refine v_callVv C [.int a1] (cX12_put_ct l D cy ad a1 u u3 hc2) ml_X12_89 pM_0 ⟨Nat.le_of_ble_eq_true rfl, Nat.le_of_ble_eq_true rfl⟩ ⟨rfl, rfl⟩ rfl rfl (Nat.le_of_ble_eq_true rfl) dX12_feed_17 ?_
    refine v_aload_n C 0 dX12_feed_20 rfl rfl ?_
    refine v_iload_n C 2 dX12_feed_21 rfl rfl ?_
    obtain ⟨u5, hc4, h⟩ := bnd h
    refine v_callVv C [.int a2] (cX12_put_ct l D cy ad a2 u3 u5 hc4) ml_X12_89 pM_0 ⟨Nat.le_of_ble_eq_true rfl, Nat.le_of_ble_eq_true rfl⟩ ⟨rfl, rfl⟩ rfl rfl (Nat.le_of_ble_eq_true rfl) dX12_feed_22 ?_
    refine v_aload_n C 0 dX12_feed_25 rfl rfl ?_
    refine v_iload_n C 3 dX12_feed_26 rfl rfl ?_
    obtain ⟨u7, hc6, h⟩ := bnd h
    refine v_callVv C [.int a3] (cX12_put_ct l D cy ad a3 u5 u7 hc6) ml_X12_89 pM_0 ⟨Nat.le_of_ble_eq_true rfl, Nat.le_of_ble_eq_true rfl⟩ ⟨rfl, rfl⟩ rfl rfl (Nat.le_of_ble_eq_true rfl) dX12_feed_27 ?_
    refine v_aload_n C 0 dX12_feed_30 rfl rfl ?_
    refine v_iload C 4 dX12_feed_31 rfl ?_
    obtain ⟨u9, hc8, h⟩ := bnd h
    refine v_callVv C [.int a4] (cX12_put_ct l D cy ad a4 u7 u9 hc8) ml_X12_89 pM_0 ⟨Nat.le_of_ble_eq_true rfl, Nat.le_of_ble_eq_true rfl⟩ ⟨rfl, rfl⟩ rfl rfl (Nat.le_of_ble_eq_true rfl) dX12_feed_33 ?_
    refine v_aload_n C 0 dX12_feed_36 rfl rfl ?_
    refine v_iload C 5 dX12_feed_37 rfl ?_
    obtain ⟨u11, hc10, h⟩ := bnd h
    refine v_callVv C [.int a5] (cX12_put_ct l D cy ad a5 u9 u11 hc10) ml_X12_89 pM_0 ⟨Nat.le_of_ble_eq_true rfl, Nat.le_of_ble_eq_true rfl⟩ ⟨rfl, rfl⟩ rfl rfl (Nat.le_of_ble_eq_true rfl) dX12_feed_39 ?_
    refine v_aload_n C 0 dX12_feed_42 rfl rfl ?_
    refine v_geti C pM_0 fd_X12_86 rfl dX12_feed_43 ?_
    cases h
    exact v_iret C hr hlk dX12_feed_46
  · refine v_iconst C (v := (-1)) dX12_feed_13 (by decide) ?_
    cases h
    exact v_iret C hr hlk dX12_feed_14
def rX12_end : Room := { frames := 1, cells := 0, slots := 0, locals := 25 }
def fX12_end (a1 : Int32) (u : Mem) : Option (Int32 × Mem) := ((fX12_in a1.toInt64 0 ((u.1 0 7).toInt64)).bind fun r2 => (if r2 = true then (some (a1, si u 0 7 a1)) else (some ((-1), u))))
set_option maxHeartbeats 4000000 in
set_option maxRecDepth 100000 in
theorem cX12_end_ct (l : Launch) (D : va_G) (cy : Nat → ClassId) (ad : Nat → Nat) (a1 : Int32) (u : Mem)  (out : (Int32 × Mem)) (h : fX12_end a1 u = some out) : Met l yX12_end (.code yX12_end cX12_end 2 (some .int) :: gw) rX12_end (va_Pc [.ref (ad 0), .int a1] (wv shM nM D cy ad u)) (qI shM nM D cy ad out.1 out.2) 0 0 (rA ad nM) := by
  refine met_of (cc := cX12_end) (nL := 2) (by decide) (Nat.le_of_ble_eq_true rfl) (fun p e s m below meth c C hr hlk => ?_)
  unfold fX12_end at h
  show V shM nM D cy ad 2 p l e rX12_end s m _ below meth c (MQ below (qI shM nM D cy ad out.1 out.2) _ s 0 0 (rA ad nM)) 0 [(0, .ref (ad 0)), (1, .int a1)] [] u
  refine v_iload_n C 1 dX12_end_0 rfl rfl ?_
  refine v_i2l C dX12_end_1 ?_
  refine v_lconst C (v := 0) dX12_end_2 (by decide) ?_
  refine v_aload_n C 0 dX12_end_3 rfl rfl ?_
  refine v_geti C pM_0 fd_X12_86 rfl dX12_end_4 ?_
  refine v_i2l C dX12_end_7 ?_
  obtain ⟨r2, hc1, h⟩ := bnd h
  refine v_callSi C [.long a1.toInt64, .long 0, .long ((u.1 0 7).toInt64)] (cX12_in_ct l D cy ad a1.toInt64 0 ((u.1 0 7).toInt64) _ r2 hc1) ml_X12_78 ⟨Nat.le_of_ble_eq_true rfl, Nat.le_of_ble_eq_true rfl⟩ ⟨rfl, rfl⟩ rfl rfl (Nat.le_of_ble_eq_true rfl) dX12_end_8 ?_
  refine v_z_ne C 16 dX12_end_11 (by decide) h (fun h => ?_) (fun h => ?_)
  · refine v_aload_n C 0 dX12_end_16 rfl rfl ?_
    refine v_iload_n C 1 dX12_end_17 rfl rfl ?_
    refine v_puti C pM_0 fp_X12_86 rfl rfl rfl dX12_end_18 ?_
    refine v_iload_n C 1 dX12_end_21 rfl rfl ?_
    cases h
    exact v_iret C hr hlk dX12_end_22
  · refine v_iconst C (v := (-1)) dX12_end_14 (by decide) ?_
    cases h
    exact v_iret C hr hlk dX12_end_15
def rX12_isLetter : Room := { frames := 1, cells := 0, slots := 0, locals := 25 }
def fX12_isLetter (a0 : Int32) : Option Bool := ((fX12_in a0.toInt64 97 122).bind fun r2 => (if r2 = true then (some true) else ((fX12_in a0.toInt64 65 90).bind fun r5 => (some (if r5 = true then true else false)))))
set_option maxHeartbeats 4000000 in
set_option maxRecDepth 100000 in
theorem cX12_isLetter_ct (l : Launch) (D : va_G) (cy : Nat → ClassId) (ad : Nat → Nat) (a0 : Int32) (u : Mem)  (out : Bool) (h : fX12_isLetter a0 = some out) : Met l yX12_isLetter (.code yX12_isLetter cX12_isLetter 1 (some .boolean) :: gw) rX12_isLetter (va_Pc [.int a0] (wv shM nM D cy ad u)) (qI shM nM D cy ad (bz out) u) 0 0 (rA ad nM) := by
  refine met_of (cc := cX12_isLetter) (nL := 1) (by decide) (Nat.le_of_ble_eq_true rfl) (fun p e s m below meth c C hr hlk => ?_)
  unfold fX12_isLetter at h
  show V shM nM D cy ad 1 p l e rX12_isLetter s m _ below meth c (MQ below (qI shM nM D cy ad (bz out) u) _ s 0 0 (rA ad nM)) 0 [(0, .int a0)] [] u
  refine v_iload_n C 0 dX12_isLetter_0 rfl rfl ?_
  refine v_i2l C dX12_isLetter_1 ?_
  refine v_ldc2 C kc_X12_93 dX12_isLetter_2 ?_
  refine v_ldc2 C kc_X12_95 dX12_isLetter_5 ?_
  obtain ⟨r2, hc1, h⟩ := bnd h
  refine v_callSi C [.long a0.toInt64, .long 97, .long 122] (cX12_in_ct l D cy ad a0.toInt64 97 122 _ r2 hc1) ml_X12_78 ⟨Nat.le_of_ble_eq_true rfl, Nat.le_of_ble_eq_true rfl⟩ ⟨rfl, rfl⟩ rfl rfl (Nat.le_of_ble_eq_true rfl) dX12_isLetter_8 ?_
  refine v_z_ne C 28 dX12_isLetter_11 (by decide) h (fun h => ?_) (fun h => ?_)
  · refine v_iconst C (v := 1) dX12_isLetter_28 (by decide) ?_
    refine v_goto C 33 dX12_isLetter_29 (by decide) ?_
    cases h
    exact v_zret (b := true) C hr hlk dX12_isLetter_33
  · refine v_iload_n C 0 dX12_isLetter_14 rfl rfl ?_
    refine v_i2l C dX12_isLetter_15 ?_
    refine v_ldc2 C kc_X12_97 dX12_isLetter_16 ?_
    refine v_ldc2 C kc_X12_99 dX12_isLetter_19 ?_
    obtain ⟨r5, hc4, h⟩ := bnd h
    refine v_callSi C [.long a0.toInt64, .long 65, .long 90] (cX12_in_ct l D cy ad a0.toInt64 65 90 _ r5 hc4) ml_X12_78 ⟨Nat.le_of_ble_eq_true rfl, Nat.le_of_ble_eq_true rfl⟩ ⟨rfl, rfl⟩ rfl rfl (Nat.le_of_ble_eq_true rfl) dX12_isLetter_22 ?_
    refine v_dia 33 (.int (bz (if r5 = true then true else false))) [] ?_ (fun hj => ?_)
    · cases h
      exact v_zret (b := (if r5 = true then true else false)) C hr hlk dX12_isLetter_33
    · refine p_z_eq C 32 dX12_isLetter_25 (by decide) (fun z6 => ?_) (fun z6 => ?_)
      · refine v_iconst C (v := 1) dX12_isLetter_28 (by decide) ?_
        refine v_goto C 33 dX12_isLetter_29 (by decide) ?_
        exact v_top (by rw [if_pos z6]; first | done | rfl) hj
      · refine v_iconst C (v := 0) dX12_isLetter_32 (by decide) ?_
        exact v_top (by rw [if_neg z6]; first | done | rfl) hj
def rX12_wordOf : Room := { frames := 0, cells := 0, slots := 0, locals := 0 }
def fX12_wordOf (a0 : Int64) : Option Int32 := (if a0 = 11443108 then (some 0) else (if a0 = 597826158 then (some 1) else (if a0 = 3375 then (some 2) else (if a0 = 749107764 then (some 3) else (if a0 = 12803304 then (some 4) else (if a0 = 10624677 then (some 5) else (if a0 = 13245733 then (some 6) else (some (-1)))))))))
set_option maxHeartbeats 4000000 in
set_option maxRecDepth 100000 in
theorem cX12_wordOf_ct (l : Launch) (D : va_G) (cy : Nat → ClassId) (ad : Nat → Nat) (a0 : Int64) (u : Mem)  (out : Int32) (h : fX12_wordOf a0 = some out) : Met l yX12_wordOf (.code yX12_wordOf cX12_wordOf 2 (some .int) :: gw) rX12_wordOf (va_Pc [.long a0] (wv shM nM D cy ad u)) (qI shM nM D cy ad out u) 0 0 (rA ad nM) := by
  refine met_of (cc := cX12_wordOf) (nL := 2) (by decide) (Nat.le_of_ble_eq_true rfl) (fun p e s m below meth c C hr hlk => ?_)
  unfold fX12_wordOf at h
  show V shM nM D cy ad 2 p l e rX12_wordOf s m _ below meth c (MQ below (qI shM nM D cy ad out u) _ s 0 0 (rA ad nM)) 0 [(0, .long a0)] [] u
  refine v_lload_n C 0 dX12_wordOf_0 rfl rfl ?_
  refine v_ldc2 C kc_X12_101 dX12_wordOf_1 ?_
  refine v_lcmp_ne C 10 dX12_wordOf_4 dX12_wordOf_5 (by decide) h (fun h => ?_) (fun h => ?_)
  · refine v_iconst C (v := 0) dX12_wordOf_8 (by decide) ?_
    cases h
    exact v_iret C hr hlk dX12_wordOf_9
  · refine v_lload_n C 0 dX12_wordOf_10 rfl rfl ?_
    refine v_ldc2 C kc_X12_103 dX12_wordOf_11 ?_
    refine v_lcmp_ne C 20 dX12_wordOf_14 dX12_wordOf_15 (by decide) h (fun h => ?_) (fun h => ?_)
    · refine v_iconst C (v := 1) dX12_wordOf_18 (by decide) ?_
      cases h
      exact v_iret C hr hlk dX12_wordOf_19
    · refine v_lload_n C 0 dX12_wordOf_20 rfl rfl ?_
      refine v_ldc2 C kc_X12_105 dX12_wordOf_21 ?_
      refine v_lcmp_ne C 30 dX12_wordOf_24 dX12_wordOf_25 (by decide) h (fun h => ?_) (fun h => ?_)
      · refine v_iconst C (v := 2) dX12_wordOf_28 (by decide) ?_
        cases h
        exact v_iret C hr hlk dX12_wordOf_29
      · refine v_lload_n C 0 dX12_wordOf_30 rfl rfl ?_
        refine v_ldc2 C kc_X12_107 dX12_wordOf_31 ?_
        refine v_lcmp_ne C 40 dX12_wordOf_34 dX12_wordOf_35 (by decide) h (fun h => ?_) (fun h => ?_)
        · refine v_iconst C (v := 3) dX12_wordOf_38 (by decide) ?_
          cases h
          exact v_iret C hr hlk dX12_wordOf_39
        · refine v_lload_n C 0 dX12_wordOf_40 rfl rfl ?_
          refine v_ldc2 C kc_X12_109 dX12_wordOf_41 ?_
          refine v_lcmp_ne C 50 dX12_wordOf_44 dX12_wordOf_45 (by decide) h (fun h => ?_) (fun h => ?_)
          · refine v_iconst C (v := 4) dX12_wordOf_48 (by decide) ?_
            cases h
            exact v_iret C hr hlk dX12_wordOf_49
          · refine v_lload_n C 0 dX12_wordOf_50 rfl rfl ?_
            refine v_ldc2 C kc_X12_111 dX12_wordOf_51 ?_
            refine v_lcmp_ne C 60 dX12_wordOf_54 dX12_wordOf_55 (by decide) h (fun h => ?_) (fun h => ?_)
            · refine v_iconst C (v := 5) dX12_wordOf_58 (by decide) ?_
              cases h
              exact v_iret C hr hlk dX12_wordOf_59
            · refine v_lload_n C 0 dX12_wordOf_60 rfl rfl ?_
              refine v_ldc2 C kc_X12_113 dX12_wordOf_61 ?_
              refine v_lcmp_ne C 71 dX12_wordOf_64 dX12_wordOf_65 (by decide) h (fun h => ?_) (fun h => ?_)
              · refine v_bipush C (v := 6) dX12_wordOf_68 (by decide) ?_
                cases h
                exact v_iret C hr hlk dX12_wordOf_70
              · refine v_iconst C (v := (-1)) dX12_wordOf_71 (by decide) ?_
                cases h
                exact v_iret C hr hlk dX12_wordOf_72
def rX12_errs : Room := { frames := 0, cells := 0, slots := 0, locals := 0 }
def fX12_errs (a1 : Int32) (u : Mem) : Option Mem := (if (u.1 0 15) = 0 then (some (si (si u 0 15 a1) 0 16 ((si u 0 15 a1).1 0 12))) else (some u))
set_option maxHeartbeats 4000000 in
set_option maxRecDepth 100000 in
theorem cX12_errs_ct (l : Launch) (D : va_G) (cy : Nat → ClassId) (ad : Nat → Nat) (a1 : Int32) (u : Mem)  (out : Mem) (h : fX12_errs a1 u = some out) : Met l yX12_errs (.code yX12_errs cX12_errs 2 (none) :: gw) rX12_errs (va_Pc [.ref (ad 0), .int a1] (wv shM nM D cy ad u)) (qV shM nM D cy ad out) 0 0 (rA ad nM) := by
  refine met_of (cc := cX12_errs) (nL := 2) (by decide) (Nat.le_of_ble_eq_true rfl) (fun p e s m below meth c C hr hlk => ?_)
  unfold fX12_errs at h
  show V shM nM D cy ad 2 p l e rX12_errs s m _ below meth c (MQ below (qV shM nM D cy ad out) _ s 0 0 (rA ad nM)) 0 [(0, .ref (ad 0)), (1, .int a1)] [] u
  refine v_aload_n C 0 dX12_errs_0 rfl rfl ?_
  refine v_geti C pM_0 fd_X12_146 rfl dX12_errs_1 ?_
  refine v_if_ne C 20 dX12_errs_4 (by decide) h (fun h => ?_) (fun h => ?_)
  · refine v_aload_n C 0 dX12_errs_7 rfl rfl ?_
    refine v_iload_n C 1 dX12_errs_8 rfl rfl ?_
    refine v_puti C pM_0 fp_X12_146 rfl rfl rfl dX12_errs_9 ?_
    refine v_aload_n C 0 dX12_errs_12 rfl rfl ?_
    refine v_aload_n C 0 dX12_errs_13 rfl rfl ?_
    refine v_geti C pM_0 fd_X12_121 rfl dX12_errs_14 ?_
    refine v_puti C pM_0 fp_X12_149 rfl rfl rfl dX12_errs_17 ?_
    cases h
    exact v_vret C hr hlk dX12_errs_20
  · cases h
    exact v_vret C hr hlk dX12_errs_20
def rX12_next : Room := { frames := 2, cells := 0, slots := 0, locals := 45 }
def fX12_next_L0  (K52 : Mem → Option Mem) : Nat → Mem → Option Mem
  | 0, _ => none
  | t + 1, u => (if (u.1 0 10) ≤ (u.1 0 11) then K52 u else (if inB (u.1 0 11) 400 then (if (u.1 6 (u.1 0 11).toNatClampNeg) = 32 then fX12_next_L0 K52 t (si u 0 11 ((u.1 0 11) + 1)) else (if inB (u.1 0 11) 400 then (if (u.1 6 (u.1 0 11).toNatClampNeg) = 10 then fX12_next_L0 K52 t (si u 0 11 ((u.1 0 11) + 1)) else K52 u) else none)) else none))
def fX12_next_L99 (a1 : Int32) (K173 : Int64 → Int32 → Mem → Option Mem) : Nat → Int64 → Int32 → Mem → Option Mem
  | 0, _, _, _ => none
  | t + 1, a2, a4, u => (if (u.1 0 10) ≤ (u.1 0 11) then K173 a2 a4 u else (if inB (u.1 0 11) 400 then ((fX12_isLetter (u.1 6 (u.1 0 11).toNatClampNeg)).bind fun r11 => (if r11 = true then (if 8 ≤ a4 then fX12_next_L99 a1 K173 t a2 (a4 + 1) (si u 0 11 ((u.1 0 11) + 1)) else (if inB (u.1 0 11) 400 then fX12_next_L99 a1 K173 t (((64 * a2) + ((u.1 6 (u.1 0 11).toNatClampNeg).toInt64)) - 64) (a4 + 1) (si u 0 11 ((u.1 0 11) + 1)) else none)) else K173 a2 a4 u)) else none))
def fX12_next_J209 (a2 : Int64) (a4 : Int32) (u : Mem) : Option Mem := (if a4 ≤ 5 then ((fX12_wordOf a2).bind fun r25 => ((some (si (si u 0 14 r25) 0 13 ((if 0 ≤ ((si u 0 14 r25).1 0 14) then 1 else 5) : Int32))).bind fun u27 => (some u27))) else ((some (si (si u 0 14 (-1)) 0 13 ((if 0 ≤ ((si u 0 14 (-1)).1 0 14) then 1 else 5) : Int32))).bind fun u29 => (some u29)))
def fX12_next_L270  : Nat → Mem → Option Mem
  | 0, _ => none
  | t + 1, u => (if (u.1 0 10) ≤ (u.1 0 11) then (some u) else (if inB (u.1 0 11) 400 then ((fX12_in ((u.1 6 (u.1 0 11).toNatClampNeg).toInt64) 48 57).bind fun r36 => (if r36 = true then (if (u.1 0 14) ≤ 99999 then (if inB (u.1 0 11) 400 then ((some (si u 0 14 (((10 * (u.1 0 14)) + (u.1 6 (u.1 0 11).toNatClampNeg)) - 48))).bind fun u40 => fX12_next_L270 t (si u40 0 11 ((u40.1 0 11) + 1))) else none) else ((some (si (si u 0 14 (u.1 0 14)) 0 11 (((si u 0 14 (u.1 0 14)).1 0 11) + 1))).bind fun u41 => fX12_next_L270 t u41)) else (some u))) else none))
def fX12_next (u : Mem) : Option Mem := fX12_next_L0 (fun u4 => (if ((si u4 0 12 (u4.1 0 11)).1 0 11) = ((si u4 0 12 (u4.1 0 11)).1 0 10) then (some (si (si u4 0 12 (u4.1 0 11)) 0 13 0)) else (if inB ((si u4 0 12 (u4.1 0 11)).1 0 11) 400 then ((fX12_isLetter ((si u4 0 12 (u4.1 0 11)).1 6 ((si u4 0 12 (u4.1 0 11)).1 0 11).toNatClampNeg)).bind fun r7 => (if r7 = true then fX12_next_L99 ((si u4 0 12 (u4.1 0 11)).1 6 ((si u4 0 12 (u4.1 0 11)).1 0 11).toNatClampNeg) (fun v15 v16 u17 => (if v16 = 1 then ((fX12_in (((si u4 0 12 (u4.1 0 11)).1 6 ((si u4 0 12 (u4.1 0 11)).1 0 11).toNatClampNeg).toInt64) 65 70).bind fun r20 => (if r20 = true then ((some (si (si u17 0 13 2) 0 14 (((si u4 0 12 (u4.1 0 11)).1 6 ((si u4 0 12 (u4.1 0 11)).1 0 11).toNatClampNeg) - 65))).bind fun u22 => (some u22)) else fX12_next_J209 v15 v16 u17)) else fX12_next_J209 v15 v16 u17)) fu0 0 0 (si u4 0 12 (u4.1 0 11)) else ((fX12_in (((si u4 0 12 (u4.1 0 11)).1 6 ((si u4 0 12 (u4.1 0 11)).1 0 11).toNatClampNeg).toInt64) 48 57).bind fun r31 => (if r31 = true then ((some (si (si (si u4 0 12 (u4.1 0 11)) 0 13 3) 0 14 0)).bind fun u33 => fX12_next_L270 fu0 u33) else ((some (si (si u4 0 12 (u4.1 0 11)) 0 11 (((si u4 0 12 (u4.1 0 11)).1 0 11) + 1))).bind fun u42 => ((some (si u42 0 14 ((si u4 0 12 (u4.1 0 11)).1 6 ((si u4 0 12 (u4.1 0 11)).1 0 11).toNatClampNeg))).bind fun u43 => ((some (((if ((si u4 0 12 (u4.1 0 11)).1 6 ((si u4 0 12 (u4.1 0 11)).1 0 11).toNatClampNeg) = 61 then 4 else (if ((si u4 0 12 (u4.1 0 11)).1 6 ((si u4 0 12 (u4.1 0 11)).1 0 11).toNatClampNeg) = 44 then 4 else (if ((si u4 0 12 (u4.1 0 11)).1 6 ((si u4 0 12 (u4.1 0 11)).1 0 11).toNatClampNeg) = 59 then 4 else 5))) : Int32))).bind fun x47 => (some (si u43 0 13 x47))))))))) else none))) fu0 u
set_option maxHeartbeats 4000000 in
set_option maxRecDepth 100000 in
theorem kX12_next_L0 {l : Launch} {D : va_G} {cy : Nat → ClassId} {ad : Nat → Nat} {p : Program} {e : Env} {s : State} {m : MethodId} {args : Array Value} {below : List Frame} {meth : Method} {c : Code} (C : Cx nM D cy ad 5 cX12_next RX12 rX12_next p s m args c) (hr : meth.sig.returnType = none) (hlk : meth.locks = false)   {out : Mem} (K52 : Mem → Option Mem) (hK52 : ∀ (w : Mem), K52 w = some out → V shM nM D cy ad 5 p l e rX12_next s m args below meth c (MQ below (qV shM nM D cy ad out) args s 0 0 (rA ad nM)) 52 [(0, .ref (ad 0))] [] w) : ∀ (t : Nat) (u : Mem), fX12_next_L0 K52 t u = some out → V shM nM D cy ad 5 p l e rX12_next s m args below meth c (MQ below (qV shM nM D cy ad out) args s 0 0 (rA ad nM)) 0 [(0, .ref (ad 0))] [] u := by
  intro t
  induction t with
  | zero => intro u h; rw [fX12_next_L0] at h; cases h
  | succ t ih =>
    intro u h
    rw [fX12_next_L0] at h
    refine v_aload_n C 0 dX12_next_0 rfl rfl ?_
    refine v_geti C pM_0 fd_X12_115 rfl dX12_next_1 ?_
    refine v_aload_n C 0 dX12_next_4 rfl rfl ?_
    refine v_geti C pM_0 fd_X12_118 rfl dX12_next_5 ?_
    refine v_icmp_ge C 52 dX12_next_8 (by decide) h (fun h => ?_) (fun h => ?_)
    · exact hK52 u h
    · refine v_aload_n C 0 dX12_next_11 rfl rfl ?_
      refine v_getr C pM_0 fd_X12_30 rfl dX12_next_12 ?_
      refine v_aload_n C 0 dX12_next_15 rfl rfl ?_
      refine v_geti C pM_0 fd_X12_115 rfl dX12_next_16 ?_
      refine v_bald C pM_6 dX12_next_19 h (fun h => ?_)
      refine v_bipush C (v := 32) dX12_next_20 (by decide) ?_
      refine v_icmp_eq C 39 dX12_next_22 (by decide) h (fun h => ?_) (fun h => ?_)
      · refine v_aload_n C 0 dX12_next_39 rfl rfl ?_
        refine v_dup C rfl dX12_next_40 ?_
        refine v_geti C pM_0 fd_X12_115 rfl dX12_next_41 ?_
        refine v_iconst C (v := 1) dX12_next_44 (by decide) ?_
        refine v_iadd C dX12_next_45 ?_
        refine v_puti C pM_0 fp_X12_115 rfl rfl rfl dX12_next_46 ?_
        refine v_goto C 0 dX12_next_49 (by decide) ?_
        exact ih (si u 0 11 ((u.1 0 11) + 1)) h
      · refine v_aload_n C 0 dX12_next_25 rfl rfl ?_
        refine v_getr C pM_0 fd_X12_30 rfl dX12_next_26 ?_
        refine v_aload_n C 0 dX12_next_29 rfl rfl ?_
        refine v_geti C pM_0 fd_X12_115 rfl dX12_next_30 ?_
        refine v_bald C pM_6 dX12_next_33 h (fun h => ?_)
        refine v_bipush C (v := 10) dX12_next_34 (by decide) ?_
        refine v_icmp_ne C 52 dX12_next_36 (by decide) h (fun h => ?_) (fun h => ?_)
        · refine v_aload_n C 0 dX12_next_39 rfl rfl ?_
          refine v_dup C rfl dX12_next_40 ?_
          refine v_geti C pM_0 fd_X12_115 rfl dX12_next_41 ?_
          refine v_iconst C (v := 1) dX12_next_44 (by decide) ?_
          refine v_iadd C dX12_next_45 ?_
          refine v_puti C pM_0 fp_X12_115 rfl rfl rfl dX12_next_46 ?_
          refine v_goto C 0 dX12_next_49 (by decide) ?_
          exact ih (si u 0 11 ((u.1 0 11) + 1)) h
        · exact hK52 u h
set_option maxHeartbeats 4000000 in
set_option maxRecDepth 100000 in
theorem kX12_next_L99 {l : Launch} {D : va_G} {cy : Nat → ClassId} {ad : Nat → Nat} {p : Program} {e : Env} {s : State} {m : MethodId} {args : Array Value} {below : List Frame} {meth : Method} {c : Code} (C : Cx nM D cy ad 5 cX12_next RX12 rX12_next p s m args c) (hr : meth.sig.returnType = none) (hlk : meth.locks = false) (a1 : Int32)  {out : Mem} (K173 : Int64 → Int32 → Mem → Option Mem) (hK173 : ∀ (a2 : Int64) (a4 : Int32) (w : Mem), K173 a2 a4 w = some out → V shM nM D cy ad 5 p l e rX12_next s m args below meth c (MQ below (qV shM nM D cy ad out) args s 0 0 (rA ad nM)) 173 [(0, .ref (ad 0)), (1, .int a1), (2, .long a2), (4, .int a4)] [] w) : ∀ (t : Nat) (a2 : Int64) (a4 : Int32) (u : Mem), fX12_next_L99 a1 K173 t a2 a4 u = some out → V shM nM D cy ad 5 p l e rX12_next s m args below meth c (MQ below (qV shM nM D cy ad out) args s 0 0 (rA ad nM)) 99 [(0, .ref (ad 0)), (1, .int a1), (2, .long a2), (4, .int a4)] [] u := by
  intro t
  induction t with
  | zero => intro a2 a4 u h; rw [fX12_next_L99] at h; cases h
  | succ t ih =>
    intro a2 a4 u h
    rw [fX12_next_L99] at h
    refine v_aload_n C 0 dX12_next_99 rfl rfl ?_
    refine v_geti C pM_0 fd_X12_115 rfl dX12_next_100 ?_
    refine v_aload_n C 0 dX12_next_103 rfl rfl ?_
    refine v_geti C pM_0 fd_X12_118 rfl dX12_next_104 ?_
    refine v_icmp_ge C 173 dX12_next_107 (by decide) h (fun h => ?_) (fun h => ?_)
    · exact hK173 a2 a4 u h
    · refine v_aload_n C 0 dX12_next_110 rfl rfl ?_
      refine v_getr C pM_0 fd_X12_30 rfl dX12_next_111 ?_
      refine v_aload_n C 0 dX12_next_114 rfl rfl ?_
      refine v_geti C pM_0 fd_X12_115 rfl dX12_next_115 ?_
      refine v_bald C pM_6 dX12_next_118 h (fun h => ?_)
      obtain ⟨r11, hc10, h⟩ := bnd h
      refine v_callSi C [.int (u.1 6 (u.1 0 11).toNatClampNeg)] (cX12_isLetter_ct l D cy ad (u.1 6 (u.1 0 11).toNatClampNeg) _ r11 hc10) ml_X12_127 ⟨Nat.le_of_ble_eq_true rfl, Nat.le_of_ble_eq_true rfl⟩ ⟨rfl, rfl⟩ rfl rfl (Nat.le_of_ble_eq_true rfl) dX12_next_119 ?_
      refine v_z_eq C 173 dX12_next_122 (by decide) h (fun h => ?_) (fun h => ?_)
      · refine v_iload C 3 dX12_next_125 rfl ?_
        refine v_bipush C (v := 8) dX12_next_127 (by decide) ?_
        refine v_icmp_ge C 155 dX12_next_129 (by decide) h (fun h => ?_) (fun h => ?_)
        · refine v_lload_n C 2 dX12_next_155 rfl rfl ?_
          refine v_lstore_n C [(2, .long a2), (0, .ref (ad 0)), (1, .int a1), (4, .int a4)] dX12_next_156 rfl (by decide) rfl ?_
          refine v_iinc C 3 (v := a4 + 1) [(4, .int (a4 + 1)), (2, .long a2), (0, .ref (ad 0)), (1, .int a1)] dX12_next_157 rfl rfl (by decide) rfl ?_
          refine v_aload_n C 2 dX12_next_160 rfl rfl ?_
          refine v_dup C rfl dX12_next_161 ?_
          refine v_geti C pM_0 fd_X12_115 rfl dX12_next_162 ?_
          refine v_iconst C (v := 1) dX12_next_165 (by decide) ?_
          refine v_iadd C dX12_next_166 ?_
          refine v_puti C pM_0 fp_X12_115 rfl rfl rfl dX12_next_167 ?_
          refine v_goto C 99 dX12_next_170 (by decide) ?_
          refine v_sub [2, 3, 1, 0] rfl ?_
          exact ih a2 (a4 + 1) (si u 0 11 ((u.1 0 11) + 1)) h
        · refine v_ldc2 C kc_X12_130 dX12_next_132 ?_
          refine v_lload_n C 2 dX12_next_135 rfl rfl ?_
          refine v_lmul C dX12_next_136 ?_
          refine v_aload_n C 0 dX12_next_137 rfl rfl ?_
          refine v_getr C pM_0 fd_X12_30 rfl dX12_next_138 ?_
          refine v_aload_n C 0 dX12_next_141 rfl rfl ?_
          refine v_geti C pM_0 fd_X12_115 rfl dX12_next_142 ?_
          refine v_bald C pM_6 dX12_next_145 h (fun h => ?_)
          refine v_i2l C dX12_next_146 ?_
          refine v_ladd C dX12_next_147 ?_
          refine v_ldc2 C kc_X12_130 dX12_next_148 ?_
          refine v_lsub C dX12_next_151 ?_
          refine v_goto C 156 dX12_next_152 (by decide) ?_
          refine v_lstore_n C [(2, .long (((64 * a2) + ((u.1 6 (u.1 0 11).toNatClampNeg).toInt64)) - 64)), (0, .ref (ad 0)), (1, .int a1), (4, .int a4)] dX12_next_156 rfl (by decide) rfl ?_
          refine v_iinc C 3 (v := a4 + 1) [(4, .int (a4 + 1)), (2, .long (((64 * a2) + ((u.1 6 (u.1 0 11).toNatClampNeg).toInt64)) - 64)), (0, .ref (ad 0)), (1, .int a1)] dX12_next_157 rfl rfl (by decide) rfl ?_
          refine v_aload_n C 2 dX12_next_160 rfl rfl ?_
          refine v_dup C rfl dX12_next_161 ?_
          refine v_geti C pM_0 fd_X12_115 rfl dX12_next_162 ?_
          refine v_iconst C (v := 1) dX12_next_165 (by decide) ?_
          refine v_iadd C dX12_next_166 ?_
          refine v_puti C pM_0 fp_X12_115 rfl rfl rfl dX12_next_167 ?_
          refine v_goto C 99 dX12_next_170 (by decide) ?_
          refine v_sub [2, 3, 1, 0] rfl ?_
          exact ih (((64 * a2) + ((u.1 6 (u.1 0 11).toNatClampNeg).toInt64)) - 64) (a4 + 1) (si u 0 11 ((u.1 0 11) + 1)) h
      · exact hK173 a2 a4 u h
set_option maxHeartbeats 4000000 in
set_option maxRecDepth 100000 in
theorem kX12_next_J209 {l : Launch} {D : va_G} {cy : Nat → ClassId} {ad : Nat → Nat} {p : Program} {e : Env} {s : State} {m : MethodId} {args : Array Value} {below : List Frame} {meth : Method} {c : Code} (C : Cx nM D cy ad 5 cX12_next RX12 rX12_next p s m args c) (hr : meth.sig.returnType = none) (hlk : meth.locks = false) {out : Mem}  (a2 : Int64) (a4 : Int32) (u : Mem)   (h : fX12_next_J209 a2 a4 u = some out) : V shM nM D cy ad 5 p l e rX12_next s m args below meth c (MQ below (qV shM nM D cy ad out) args s 0 0 (rA ad nM)) 209 [(0, .ref (ad 0)), (2, .long a2), (4, .int a4)] [] u := by
  unfold fX12_next_J209 at h
  refine v_aload_n C 0 dX12_next_209 rfl rfl ?_
  refine v_iload C 2 dX12_next_210 rfl ?_
  refine v_iconst C (v := 5) dX12_next_212 (by decide) ?_
  refine v_icmp_le C 220 dX12_next_213 (by decide) h (fun h => ?_) (fun h => ?_)
  · refine v_lload_n C 1 dX12_next_220 rfl rfl ?_
    obtain ⟨r25, hc24, h⟩ := bnd h
    refine v_callSi C [.long a2] (cX12_wordOf_ct l D cy ad a2 _ r25 hc24) ml_X12_137 ⟨Nat.le_of_ble_eq_true rfl, Nat.le_of_ble_eq_true rfl⟩ ⟨rfl, rfl⟩ rfl rfl (Nat.le_of_ble_eq_true rfl) dX12_next_221 ?_
    refine v_puti C pM_0 fp_X12_134 rfl rfl rfl dX12_next_224 ?_
    refine v_aload_n C 0 dX12_next_227 rfl rfl ?_
    refine v_aload_n C 0 dX12_next_228 rfl rfl ?_
    refine v_geti C pM_0 fd_X12_134 rfl dX12_next_229 ?_
    refine v_dia 240 (.int ((if 0 ≤ ((si u 0 14 r25).1 0 14) then 1 else 5) : Int32)) [.ref (ad 0)] ?_ (fun hj => ?_)
    · refine v_puti C pM_0 fp_X12_124 rfl rfl rfl dX12_next_240 ?_
      refine v_mem (fun u27 hu27 => ?_)
      have h := nmd hu27 h
      refine v_goto C 398 dX12_next_243 (by decide) ?_
      cases h
      exact v_vret C hr hlk dX12_next_398
    · refine p_if_ge C 239 dX12_next_232 (by decide) (fun z26 => ?_) (fun z26 => ?_)
      · refine v_iconst C (v := 1) dX12_next_239 (by decide) ?_
        exact v_top (by rw [if_pos z26]; first | done | rfl) hj
      · refine v_iconst C (v := 5) dX12_next_235 (by decide) ?_
        refine v_goto C 240 dX12_next_236 (by decide) ?_
        exact v_top (by rw [if_neg z26]; first | done | rfl) hj
  · refine v_iconst C (v := (-1)) dX12_next_216 (by decide) ?_
    refine v_goto C 224 dX12_next_217 (by decide) ?_
    refine v_puti C pM_0 fp_X12_134 rfl rfl rfl dX12_next_224 ?_
    refine v_aload_n C 0 dX12_next_227 rfl rfl ?_
    refine v_aload_n C 0 dX12_next_228 rfl rfl ?_
    refine v_geti C pM_0 fd_X12_134 rfl dX12_next_229 ?_
    refine v_dia 240 (.int ((if 0 ≤ ((si u 0 14 (-1)).1 0 14) then 1 else 5) : Int32)) [.ref (ad 0)] ?_ (fun hj => ?_)
    · refine v_puti C pM_0 fp_X12_124 rfl rfl rfl dX12_next_240 ?_
      refine v_mem (fun u29 hu29 => ?_)
      have h := nmd hu29 h
      refine v_goto C 398 dX12_next_243 (by decide) ?_
      cases h
      exact v_vret C hr hlk dX12_next_398
    · refine p_if_ge C 239 dX12_next_232 (by decide) (fun z28 => ?_) (fun z28 => ?_)
      · refine v_iconst C (v := 1) dX12_next_239 (by decide) ?_
        exact v_top (by rw [if_pos z28]; first | done | rfl) hj
      · refine v_iconst C (v := 5) dX12_next_235 (by decide) ?_
        refine v_goto C 240 dX12_next_236 (by decide) ?_
        exact v_top (by rw [if_neg z28]; first | done | rfl) hj
set_option maxHeartbeats 4000000 in
set_option maxRecDepth 100000 in
theorem kX12_next_L270 {l : Launch} {D : va_G} {cy : Nat → ClassId} {ad : Nat → Nat} {p : Program} {e : Env} {s : State} {m : MethodId} {args : Array Value} {below : List Frame} {meth : Method} {c : Code} (C : Cx nM D cy ad 5 cX12_next RX12 rX12_next p s m args c) (hr : meth.sig.returnType = none) (hlk : meth.locks = false)   {out : Mem}  : ∀ (t : Nat) (u : Mem), fX12_next_L270 t u = some out → V shM nM D cy ad 5 p l e rX12_next s m args below meth c (MQ below (qV shM nM D cy ad out) args s 0 0 (rA ad nM)) 270 [(0, .ref (ad 0))] [] u := by
  intro t
  induction t with
  | zero => intro u h; rw [fX12_next_L270] at h; cases h
  | succ t ih =>
    intro u h
    rw [fX12_next_L270] at h
    refine v_aload_n C 0 dX12_next_270 rfl rfl ?_
    refine v_geti C pM_0 fd_X12_115 rfl dX12_next_271 ?_
    refine v_aload_n C 0 dX12_next_274 rfl rfl ?_
    refine v_geti C pM_0 fd_X12_118 rfl dX12_next_275 ?_
    refine v_icmp_ge C 398 dX12_next_278 (by decide) h (fun h => ?_) (fun h => ?_)
    · cases h
      exact v_vret C hr hlk dX12_next_398
    · refine v_aload_n C 0 dX12_next_281 rfl rfl ?_
      refine v_getr C pM_0 fd_X12_30 rfl dX12_next_282 ?_
      refine v_aload_n C 0 dX12_next_285 rfl rfl ?_
      refine v_geti C pM_0 fd_X12_115 rfl dX12_next_286 ?_
      refine v_bald C pM_6 dX12_next_289 h (fun h => ?_)
      refine v_i2l C dX12_next_290 ?_
      refine v_ldc2 C kc_X12_141 dX12_next_291 ?_
      refine v_ldc2 C kc_X12_143 dX12_next_294 ?_
      obtain ⟨r36, hc35, h⟩ := bnd h
      refine v_callSi C [.long ((u.1 6 (u.1 0 11).toNatClampNeg).toInt64), .long 48, .long 57] (cX12_in_ct l D cy ad ((u.1 6 (u.1 0 11).toNatClampNeg).toInt64) 48 57 _ r36 hc35) ml_X12_78 ⟨Nat.le_of_ble_eq_true rfl, Nat.le_of_ble_eq_true rfl⟩ ⟨rfl, rfl⟩ rfl rfl (Nat.le_of_ble_eq_true rfl) dX12_next_297 ?_
      refine v_z_eq C 398 dX12_next_300 (by decide) h (fun h => ?_) (fun h => ?_)
      · refine v_aload_n C 0 dX12_next_303 rfl rfl ?_
        refine v_aload_n C 0 dX12_next_304 rfl rfl ?_
        refine v_geti C pM_0 fd_X12_134 rfl dX12_next_305 ?_
        refine v_ldc C kc_X12_145 dX12_next_308 ?_
        refine v_icmp_le C 320 dX12_next_310 (by decide) h (fun h => ?_) (fun h => ?_)
        · refine v_bipush C (v := 10) dX12_next_320 (by decide) ?_
          refine v_aload_n C 0 dX12_next_322 rfl rfl ?_
          refine v_geti C pM_0 fd_X12_134 rfl dX12_next_323 ?_
          refine v_imul C dX12_next_326 ?_
          refine v_aload_n C 0 dX12_next_327 rfl rfl ?_
          refine v_getr C pM_0 fd_X12_30 rfl dX12_next_328 ?_
          refine v_aload_n C 0 dX12_next_331 rfl rfl ?_
          refine v_geti C pM_0 fd_X12_115 rfl dX12_next_332 ?_
          refine v_bald C pM_6 dX12_next_335 h (fun h => ?_)
          refine v_iadd C dX12_next_336 ?_
          refine v_bipush C (v := 48) dX12_next_337 (by decide) ?_
          refine v_isub C dX12_next_339 ?_
          refine v_puti C pM_0 fp_X12_134 rfl rfl rfl dX12_next_340 ?_
          refine v_mem (fun u40 hu40 => ?_)
          have h := nmd hu40 h
          refine v_aload_n C 0 dX12_next_343 rfl rfl ?_
          refine v_dup C rfl dX12_next_344 ?_
          refine v_geti C pM_0 fd_X12_115 rfl dX12_next_345 ?_
          refine v_iconst C (v := 1) dX12_next_348 (by decide) ?_
          refine v_iadd C dX12_next_349 ?_
          refine v_puti C pM_0 fp_X12_115 rfl rfl rfl dX12_next_350 ?_
          refine v_goto C 270 dX12_next_353 (by decide) ?_
          exact ih (si u40 0 11 ((u40.1 0 11) + 1)) h
        · refine v_aload_n C 0 dX12_next_313 rfl rfl ?_
          refine v_geti C pM_0 fd_X12_134 rfl dX12_next_314 ?_
          refine v_goto C 340 dX12_next_317 (by decide) ?_
          refine v_puti C pM_0 fp_X12_134 rfl rfl rfl dX12_next_340 ?_
          refine v_aload_n C 0 dX12_next_343 rfl rfl ?_
          refine v_dup C rfl dX12_next_344 ?_
          refine v_geti C pM_0 fd_X12_115 rfl dX12_next_345 ?_
          refine v_iconst C (v := 1) dX12_next_348 (by decide) ?_
          refine v_iadd C dX12_next_349 ?_
          refine v_puti C pM_0 fp_X12_115 rfl rfl rfl dX12_next_350 ?_
          refine v_mem (fun u41 hu41 => ?_)
          have h := nmd hu41 h
          refine v_goto C 270 dX12_next_353 (by decide) ?_
          exact ih u41 h
      · cases h
        exact v_vret C hr hlk dX12_next_398
set_option maxHeartbeats 4000000 in
set_option maxRecDepth 100000 in
theorem cX12_next_ct (l : Launch) (D : va_G) (cy : Nat → ClassId) (ad : Nat → Nat) (u : Mem)  (out : Mem) (h : fX12_next u = some out) : Met l yX12_next (.code yX12_next cX12_next 5 (none) :: gw) rX12_next (va_Pc [.ref (ad 0)] (wv shM nM D cy ad u)) (qV shM nM D cy ad out) 0 0 (rA ad nM) := by
  refine met_of (cc := cX12_next) (nL := 5) (by decide) (Nat.le_of_ble_eq_true rfl) (fun p e s m below meth c C hr hlk => ?_)
  unfold fX12_next at h
  show V shM nM D cy ad 5 p l e rX12_next s m _ below meth c (MQ below (qV shM nM D cy ad out) _ s 0 0 (rA ad nM)) 0 [(0, .ref (ad 0))] [] u
  refine kX12_next_L0 C hr hlk  _ (fun u4 h => ?_) fu0 u h
  · refine v_aload_n C 0 dX12_next_52 rfl rfl ?_
    refine v_aload_n C 0 dX12_next_53 rfl rfl ?_
    refine v_geti C pM_0 fd_X12_115 rfl dX12_next_54 ?_
    refine v_puti C pM_0 fp_X12_121 rfl rfl rfl dX12_next_57 ?_
    refine v_aload_n C 0 dX12_next_60 rfl rfl ?_
    refine v_geti C pM_0 fd_X12_115 rfl dX12_next_61 ?_
    refine v_aload_n C 0 dX12_next_64 rfl rfl ?_
    refine v_geti C pM_0 fd_X12_118 rfl dX12_next_65 ?_
    refine v_icmp_ne C 77 dX12_next_68 (by decide) h (fun h => ?_) (fun h => ?_)
    · refine v_aload_n C 0 dX12_next_71 rfl rfl ?_
      refine v_iconst C (v := 0) dX12_next_72 (by decide) ?_
      refine v_puti C pM_0 fp_X12_124 rfl rfl rfl dX12_next_73 ?_
      cases h
      exact v_vret C hr hlk dX12_next_76
    · refine v_aload_n C 0 dX12_next_77 rfl rfl ?_
      refine v_getr C pM_0 fd_X12_30 rfl dX12_next_78 ?_
      refine v_aload_n C 0 dX12_next_81 rfl rfl ?_
      refine v_geti C pM_0 fd_X12_115 rfl dX12_next_82 ?_
      refine v_bald C pM_6 dX12_next_85 h (fun h => ?_)
      refine v_istore_n C [(1, .int ((si u4 0 12 (u4.1 0 11)).1 6 ((si u4 0 12 (u4.1 0 11)).1 0 11).toNatClampNeg)), (0, .ref (ad 0))] dX12_next_86 rfl (by decide) rfl ?_
      refine v_iload_n C 0 dX12_next_87 rfl rfl ?_
      obtain ⟨r7, hc6, h⟩ := bnd h
      refine v_callSi C [.int ((si u4 0 12 (u4.1 0 11)).1 6 ((si u4 0 12 (u4.1 0 11)).1 0 11).toNatClampNeg)] (cX12_isLetter_ct l D cy ad ((si u4 0 12 (u4.1 0 11)).1 6 ((si u4 0 12 (u4.1 0 11)).1 0 11).toNatClampNeg) _ r7 hc6) ml_X12_127 ⟨Nat.le_of_ble_eq_true rfl, Nat.le_of_ble_eq_true rfl⟩ ⟨rfl, rfl⟩ rfl rfl (Nat.le_of_ble_eq_true rfl) dX12_next_88 ?_
      refine v_z_eq C 246 dX12_next_91 (by decide) h (fun h => ?_) (fun h => ?_)
      · refine v_lconst C (v := 0) dX12_next_94 (by decide) ?_
        refine v_lstore_n C [(2, .long 0), (1, .int ((si u4 0 12 (u4.1 0 11)).1 6 ((si u4 0 12 (u4.1 0 11)).1 0 11).toNatClampNeg)), (0, .ref (ad 0))] dX12_next_95 rfl (by decide) rfl ?_
        refine v_iconst C (v := 0) dX12_next_96 (by decide) ?_
        refine v_istore C [(4, .int 0), (2, .long 0), (1, .int ((si u4 0 12 (u4.1 0 11)).1 6 ((si u4 0 12 (u4.1 0 11)).1 0 11).toNatClampNeg)), (0, .ref (ad 0))] dX12_next_97 (by decide) rfl ?_
        refine v_sub [3, 2, 1, 0] rfl ?_
        refine kX12_next_L99 C hr hlk ((si u4 0 12 (u4.1 0 11)).1 6 ((si u4 0 12 (u4.1 0 11)).1 0 11).toNatClampNeg) _ (fun v15 v16 u17 h => ?_) fu0 0 0 (si u4 0 12 (u4.1 0 11)) h
        · refine v_iload C 3 dX12_next_173 rfl ?_
          refine v_iconst C (v := 1) dX12_next_175 (by decide) ?_
          refine v_icmp_ne C 209 dX12_next_176 (by decide) h (fun h => ?_) (fun h => ?_)
          · refine v_iload_n C 1 dX12_next_179 rfl rfl ?_
            refine v_i2l C dX12_next_180 ?_
            refine v_ldc2 C kc_X12_97 dX12_next_181 ?_
            refine v_ldc2 C kc_X12_132 dX12_next_184 ?_
            obtain ⟨r20, hc19, h⟩ := bnd h
            refine v_callSi C [.long (((si u4 0 12 (u4.1 0 11)).1 6 ((si u4 0 12 (u4.1 0 11)).1 0 11).toNatClampNeg).toInt64), .long 65, .long 70] (cX12_in_ct l D cy ad (((si u4 0 12 (u4.1 0 11)).1 6 ((si u4 0 12 (u4.1 0 11)).1 0 11).toNatClampNeg).toInt64) 65 70 _ r20 hc19) ml_X12_78 ⟨Nat.le_of_ble_eq_true rfl, Nat.le_of_ble_eq_true rfl⟩ ⟨rfl, rfl⟩ rfl rfl (Nat.le_of_ble_eq_true rfl) dX12_next_187 ?_
            refine v_z_eq C 209 dX12_next_190 (by decide) h (fun h => ?_) (fun h => ?_)
            · refine v_aload_n C 0 dX12_next_193 rfl rfl ?_
              refine v_iconst C (v := 2) dX12_next_194 (by decide) ?_
              refine v_puti C pM_0 fp_X12_124 rfl rfl rfl dX12_next_195 ?_
              refine v_aload_n C 0 dX12_next_198 rfl rfl ?_
              refine v_iload_n C 1 dX12_next_199 rfl rfl ?_
              refine v_bipush C (v := 65) dX12_next_200 (by decide) ?_
              refine v_isub C dX12_next_202 ?_
              refine v_puti C pM_0 fp_X12_134 rfl rfl rfl dX12_next_203 ?_
              refine v_mem (fun u22 hu22 => ?_)
              have h := nmd hu22 h
              refine v_goto C 243 dX12_next_206 (by decide) ?_
              refine v_goto C 398 dX12_next_243 (by decide) ?_
              cases h
              exact v_vret C hr hlk dX12_next_398
            · refine v_sub [0, 2, 3] rfl ?_
              exact kX12_next_J209 C hr hlk v15 v16 u17 h
          · refine v_sub [0, 2, 3] rfl ?_
            exact kX12_next_J209 C hr hlk v15 v16 u17 h
      · refine v_iload_n C 0 dX12_next_246 rfl rfl ?_
        refine v_i2l C dX12_next_247 ?_
        refine v_ldc2 C kc_X12_141 dX12_next_248 ?_
        refine v_ldc2 C kc_X12_143 dX12_next_251 ?_
        obtain ⟨r31, hc30, h⟩ := bnd h
        refine v_callSi C [.long (((si u4 0 12 (u4.1 0 11)).1 6 ((si u4 0 12 (u4.1 0 11)).1 0 11).toNatClampNeg).toInt64), .long 48, .long 57] (cX12_in_ct l D cy ad (((si u4 0 12 (u4.1 0 11)).1 6 ((si u4 0 12 (u4.1 0 11)).1 0 11).toNatClampNeg).toInt64) 48 57 _ r31 hc30) ml_X12_78 ⟨Nat.le_of_ble_eq_true rfl, Nat.le_of_ble_eq_true rfl⟩ ⟨rfl, rfl⟩ rfl rfl (Nat.le_of_ble_eq_true rfl) dX12_next_254 ?_
        refine v_z_eq C 356 dX12_next_257 (by decide) h (fun h => ?_) (fun h => ?_)
        · refine v_aload_n C 1 dX12_next_260 rfl rfl ?_
          refine v_iconst C (v := 3) dX12_next_261 (by decide) ?_
          refine v_puti C pM_0 fp_X12_124 rfl rfl rfl dX12_next_262 ?_
          refine v_aload_n C 1 dX12_next_265 rfl rfl ?_
          refine v_iconst C (v := 0) dX12_next_266 (by decide) ?_
          refine v_puti C pM_0 fp_X12_134 rfl rfl rfl dX12_next_267 ?_
          refine v_mem (fun u33 hu33 => ?_)
          have h := nmd hu33 h
          refine v_sub [1] rfl ?_
          refine kX12_next_L270 C hr hlk    fu0 u33 h
        · refine v_aload_n C 1 dX12_next_356 rfl rfl ?_
          refine v_dup C rfl dX12_next_357 ?_
          refine v_geti C pM_0 fd_X12_115 rfl dX12_next_358 ?_
          refine v_iconst C (v := 1) dX12_next_361 (by decide) ?_
          refine v_iadd C dX12_next_362 ?_
          refine v_puti C pM_0 fp_X12_115 rfl rfl rfl dX12_next_363 ?_
          refine v_mem (fun u42 hu42 => ?_)
          have h := nmd hu42 h
          refine v_aload_n C 1 dX12_next_366 rfl rfl ?_
          refine v_iload_n C 0 dX12_next_367 rfl rfl ?_
          refine v_puti C pM_0 fp_X12_134 rfl rfl rfl dX12_next_368 ?_
          refine v_mem (fun u43 hu43 => ?_)
          have h := nmd hu43 h
          refine v_aload_n C 1 dX12_next_371 rfl rfl ?_
          refine v_iload_n C 0 dX12_next_372 rfl rfl ?_
          refine v_bipush C (v := 61) dX12_next_373 (by decide) ?_
          refine v_dia 395 (.int ((if ((si u4 0 12 (u4.1 0 11)).1 6 ((si u4 0 12 (u4.1 0 11)).1 0 11).toNatClampNeg) = 61 then 4 else (if ((si u4 0 12 (u4.1 0 11)).1 6 ((si u4 0 12 (u4.1 0 11)).1 0 11).toNatClampNeg) = 44 then 4 else (if ((si u4 0 12 (u4.1 0 11)).1 6 ((si u4 0 12 (u4.1 0 11)).1 0 11).toNatClampNeg) = 59 then 4 else 5))) : Int32)) [.ref (ad 0)] ?_ (fun hj => ?_)
          · refine v_nmi (fun x47 hx47 => ?_)
            have h := nmd hx47 h
            refine v_puti C pM_0 fp_X12_124 rfl rfl rfl dX12_next_395 ?_
            cases h
            exact v_vret C hr hlk dX12_next_398
          · refine p_icmp_eq C 390 dX12_next_375 (by decide) (fun z44 => ?_) (fun z44 => ?_)
            · refine v_iconst C (v := 4) dX12_next_390 (by decide) ?_
              refine v_goto C 395 dX12_next_391 (by decide) ?_
              exact v_top (by rw [if_pos z44]; first | done | rfl) hj
            · refine v_iload_n C 0 dX12_next_378 rfl rfl ?_
              refine v_bipush C (v := 44) dX12_next_379 (by decide) ?_
              refine p_icmp_eq C 390 dX12_next_381 (by decide) (fun z45 => ?_) (fun z45 => ?_)
              · refine v_iconst C (v := 4) dX12_next_390 (by decide) ?_
                refine v_goto C 395 dX12_next_391 (by decide) ?_
                exact v_top (by rw [if_neg z44, if_pos z45]; first | done | rfl) hj
              · refine v_iload_n C 0 dX12_next_384 rfl rfl ?_
                refine v_bipush C (v := 59) dX12_next_385 (by decide) ?_
                refine p_icmp_ne C 394 dX12_next_387 (by decide) (fun z46 => ?_) (fun z46 => ?_)
                · refine v_iconst C (v := 4) dX12_next_390 (by decide) ?_
                  refine v_goto C 395 dX12_next_391 (by decide) ?_
                  exact v_top (by rw [if_neg z44, if_neg z45, if_pos z46]; first | done | rfl) hj
                · refine v_iconst C (v := 5) dX12_next_394 (by decide) ?_
                  exact v_top (by rw [if_neg z44, if_neg z45, if_neg z46]; first | done | rfl) hj
def rX12_number : Room := { frames := 3, cells := 0, slots := 0, locals := 69 }
def fX12_number (a1 : Int32) (a2 : Int32) (u : Mem) : Option (Int32 × Mem) := (if 0 < (u.1 0 15) then ((fX12_errs 1 u).bind fun u3 => (some (a1, u3))) else (if (u.1 0 13) = 3 then ((fX12_in ((u.1 0 14).toInt64) a1.toInt64 a2.toInt64).bind fun r6 => (if r6 = true then ((fX12_next u).bind fun u9 => (some (u.1 0 14, u9))) else ((fX12_errs 2 u).bind fun u11 => (some (a1, u11))))) else ((fX12_errs 1 u).bind fun u13 => (some (a1, u13)))))
set_option maxHeartbeats 4000000 in
set_option maxRecDepth 100000 in
theorem cX12_number_ct (l : Launch) (D : va_G) (cy : Nat → ClassId) (ad : Nat → Nat) (a1 : Int32) (a2 : Int32) (u : Mem)  (out : (Int32 × Mem)) (h : fX12_number a1 a2 u = some out) : Met l yX12_number (.code yX12_number cX12_number 4 (some .int) :: gw) rX12_number (va_Pc [.ref (ad 0), .int a1, .int a2] (wv shM nM D cy ad u)) (qI shM nM D cy ad out.1 out.2) 0 0 (rA ad nM) := by
  refine met_of (cc := cX12_number) (nL := 4) (by decide) (Nat.le_of_ble_eq_true rfl) (fun p e s m below meth c C hr hlk => ?_)
  unfold fX12_number at h
  show V shM nM D cy ad 4 p l e rX12_number s m _ below meth c (MQ below (qI shM nM D cy ad out.1 out.2) _ s 0 0 (rA ad nM)) 0 [(0, .ref (ad 0)), (1, .int a1), (2, .int a2)] [] u
  refine v_aload_n C 0 dX12_number_0 rfl rfl ?_
  refine v_geti C pM_0 fd_X12_146 rfl dX12_number_1 ?_
  refine v_if_gt C 15 dX12_number_4 (by decide) h (fun h => ?_) (fun h => ?_)
  · refine v_aload_n C 0 dX12_number_15 rfl rfl ?_
    refine v_iconst C (v := 1) dX12_number_16 (by decide) ?_
    obtain ⟨u3, hc2, h⟩ := bnd h
    refine v_callVv C [.int 1] (cX12_errs_ct l D cy ad 1 u u3 hc2) ml_X12_152 pM_0 ⟨Nat.le_of_ble_eq_true rfl, Nat.le_of_ble_eq_true rfl⟩ ⟨rfl, rfl⟩ rfl rfl (Nat.le_of_ble_eq_true rfl) dX12_number_17 ?_
    refine v_iload_n C 1 dX12_number_20 rfl rfl ?_
    cases h
    exact v_iret C hr hlk dX12_number_21
  · refine v_aload_n C 0 dX12_number_7 rfl rfl ?_
    refine v_geti C pM_0 fd_X12_124 rfl dX12_number_8 ?_
    refine v_iconst C (v := 3) dX12_number_11 (by decide) ?_
    refine v_icmp_eq C 22 dX12_number_12 (by decide) h (fun h => ?_) (fun h => ?_)
    · refine v_aload_n C 0 dX12_number_22 rfl rfl ?_
      refine v_geti C pM_0 fd_X12_134 rfl dX12_number_23 ?_
      refine v_i2l C dX12_number_26 ?_
      refine v_iload_n C 1 dX12_number_27 rfl rfl ?_
      refine v_i2l C dX12_number_28 ?_
      refine v_iload_n C 2 dX12_number_29 rfl rfl ?_
      refine v_i2l C dX12_number_30 ?_
      obtain ⟨r6, hc5, h⟩ := bnd h
      refine v_callSi C [.long ((u.1 0 14).toInt64), .long a1.toInt64, .long a2.toInt64] (cX12_in_ct l D cy ad ((u.1 0 14).toInt64) a1.toInt64 a2.toInt64 _ r6 hc5) ml_X12_78 ⟨Nat.le_of_ble_eq_true rfl, Nat.le_of_ble_eq_true rfl⟩ ⟨rfl, rfl⟩ rfl rfl (Nat.le_of_ble_eq_true rfl) dX12_number_31 ?_
      refine v_z_ne C 44 dX12_number_34 (by decide) h (fun h => ?_) (fun h => ?_)
      · refine v_aload_n C 0 dX12_number_44 rfl rfl ?_
        refine v_geti C pM_0 fd_X12_134 rfl dX12_number_45 ?_
        refine v_istore_n C [(3, .int (u.1 0 14)), (0, .ref (ad 0)), (1, .int a1), (2, .int a2)] dX12_number_48 rfl (by decide) rfl ?_
        refine v_aload_n C 1 dX12_number_49 rfl rfl ?_
        obtain ⟨u9, hc8, h⟩ := bnd h
        refine v_callVv C [] (cX12_next_ct l D cy ad u u9 hc8) ml_X12_155 pM_0 ⟨Nat.le_of_ble_eq_true rfl, Nat.le_of_ble_eq_true rfl⟩ ⟨rfl, rfl⟩ rfl rfl (Nat.le_of_ble_eq_true rfl) dX12_number_50 ?_
        refine v_iload_n C 0 dX12_number_53 rfl rfl ?_
        cases h
        exact v_iret C hr hlk dX12_number_54
      · refine v_aload_n C 0 dX12_number_37 rfl rfl ?_
        refine v_iconst C (v := 2) dX12_number_38 (by decide) ?_
        obtain ⟨u11, hc10, h⟩ := bnd h
        refine v_callVv C [.int 2] (cX12_errs_ct l D cy ad 2 u u11 hc10) ml_X12_152 pM_0 ⟨Nat.le_of_ble_eq_true rfl, Nat.le_of_ble_eq_true rfl⟩ ⟨rfl, rfl⟩ rfl rfl (Nat.le_of_ble_eq_true rfl) dX12_number_39 ?_
        refine v_iload_n C 1 dX12_number_42 rfl rfl ?_
        cases h
        exact v_iret C hr hlk dX12_number_43
    · refine v_aload_n C 0 dX12_number_15 rfl rfl ?_
      refine v_iconst C (v := 1) dX12_number_16 (by decide) ?_
      obtain ⟨u13, hc12, h⟩ := bnd h
      refine v_callVv C [.int 1] (cX12_errs_ct l D cy ad 1 u u13 hc12) ml_X12_152 pM_0 ⟨Nat.le_of_ble_eq_true rfl, Nat.le_of_ble_eq_true rfl⟩ ⟨rfl, rfl⟩ rfl rfl (Nat.le_of_ble_eq_true rfl) dX12_number_17 ?_
      refine v_iload_n C 1 dX12_number_20 rfl rfl ?_
      cases h
      exact v_iret C hr hlk dX12_number_21
def rX12_takes : Room := { frames := 3, cells := 0, slots := 0, locals := 69 }
def fX12_takes (a1 : Int32) (a2 : Int32) (u : Mem) : Option Mem := (if 0 < (u.1 0 15) then ((fX12_errs 1 u).bind fun u3 => (some u3)) else (if (u.1 0 13) = a1 then (if (u.1 0 14) = a2 then ((fX12_next u).bind fun u8 => (some u8)) else ((fX12_errs 1 u).bind fun u10 => (some u10))) else ((fX12_errs 1 u).bind fun u12 => (some u12))))
set_option maxHeartbeats 4000000 in
set_option maxRecDepth 100000 in
theorem cX12_takes_ct (l : Launch) (D : va_G) (cy : Nat → ClassId) (ad : Nat → Nat) (a1 : Int32) (a2 : Int32) (u : Mem)  (out : Mem) (h : fX12_takes a1 a2 u = some out) : Met l yX12_takes (.code yX12_takes cX12_takes 3 (none) :: gw) rX12_takes (va_Pc [.ref (ad 0), .int a1, .int a2] (wv shM nM D cy ad u)) (qV shM nM D cy ad out) 0 0 (rA ad nM) := by
  refine met_of (cc := cX12_takes) (nL := 3) (by decide) (Nat.le_of_ble_eq_true rfl) (fun p e s m below meth c C hr hlk => ?_)
  unfold fX12_takes at h
  show V shM nM D cy ad 3 p l e rX12_takes s m _ below meth c (MQ below (qV shM nM D cy ad out) _ s 0 0 (rA ad nM)) 0 [(0, .ref (ad 0)), (1, .int a1), (2, .int a2)] [] u
  refine v_aload_n C 0 dX12_takes_0 rfl rfl ?_
  refine v_geti C pM_0 fd_X12_146 rfl dX12_takes_1 ?_
  refine v_if_gt C 23 dX12_takes_4 (by decide) h (fun h => ?_) (fun h => ?_)
  · refine v_aload_n C 0 dX12_takes_23 rfl rfl ?_
    refine v_iconst C (v := 1) dX12_takes_24 (by decide) ?_
    obtain ⟨u3, hc2, h⟩ := bnd h
    refine v_callVv C [.int 1] (cX12_errs_ct l D cy ad 1 u u3 hc2) ml_X12_152 pM_0 ⟨Nat.le_of_ble_eq_true rfl, Nat.le_of_ble_eq_true rfl⟩ ⟨rfl, rfl⟩ rfl rfl (Nat.le_of_ble_eq_true rfl) dX12_takes_25 ?_
    cases h
    exact v_vret C hr hlk dX12_takes_28
  · refine v_aload_n C 0 dX12_takes_7 rfl rfl ?_
    refine v_geti C pM_0 fd_X12_124 rfl dX12_takes_8 ?_
    refine v_iload_n C 1 dX12_takes_11 rfl rfl ?_
    refine v_icmp_ne C 23 dX12_takes_12 (by decide) h (fun h => ?_) (fun h => ?_)
    · refine v_aload_n C 0 dX12_takes_15 rfl rfl ?_
      refine v_geti C pM_0 fd_X12_134 rfl dX12_takes_16 ?_
      refine v_iload_n C 2 dX12_takes_19 rfl rfl ?_
      refine v_icmp_eq C 29 dX12_takes_20 (by decide) h (fun h => ?_) (fun h => ?_)
      · refine v_aload_n C 0 dX12_takes_29 rfl rfl ?_
        obtain ⟨u8, hc7, h⟩ := bnd h
        refine v_callVv C [] (cX12_next_ct l D cy ad u u8 hc7) ml_X12_155 pM_0 ⟨Nat.le_of_ble_eq_true rfl, Nat.le_of_ble_eq_true rfl⟩ ⟨rfl, rfl⟩ rfl rfl (Nat.le_of_ble_eq_true rfl) dX12_takes_30 ?_
        cases h
        exact v_vret C hr hlk dX12_takes_33
      · refine v_aload_n C 0 dX12_takes_23 rfl rfl ?_
        refine v_iconst C (v := 1) dX12_takes_24 (by decide) ?_
        obtain ⟨u10, hc9, h⟩ := bnd h
        refine v_callVv C [.int 1] (cX12_errs_ct l D cy ad 1 u u10 hc9) ml_X12_152 pM_0 ⟨Nat.le_of_ble_eq_true rfl, Nat.le_of_ble_eq_true rfl⟩ ⟨rfl, rfl⟩ rfl rfl (Nat.le_of_ble_eq_true rfl) dX12_takes_25 ?_
        cases h
        exact v_vret C hr hlk dX12_takes_28
    · refine v_aload_n C 0 dX12_takes_23 rfl rfl ?_
      refine v_iconst C (v := 1) dX12_takes_24 (by decide) ?_
      obtain ⟨u12, hc11, h⟩ := bnd h
      refine v_callVv C [.int 1] (cX12_errs_ct l D cy ad 1 u u12 hc11) ml_X12_152 pM_0 ⟨Nat.le_of_ble_eq_true rfl, Nat.le_of_ble_eq_true rfl⟩ ⟨rfl, rfl⟩ rfl rfl (Nat.le_of_ble_eq_true rfl) dX12_takes_25 ?_
      cases h
      exact v_vret C hr hlk dX12_takes_28
def rX12_kindOf : Room := { frames := 1, cells := 0, slots := 0, locals := 21 }
def fX12_kindOf (u : Mem) : Option (Int32 × Mem) := (if 0 < (u.1 0 15) then ((fX12_errs 1 u).bind fun u3 => (some (0, u3))) else (if (u.1 0 13) = 2 then (some (u.1 0 14, u)) else ((fX12_errs 1 u).bind fun u6 => (some (0, u6)))))
set_option maxHeartbeats 4000000 in
set_option maxRecDepth 100000 in
theorem cX12_kindOf_ct (l : Launch) (D : va_G) (cy : Nat → ClassId) (ad : Nat → Nat) (u : Mem)  (out : (Int32 × Mem)) (h : fX12_kindOf u = some out) : Met l yX12_kindOf (.code yX12_kindOf cX12_kindOf 1 (some .int) :: gw) rX12_kindOf (va_Pc [.ref (ad 0)] (wv shM nM D cy ad u)) (qI shM nM D cy ad out.1 out.2) 0 0 (rA ad nM) := by
  refine met_of (cc := cX12_kindOf) (nL := 1) (by decide) (Nat.le_of_ble_eq_true rfl) (fun p e s m below meth c C hr hlk => ?_)
  unfold fX12_kindOf at h
  show V shM nM D cy ad 1 p l e rX12_kindOf s m _ below meth c (MQ below (qI shM nM D cy ad out.1 out.2) _ s 0 0 (rA ad nM)) 0 [(0, .ref (ad 0))] [] u
  refine v_aload_n C 0 dX12_kindOf_0 rfl rfl ?_
  refine v_geti C pM_0 fd_X12_146 rfl dX12_kindOf_1 ?_
  refine v_if_gt C 15 dX12_kindOf_4 (by decide) h (fun h => ?_) (fun h => ?_)
  · refine v_aload_n C 0 dX12_kindOf_15 rfl rfl ?_
    refine v_iconst C (v := 1) dX12_kindOf_16 (by decide) ?_
    obtain ⟨u3, hc2, h⟩ := bnd h
    refine v_callVv C [.int 1] (cX12_errs_ct l D cy ad 1 u u3 hc2) ml_X12_152 pM_0 ⟨Nat.le_of_ble_eq_true rfl, Nat.le_of_ble_eq_true rfl⟩ ⟨rfl, rfl⟩ rfl rfl (Nat.le_of_ble_eq_true rfl) dX12_kindOf_17 ?_
    refine v_iconst C (v := 0) dX12_kindOf_20 (by decide) ?_
    cases h
    exact v_iret C hr hlk dX12_kindOf_21
  · refine v_aload_n C 0 dX12_kindOf_7 rfl rfl ?_
    refine v_geti C pM_0 fd_X12_124 rfl dX12_kindOf_8 ?_
    refine v_iconst C (v := 2) dX12_kindOf_11 (by decide) ?_
    refine v_icmp_eq C 22 dX12_kindOf_12 (by decide) h (fun h => ?_) (fun h => ?_)
    · refine v_aload_n C 0 dX12_kindOf_22 rfl rfl ?_
      refine v_geti C pM_0 fd_X12_134 rfl dX12_kindOf_23 ?_
      cases h
      exact v_iret C hr hlk dX12_kindOf_26
    · refine v_aload_n C 0 dX12_kindOf_15 rfl rfl ?_
      refine v_iconst C (v := 1) dX12_kindOf_16 (by decide) ?_
      obtain ⟨u6, hc5, h⟩ := bnd h
      refine v_callVv C [.int 1] (cX12_errs_ct l D cy ad 1 u u6 hc5) ml_X12_152 pM_0 ⟨Nat.le_of_ble_eq_true rfl, Nat.le_of_ble_eq_true rfl⟩ ⟨rfl, rfl⟩ rfl rfl (Nat.le_of_ble_eq_true rfl) dX12_kindOf_17 ?_
      refine v_iconst C (v := 0) dX12_kindOf_20 (by decide) ?_
      cases h
      exact v_iret C hr hlk dX12_kindOf_21
def rX12_once : Room := { frames := 1, cells := 0, slots := 0, locals := 21 }
def fX12_once (a1 : Int32) (u : Mem) : Option Mem := (if (u.1 0 15) = 0 then (if inB a1 18 then (if (u.1 7 a1.toNatClampNeg) = 0 then (if inB a1 18 then (some (si u 7 a1.toNatClampNeg 1)) else none) else ((fX12_errs 4 u).bind fun u4 => (if inB a1 18 then (some (si u4 7 a1.toNatClampNeg 1)) else none))) else none) else (if inB a1 18 then (some (si u 7 a1.toNatClampNeg 1)) else none))
set_option maxHeartbeats 4000000 in
set_option maxRecDepth 100000 in
theorem cX12_once_ct (l : Launch) (D : va_G) (cy : Nat → ClassId) (ad : Nat → Nat) (a1 : Int32) (u : Mem)  (out : Mem) (h : fX12_once a1 u = some out) : Met l yX12_once (.code yX12_once cX12_once 2 (none) :: gw) rX12_once (va_Pc [.ref (ad 0), .int a1] (wv shM nM D cy ad u)) (qV shM nM D cy ad out) 0 0 (rA ad nM) := by
  refine met_of (cc := cX12_once) (nL := 2) (by decide) (Nat.le_of_ble_eq_true rfl) (fun p e s m below meth c C hr hlk => ?_)
  unfold fX12_once at h
  show V shM nM D cy ad 2 p l e rX12_once s m _ below meth c (MQ below (qV shM nM D cy ad out) _ s 0 0 (rA ad nM)) 0 [(0, .ref (ad 0)), (1, .int a1)] [] u
  refine v_aload_n C 0 dX12_once_0 rfl rfl ?_
  refine v_geti C pM_0 fd_X12_146 rfl dX12_once_1 ?_
  refine v_if_ne C 21 dX12_once_4 (by decide) h (fun h => ?_) (fun h => ?_)
  · refine v_aload_n C 0 dX12_once_7 rfl rfl ?_
    refine v_getr C pM_0 fd_X12_40 rfl dX12_once_8 ?_
    refine v_iload_n C 1 dX12_once_11 rfl rfl ?_
    refine v_zald C pM_7 dX12_once_12 h (fun h => ?_)
    refine v_if_eq C 21 dX12_once_13 (by decide) h (fun h => ?_) (fun h => ?_)
    · refine v_aload_n C 0 dX12_once_21 rfl rfl ?_
      refine v_getr C pM_0 fd_X12_40 rfl dX12_once_22 ?_
      refine v_iload_n C 1 dX12_once_25 rfl rfl ?_
      refine v_iconst C (v := 1) dX12_once_26 (by decide) ?_
      refine v_zast C pM_7 (by decide) dX12_once_27 h (fun h => ?_)
      cases h
      exact v_vret C hr hlk dX12_once_28
    · refine v_aload_n C 0 dX12_once_16 rfl rfl ?_
      refine v_iconst C (v := 4) dX12_once_17 (by decide) ?_
      obtain ⟨u4, hc3, h⟩ := bnd h
      refine v_callVv C [.int 4] (cX12_errs_ct l D cy ad 4 u u4 hc3) ml_X12_152 pM_0 ⟨Nat.le_of_ble_eq_true rfl, Nat.le_of_ble_eq_true rfl⟩ ⟨rfl, rfl⟩ rfl rfl (Nat.le_of_ble_eq_true rfl) dX12_once_18 ?_
      refine v_aload_n C 0 dX12_once_21 rfl rfl ?_
      refine v_getr C pM_0 fd_X12_40 rfl dX12_once_22 ?_
      refine v_iload_n C 1 dX12_once_25 rfl rfl ?_
      refine v_iconst C (v := 1) dX12_once_26 (by decide) ?_
      refine v_zast C pM_7 (by decide) dX12_once_27 h (fun h => ?_)
      cases h
      exact v_vret C hr hlk dX12_once_28
  · refine v_aload_n C 0 dX12_once_21 rfl rfl ?_
    refine v_getr C pM_0 fd_X12_40 rfl dX12_once_22 ?_
    refine v_iload_n C 1 dX12_once_25 rfl rfl ?_
    refine v_iconst C (v := 1) dX12_once_26 (by decide) ?_
    refine v_zast C pM_7 (by decide) dX12_once_27 h (fun h => ?_)
    cases h
    exact v_vret C hr hlk dX12_once_28
def rX12_kindClause : Room := { frames := 4, cells := 0, slots := 0, locals := 92 }
def fX12_kindClause_J17 (a1 : Int32) (u : Mem) : Option Mem := (if (u.1 0 15) = 0 then ((fX12_next u).bind fun u8 => ((fX12_number 1 99 u8).bind fun q10 => (if inB a1 220 then (some (si q10.2 8 a1.toNatClampNeg q10.1)) else none))) else (some u))
def fX12_kindClause (u : Mem) : Option Mem := ((fX12_kindOf u).bind fun q2 => (if (q2.2.1 0 15) = 0 then ((fX12_once q2.1 q2.2).bind fun u5 => fX12_kindClause_J17 q2.1 u5) else fX12_kindClause_J17 q2.1 q2.2))
set_option maxHeartbeats 4000000 in
set_option maxRecDepth 100000 in
theorem kX12_kindClause_J17 {l : Launch} {D : va_G} {cy : Nat → ClassId} {ad : Nat → Nat} {p : Program} {e : Env} {s : State} {m : MethodId} {args : Array Value} {below : List Frame} {meth : Method} {c : Code} (C : Cx nM D cy ad 3 cX12_kindClause RX12 rX12_kindClause p s m args c) (hr : meth.sig.returnType = none) (hlk : meth.locks = false) {out : Mem}  (a1 : Int32) (u : Mem)   (h : fX12_kindClause_J17 a1 u = some out) : V shM nM D cy ad 3 p l e rX12_kindClause s m args below meth c (MQ below (qV shM nM D cy ad out) args s 0 0 (rA ad nM)) 17 [(0, .ref (ad 0)), (1, .int a1)] [] u := by
  unfold fX12_kindClause_J17 at h
  refine v_aload_n C 0 dX12_kindClause_17 rfl rfl ?_
  refine v_geti C pM_0 fd_X12_146 rfl dX12_kindClause_18 ?_
  refine v_if_ne C 43 dX12_kindClause_21 (by decide) h (fun h => ?_) (fun h => ?_)
  · refine v_aload_n C 0 dX12_kindClause_24 rfl rfl ?_
    obtain ⟨u8, hc7, h⟩ := bnd h
    refine v_callVv C [] (cX12_next_ct l D cy ad u u8 hc7) ml_X12_155 pM_0 ⟨Nat.le_of_ble_eq_true rfl, Nat.le_of_ble_eq_true rfl⟩ ⟨rfl, rfl⟩ rfl rfl (Nat.le_of_ble_eq_true rfl) dX12_kindClause_25 ?_
    refine v_aload_n C 0 dX12_kindClause_28 rfl rfl ?_
    refine v_iconst C (v := 1) dX12_kindClause_29 (by decide) ?_
    refine v_bipush C (v := 99) dX12_kindClause_30 (by decide) ?_
    obtain ⟨q10, hc9, h⟩ := bnd h
    refine v_callVi C [.int 1, .int 99] (cX12_number_ct l D cy ad 1 99 u8 q10 hc9) ml_X12_165 pM_0 ⟨Nat.le_of_ble_eq_true rfl, Nat.le_of_ble_eq_true rfl⟩ ⟨rfl, rfl⟩ rfl rfl (Nat.le_of_ble_eq_true rfl) dX12_kindClause_32 ?_
    refine v_istore_n C [(2, .int q10.1), (0, .ref (ad 0)), (1, .int a1)] dX12_kindClause_35 rfl (by decide) rfl ?_
    refine v_aload_n C 1 dX12_kindClause_36 rfl rfl ?_
    refine v_getr C pM_0 fd_X12_44 rfl dX12_kindClause_37 ?_
    refine v_iload_n C 2 dX12_kindClause_40 rfl rfl ?_
    refine v_iload_n C 0 dX12_kindClause_41 rfl rfl ?_
    refine v_iast C pM_8 dX12_kindClause_42 h (fun h => ?_)
    cases h
    exact v_vret C hr hlk dX12_kindClause_43
  · cases h
    exact v_vret C hr hlk dX12_kindClause_43
set_option maxHeartbeats 4000000 in
set_option maxRecDepth 100000 in
theorem cX12_kindClause_ct (l : Launch) (D : va_G) (cy : Nat → ClassId) (ad : Nat → Nat) (u : Mem)  (out : Mem) (h : fX12_kindClause u = some out) : Met l yX12_kindClause (.code yX12_kindClause cX12_kindClause 3 (none) :: gw) rX12_kindClause (va_Pc [.ref (ad 0)] (wv shM nM D cy ad u)) (qV shM nM D cy ad out) 0 0 (rA ad nM) := by
  refine met_of (cc := cX12_kindClause) (nL := 3) (by decide) (Nat.le_of_ble_eq_true rfl) (fun p e s m below meth c C hr hlk => ?_)
  unfold fX12_kindClause at h
  show V shM nM D cy ad 3 p l e rX12_kindClause s m _ below meth c (MQ below (qV shM nM D cy ad out) _ s 0 0 (rA ad nM)) 0 [(0, .ref (ad 0))] [] u
  refine v_aload_n C 0 dX12_kindClause_0 rfl rfl ?_
  obtain ⟨q2, hc1, h⟩ := bnd h
  refine v_callVi C [] (cX12_kindOf_ct l D cy ad u q2 hc1) ml_X12_158 pM_0 ⟨Nat.le_of_ble_eq_true rfl, Nat.le_of_ble_eq_true rfl⟩ ⟨rfl, rfl⟩ rfl rfl (Nat.le_of_ble_eq_true rfl) dX12_kindClause_1 ?_
  refine v_istore_n C [(1, .int q2.1), (0, .ref (ad 0))] dX12_kindClause_4 rfl (by decide) rfl ?_
  refine v_aload_n C 1 dX12_kindClause_5 rfl rfl ?_
  refine v_geti C pM_0 fd_X12_146 rfl dX12_kindClause_6 ?_
  refine v_if_ne C 17 dX12_kindClause_9 (by decide) h (fun h => ?_) (fun h => ?_)
  · refine v_aload_n C 1 dX12_kindClause_12 rfl rfl ?_
    refine v_iload_n C 0 dX12_kindClause_13 rfl rfl ?_
    obtain ⟨u5, hc4, h⟩ := bnd h
    refine v_callVv C [.int q2.1] (cX12_once_ct l D cy ad q2.1 q2.2 u5 hc4) ml_X12_162 pM_0 ⟨Nat.le_of_ble_eq_true rfl, Nat.le_of_ble_eq_true rfl⟩ ⟨rfl, rfl⟩ rfl rfl (Nat.le_of_ble_eq_true rfl) dX12_kindClause_14 ?_
    refine v_sub [1, 0] rfl ?_
    exact kX12_kindClause_J17 C hr hlk q2.1 u5 h
  · refine v_sub [1, 0] rfl ?_
    exact kX12_kindClause_J17 C hr hlk q2.1 q2.2 h
def rX12_chainClause : Room := { frames := 4, cells := 0, slots := 0, locals := 92 }
def fX12_chainClause_J115 (a2 : Int32) (a3 : Int32) (a4 : Int32) (a5 : Int32) (u : Mem) : Option Mem := ((fX12_number 1 9 u).bind fun q29 => ((fX12_takes 1 3 q29.2).bind fun u31 => ((fX12_number 0 999 u31).bind fun q33 => (if (q33.2.1 0 15) = 0 then (if inB a2 220 then (if inB (a2 + 1) 220 then ((some (si (si q33.2 8 a2.toNatClampNeg 1) 8 (a2 + 1).toNatClampNeg a3)).bind fun u35 => (if inB (a2 + 2) 220 then (if inB (a2 + 3) 220 then ((some (si (si u35 8 (a2 + 2).toNatClampNeg a4) 8 (a2 + 3).toNatClampNeg a5)).bind fun u36 => (if inB (a2 + 4) 220 then (if inB (a2 + 5) 220 then (some (si (si u36 8 (a2 + 4).toNatClampNeg q29.1) 8 (a2 + 5).toNatClampNeg q33.1)) else none) else none)) else none) else none)) else none) else none) else (some q33.2)))))
def fX12_chainClause_J104 (a2 : Int32) (a3 : Int32) (a4 : Int32) (a5 : Int32) (u : Mem) : Option Mem := (if (u.1 0 15) = 0 then ((fX12_next u).bind fun u27 => fX12_chainClause_J115 a2 a3 a4 a5 u27) else fX12_chainClause_J115 a2 a3 a4 a5 u)
def fX12_chainClause_J65 (a2 : Int32) (a3 : Int32) (u : Mem) : Option Mem := ((fX12_number 1 9 u).bind fun q15 => ((fX12_takes 1 2 q15.2).bind fun u17 => ((fX12_kindOf u17).bind fun q19 => (if (q19.2.1 0 15) = 0 then (if q19.1 = a3 then ((fX12_errs 3 q19.2).bind fun u24 => fX12_chainClause_J104 a2 a3 q15.1 q19.1 u24) else fX12_chainClause_J104 a2 a3 q15.1 q19.1 q19.2) else fX12_chainClause_J104 a2 a3 q15.1 q19.1 q19.2))))
def fX12_chainClause_J34 (u : Mem) : Option Mem := ((fX12_number 0 4 u).bind fun q8 => ((fX12_kindOf q8.2).bind fun q10 => (if (q10.2.1 0 15) = 0 then ((fX12_next q10.2).bind fun u13 => fX12_chainClause_J65 (6 + (6 * q8.1)) q10.1 u13) else fX12_chainClause_J65 (6 + (6 * q8.1)) q10.1 q10.2)))
def fX12_chainClause (u : Mem) : Option Mem := (if (u.1 0 13) = 3 then ((fX12_in ((u.1 0 14).toInt64) 0 4).bind fun r3 => (if r3 = true then ((fX12_once (6 + (u.1 0 14)) u).bind fun u6 => fX12_chainClause_J34 u6) else fX12_chainClause_J34 u)) else fX12_chainClause_J34 u)
set_option maxHeartbeats 4000000 in
set_option maxRecDepth 100000 in
theorem kX12_chainClause_J115 {l : Launch} {D : va_G} {cy : Nat → ClassId} {ad : Nat → Nat} {p : Program} {e : Env} {s : State} {m : MethodId} {args : Array Value} {below : List Frame} {meth : Method} {c : Code} (C : Cx nM D cy ad 8 cX12_chainClause RX12 rX12_chainClause p s m args c) (hr : meth.sig.returnType = none) (hlk : meth.locks = false) {out : Mem}  (a2 : Int32) (a3 : Int32) (a4 : Int32) (a5 : Int32) (u : Mem)   (h : fX12_chainClause_J115 a2 a3 a4 a5 u = some out) : V shM nM D cy ad 8 p l e rX12_chainClause s m args below meth c (MQ below (qV shM nM D cy ad out) args s 0 0 (rA ad nM)) 115 [(0, .ref (ad 0)), (2, .int a2), (3, .int a3), (4, .int a4), (5, .int a5)] [] u := by
  unfold fX12_chainClause_J115 at h
  refine v_aload_n C 0 dX12_chainClause_115 rfl rfl ?_
  refine v_iconst C (v := 1) dX12_chainClause_116 (by decide) ?_
  refine v_bipush C (v := 9) dX12_chainClause_117 (by decide) ?_
  obtain ⟨q29, hc28, h⟩ := bnd h
  refine v_callVi C [.int 1, .int 9] (cX12_number_ct l D cy ad 1 9 u q29 hc28) ml_X12_165 pM_0 ⟨Nat.le_of_ble_eq_true rfl, Nat.le_of_ble_eq_true rfl⟩ ⟨rfl, rfl⟩ rfl rfl (Nat.le_of_ble_eq_true rfl) dX12_chainClause_119 ?_
  refine v_istore C [(6, .int q29.1), (0, .ref (ad 0)), (2, .int a2), (3, .int a3), (4, .int a4), (5, .int a5)] dX12_chainClause_122 (by decide) rfl ?_
  refine v_aload_n C 1 dX12_chainClause_124 rfl rfl ?_
  refine v_iconst C (v := 1) dX12_chainClause_125 (by decide) ?_
  refine v_iconst C (v := 3) dX12_chainClause_126 (by decide) ?_
  obtain ⟨u31, hc30, h⟩ := bnd h
  refine v_callVv C [.int 1, .int 3] (cX12_takes_ct l D cy ad 1 3 q29.2 u31 hc30) ml_X12_171 pM_0 ⟨Nat.le_of_ble_eq_true rfl, Nat.le_of_ble_eq_true rfl⟩ ⟨rfl, rfl⟩ rfl rfl (Nat.le_of_ble_eq_true rfl) dX12_chainClause_127 ?_
  refine v_aload_n C 1 dX12_chainClause_130 rfl rfl ?_
  refine v_iconst C (v := 0) dX12_chainClause_131 (by decide) ?_
  refine v_sipush C (v := 999) dX12_chainClause_132 (by decide) ?_
  obtain ⟨q33, hc32, h⟩ := bnd h
  refine v_callVi C [.int 0, .int 999] (cX12_number_ct l D cy ad 0 999 u31 q33 hc32) ml_X12_165 pM_0 ⟨Nat.le_of_ble_eq_true rfl, Nat.le_of_ble_eq_true rfl⟩ ⟨rfl, rfl⟩ rfl rfl (Nat.le_of_ble_eq_true rfl) dX12_chainClause_135 ?_
  refine v_istore C [(7, .int q33.1), (6, .int q29.1), (0, .ref (ad 0)), (2, .int a2), (3, .int a3), (4, .int a4), (5, .int a5)] dX12_chainClause_138 (by decide) rfl ?_
  refine v_aload_n C 2 dX12_chainClause_140 rfl rfl ?_
  refine v_geti C pM_0 fd_X12_146 rfl dX12_chainClause_141 ?_
  refine v_if_ne C 203 dX12_chainClause_144 (by decide) h (fun h => ?_) (fun h => ?_)
  · refine v_aload_n C 2 dX12_chainClause_147 rfl rfl ?_
    refine v_getr C pM_0 fd_X12_44 rfl dX12_chainClause_148 ?_
    refine v_iload_n C 3 dX12_chainClause_151 rfl rfl ?_
    refine v_iconst C (v := 1) dX12_chainClause_152 (by decide) ?_
    refine v_iast C pM_8 dX12_chainClause_153 h (fun h => ?_)
    refine v_aload_n C 2 dX12_chainClause_154 rfl rfl ?_
    refine v_getr C pM_0 fd_X12_44 rfl dX12_chainClause_155 ?_
    refine v_iload_n C 3 dX12_chainClause_158 rfl rfl ?_
    refine v_iconst C (v := 1) dX12_chainClause_159 (by decide) ?_
    refine v_iadd C dX12_chainClause_160 ?_
    refine v_iload_n C 4 dX12_chainClause_161 rfl rfl ?_
    refine v_iast C pM_8 dX12_chainClause_162 h (fun h => ?_)
    refine v_mem (fun u35 hu35 => ?_)
    have h := nmd hu35 h
    refine v_aload_n C 2 dX12_chainClause_163 rfl rfl ?_
    refine v_getr C pM_0 fd_X12_44 rfl dX12_chainClause_164 ?_
    refine v_iload_n C 3 dX12_chainClause_167 rfl rfl ?_
    refine v_iconst C (v := 2) dX12_chainClause_168 (by decide) ?_
    refine v_iadd C dX12_chainClause_169 ?_
    refine v_iload C 5 dX12_chainClause_170 rfl ?_
    refine v_iast C pM_8 dX12_chainClause_172 h (fun h => ?_)
    refine v_aload_n C 2 dX12_chainClause_173 rfl rfl ?_
    refine v_getr C pM_0 fd_X12_44 rfl dX12_chainClause_174 ?_
    refine v_iload_n C 3 dX12_chainClause_177 rfl rfl ?_
    refine v_iconst C (v := 3) dX12_chainClause_178 (by decide) ?_
    refine v_iadd C dX12_chainClause_179 ?_
    refine v_iload C 6 dX12_chainClause_180 rfl ?_
    refine v_iast C pM_8 dX12_chainClause_182 h (fun h => ?_)
    refine v_mem (fun u36 hu36 => ?_)
    have h := nmd hu36 h
    refine v_aload_n C 2 dX12_chainClause_183 rfl rfl ?_
    refine v_getr C pM_0 fd_X12_44 rfl dX12_chainClause_184 ?_
    refine v_iload_n C 3 dX12_chainClause_187 rfl rfl ?_
    refine v_iconst C (v := 4) dX12_chainClause_188 (by decide) ?_
    refine v_iadd C dX12_chainClause_189 ?_
    refine v_iload C 1 dX12_chainClause_190 rfl ?_
    refine v_iast C pM_8 dX12_chainClause_192 h (fun h => ?_)
    refine v_aload_n C 2 dX12_chainClause_193 rfl rfl ?_
    refine v_getr C pM_0 fd_X12_44 rfl dX12_chainClause_194 ?_
    refine v_iload_n C 3 dX12_chainClause_197 rfl rfl ?_
    refine v_iconst C (v := 5) dX12_chainClause_198 (by decide) ?_
    refine v_iadd C dX12_chainClause_199 ?_
    refine v_iload C 0 dX12_chainClause_200 rfl ?_
    refine v_iast C pM_8 dX12_chainClause_202 h (fun h => ?_)
    cases h
    exact v_vret C hr hlk dX12_chainClause_203
  · cases h
    exact v_vret C hr hlk dX12_chainClause_203
set_option maxHeartbeats 4000000 in
set_option maxRecDepth 100000 in
theorem kX12_chainClause_J104 {l : Launch} {D : va_G} {cy : Nat → ClassId} {ad : Nat → Nat} {p : Program} {e : Env} {s : State} {m : MethodId} {args : Array Value} {below : List Frame} {meth : Method} {c : Code} (C : Cx nM D cy ad 8 cX12_chainClause RX12 rX12_chainClause p s m args c) (hr : meth.sig.returnType = none) (hlk : meth.locks = false) {out : Mem}  (a2 : Int32) (a3 : Int32) (a4 : Int32) (a5 : Int32) (u : Mem)   (h : fX12_chainClause_J104 a2 a3 a4 a5 u = some out) : V shM nM D cy ad 8 p l e rX12_chainClause s m args below meth c (MQ below (qV shM nM D cy ad out) args s 0 0 (rA ad nM)) 104 [(0, .ref (ad 0)), (2, .int a2), (3, .int a3), (4, .int a4), (5, .int a5)] [] u := by
  unfold fX12_chainClause_J104 at h
  refine v_aload_n C 0 dX12_chainClause_104 rfl rfl ?_
  refine v_geti C pM_0 fd_X12_146 rfl dX12_chainClause_105 ?_
  refine v_if_ne C 115 dX12_chainClause_108 (by decide) h (fun h => ?_) (fun h => ?_)
  · refine v_aload_n C 0 dX12_chainClause_111 rfl rfl ?_
    obtain ⟨u27, hc26, h⟩ := bnd h
    refine v_callVv C [] (cX12_next_ct l D cy ad u u27 hc26) ml_X12_155 pM_0 ⟨Nat.le_of_ble_eq_true rfl, Nat.le_of_ble_eq_true rfl⟩ ⟨rfl, rfl⟩ rfl rfl (Nat.le_of_ble_eq_true rfl) dX12_chainClause_112 ?_
    exact kX12_chainClause_J115 C hr hlk a2 a3 a4 a5 u27 h
  · exact kX12_chainClause_J115 C hr hlk a2 a3 a4 a5 u h
set_option maxHeartbeats 4000000 in
set_option maxRecDepth 100000 in
theorem kX12_chainClause_J65 {l : Launch} {D : va_G} {cy : Nat → ClassId} {ad : Nat → Nat} {p : Program} {e : Env} {s : State} {m : MethodId} {args : Array Value} {below : List Frame} {meth : Method} {c : Code} (C : Cx nM D cy ad 8 cX12_chainClause RX12 rX12_chainClause p s m args c) (hr : meth.sig.returnType = none) (hlk : meth.locks = false) {out : Mem}  (a2 : Int32) (a3 : Int32) (u : Mem)   (h : fX12_chainClause_J65 a2 a3 u = some out) : V shM nM D cy ad 8 p l e rX12_chainClause s m args below meth c (MQ below (qV shM nM D cy ad out) args s 0 0 (rA ad nM)) 65 [(0, .ref (ad 0)), (2, .int a2), (3, .int a3)] [] u := by
  unfold fX12_chainClause_J65 at h
  refine v_aload_n C 0 dX12_chainClause_65 rfl rfl ?_
  refine v_iconst C (v := 1) dX12_chainClause_66 (by decide) ?_
  refine v_bipush C (v := 9) dX12_chainClause_67 (by decide) ?_
  obtain ⟨q15, hc14, h⟩ := bnd h
  refine v_callVi C [.int 1, .int 9] (cX12_number_ct l D cy ad 1 9 u q15 hc14) ml_X12_165 pM_0 ⟨Nat.le_of_ble_eq_true rfl, Nat.le_of_ble_eq_true rfl⟩ ⟨rfl, rfl⟩ rfl rfl (Nat.le_of_ble_eq_true rfl) dX12_chainClause_69 ?_
  refine v_istore C [(4, .int q15.1), (0, .ref (ad 0)), (2, .int a2), (3, .int a3)] dX12_chainClause_72 (by decide) rfl ?_
  refine v_aload_n C 1 dX12_chainClause_74 rfl rfl ?_
  refine v_iconst C (v := 1) dX12_chainClause_75 (by decide) ?_
  refine v_iconst C (v := 2) dX12_chainClause_76 (by decide) ?_
  obtain ⟨u17, hc16, h⟩ := bnd h
  refine v_callVv C [.int 1, .int 2] (cX12_takes_ct l D cy ad 1 2 q15.2 u17 hc16) ml_X12_171 pM_0 ⟨Nat.le_of_ble_eq_true rfl, Nat.le_of_ble_eq_true rfl⟩ ⟨rfl, rfl⟩ rfl rfl (Nat.le_of_ble_eq_true rfl) dX12_chainClause_77 ?_
  refine v_aload_n C 1 dX12_chainClause_80 rfl rfl ?_
  obtain ⟨q19, hc18, h⟩ := bnd h
  refine v_callVi C [] (cX12_kindOf_ct l D cy ad u17 q19 hc18) ml_X12_158 pM_0 ⟨Nat.le_of_ble_eq_true rfl, Nat.le_of_ble_eq_true rfl⟩ ⟨rfl, rfl⟩ rfl rfl (Nat.le_of_ble_eq_true rfl) dX12_chainClause_81 ?_
  refine v_istore C [(5, .int q19.1), (4, .int q15.1), (0, .ref (ad 0)), (2, .int a2), (3, .int a3)] dX12_chainClause_84 (by decide) rfl ?_
  refine v_aload_n C 2 dX12_chainClause_86 rfl rfl ?_
  refine v_geti C pM_0 fd_X12_146 rfl dX12_chainClause_87 ?_
  refine v_if_ne C 104 dX12_chainClause_90 (by decide) h (fun h => ?_) (fun h => ?_)
  · refine v_iload C 0 dX12_chainClause_93 rfl ?_
    refine v_iload_n C 4 dX12_chainClause_95 rfl rfl ?_
    refine v_icmp_ne C 104 dX12_chainClause_96 (by decide) h (fun h => ?_) (fun h => ?_)
    · refine v_aload_n C 2 dX12_chainClause_99 rfl rfl ?_
      refine v_iconst C (v := 3) dX12_chainClause_100 (by decide) ?_
      obtain ⟨u24, hc23, h⟩ := bnd h
      refine v_callVv C [.int 3] (cX12_errs_ct l D cy ad 3 q19.2 u24 hc23) ml_X12_152 pM_0 ⟨Nat.le_of_ble_eq_true rfl, Nat.le_of_ble_eq_true rfl⟩ ⟨rfl, rfl⟩ rfl rfl (Nat.le_of_ble_eq_true rfl) dX12_chainClause_101 ?_
      refine v_sub [2, 3, 4, 1, 0] rfl ?_
      exact kX12_chainClause_J104 C hr hlk a2 a3 q15.1 q19.1 u24 h
    · refine v_sub [2, 3, 4, 1, 0] rfl ?_
      exact kX12_chainClause_J104 C hr hlk a2 a3 q15.1 q19.1 q19.2 h
  · refine v_sub [2, 3, 4, 1, 0] rfl ?_
    exact kX12_chainClause_J104 C hr hlk a2 a3 q15.1 q19.1 q19.2 h
set_option maxHeartbeats 4000000 in
set_option maxRecDepth 100000 in
theorem kX12_chainClause_J34 {l : Launch} {D : va_G} {cy : Nat → ClassId} {ad : Nat → Nat} {p : Program} {e : Env} {s : State} {m : MethodId} {args : Array Value} {below : List Frame} {meth : Method} {c : Code} (C : Cx nM D cy ad 8 cX12_chainClause RX12 rX12_chainClause p s m args c) (hr : meth.sig.returnType = none) (hlk : meth.locks = false) {out : Mem}  (u : Mem)   (h : fX12_chainClause_J34 u = some out) : V shM nM D cy ad 8 p l e rX12_chainClause s m args below meth c (MQ below (qV shM nM D cy ad out) args s 0 0 (rA ad nM)) 34 [(0, .ref (ad 0))] [] u := by
  unfold fX12_chainClause_J34 at h
  refine v_aload_n C 0 dX12_chainClause_34 rfl rfl ?_
  refine v_iconst C (v := 0) dX12_chainClause_35 (by decide) ?_
  refine v_iconst C (v := 4) dX12_chainClause_36 (by decide) ?_
  obtain ⟨q8, hc7, h⟩ := bnd h
  refine v_callVi C [.int 0, .int 4] (cX12_number_ct l D cy ad 0 4 u q8 hc7) ml_X12_165 pM_0 ⟨Nat.le_of_ble_eq_true rfl, Nat.le_of_ble_eq_true rfl⟩ ⟨rfl, rfl⟩ rfl rfl (Nat.le_of_ble_eq_true rfl) dX12_chainClause_37 ?_
  refine v_istore_n C [(1, .int q8.1), (0, .ref (ad 0))] dX12_chainClause_40 rfl (by decide) rfl ?_
  refine v_bipush C (v := 6) dX12_chainClause_41 (by decide) ?_
  refine v_bipush C (v := 6) dX12_chainClause_43 (by decide) ?_
  refine v_iload_n C 0 dX12_chainClause_45 rfl rfl ?_
  refine v_imul C dX12_chainClause_46 ?_
  refine v_iadd C dX12_chainClause_47 ?_
  refine v_istore_n C [(2, .int (6 + (6 * q8.1))), (1, .int q8.1), (0, .ref (ad 0))] dX12_chainClause_48 rfl (by decide) rfl ?_
  refine v_aload_n C 2 dX12_chainClause_49 rfl rfl ?_
  obtain ⟨q10, hc9, h⟩ := bnd h
  refine v_callVi C [] (cX12_kindOf_ct l D cy ad q8.2 q10 hc9) ml_X12_158 pM_0 ⟨Nat.le_of_ble_eq_true rfl, Nat.le_of_ble_eq_true rfl⟩ ⟨rfl, rfl⟩ rfl rfl (Nat.le_of_ble_eq_true rfl) dX12_chainClause_50 ?_
  refine v_istore_n C [(3, .int q10.1), (2, .int (6 + (6 * q8.1))), (1, .int q8.1), (0, .ref (ad 0))] dX12_chainClause_53 rfl (by decide) rfl ?_
  refine v_aload_n C 3 dX12_chainClause_54 rfl rfl ?_
  refine v_geti C pM_0 fd_X12_146 rfl dX12_chainClause_55 ?_
  refine v_if_ne C 65 dX12_chainClause_58 (by decide) h (fun h => ?_) (fun h => ?_)
  · refine v_aload_n C 3 dX12_chainClause_61 rfl rfl ?_
    obtain ⟨u13, hc12, h⟩ := bnd h
    refine v_callVv C [] (cX12_next_ct l D cy ad q10.2 u13 hc12) ml_X12_155 pM_0 ⟨Nat.le_of_ble_eq_true rfl, Nat.le_of_ble_eq_true rfl⟩ ⟨rfl, rfl⟩ rfl rfl (Nat.le_of_ble_eq_true rfl) dX12_chainClause_62 ?_
    refine v_sub [3, 1, 0] rfl ?_
    exact kX12_chainClause_J65 C hr hlk (6 + (6 * q8.1)) q10.1 u13 h
  · refine v_sub [3, 1, 0] rfl ?_
    exact kX12_chainClause_J65 C hr hlk (6 + (6 * q8.1)) q10.1 q10.2 h
set_option maxHeartbeats 4000000 in
set_option maxRecDepth 100000 in
theorem cX12_chainClause_ct (l : Launch) (D : va_G) (cy : Nat → ClassId) (ad : Nat → Nat) (u : Mem)  (out : Mem) (h : fX12_chainClause u = some out) : Met l yX12_chainClause (.code yX12_chainClause cX12_chainClause 8 (none) :: gw) rX12_chainClause (va_Pc [.ref (ad 0)] (wv shM nM D cy ad u)) (qV shM nM D cy ad out) 0 0 (rA ad nM) := by
  refine met_of (cc := cX12_chainClause) (nL := 8) (by decide) (Nat.le_of_ble_eq_true rfl) (fun p e s m below meth c C hr hlk => ?_)
  unfold fX12_chainClause at h
  show V shM nM D cy ad 8 p l e rX12_chainClause s m _ below meth c (MQ below (qV shM nM D cy ad out) _ s 0 0 (rA ad nM)) 0 [(0, .ref (ad 0))] [] u
  refine v_aload_n C 0 dX12_chainClause_0 rfl rfl ?_
  refine v_geti C pM_0 fd_X12_124 rfl dX12_chainClause_1 ?_
  refine v_iconst C (v := 3) dX12_chainClause_4 (by decide) ?_
  refine v_icmp_ne C 34 dX12_chainClause_5 (by decide) h (fun h => ?_) (fun h => ?_)
  · refine v_aload_n C 0 dX12_chainClause_8 rfl rfl ?_
    refine v_geti C pM_0 fd_X12_134 rfl dX12_chainClause_9 ?_
    refine v_i2l C dX12_chainClause_12 ?_
    refine v_lconst C (v := 0) dX12_chainClause_13 (by decide) ?_
    refine v_ldc2 C kc_X12_169 dX12_chainClause_14 ?_
    obtain ⟨r3, hc2, h⟩ := bnd h
    refine v_callSi C [.long ((u.1 0 14).toInt64), .long 0, .long 4] (cX12_in_ct l D cy ad ((u.1 0 14).toInt64) 0 4 _ r3 hc2) ml_X12_78 ⟨Nat.le_of_ble_eq_true rfl, Nat.le_of_ble_eq_true rfl⟩ ⟨rfl, rfl⟩ rfl rfl (Nat.le_of_ble_eq_true rfl) dX12_chainClause_17 ?_
    refine v_z_eq C 34 dX12_chainClause_20 (by decide) h (fun h => ?_) (fun h => ?_)
    · refine v_aload_n C 0 dX12_chainClause_23 rfl rfl ?_
      refine v_bipush C (v := 6) dX12_chainClause_24 (by decide) ?_
      refine v_aload_n C 0 dX12_chainClause_26 rfl rfl ?_
      refine v_geti C pM_0 fd_X12_134 rfl dX12_chainClause_27 ?_
      refine v_iadd C dX12_chainClause_30 ?_
      obtain ⟨u6, hc5, h⟩ := bnd h
      refine v_callVv C [.int (6 + (u.1 0 14))] (cX12_once_ct l D cy ad (6 + (u.1 0 14)) u u6 hc5) ml_X12_162 pM_0 ⟨Nat.le_of_ble_eq_true rfl, Nat.le_of_ble_eq_true rfl⟩ ⟨rfl, rfl⟩ rfl rfl (Nat.le_of_ble_eq_true rfl) dX12_chainClause_31 ?_
      exact kX12_chainClause_J34 C hr hlk u6 h
    · exact kX12_chainClause_J34 C hr hlk u h
  · exact kX12_chainClause_J34 C hr hlk u h
def rX12_tableClause : Room := { frames := 4, cells := 0, slots := 0, locals := 92 }
def fX12_tableClause_J255 (Rc88 : Int32 → Int32 → Bool → Mem → Option Mem) (a3 : Int32) (a4 : Int32) (a5 : Int32) (u : Mem) : Option Mem := (if (if (u.1 0 15) = 0 then (if (u.1 0 13) = 4 then (if (u.1 0 14) = 44 then true else false) else false) else false) = true then ((fX12_next u).bind fun u44 => Rc88 a4 a5 (if (u.1 0 15) = 0 then (if (u.1 0 13) = 4 then (if (u.1 0 14) = 44 then true else false) else false) else false) u44) else Rc88 a4 a5 (if (u.1 0 15) = 0 then (if (u.1 0 13) = 4 then (if (u.1 0 14) = 44 then true else false) else false) else false) u)
def fX12_tableClause_J132 (Rc88 : Int32 → Int32 → Bool → Mem → Option Mem) (a3 : Int32) (a4 : Int32) (a5 : Int32) (u : Mem) : Option Mem := ((fX12_number (if 0 ≤ a5 then a5 + 1 else 0) 999 u).bind fun q26 => ((fX12_takes 4 61 q26.2).bind fun u28 => ((fX12_number 0 9999 u28).bind fun q30 => ((fX12_takes 1 2 q30.2).bind fun u32 => ((fX12_number q30.1 9999 u32).bind fun q34 => (if (q34.2.1 0 15) = 0 then (if inB ((a3 + 1) + (3 * a4)) 220 then ((some (si q34.2 8 ((a3 + 1) + (3 * a4)).toNatClampNeg q26.1)).bind fun u36 => (if inB ((a3 + 2) + (3 * a4)) 220 then ((some (si u36 8 ((a3 + 2) + (3 * a4)).toNatClampNeg q30.1)).bind fun u37 => (if inB ((a3 + 3) + (3 * a4)) 220 then ((some (si u37 8 ((a3 + 3) + (3 * a4)).toNatClampNeg q34.1)).bind fun u38 => (if inB a3 220 then fX12_tableClause_J255 Rc88 a3 (a4 + 1) q26.1 (si u38 8 a3.toNatClampNeg (a4 + 1)) else none)) else none)) else none)) else none) else fX12_tableClause_J255 Rc88 a3 a4 a5 q34.2))))))
def fX12_tableClause_L88 (a3 : Int32) : Nat → Int32 → Int32 → Bool → Mem → Option Mem
  | 0, _, _, _, _ => none
  | t + 1, a4, a5, a6, u => (if a6 = true then (if (u.1 0 13) = 3 then (if a4 = 8 then ((fX12_in ((u.1 0 14).toInt64) ((a5 + 1).toInt64) 999).bind fun r20 => (if r20 = true then ((fX12_errs 5 u).bind fun u23 => fX12_tableClause_J132 (fX12_tableClause_L88 a3 t) a3 a4 a5 u23) else fX12_tableClause_J132 (fX12_tableClause_L88 a3 t) a3 a4 a5 u)) else fX12_tableClause_J132 (fX12_tableClause_L88 a3 t) a3 a4 a5 u) else fX12_tableClause_J132 (fX12_tableClause_L88 a3 t) a3 a4 a5 u) else (some u))
def fX12_tableClause_J60 (a2 : Int32) (u : Mem) : Option Mem := fX12_tableClause_L88 (36 + (25 * a2)) fu0 0 (-1) (if (u.1 0 15) = 0 then true else false) u
def fX12_tableClause_J51 (u : Mem) : Option Mem := ((fX12_number 0 4 u).bind fun q11 => fX12_tableClause_J60 (2 + q11.1) q11.2)
def fX12_tableClause (a1 : Int32) (u : Mem) : Option Mem := (if a1 = 6 then (if (u.1 0 13) = 3 then ((fX12_in ((u.1 0 14).toInt64) 0 4).bind fun r6 => (if r6 = true then ((fX12_once (13 + (u.1 0 14)) u).bind fun u9 => fX12_tableClause_J51 u9) else fX12_tableClause_J51 u)) else fX12_tableClause_J51 u) else fX12_tableClause_J60 (bz (if a1 = 4 then false else true)) u)
set_option maxHeartbeats 4000000 in
set_option maxRecDepth 100000 in
theorem kX12_tableClause_J255 {l : Launch} {D : va_G} {cy : Nat → ClassId} {ad : Nat → Nat} {p : Program} {e : Env} {s : State} {m : MethodId} {args : Array Value} {below : List Frame} {meth : Method} {c : Code} (C : Cx nM D cy ad 10 cX12_tableClause RX12 rX12_tableClause p s m args c) (hr : meth.sig.returnType = none) (hlk : meth.locks = false) {out : Mem} (Rc88 : Int32 → Int32 → Bool → Mem → Option Mem)  (a3 : Int32) (a4 : Int32) (a5 : Int32) (u : Mem)  (hRc88 : ∀ (a4 : Int32) (a5 : Int32) (a6 : Bool) (w : Mem), Rc88 a4 a5 a6 w = some out → V shM nM D cy ad 10 p l e rX12_tableClause s m args below meth c (MQ below (qV shM nM D cy ad out) args s 0 0 (rA ad nM)) 88 [(0, .ref (ad 0)), (3, .int a3), (4, .int a4), (5, .int a5), (6, .int (bz a6))] [] w) (h : fX12_tableClause_J255 Rc88 a3 a4 a5 u = some out) : V shM nM D cy ad 10 p l e rX12_tableClause s m args below meth c (MQ below (qV shM nM D cy ad out) args s 0 0 (rA ad nM)) 255 [(0, .ref (ad 0)), (3, .int a3), (4, .int a4), (5, .int a5)] [] u := by
  unfold fX12_tableClause_J255 at h
  refine v_aload_n C 0 dX12_tableClause_255 rfl rfl ?_
  refine v_geti C pM_0 fd_X12_146 rfl dX12_tableClause_256 ?_
  refine v_dia 284 (.int (bz (if (u.1 0 15) = 0 then (if (u.1 0 13) = 4 then (if (u.1 0 14) = 44 then true else false) else false) else false))) [] ?_ (fun hj => ?_)
  · refine v_istore C [(6, .int (bz (if (u.1 0 15) = 0 then (if (u.1 0 13) = 4 then (if (u.1 0 14) = 44 then true else false) else false) else false))), (0, .ref (ad 0)), (3, .int a3), (4, .int a4), (5, .int a5)] dX12_tableClause_284 (by decide) rfl ?_
    refine v_iload C 0 dX12_tableClause_286 rfl ?_
    refine v_z_eq C 295 dX12_tableClause_288 (by decide) h (fun h => ?_) (fun h => ?_)
    · refine v_aload_n C 1 dX12_tableClause_291 rfl rfl ?_
      obtain ⟨u44, hc43, h⟩ := bnd h
      refine v_callVv C [] (cX12_next_ct l D cy ad u u44 hc43) ml_X12_155 pM_0 ⟨Nat.le_of_ble_eq_true rfl, Nat.le_of_ble_eq_true rfl⟩ ⟨rfl, rfl⟩ rfl rfl (Nat.le_of_ble_eq_true rfl) dX12_tableClause_292 ?_
      refine v_goto C 88 dX12_tableClause_295 (by decide) ?_
      refine v_sub [1, 2, 3, 4, 0] rfl ?_
      exact hRc88 a4 a5 (if (u.1 0 15) = 0 then (if (u.1 0 13) = 4 then (if (u.1 0 14) = 44 then true else false) else false) else false) u44 h
    · refine v_goto C 88 dX12_tableClause_295 (by decide) ?_
      refine v_sub [1, 2, 3, 4, 0] rfl ?_
      exact hRc88 a4 a5 (if (u.1 0 15) = 0 then (if (u.1 0 13) = 4 then (if (u.1 0 14) = 44 then true else false) else false) else false) u h
  · refine p_if_ne C 283 dX12_tableClause_259 (by decide) (fun z39 => ?_) (fun z39 => ?_)
    · refine v_aload_n C 0 dX12_tableClause_262 rfl rfl ?_
      refine v_geti C pM_0 fd_X12_124 rfl dX12_tableClause_263 ?_
      refine v_iconst C (v := 4) dX12_tableClause_266 (by decide) ?_
      refine p_icmp_ne C 283 dX12_tableClause_267 (by decide) (fun z40 => ?_) (fun z40 => ?_)
      · refine v_aload_n C 0 dX12_tableClause_270 rfl rfl ?_
        refine v_geti C pM_0 fd_X12_134 rfl dX12_tableClause_271 ?_
        refine v_bipush C (v := 44) dX12_tableClause_274 (by decide) ?_
        refine p_icmp_ne C 283 dX12_tableClause_276 (by decide) (fun z41 => ?_) (fun z41 => ?_)
        · refine v_iconst C (v := 1) dX12_tableClause_279 (by decide) ?_
          refine v_goto C 284 dX12_tableClause_280 (by decide) ?_
          exact v_top (by rw [if_pos z39, if_pos z40, if_pos z41]; first | done | rfl) hj
        · refine v_iconst C (v := 0) dX12_tableClause_283 (by decide) ?_
          exact v_top (by rw [if_pos z39, if_pos z40, if_neg z41]; first | done | rfl) hj
      · refine v_iconst C (v := 0) dX12_tableClause_283 (by decide) ?_
        exact v_top (by rw [if_pos z39, if_neg z40]; first | done | rfl) hj
    · refine v_iconst C (v := 0) dX12_tableClause_283 (by decide) ?_
      exact v_top (by rw [if_neg z39]; first | done | rfl) hj
set_option maxHeartbeats 4000000 in
set_option maxRecDepth 100000 in
theorem kX12_tableClause_J132 {l : Launch} {D : va_G} {cy : Nat → ClassId} {ad : Nat → Nat} {p : Program} {e : Env} {s : State} {m : MethodId} {args : Array Value} {below : List Frame} {meth : Method} {c : Code} (C : Cx nM D cy ad 10 cX12_tableClause RX12 rX12_tableClause p s m args c) (hr : meth.sig.returnType = none) (hlk : meth.locks = false) {out : Mem} (Rc88 : Int32 → Int32 → Bool → Mem → Option Mem)  (a3 : Int32) (a4 : Int32) (a5 : Int32) (u : Mem)  (hRc88 : ∀ (a4 : Int32) (a5 : Int32) (a6 : Bool) (w : Mem), Rc88 a4 a5 a6 w = some out → V shM nM D cy ad 10 p l e rX12_tableClause s m args below meth c (MQ below (qV shM nM D cy ad out) args s 0 0 (rA ad nM)) 88 [(0, .ref (ad 0)), (3, .int a3), (4, .int a4), (5, .int a5), (6, .int (bz a6))] [] w) (h : fX12_tableClause_J132 Rc88 a3 a4 a5 u = some out) : V shM nM D cy ad 10 p l e rX12_tableClause s m args below meth c (MQ below (qV shM nM D cy ad out) args s 0 0 (rA ad nM)) 132 [(0, .ref (ad 0)), (3, .int a3), (4, .int a4), (5, .int a5)] [] u := by
  unfold fX12_tableClause_J132 at h
  refine v_aload_n C 0 dX12_tableClause_132 rfl rfl ?_
  refine v_iload C 3 dX12_tableClause_133 rfl ?_
  refine v_dia 146 (.int (if 0 ≤ a5 then a5 + 1 else 0)) [.ref (ad 0)] ?_ (fun hj => ?_)
  · refine v_sipush C (v := 999) dX12_tableClause_146 (by decide) ?_
    obtain ⟨q26, hc25, h⟩ := bnd h
    refine v_callVi C [.int (if 0 ≤ a5 then a5 + 1 else 0), .int 999] (cX12_number_ct l D cy ad (if 0 ≤ a5 then a5 + 1 else 0) 999 u q26 hc25) ml_X12_165 pM_0 ⟨Nat.le_of_ble_eq_true rfl, Nat.le_of_ble_eq_true rfl⟩ ⟨rfl, rfl⟩ rfl rfl (Nat.le_of_ble_eq_true rfl) dX12_tableClause_149 ?_
    refine v_istore C [(7, .int q26.1), (0, .ref (ad 0)), (3, .int a3), (4, .int a4), (5, .int a5)] dX12_tableClause_152 (by decide) rfl ?_
    refine v_aload_n C 1 dX12_tableClause_154 rfl rfl ?_
    refine v_iconst C (v := 4) dX12_tableClause_155 (by decide) ?_
    refine v_bipush C (v := 61) dX12_tableClause_156 (by decide) ?_
    obtain ⟨u28, hc27, h⟩ := bnd h
    refine v_callVv C [.int 4, .int 61] (cX12_takes_ct l D cy ad 4 61 q26.2 u28 hc27) ml_X12_171 pM_0 ⟨Nat.le_of_ble_eq_true rfl, Nat.le_of_ble_eq_true rfl⟩ ⟨rfl, rfl⟩ rfl rfl (Nat.le_of_ble_eq_true rfl) dX12_tableClause_158 ?_
    refine v_aload_n C 1 dX12_tableClause_161 rfl rfl ?_
    refine v_iconst C (v := 0) dX12_tableClause_162 (by decide) ?_
    refine v_sipush C (v := 9999) dX12_tableClause_163 (by decide) ?_
    obtain ⟨q30, hc29, h⟩ := bnd h
    refine v_callVi C [.int 0, .int 9999] (cX12_number_ct l D cy ad 0 9999 u28 q30 hc29) ml_X12_165 pM_0 ⟨Nat.le_of_ble_eq_true rfl, Nat.le_of_ble_eq_true rfl⟩ ⟨rfl, rfl⟩ rfl rfl (Nat.le_of_ble_eq_true rfl) dX12_tableClause_166 ?_
    refine v_istore C [(8, .int q30.1), (7, .int q26.1), (0, .ref (ad 0)), (3, .int a3), (4, .int a4), (5, .int a5)] dX12_tableClause_169 (by decide) rfl ?_
    refine v_aload_n C 2 dX12_tableClause_171 rfl rfl ?_
    refine v_iconst C (v := 1) dX12_tableClause_172 (by decide) ?_
    refine v_iconst C (v := 2) dX12_tableClause_173 (by decide) ?_
    obtain ⟨u32, hc31, h⟩ := bnd h
    refine v_callVv C [.int 1, .int 2] (cX12_takes_ct l D cy ad 1 2 q30.2 u32 hc31) ml_X12_171 pM_0 ⟨Nat.le_of_ble_eq_true rfl, Nat.le_of_ble_eq_true rfl⟩ ⟨rfl, rfl⟩ rfl rfl (Nat.le_of_ble_eq_true rfl) dX12_tableClause_174 ?_
    refine v_aload_n C 2 dX12_tableClause_177 rfl rfl ?_
    refine v_iload C 0 dX12_tableClause_178 rfl ?_
    refine v_sipush C (v := 9999) dX12_tableClause_180 (by decide) ?_
    obtain ⟨q34, hc33, h⟩ := bnd h
    refine v_callVi C [.int q30.1, .int 9999] (cX12_number_ct l D cy ad q30.1 9999 u32 q34 hc33) ml_X12_165 pM_0 ⟨Nat.le_of_ble_eq_true rfl, Nat.le_of_ble_eq_true rfl⟩ ⟨rfl, rfl⟩ rfl rfl (Nat.le_of_ble_eq_true rfl) dX12_tableClause_183 ?_
    refine v_istore C [(9, .int q34.1), (8, .int q30.1), (7, .int q26.1), (0, .ref (ad 0)), (3, .int a3), (4, .int a4), (5, .int a5)] dX12_tableClause_186 (by decide) rfl ?_
    refine v_aload_n C 3 dX12_tableClause_188 rfl rfl ?_
    refine v_geti C pM_0 fd_X12_146 rfl dX12_tableClause_189 ?_
    refine v_if_ne C 255 dX12_tableClause_192 (by decide) h (fun h => ?_) (fun h => ?_)
    · refine v_aload_n C 3 dX12_tableClause_195 rfl rfl ?_
      refine v_getr C pM_0 fd_X12_44 rfl dX12_tableClause_196 ?_
      refine v_iload_n C 4 dX12_tableClause_199 rfl rfl ?_
      refine v_iconst C (v := 1) dX12_tableClause_200 (by decide) ?_
      refine v_iadd C dX12_tableClause_201 ?_
      refine v_iconst C (v := 3) dX12_tableClause_202 (by decide) ?_
      refine v_iload C 5 dX12_tableClause_203 rfl ?_
      refine v_imul C dX12_tableClause_205 ?_
      refine v_iadd C dX12_tableClause_206 ?_
      refine v_iload C 2 dX12_tableClause_207 rfl ?_
      refine v_iast C pM_8 dX12_tableClause_209 h (fun h => ?_)
      refine v_mem (fun u36 hu36 => ?_)
      have h := nmd hu36 h
      refine v_aload_n C 3 dX12_tableClause_210 rfl rfl ?_
      refine v_getr C pM_0 fd_X12_44 rfl dX12_tableClause_211 ?_
      refine v_iload_n C 4 dX12_tableClause_214 rfl rfl ?_
      refine v_iconst C (v := 2) dX12_tableClause_215 (by decide) ?_
      refine v_iadd C dX12_tableClause_216 ?_
      refine v_iconst C (v := 3) dX12_tableClause_217 (by decide) ?_
      refine v_iload C 5 dX12_tableClause_218 rfl ?_
      refine v_imul C dX12_tableClause_220 ?_
      refine v_iadd C dX12_tableClause_221 ?_
      refine v_iload C 1 dX12_tableClause_222 rfl ?_
      refine v_iast C pM_8 dX12_tableClause_224 h (fun h => ?_)
      refine v_mem (fun u37 hu37 => ?_)
      have h := nmd hu37 h
      refine v_aload_n C 3 dX12_tableClause_225 rfl rfl ?_
      refine v_getr C pM_0 fd_X12_44 rfl dX12_tableClause_226 ?_
      refine v_iload_n C 4 dX12_tableClause_229 rfl rfl ?_
      refine v_iconst C (v := 3) dX12_tableClause_230 (by decide) ?_
      refine v_iadd C dX12_tableClause_231 ?_
      refine v_iconst C (v := 3) dX12_tableClause_232 (by decide) ?_
      refine v_iload C 5 dX12_tableClause_233 rfl ?_
      refine v_imul C dX12_tableClause_235 ?_
      refine v_iadd C dX12_tableClause_236 ?_
      refine v_iload C 0 dX12_tableClause_237 rfl ?_
      refine v_iast C pM_8 dX12_tableClause_239 h (fun h => ?_)
      refine v_mem (fun u38 hu38 => ?_)
      have h := nmd hu38 h
      refine v_iinc C 5 (v := a4 + 1) [(4, .int (a4 + 1)), (9, .int q34.1), (8, .int q30.1), (7, .int q26.1), (0, .ref (ad 0)), (3, .int a3), (5, .int a5)] dX12_tableClause_240 rfl rfl (by decide) rfl ?_
      refine v_aload_n C 4 dX12_tableClause_243 rfl rfl ?_
      refine v_getr C pM_0 fd_X12_44 rfl dX12_tableClause_244 ?_
      refine v_iload_n C 5 dX12_tableClause_247 rfl rfl ?_
      refine v_iload C 0 dX12_tableClause_248 rfl ?_
      refine v_iast C pM_8 dX12_tableClause_250 h (fun h => ?_)
      refine v_iload C 3 dX12_tableClause_251 rfl ?_
      refine v_istore C [(5, .int q26.1), (4, .int (a4 + 1)), (9, .int q34.1), (8, .int q30.1), (7, .int q26.1), (0, .ref (ad 0)), (3, .int a3)] dX12_tableClause_253 (by decide) rfl ?_
      refine v_sub [5, 6, 1, 0] rfl ?_
      exact kX12_tableClause_J255 C hr hlk Rc88 a3 (a4 + 1) q26.1 (si u38 8 a3.toNatClampNeg (a4 + 1)) hRc88 h
    · refine v_sub [3, 4, 5, 6] rfl ?_
      exact kX12_tableClause_J255 C hr hlk Rc88 a3 a4 a5 q34.2 hRc88 h
  · refine p_if_ge C 142 dX12_tableClause_135 (by decide) (fun z24 => ?_) (fun z24 => ?_)
    · refine v_iload C 3 dX12_tableClause_142 rfl ?_
      refine v_iconst C (v := 1) dX12_tableClause_144 (by decide) ?_
      refine v_iadd C dX12_tableClause_145 ?_
      exact v_top (by rw [if_pos z24]; first | done | rfl) hj
    · refine v_iconst C (v := 0) dX12_tableClause_138 (by decide) ?_
      refine v_goto C 146 dX12_tableClause_139 (by decide) ?_
      exact v_top (by rw [if_neg z24]; first | done | rfl) hj
set_option maxHeartbeats 4000000 in
set_option maxRecDepth 100000 in
theorem kX12_tableClause_L88 {l : Launch} {D : va_G} {cy : Nat → ClassId} {ad : Nat → Nat} {p : Program} {e : Env} {s : State} {m : MethodId} {args : Array Value} {below : List Frame} {meth : Method} {c : Code} (C : Cx nM D cy ad 10 cX12_tableClause RX12 rX12_tableClause p s m args c) (hr : meth.sig.returnType = none) (hlk : meth.locks = false) (a3 : Int32)  {out : Mem}  : ∀ (t : Nat) (a4 : Int32) (a5 : Int32) (a6 : Bool) (u : Mem), fX12_tableClause_L88 a3 t a4 a5 a6 u = some out → V shM nM D cy ad 10 p l e rX12_tableClause s m args below meth c (MQ below (qV shM nM D cy ad out) args s 0 0 (rA ad nM)) 88 [(0, .ref (ad 0)), (3, .int a3), (4, .int a4), (5, .int a5), (6, .int (bz a6))] [] u := by
  intro t
  induction t with
  | zero => intro a4 a5 a6 u h; rw [fX12_tableClause_L88] at h; cases h
  | succ t ih =>
    intro a4 a5 a6 u h
    rw [fX12_tableClause_L88] at h
    refine v_iload C 4 dX12_tableClause_88 rfl ?_
    refine v_z_eq C 298 dX12_tableClause_90 (by decide) h (fun h => ?_) (fun h => ?_)
    · refine v_aload_n C 0 dX12_tableClause_93 rfl rfl ?_
      refine v_geti C pM_0 fd_X12_124 rfl dX12_tableClause_94 ?_
      refine v_iconst C (v := 3) dX12_tableClause_97 (by decide) ?_
      refine v_icmp_ne C 132 dX12_tableClause_98 (by decide) h (fun h => ?_) (fun h => ?_)
      · refine v_iload C 2 dX12_tableClause_101 rfl ?_
        refine v_bipush C (v := 8) dX12_tableClause_103 (by decide) ?_
        refine v_icmp_ne C 132 dX12_tableClause_105 (by decide) h (fun h => ?_) (fun h => ?_)
        · refine v_aload_n C 0 dX12_tableClause_108 rfl rfl ?_
          refine v_geti C pM_0 fd_X12_134 rfl dX12_tableClause_109 ?_
          refine v_i2l C dX12_tableClause_112 ?_
          refine v_iload C 3 dX12_tableClause_113 rfl ?_
          refine v_iconst C (v := 1) dX12_tableClause_115 (by decide) ?_
          refine v_iadd C dX12_tableClause_116 ?_
          refine v_i2l C dX12_tableClause_117 ?_
          refine v_ldc2 C kc_X12_175 dX12_tableClause_118 ?_
          obtain ⟨r20, hc19, h⟩ := bnd h
          refine v_callSi C [.long ((u.1 0 14).toInt64), .long ((a5 + 1).toInt64), .long 999] (cX12_in_ct l D cy ad ((u.1 0 14).toInt64) ((a5 + 1).toInt64) 999 _ r20 hc19) ml_X12_78 ⟨Nat.le_of_ble_eq_true rfl, Nat.le_of_ble_eq_true rfl⟩ ⟨rfl, rfl⟩ rfl rfl (Nat.le_of_ble_eq_true rfl) dX12_tableClause_121 ?_
          refine v_z_eq C 132 dX12_tableClause_124 (by decide) h (fun h => ?_) (fun h => ?_)
          · refine v_aload_n C 0 dX12_tableClause_127 rfl rfl ?_
            refine v_iconst C (v := 5) dX12_tableClause_128 (by decide) ?_
            obtain ⟨u23, hc22, h⟩ := bnd h
            refine v_callVv C [.int 5] (cX12_errs_ct l D cy ad 5 u u23 hc22) ml_X12_152 pM_0 ⟨Nat.le_of_ble_eq_true rfl, Nat.le_of_ble_eq_true rfl⟩ ⟨rfl, rfl⟩ rfl rfl (Nat.le_of_ble_eq_true rfl) dX12_tableClause_129 ?_
            refine v_sub [0, 1, 2, 3] rfl ?_
            exact kX12_tableClause_J132 C hr hlk (fX12_tableClause_L88 a3 t) a3 a4 a5 u23 ih h
          · refine v_sub [0, 1, 2, 3] rfl ?_
            exact kX12_tableClause_J132 C hr hlk (fX12_tableClause_L88 a3 t) a3 a4 a5 u ih h
        · refine v_sub [0, 1, 2, 3] rfl ?_
          exact kX12_tableClause_J132 C hr hlk (fX12_tableClause_L88 a3 t) a3 a4 a5 u ih h
      · refine v_sub [0, 1, 2, 3] rfl ?_
        exact kX12_tableClause_J132 C hr hlk (fX12_tableClause_L88 a3 t) a3 a4 a5 u ih h
    · cases h
      exact v_vret C hr hlk dX12_tableClause_298
set_option maxHeartbeats 4000000 in
set_option maxRecDepth 100000 in
theorem kX12_tableClause_J60 {l : Launch} {D : va_G} {cy : Nat → ClassId} {ad : Nat → Nat} {p : Program} {e : Env} {s : State} {m : MethodId} {args : Array Value} {below : List Frame} {meth : Method} {c : Code} (C : Cx nM D cy ad 10 cX12_tableClause RX12 rX12_tableClause p s m args c) (hr : meth.sig.returnType = none) (hlk : meth.locks = false) {out : Mem}  (a2 : Int32) (u : Mem)   (h : fX12_tableClause_J60 a2 u = some out) : V shM nM D cy ad 10 p l e rX12_tableClause s m args below meth c (MQ below (qV shM nM D cy ad out) args s 0 0 (rA ad nM)) 60 [(0, .ref (ad 0)), (2, .int a2)] [] u := by
  unfold fX12_tableClause_J60 at h
  refine v_bipush C (v := 36) dX12_tableClause_60 (by decide) ?_
  refine v_bipush C (v := 25) dX12_tableClause_62 (by decide) ?_
  refine v_iload_n C 1 dX12_tableClause_64 rfl rfl ?_
  refine v_imul C dX12_tableClause_65 ?_
  refine v_iadd C dX12_tableClause_66 ?_
  refine v_istore_n C [(3, .int (36 + (25 * a2))), (0, .ref (ad 0)), (2, .int a2)] dX12_tableClause_67 rfl (by decide) rfl ?_
  refine v_iconst C (v := 0) dX12_tableClause_68 (by decide) ?_
  refine v_istore C [(4, .int 0), (3, .int (36 + (25 * a2))), (0, .ref (ad 0)), (2, .int a2)] dX12_tableClause_69 (by decide) rfl ?_
  refine v_iconst C (v := (-1)) dX12_tableClause_71 (by decide) ?_
  refine v_istore C [(5, .int (-1)), (4, .int 0), (3, .int (36 + (25 * a2))), (0, .ref (ad 0)), (2, .int a2)] dX12_tableClause_72 (by decide) rfl ?_
  refine v_aload_n C 3 dX12_tableClause_74 rfl rfl ?_
  refine v_geti C pM_0 fd_X12_146 rfl dX12_tableClause_75 ?_
  refine v_dia 86 (.int (bz (if (u.1 0 15) = 0 then true else false))) [] ?_ (fun hj => ?_)
  · refine v_istore C [(6, .int (bz (if (u.1 0 15) = 0 then true else false))), (5, .int (-1)), (4, .int 0), (3, .int (36 + (25 * a2))), (0, .ref (ad 0)), (2, .int a2)] dX12_tableClause_86 (by decide) rfl ?_
    refine v_sub [4, 3, 2, 1, 0] rfl ?_
    refine kX12_tableClause_L88 C hr hlk (36 + (25 * a2))   fu0 0 (-1) (if (u.1 0 15) = 0 then true else false) u h
  · refine p_if_ne C 85 dX12_tableClause_78 (by decide) (fun z12 => ?_) (fun z12 => ?_)
    · refine v_iconst C (v := 1) dX12_tableClause_81 (by decide) ?_
      refine v_goto C 86 dX12_tableClause_82 (by decide) ?_
      exact v_top (by rw [if_pos z12]; first | done | rfl) hj
    · refine v_iconst C (v := 0) dX12_tableClause_85 (by decide) ?_
      exact v_top (by rw [if_neg z12]; first | done | rfl) hj
set_option maxHeartbeats 4000000 in
set_option maxRecDepth 100000 in
theorem kX12_tableClause_J51 {l : Launch} {D : va_G} {cy : Nat → ClassId} {ad : Nat → Nat} {p : Program} {e : Env} {s : State} {m : MethodId} {args : Array Value} {below : List Frame} {meth : Method} {c : Code} (C : Cx nM D cy ad 10 cX12_tableClause RX12 rX12_tableClause p s m args c) (hr : meth.sig.returnType = none) (hlk : meth.locks = false) {out : Mem}  (u : Mem)   (h : fX12_tableClause_J51 u = some out) : V shM nM D cy ad 10 p l e rX12_tableClause s m args below meth c (MQ below (qV shM nM D cy ad out) args s 0 0 (rA ad nM)) 51 [(0, .ref (ad 0))] [] u := by
  unfold fX12_tableClause_J51 at h
  refine v_iconst C (v := 2) dX12_tableClause_51 (by decide) ?_
  refine v_aload_n C 0 dX12_tableClause_52 rfl rfl ?_
  refine v_iconst C (v := 0) dX12_tableClause_53 (by decide) ?_
  refine v_iconst C (v := 4) dX12_tableClause_54 (by decide) ?_
  obtain ⟨q11, hc10, h⟩ := bnd h
  refine v_callVi C [.int 0, .int 4] (cX12_number_ct l D cy ad 0 4 u q11 hc10) ml_X12_165 pM_0 ⟨Nat.le_of_ble_eq_true rfl, Nat.le_of_ble_eq_true rfl⟩ ⟨rfl, rfl⟩ rfl rfl (Nat.le_of_ble_eq_true rfl) dX12_tableClause_55 ?_
  refine v_iadd C dX12_tableClause_58 ?_
  refine v_istore_n C [(2, .int (2 + q11.1)), (0, .ref (ad 0))] dX12_tableClause_59 rfl (by decide) rfl ?_
  refine v_sub [1, 0] rfl ?_
  exact kX12_tableClause_J60 C hr hlk (2 + q11.1) q11.2 h
set_option maxHeartbeats 4000000 in
set_option maxRecDepth 100000 in
theorem cX12_tableClause_ct (l : Launch) (D : va_G) (cy : Nat → ClassId) (ad : Nat → Nat) (a1 : Int32) (u : Mem)  (out : Mem) (h : fX12_tableClause a1 u = some out) : Met l yX12_tableClause (.code yX12_tableClause cX12_tableClause 10 (none) :: gw) rX12_tableClause (va_Pc [.ref (ad 0), .int a1] (wv shM nM D cy ad u)) (qV shM nM D cy ad out) 0 0 (rA ad nM) := by
  refine met_of (cc := cX12_tableClause) (nL := 10) (by decide) (Nat.le_of_ble_eq_true rfl) (fun p e s m below meth c C hr hlk => ?_)
  unfold fX12_tableClause at h
  show V shM nM D cy ad 10 p l e rX12_tableClause s m _ below meth c (MQ below (qV shM nM D cy ad out) _ s 0 0 (rA ad nM)) 0 [(0, .ref (ad 0)), (1, .int a1)] [] u
  refine v_iload_n C 1 dX12_tableClause_0 rfl rfl ?_
  refine v_iconst C (v := 4) dX12_tableClause_1 (by decide) ?_
  refine v_dia 10 (.int (bz (if a1 = 4 then false else true))) [] ?_ (fun hj => ?_)
  · refine v_istore_n C [(2, .int (bz (if a1 = 4 then false else true))), (0, .ref (ad 0)), (1, .int a1)] dX12_tableClause_10 rfl (by decide) rfl ?_
    refine v_iload_n C 2 dX12_tableClause_11 rfl rfl ?_
    refine v_bipush C (v := 6) dX12_tableClause_12 (by decide) ?_
    refine v_icmp_ne C 60 dX12_tableClause_14 (by decide) h (fun h => ?_) (fun h => ?_)
    · refine v_aload_n C 1 dX12_tableClause_17 rfl rfl ?_
      refine v_geti C pM_0 fd_X12_124 rfl dX12_tableClause_18 ?_
      refine v_iconst C (v := 3) dX12_tableClause_21 (by decide) ?_
      refine v_icmp_ne C 51 dX12_tableClause_22 (by decide) h (fun h => ?_) (fun h => ?_)
      · refine v_aload_n C 1 dX12_tableClause_25 rfl rfl ?_
        refine v_geti C pM_0 fd_X12_134 rfl dX12_tableClause_26 ?_
        refine v_i2l C dX12_tableClause_29 ?_
        refine v_lconst C (v := 0) dX12_tableClause_30 (by decide) ?_
        refine v_ldc2 C kc_X12_169 dX12_tableClause_31 ?_
        obtain ⟨r6, hc5, h⟩ := bnd h
        refine v_callSi C [.long ((u.1 0 14).toInt64), .long 0, .long 4] (cX12_in_ct l D cy ad ((u.1 0 14).toInt64) 0 4 _ r6 hc5) ml_X12_78 ⟨Nat.le_of_ble_eq_true rfl, Nat.le_of_ble_eq_true rfl⟩ ⟨rfl, rfl⟩ rfl rfl (Nat.le_of_ble_eq_true rfl) dX12_tableClause_34 ?_
        refine v_z_eq C 51 dX12_tableClause_37 (by decide) h (fun h => ?_) (fun h => ?_)
        · refine v_aload_n C 1 dX12_tableClause_40 rfl rfl ?_
          refine v_bipush C (v := 13) dX12_tableClause_41 (by decide) ?_
          refine v_aload_n C 1 dX12_tableClause_43 rfl rfl ?_
          refine v_geti C pM_0 fd_X12_134 rfl dX12_tableClause_44 ?_
          refine v_iadd C dX12_tableClause_47 ?_
          obtain ⟨u9, hc8, h⟩ := bnd h
          refine v_callVv C [.int (13 + (u.1 0 14))] (cX12_once_ct l D cy ad (13 + (u.1 0 14)) u u9 hc8) ml_X12_162 pM_0 ⟨Nat.le_of_ble_eq_true rfl, Nat.le_of_ble_eq_true rfl⟩ ⟨rfl, rfl⟩ rfl rfl (Nat.le_of_ble_eq_true rfl) dX12_tableClause_48 ?_
          refine v_sub [1] rfl ?_
          exact kX12_tableClause_J51 C hr hlk u9 h
        · refine v_sub [1] rfl ?_
          exact kX12_tableClause_J51 C hr hlk u h
      · refine v_sub [1] rfl ?_
        exact kX12_tableClause_J51 C hr hlk u h
    · refine v_sub [1, 0] rfl ?_
      exact kX12_tableClause_J60 C hr hlk (bz (if a1 = 4 then false else true)) u h
  · refine p_icmp_ne C 9 dX12_tableClause_2 (by decide) (fun z1 => ?_) (fun z1 => ?_)
    · refine v_iconst C (v := 0) dX12_tableClause_5 (by decide) ?_
      refine v_goto C 10 dX12_tableClause_6 (by decide) ?_
      exact v_top (by rw [if_pos z1]; first | done | rfl) hj
    · refine v_iconst C (v := 1) dX12_tableClause_9 (by decide) ?_
      exact v_top (by rw [if_neg z1]; first | done | rfl) hj
def rX12_clause : Room := { frames := 5, cells := 0, slots := 0, locals := 121 }
def fX12_clause_J72 (a1 : Int32) (u : Mem) : Option Mem := (if (u.1 0 15) ≤ 0 then (if a1 = 0 then ((fX12_kindClause u).bind fun u21 => ((fX12_takes 4 59 u21).bind fun u23 => (some u23))) else (if a1 = 1 then ((fX12_chainClause u).bind fun u26 => ((fX12_takes 4 59 u26).bind fun u28 => (some u28))) else ((fX12_tableClause a1 u).bind fun u30 => ((fX12_takes 4 59 u30).bind fun u32 => (some u32))))) else (some u))
def fX12_clause_J61 (a1 : Int32) (u : Mem) : Option Mem := (if (u.1 0 15) = 0 then ((fX12_next u).bind fun u16 => fX12_clause_J72 a1 u16) else fX12_clause_J72 a1 u)
def fX12_clause_J45 (a1 : Int32) (u : Mem) : Option Mem := ((fX12_once ((if a1 = 4 then 11 else 12) : Int32) u).bind fun u13 => fX12_clause_J61 a1 u13)
def fX12_clause (u : Mem) : Option Mem := (if (u.1 0 13) = 1 then (if (u.1 0 14) = 2 then ((fX12_errs 1 u).bind fun u5 => (some u5)) else (if (u.1 0 14) = 3 then ((fX12_errs 1 u).bind fun u8 => (some u8)) else (if (u.1 0 14) = 4 then fX12_clause_J45 (u.1 0 14) u else (if (u.1 0 14) = 5 then fX12_clause_J45 (u.1 0 14) u else fX12_clause_J61 (u.1 0 14) u)))) else ((fX12_errs 1 u).bind fun u36 => (some u36)))
set_option maxHeartbeats 4000000 in
set_option maxRecDepth 100000 in
theorem kX12_clause_J72 {l : Launch} {D : va_G} {cy : Nat → ClassId} {ad : Nat → Nat} {p : Program} {e : Env} {s : State} {m : MethodId} {args : Array Value} {below : List Frame} {meth : Method} {c : Code} (C : Cx nM D cy ad 2 cX12_clause RX12 rX12_clause p s m args c) (hr : meth.sig.returnType = none) (hlk : meth.locks = false) {out : Mem}  (a1 : Int32) (u : Mem)   (h : fX12_clause_J72 a1 u = some out) : V shM nM D cy ad 2 p l e rX12_clause s m args below meth c (MQ below (qV shM nM D cy ad out) args s 0 0 (rA ad nM)) 72 [(0, .ref (ad 0)), (1, .int a1)] [] u := by
  unfold fX12_clause_J72 at h
  refine v_aload_n C 0 dX12_clause_72 rfl rfl ?_
  refine v_geti C pM_0 fd_X12_146 rfl dX12_clause_73 ?_
  refine v_if_le C 80 dX12_clause_76 (by decide) h (fun h => ?_) (fun h => ?_)
  · refine v_iload_n C 1 dX12_clause_80 rfl rfl ?_
    refine v_if_ne C 91 dX12_clause_81 (by decide) h (fun h => ?_) (fun h => ?_)
    · refine v_aload_n C 0 dX12_clause_84 rfl rfl ?_
      obtain ⟨u21, hc20, h⟩ := bnd h
      refine v_callVv C [] (cX12_kindClause_ct l D cy ad u u21 hc20) ml_X12_177 pM_0 ⟨Nat.le_of_ble_eq_true rfl, Nat.le_of_ble_eq_true rfl⟩ ⟨rfl, rfl⟩ rfl rfl (Nat.le_of_ble_eq_true rfl) dX12_clause_85 ?_
      refine v_goto C 108 dX12_clause_88 (by decide) ?_
      refine v_aload_n C 0 dX12_clause_108 rfl rfl ?_
      refine v_iconst C (v := 4) dX12_clause_109 (by decide) ?_
      refine v_bipush C (v := 59) dX12_clause_110 (by decide) ?_
      obtain ⟨u23, hc22, h⟩ := bnd h
      refine v_callVv C [.int 4, .int 59] (cX12_takes_ct l D cy ad 4 59 u21 u23 hc22) ml_X12_171 pM_0 ⟨Nat.le_of_ble_eq_true rfl, Nat.le_of_ble_eq_true rfl⟩ ⟨rfl, rfl⟩ rfl rfl (Nat.le_of_ble_eq_true rfl) dX12_clause_112 ?_
      cases h
      exact v_vret C hr hlk dX12_clause_115
    · refine v_iload_n C 1 dX12_clause_91 rfl rfl ?_
      refine v_iconst C (v := 1) dX12_clause_92 (by decide) ?_
      refine v_icmp_ne C 103 dX12_clause_93 (by decide) h (fun h => ?_) (fun h => ?_)
      · refine v_aload_n C 0 dX12_clause_96 rfl rfl ?_
        obtain ⟨u26, hc25, h⟩ := bnd h
        refine v_callVv C [] (cX12_chainClause_ct l D cy ad u u26 hc25) ml_X12_180 pM_0 ⟨Nat.le_of_ble_eq_true rfl, Nat.le_of_ble_eq_true rfl⟩ ⟨rfl, rfl⟩ rfl rfl (Nat.le_of_ble_eq_true rfl) dX12_clause_97 ?_
        refine v_goto C 108 dX12_clause_100 (by decide) ?_
        refine v_aload_n C 0 dX12_clause_108 rfl rfl ?_
        refine v_iconst C (v := 4) dX12_clause_109 (by decide) ?_
        refine v_bipush C (v := 59) dX12_clause_110 (by decide) ?_
        obtain ⟨u28, hc27, h⟩ := bnd h
        refine v_callVv C [.int 4, .int 59] (cX12_takes_ct l D cy ad 4 59 u26 u28 hc27) ml_X12_171 pM_0 ⟨Nat.le_of_ble_eq_true rfl, Nat.le_of_ble_eq_true rfl⟩ ⟨rfl, rfl⟩ rfl rfl (Nat.le_of_ble_eq_true rfl) dX12_clause_112 ?_
        cases h
        exact v_vret C hr hlk dX12_clause_115
      · refine v_aload_n C 0 dX12_clause_103 rfl rfl ?_
        refine v_iload_n C 1 dX12_clause_104 rfl rfl ?_
        obtain ⟨u30, hc29, h⟩ := bnd h
        refine v_callVv C [.int a1] (cX12_tableClause_ct l D cy ad a1 u u30 hc29) ml_X12_183 pM_0 ⟨Nat.le_of_ble_eq_true rfl, Nat.le_of_ble_eq_true rfl⟩ ⟨rfl, rfl⟩ rfl rfl (Nat.le_of_ble_eq_true rfl) dX12_clause_105 ?_
        refine v_aload_n C 0 dX12_clause_108 rfl rfl ?_
        refine v_iconst C (v := 4) dX12_clause_109 (by decide) ?_
        refine v_bipush C (v := 59) dX12_clause_110 (by decide) ?_
        obtain ⟨u32, hc31, h⟩ := bnd h
        refine v_callVv C [.int 4, .int 59] (cX12_takes_ct l D cy ad 4 59 u30 u32 hc31) ml_X12_171 pM_0 ⟨Nat.le_of_ble_eq_true rfl, Nat.le_of_ble_eq_true rfl⟩ ⟨rfl, rfl⟩ rfl rfl (Nat.le_of_ble_eq_true rfl) dX12_clause_112 ?_
        cases h
        exact v_vret C hr hlk dX12_clause_115
  · cases h
    exact v_vret C hr hlk dX12_clause_79
set_option maxHeartbeats 4000000 in
set_option maxRecDepth 100000 in
theorem kX12_clause_J61 {l : Launch} {D : va_G} {cy : Nat → ClassId} {ad : Nat → Nat} {p : Program} {e : Env} {s : State} {m : MethodId} {args : Array Value} {below : List Frame} {meth : Method} {c : Code} (C : Cx nM D cy ad 2 cX12_clause RX12 rX12_clause p s m args c) (hr : meth.sig.returnType = none) (hlk : meth.locks = false) {out : Mem}  (a1 : Int32) (u : Mem)   (h : fX12_clause_J61 a1 u = some out) : V shM nM D cy ad 2 p l e rX12_clause s m args below meth c (MQ below (qV shM nM D cy ad out) args s 0 0 (rA ad nM)) 61 [(0, .ref (ad 0)), (1, .int a1)] [] u := by
  unfold fX12_clause_J61 at h
  refine v_aload_n C 0 dX12_clause_61 rfl rfl ?_
  refine v_geti C pM_0 fd_X12_146 rfl dX12_clause_62 ?_
  refine v_if_ne C 72 dX12_clause_65 (by decide) h (fun h => ?_) (fun h => ?_)
  · refine v_aload_n C 0 dX12_clause_68 rfl rfl ?_
    obtain ⟨u16, hc15, h⟩ := bnd h
    refine v_callVv C [] (cX12_next_ct l D cy ad u u16 hc15) ml_X12_155 pM_0 ⟨Nat.le_of_ble_eq_true rfl, Nat.le_of_ble_eq_true rfl⟩ ⟨rfl, rfl⟩ rfl rfl (Nat.le_of_ble_eq_true rfl) dX12_clause_69 ?_
    exact kX12_clause_J72 C hr hlk a1 u16 h
  · exact kX12_clause_J72 C hr hlk a1 u h
set_option maxHeartbeats 4000000 in
set_option maxRecDepth 100000 in
theorem kX12_clause_J45 {l : Launch} {D : va_G} {cy : Nat → ClassId} {ad : Nat → Nat} {p : Program} {e : Env} {s : State} {m : MethodId} {args : Array Value} {below : List Frame} {meth : Method} {c : Code} (C : Cx nM D cy ad 2 cX12_clause RX12 rX12_clause p s m args c) (hr : meth.sig.returnType = none) (hlk : meth.locks = false) {out : Mem}  (a1 : Int32) (u : Mem)   (h : fX12_clause_J45 a1 u = some out) : V shM nM D cy ad 2 p l e rX12_clause s m args below meth c (MQ below (qV shM nM D cy ad out) args s 0 0 (rA ad nM)) 45 [(0, .ref (ad 0)), (1, .int a1)] [] u := by
  unfold fX12_clause_J45 at h
  refine v_aload_n C 0 dX12_clause_45 rfl rfl ?_
  refine v_iload_n C 1 dX12_clause_46 rfl rfl ?_
  refine v_iconst C (v := 4) dX12_clause_47 (by decide) ?_
  refine v_dia 58 (.int ((if a1 = 4 then 11 else 12) : Int32)) [.ref (ad 0)] ?_ (fun hj => ?_)
  · obtain ⟨u13, hc12, h⟩ := bnd h
    refine v_callVv C [.int ((if a1 = 4 then 11 else 12) : Int32)] (cX12_once_ct l D cy ad ((if a1 = 4 then 11 else 12) : Int32) u u13 hc12) ml_X12_162 pM_0 ⟨Nat.le_of_ble_eq_true rfl, Nat.le_of_ble_eq_true rfl⟩ ⟨rfl, rfl⟩ rfl rfl (Nat.le_of_ble_eq_true rfl) dX12_clause_58 ?_
    exact kX12_clause_J61 C hr hlk a1 u13 h
  · refine p_icmp_ne C 56 dX12_clause_48 (by decide) (fun z11 => ?_) (fun z11 => ?_)
    · refine v_bipush C (v := 11) dX12_clause_51 (by decide) ?_
      refine v_goto C 58 dX12_clause_53 (by decide) ?_
      exact v_top (by rw [if_pos z11]; first | done | rfl) hj
    · refine v_bipush C (v := 12) dX12_clause_56 (by decide) ?_
      exact v_top (by rw [if_neg z11]; first | done | rfl) hj
set_option maxHeartbeats 4000000 in
set_option maxRecDepth 100000 in
theorem cX12_clause_ct (l : Launch) (D : va_G) (cy : Nat → ClassId) (ad : Nat → Nat) (u : Mem)  (out : Mem) (h : fX12_clause u = some out) : Met l yX12_clause (.code yX12_clause cX12_clause 2 (none) :: gw) rX12_clause (va_Pc [.ref (ad 0)] (wv shM nM D cy ad u)) (qV shM nM D cy ad out) 0 0 (rA ad nM) := by
  refine met_of (cc := cX12_clause) (nL := 2) (by decide) (Nat.le_of_ble_eq_true rfl) (fun p e s m below meth c C hr hlk => ?_)
  unfold fX12_clause at h
  show V shM nM D cy ad 2 p l e rX12_clause s m _ below meth c (MQ below (qV shM nM D cy ad out) _ s 0 0 (rA ad nM)) 0 [(0, .ref (ad 0))] [] u
  refine v_aload_n C 0 dX12_clause_0 rfl rfl ?_
  refine v_geti C pM_0 fd_X12_124 rfl dX12_clause_1 ?_
  refine v_iconst C (v := 1) dX12_clause_4 (by decide) ?_
  refine v_icmp_ne C 24 dX12_clause_5 (by decide) h (fun h => ?_) (fun h => ?_)
  · refine v_aload_n C 0 dX12_clause_8 rfl rfl ?_
    refine v_geti C pM_0 fd_X12_134 rfl dX12_clause_9 ?_
    refine v_iconst C (v := 2) dX12_clause_12 (by decide) ?_
    refine v_icmp_eq C 24 dX12_clause_13 (by decide) h (fun h => ?_) (fun h => ?_)
    · refine v_aload_n C 0 dX12_clause_24 rfl rfl ?_
      refine v_iconst C (v := 1) dX12_clause_25 (by decide) ?_
      obtain ⟨u5, hc4, h⟩ := bnd h
      refine v_callVv C [.int 1] (cX12_errs_ct l D cy ad 1 u u5 hc4) ml_X12_152 pM_0 ⟨Nat.le_of_ble_eq_true rfl, Nat.le_of_ble_eq_true rfl⟩ ⟨rfl, rfl⟩ rfl rfl (Nat.le_of_ble_eq_true rfl) dX12_clause_26 ?_
      cases h
      exact v_vret C hr hlk dX12_clause_29
    · refine v_aload_n C 0 dX12_clause_16 rfl rfl ?_
      refine v_geti C pM_0 fd_X12_134 rfl dX12_clause_17 ?_
      refine v_iconst C (v := 3) dX12_clause_20 (by decide) ?_
      refine v_icmp_ne C 30 dX12_clause_21 (by decide) h (fun h => ?_) (fun h => ?_)
      · refine v_aload_n C 0 dX12_clause_24 rfl rfl ?_
        refine v_iconst C (v := 1) dX12_clause_25 (by decide) ?_
        obtain ⟨u8, hc7, h⟩ := bnd h
        refine v_callVv C [.int 1] (cX12_errs_ct l D cy ad 1 u u8 hc7) ml_X12_152 pM_0 ⟨Nat.le_of_ble_eq_true rfl, Nat.le_of_ble_eq_true rfl⟩ ⟨rfl, rfl⟩ rfl rfl (Nat.le_of_ble_eq_true rfl) dX12_clause_26 ?_
        cases h
        exact v_vret C hr hlk dX12_clause_29
      · refine v_aload_n C 0 dX12_clause_30 rfl rfl ?_
        refine v_geti C pM_0 fd_X12_134 rfl dX12_clause_31 ?_
        refine v_istore_n C [(1, .int (u.1 0 14)), (0, .ref (ad 0))] dX12_clause_34 rfl (by decide) rfl ?_
        refine v_iload_n C 0 dX12_clause_35 rfl rfl ?_
        refine v_iconst C (v := 4) dX12_clause_36 (by decide) ?_
        refine v_icmp_eq C 45 dX12_clause_37 (by decide) h (fun h => ?_) (fun h => ?_)
        · refine v_sub [1, 0] rfl ?_
          exact kX12_clause_J45 C hr hlk (u.1 0 14) u h
        · refine v_iload_n C 0 dX12_clause_40 rfl rfl ?_
          refine v_iconst C (v := 5) dX12_clause_41 (by decide) ?_
          refine v_icmp_ne C 61 dX12_clause_42 (by decide) h (fun h => ?_) (fun h => ?_)
          · refine v_sub [1, 0] rfl ?_
            exact kX12_clause_J45 C hr hlk (u.1 0 14) u h
          · refine v_sub [1, 0] rfl ?_
            exact kX12_clause_J61 C hr hlk (u.1 0 14) u h
  · refine v_aload_n C 0 dX12_clause_24 rfl rfl ?_
    refine v_iconst C (v := 1) dX12_clause_25 (by decide) ?_
    obtain ⟨u36, hc35, h⟩ := bnd h
    refine v_callVv C [.int 1] (cX12_errs_ct l D cy ad 1 u u36 hc35) ml_X12_152 pM_0 ⟨Nat.le_of_ble_eq_true rfl, Nat.le_of_ble_eq_true rfl⟩ ⟨rfl, rfl⟩ rfl rfl (Nat.le_of_ble_eq_true rfl) dX12_clause_26 ?_
    cases h
    exact v_vret C hr hlk dX12_clause_29
def rX12_isEven : Room := { frames := 0, cells := 0, slots := 0, locals := 0 }
def fX12_isEven_L4  (u : Mem) : Nat → Bool → Int32 → Option Bool
  | 0, _, _ => none
  | t + 1, a1, a2 => (if 5 ≤ a2 then (some a1) else (if inB ((6 + (6 * a2)) + 1) 220 then (if inB (u.1 8 ((6 + (6 * a2)) + 1).toNatClampNeg) 220 then (if inB ((6 + (6 * a2)) + 3) 220 then (if inB (u.1 8 ((6 + (6 * a2)) + 3).toNatClampNeg) 220 then (if a1 = true then (if inB (6 + (6 * a2)) 220 then (if (u.1 8 (6 + (6 * a2)).toNatClampNeg) = 0 then fX12_isEven_L4 u t true (a2 + 1) else (if inB ((6 + (6 * a2)) + 2) 220 then ((some ((if (u.1 8 (u.1 8 ((6 + (6 * a2)) + 1).toNatClampNeg).toNatClampNeg) = 0 then 1 else u.1 8 (u.1 8 ((6 + (6 * a2)) + 1).toNatClampNeg).toNatClampNeg))).bind fun x5 => (if inB ((6 + (6 * a2)) + 4) 220 then ((some ((if (u.1 8 (u.1 8 ((6 + (6 * a2)) + 3).toNatClampNeg).toNatClampNeg) = 0 then 1 else u.1 8 (u.1 8 ((6 + (6 * a2)) + 3).toNatClampNeg).toNatClampNeg))).bind fun x7 => fX12_isEven_L4 u t (if ((u.1 8 ((6 + (6 * a2)) + 2).toNatClampNeg) * x5) = ((u.1 8 ((6 + (6 * a2)) + 4).toNatClampNeg) * x7) then true else false) (a2 + 1)) else none)) else none)) else none) else fX12_isEven_L4 u t false (a2 + 1)) else none) else none) else none) else none))
def fX12_isEven (u : Mem) : Option Bool := fX12_isEven_L4 u fu0 true 0
set_option maxHeartbeats 4000000 in
set_option maxRecDepth 100000 in
theorem kX12_isEven_L4 {l : Launch} {D : va_G} {cy : Nat → ClassId} {ad : Nat → Nat} {p : Program} {e : Env} {s : State} {m : MethodId} {args : Array Value} {below : List Frame} {meth : Method} {c : Code} (C : Cx nM D cy ad 6 cX12_isEven RX12 rX12_isEven p s m args c) (hr : meth.sig.returnType = some .boolean) (hlk : meth.locks = false)   (u : Mem) {out : Bool}  : ∀ (t : Nat) (a1 : Bool) (a2 : Int32), fX12_isEven_L4 u t a1 a2 = some out → V shM nM D cy ad 6 p l e rX12_isEven s m args below meth c (MQ below (qI shM nM D cy ad (bz out) u) args s 0 0 (rA ad nM)) 4 [(0, .ref (ad 0)), (1, .int (bz a1)), (2, .int a2)] [] u := by
  intro t
  induction t with
  | zero => intro a1 a2 h; rw [fX12_isEven_L4] at h; cases h
  | succ t ih =>
    intro a1 a2 h
    rw [fX12_isEven_L4] at h
    refine v_iload_n C 2 dX12_isEven_4 rfl rfl ?_
    refine v_iconst C (v := 5) dX12_isEven_5 (by decide) ?_
    refine v_icmp_ge C 115 dX12_isEven_6 (by decide) h (fun h => ?_) (fun h => ?_)
    · refine v_iload_n C 1 dX12_isEven_115 rfl rfl ?_
      cases h
      exact v_zret C hr hlk dX12_isEven_116
    · refine v_bipush C (v := 6) dX12_isEven_9 (by decide) ?_
      refine v_bipush C (v := 6) dX12_isEven_11 (by decide) ?_
      refine v_iload_n C 2 dX12_isEven_13 rfl rfl ?_
      refine v_imul C dX12_isEven_14 ?_
      refine v_iadd C dX12_isEven_15 ?_
      refine v_istore_n C [(3, .int (6 + (6 * a2))), (0, .ref (ad 0)), (1, .int (bz a1)), (2, .int a2)] dX12_isEven_16 rfl (by decide) rfl ?_
      refine v_aload_n C 1 dX12_isEven_17 rfl rfl ?_
      refine v_getr C pM_0 fd_X12_44 rfl dX12_isEven_18 ?_
      refine v_aload_n C 1 dX12_isEven_21 rfl rfl ?_
      refine v_getr C pM_0 fd_X12_44 rfl dX12_isEven_22 ?_
      refine v_iload_n C 0 dX12_isEven_25 rfl rfl ?_
      refine v_iconst C (v := 1) dX12_isEven_26 (by decide) ?_
      refine v_iadd C dX12_isEven_27 ?_
      refine v_iald C pM_8 dX12_isEven_28 h (fun h => ?_)
      refine v_iald C pM_8 dX12_isEven_29 h (fun h => ?_)
      refine v_istore C [(4, .int (u.1 8 (u.1 8 ((6 + (6 * a2)) + 1).toNatClampNeg).toNatClampNeg)), (3, .int (6 + (6 * a2))), (0, .ref (ad 0)), (1, .int (bz a1)), (2, .int a2)] dX12_isEven_30 (by decide) rfl ?_
      refine v_aload_n C 2 dX12_isEven_32 rfl rfl ?_
      refine v_getr C pM_0 fd_X12_44 rfl dX12_isEven_33 ?_
      refine v_aload_n C 2 dX12_isEven_36 rfl rfl ?_
      refine v_getr C pM_0 fd_X12_44 rfl dX12_isEven_37 ?_
      refine v_iload_n C 1 dX12_isEven_40 rfl rfl ?_
      refine v_iconst C (v := 3) dX12_isEven_41 (by decide) ?_
      refine v_iadd C dX12_isEven_42 ?_
      refine v_iald C pM_8 dX12_isEven_43 h (fun h => ?_)
      refine v_iald C pM_8 dX12_isEven_44 h (fun h => ?_)
      refine v_istore C [(5, .int (u.1 8 (u.1 8 ((6 + (6 * a2)) + 3).toNatClampNeg).toNatClampNeg)), (4, .int (u.1 8 (u.1 8 ((6 + (6 * a2)) + 1).toNatClampNeg).toNatClampNeg)), (3, .int (6 + (6 * a2))), (0, .ref (ad 0)), (1, .int (bz a1)), (2, .int a2)] dX12_isEven_45 (by decide) rfl ?_
      refine v_iload_n C 4 dX12_isEven_47 rfl rfl ?_
      refine v_z_eq C 107 dX12_isEven_48 (by decide) h (fun h => ?_) (fun h => ?_)
      · refine v_aload_n C 3 dX12_isEven_51 rfl rfl ?_
        refine v_getr C pM_0 fd_X12_44 rfl dX12_isEven_52 ?_
        refine v_iload_n C 2 dX12_isEven_55 rfl rfl ?_
        refine v_iald C pM_8 dX12_isEven_56 h (fun h => ?_)
        refine v_if_eq C 103 dX12_isEven_57 (by decide) h (fun h => ?_) (fun h => ?_)
        · refine v_iconst C (v := 1) dX12_isEven_103 (by decide) ?_
          refine v_goto C 108 dX12_isEven_104 (by decide) ?_
          refine v_istore_n C [(1, .int 1), (5, .int (u.1 8 (u.1 8 ((6 + (6 * a2)) + 3).toNatClampNeg).toNatClampNeg)), (4, .int (u.1 8 (u.1 8 ((6 + (6 * a2)) + 1).toNatClampNeg).toNatClampNeg)), (3, .int (6 + (6 * a2))), (0, .ref (ad 0)), (2, .int a2)] dX12_isEven_108 rfl (by decide) rfl ?_
          refine v_iinc C 5 (v := a2 + 1) [(2, .int (a2 + 1)), (1, .int 1), (5, .int (u.1 8 (u.1 8 ((6 + (6 * a2)) + 3).toNatClampNeg).toNatClampNeg)), (4, .int (u.1 8 (u.1 8 ((6 + (6 * a2)) + 1).toNatClampNeg).toNatClampNeg)), (3, .int (6 + (6 * a2))), (0, .ref (ad 0))] dX12_isEven_109 rfl rfl (by decide) rfl ?_
          refine v_goto C 4 dX12_isEven_112 (by decide) ?_
          refine v_sub [5, 1, 0] rfl ?_
          exact ih true (a2 + 1) h
        · refine v_aload_n C 3 dX12_isEven_60 rfl rfl ?_
          refine v_getr C pM_0 fd_X12_44 rfl dX12_isEven_61 ?_
          refine v_iload_n C 2 dX12_isEven_64 rfl rfl ?_
          refine v_iconst C (v := 2) dX12_isEven_65 (by decide) ?_
          refine v_iadd C dX12_isEven_66 ?_
          refine v_iald C pM_8 dX12_isEven_67 h (fun h => ?_)
          refine v_iload C 1 dX12_isEven_68 rfl ?_
          refine v_dia 79 (.int (if (u.1 8 (u.1 8 ((6 + (6 * a2)) + 1).toNatClampNeg).toNatClampNeg) = 0 then 1 else u.1 8 (u.1 8 ((6 + (6 * a2)) + 1).toNatClampNeg).toNatClampNeg)) [.int (u.1 8 ((6 + (6 * a2)) + 2).toNatClampNeg)] ?_ (fun hj => ?_)
          · refine v_nmi (fun x5 hx5 => ?_)
            have h := nmd hx5 h
            refine v_imul C dX12_isEven_79 ?_
            refine v_aload_n C 3 dX12_isEven_80 rfl rfl ?_
            refine v_getr C pM_0 fd_X12_44 rfl dX12_isEven_81 ?_
            refine v_iload_n C 2 dX12_isEven_84 rfl rfl ?_
            refine v_iconst C (v := 4) dX12_isEven_85 (by decide) ?_
            refine v_iadd C dX12_isEven_86 ?_
            refine v_iald C pM_8 dX12_isEven_87 h (fun h => ?_)
            refine v_iload C 0 dX12_isEven_88 rfl ?_
            refine v_dia 99 (.int (if (u.1 8 (u.1 8 ((6 + (6 * a2)) + 3).toNatClampNeg).toNatClampNeg) = 0 then 1 else u.1 8 (u.1 8 ((6 + (6 * a2)) + 3).toNatClampNeg).toNatClampNeg)) [.int (u.1 8 ((6 + (6 * a2)) + 4).toNatClampNeg), .int ((u.1 8 ((6 + (6 * a2)) + 2).toNatClampNeg) * x5)] ?_ (fun hj => ?_)
            · refine v_nmi (fun x7 hx7 => ?_)
              have h := nmd hx7 h
              refine v_imul C dX12_isEven_99 ?_
              refine v_dia 108 (.int (bz (if ((u.1 8 ((6 + (6 * a2)) + 2).toNatClampNeg) * x5) = ((u.1 8 ((6 + (6 * a2)) + 4).toNatClampNeg) * x7) then true else false))) [] ?_ (fun hj => ?_)
              · refine v_istore_n C [(1, .int (bz (if ((u.1 8 ((6 + (6 * a2)) + 2).toNatClampNeg) * x5) = ((u.1 8 ((6 + (6 * a2)) + 4).toNatClampNeg) * x7) then true else false))), (5, .int (u.1 8 (u.1 8 ((6 + (6 * a2)) + 3).toNatClampNeg).toNatClampNeg)), (4, .int (u.1 8 (u.1 8 ((6 + (6 * a2)) + 1).toNatClampNeg).toNatClampNeg)), (3, .int (6 + (6 * a2))), (0, .ref (ad 0)), (2, .int a2)] dX12_isEven_108 rfl (by decide) rfl ?_
                refine v_iinc C 5 (v := a2 + 1) [(2, .int (a2 + 1)), (1, .int (bz (if ((u.1 8 ((6 + (6 * a2)) + 2).toNatClampNeg) * x5) = ((u.1 8 ((6 + (6 * a2)) + 4).toNatClampNeg) * x7) then true else false))), (5, .int (u.1 8 (u.1 8 ((6 + (6 * a2)) + 3).toNatClampNeg).toNatClampNeg)), (4, .int (u.1 8 (u.1 8 ((6 + (6 * a2)) + 1).toNatClampNeg).toNatClampNeg)), (3, .int (6 + (6 * a2))), (0, .ref (ad 0))] dX12_isEven_109 rfl rfl (by decide) rfl ?_
                refine v_goto C 4 dX12_isEven_112 (by decide) ?_
                refine v_sub [5, 1, 0] rfl ?_
                exact ih (if ((u.1 8 ((6 + (6 * a2)) + 2).toNatClampNeg) * x5) = ((u.1 8 ((6 + (6 * a2)) + 4).toNatClampNeg) * x7) then true else false) (a2 + 1) h
              · refine p_icmp_ne C 107 dX12_isEven_100 (by decide) (fun z8 => ?_) (fun z8 => ?_)
                · refine v_iconst C (v := 1) dX12_isEven_103 (by decide) ?_
                  refine v_goto C 108 dX12_isEven_104 (by decide) ?_
                  exact v_top (by rw [if_pos z8]; first | done | rfl) hj
                · refine v_iconst C (v := 0) dX12_isEven_107 (by decide) ?_
                  exact v_top (by rw [if_neg z8]; first | done | rfl) hj
            · refine p_if_ne C 97 dX12_isEven_90 (by decide) (fun z6 => ?_) (fun z6 => ?_)
              · refine v_iconst C (v := 1) dX12_isEven_93 (by decide) ?_
                refine v_goto C 99 dX12_isEven_94 (by decide) ?_
                exact v_top (by rw [if_pos z6]; first | done | rfl) hj
              · refine v_iload C 0 dX12_isEven_97 rfl ?_
                exact v_top (by rw [if_neg z6]; first | done | rfl) hj
          · refine p_if_ne C 77 dX12_isEven_70 (by decide) (fun z4 => ?_) (fun z4 => ?_)
            · refine v_iconst C (v := 1) dX12_isEven_73 (by decide) ?_
              refine v_goto C 79 dX12_isEven_74 (by decide) ?_
              exact v_top (by rw [if_pos z4]; first | done | rfl) hj
            · refine v_iload C 1 dX12_isEven_77 rfl ?_
              exact v_top (by rw [if_neg z4]; first | done | rfl) hj
      · refine v_iconst C (v := 0) dX12_isEven_107 (by decide) ?_
        refine v_istore_n C [(1, .int 0), (5, .int (u.1 8 (u.1 8 ((6 + (6 * a2)) + 3).toNatClampNeg).toNatClampNeg)), (4, .int (u.1 8 (u.1 8 ((6 + (6 * a2)) + 1).toNatClampNeg).toNatClampNeg)), (3, .int (6 + (6 * a2))), (0, .ref (ad 0)), (2, .int a2)] dX12_isEven_108 rfl (by decide) rfl ?_
        refine v_iinc C 5 (v := a2 + 1) [(2, .int (a2 + 1)), (1, .int 0), (5, .int (u.1 8 (u.1 8 ((6 + (6 * a2)) + 3).toNatClampNeg).toNatClampNeg)), (4, .int (u.1 8 (u.1 8 ((6 + (6 * a2)) + 1).toNatClampNeg).toNatClampNeg)), (3, .int (6 + (6 * a2))), (0, .ref (ad 0))] dX12_isEven_109 rfl rfl (by decide) rfl ?_
        refine v_goto C 4 dX12_isEven_112 (by decide) ?_
        refine v_sub [5, 1, 0] rfl ?_
        exact ih false (a2 + 1) h
set_option maxHeartbeats 4000000 in
set_option maxRecDepth 100000 in
theorem cX12_isEven_ct (l : Launch) (D : va_G) (cy : Nat → ClassId) (ad : Nat → Nat) (u : Mem)  (out : Bool) (h : fX12_isEven u = some out) : Met l yX12_isEven (.code yX12_isEven cX12_isEven 6 (some .boolean) :: gw) rX12_isEven (va_Pc [.ref (ad 0)] (wv shM nM D cy ad u)) (qI shM nM D cy ad (bz out) u) 0 0 (rA ad nM) := by
  refine met_of (cc := cX12_isEven) (nL := 6) (by decide) (Nat.le_of_ble_eq_true rfl) (fun p e s m below meth c C hr hlk => ?_)
  unfold fX12_isEven at h
  show V shM nM D cy ad 6 p l e rX12_isEven s m _ below meth c (MQ below (qI shM nM D cy ad (bz out) u) _ s 0 0 (rA ad nM)) 0 [(0, .ref (ad 0))] [] u
  refine v_iconst C (v := 1) dX12_isEven_0 (by decide) ?_
  refine v_istore_n C [(1, .int 1), (0, .ref (ad 0))] dX12_isEven_1 rfl (by decide) rfl ?_
  refine v_iconst C (v := 0) dX12_isEven_2 (by decide) ?_
  refine v_istore_n C [(2, .int 0), (1, .int 1), (0, .ref (ad 0))] dX12_isEven_3 rfl (by decide) rfl ?_
  refine v_sub [2, 1, 0] rfl ?_
  refine kX12_isEven_L4 C hr hlk u   fu0 true 0 h
def rX12_text : Room := { frames := 6, cells := 0, slots := 0, locals := 142 }
def fX12_text_L43  (K62 : Mem → Option (Int32 × Mem)) : Nat → Int32 → Mem → Option (Int32 × Mem)
  | 0, _, _ => none
  | t + 1, a1, u => (if 18 ≤ a1 then K62 u else (if inB a1 18 then fX12_text_L43 K62 t (a1 + 1) (si u 7 a1.toNatClampNeg 0) else none))
def fX12_text_L64  (K104 : Mem → Option (Int32 × Mem)) : Nat → Int32 → Mem → Option (Int32 × Mem)
  | 0, _, _ => none
  | t + 1, a1, u => (if 220 ≤ a1 then K104 u else (if inB ((1500 + (220 * (u.1 1 0))) + a1) 8320 then (if inB a1 220 then ((some (si u 8 a1.toNatClampNeg (u.1 1 ((1500 + (220 * (u.1 1 0))) + a1).toNatClampNeg))).bind fun u6 => fX12_text_L64 K104 t (a1 + 1) u6) else none) else none))
def fX12_text_J199 (Rc110 : Int32 → Mem → Option (Int32 × Mem)) (a1 : Int32) (a2 : Int32) (s0 : Bool) (u : Mem) : Option (Int32 × Mem) := (if a1 = 20 then (if a2 = 0 then ((fX12_clause u).bind fun u25 => Rc110 (a1 + 1) u25) else (if s0 = true then ((fX12_clause u).bind fun u28 => Rc110 (a1 + 1) u28) else ((fX12_errs 5 u).bind fun u30 => Rc110 (a1 + 1) u30))) else ((fX12_clause u).bind fun u32 => Rc110 (a1 + 1) u32))
def fX12_text_J198 (Rc110 : Int32 → Mem → Option (Int32 × Mem)) (a1 : Int32) (a2 : Int32) (u : Mem) : Option (Int32 × Mem) := fX12_text_J199 Rc110 a1 a2 false u
def fX12_text_J176 (Rc110 : Int32 → Mem → Option (Int32 × Mem)) (a1 : Int32) (a2 : Int32) (u : Mem) : Option (Int32 × Mem) := (if (u.1 0 14) = 5 then (if a1 = 20 then (if a2 = 0 then ((fX12_clause u).bind fun u42 => Rc110 (a1 + 1) u42) else (if (if (u.1 7 12) = 0 then false else true) = true then ((fX12_clause u).bind fun u45 => Rc110 (a1 + 1) u45) else ((fX12_errs 5 u).bind fun u47 => Rc110 (a1 + 1) u47))) else ((fX12_clause u).bind fun u49 => Rc110 (a1 + 1) u49)) else fX12_text_J198 Rc110 a1 a2 u)
def fX12_text_J194 (Rc110 : Int32 → Mem → Option (Int32 × Mem)) (a1 : Int32) (a2 : Int32) (u : Mem) : Option (Int32 × Mem) := fX12_text_J199 Rc110 a1 a2 true u
def fX12_text_L110  (K232 : Int32 → Mem → Option (Int32 × Mem)) : Nat → Int32 → Mem → Option (Int32 × Mem)
  | 0, _, _ => none
  | t + 1, a1, u => (if (u.1 0 13) = 0 then K232 a1 u else (if (u.1 0 15) = 0 then ((some (((if (u.1 0 13) = 1 then (if (u.1 0 14) = 2 then 0 else (if (u.1 0 14) = 3 then 0 else 1)) else 0) : Int32))).bind fun x18 => (if x18 = 0 then fX12_text_J198 (fX12_text_L110 K232 t) a1 x18 u else (if (u.1 0 14) = 4 then (if (u.1 7 11) = 0 then fX12_text_J176 (fX12_text_L110 K232 t) a1 x18 u else fX12_text_J194 (fX12_text_L110 K232 t) a1 x18 u) else fX12_text_J176 (fX12_text_L110 K232 t) a1 x18 u))) else K232 a1 u))
def fX12_text_L309  : Nat → Int32 → Mem → Option (Int32 × Mem)
  | 0, _, _ => none
  | t + 1, a2, u => (if 220 ≤ a2 then (some (u.1 1 0, u)) else (if inB a2 220 then (if inB ((1500 + (220 * (u.1 1 0))) + a2) 8320 then ((some (si u 1 ((1500 + (220 * (u.1 1 0))) + a2).toNatClampNeg (u.1 8 a2.toNatClampNeg))).bind fun u60 => fX12_text_L309 t (a2 + 1) u60) else none) else none))
def fX12_text_J252 (a1 : Int32) (u : Mem) : Option (Int32 × Mem) := ((some (si (si u 0 8 (u.1 0 15)) 0 9 ((si u 0 8 (u.1 0 15)).1 0 16))).bind fun u56 => (if (u56.1 0 15) ≤ 0 then ((some (si (si u56 1 0 ((u56.1 1 0) + 1)) 1 1 ((si u56 1 0 ((u56.1 1 0) + 1)).1 1 0))).bind fun u58 => fX12_text_L309 fu0 0 (si u58 1 7 a1)) else (some ((-1), u56))))
def fX12_text (u : Mem) : Option (Int32 × Mem) := (if (u.1 1 0) = 30 then (some ((-1), u)) else ((some (si (si (si (si u 0 10 (u.1 0 7)) 0 7 0) 0 11 0) 0 15 0)).bind fun u2 => fX12_text_L43 (fun u4 => fX12_text_L64 (fun u7 => ((fX12_next u7).bind fun u9 => fX12_text_L110 (fun v50 u51 => (if (u51.1 0 15) = 0 then ((fX12_isEven u51).bind fun r54 => (if r54 = true then fX12_text_J252 v50 u51 else ((fX12_errs 6 u51).bind fun u62 => fX12_text_J252 v50 u62))) else fX12_text_J252 v50 u51)) fu0 0 u9)) fu0 0 u4) fu0 0 (si u2 0 16 (-1))))
set_option maxHeartbeats 4000000 in
set_option maxRecDepth 100000 in
theorem kX12_text_L43 {l : Launch} {D : va_G} {cy : Nat → ClassId} {ad : Nat → Nat} {p : Program} {e : Env} {s : State} {m : MethodId} {args : Array Value} {below : List Frame} {meth : Method} {c : Code} (C : Cx nM D cy ad 4 cX12_text RX12 rX12_text p s m args c) (hr : meth.sig.returnType = some .int) (hlk : meth.locks = false)   {out : (Int32 × Mem)} (K62 : Mem → Option (Int32 × Mem)) (hK62 : ∀ (w : Mem), K62 w = some out → V shM nM D cy ad 4 p l e rX12_text s m args below meth c (MQ below (qI shM nM D cy ad out.1 out.2) args s 0 0 (rA ad nM)) 62 [(0, .ref (ad 0))] [] w) : ∀ (t : Nat) (a1 : Int32) (u : Mem), fX12_text_L43 K62 t a1 u = some out → V shM nM D cy ad 4 p l e rX12_text s m args below meth c (MQ below (qI shM nM D cy ad out.1 out.2) args s 0 0 (rA ad nM)) 43 [(0, .ref (ad 0)), (1, .int a1)] [] u := by
  intro t
  induction t with
  | zero => intro a1 u h; rw [fX12_text_L43] at h; cases h
  | succ t ih =>
    intro a1 u h
    rw [fX12_text_L43] at h
    refine v_iload_n C 1 dX12_text_43 rfl rfl ?_
    refine v_bipush C (v := 18) dX12_text_44 (by decide) ?_
    refine v_icmp_ge C 62 dX12_text_46 (by decide) h (fun h => ?_) (fun h => ?_)
    · refine v_sub [0] rfl ?_
      exact hK62 u h
    · refine v_aload_n C 0 dX12_text_49 rfl rfl ?_
      refine v_getr C pM_0 fd_X12_40 rfl dX12_text_50 ?_
      refine v_iload_n C 1 dX12_text_53 rfl rfl ?_
      refine v_iconst C (v := 0) dX12_text_54 (by decide) ?_
      refine v_zast C pM_7 (by decide) dX12_text_55 h (fun h => ?_)
      refine v_iinc C 1 (v := a1 + 1) [(1, .int (a1 + 1)), (0, .ref (ad 0))] dX12_text_56 rfl rfl (by decide) rfl ?_
      refine v_goto C 43 dX12_text_59 (by decide) ?_
      refine v_sub [1, 0] rfl ?_
      exact ih (a1 + 1) (si u 7 a1.toNatClampNeg 0) h
set_option maxHeartbeats 4000000 in
set_option maxRecDepth 100000 in
theorem kX12_text_L64 {l : Launch} {D : va_G} {cy : Nat → ClassId} {ad : Nat → Nat} {p : Program} {e : Env} {s : State} {m : MethodId} {args : Array Value} {below : List Frame} {meth : Method} {c : Code} (C : Cx nM D cy ad 4 cX12_text RX12 rX12_text p s m args c) (hr : meth.sig.returnType = some .int) (hlk : meth.locks = false)   {out : (Int32 × Mem)} (K104 : Mem → Option (Int32 × Mem)) (hK104 : ∀ (w : Mem), K104 w = some out → V shM nM D cy ad 4 p l e rX12_text s m args below meth c (MQ below (qI shM nM D cy ad out.1 out.2) args s 0 0 (rA ad nM)) 104 [(0, .ref (ad 0))] [] w) : ∀ (t : Nat) (a1 : Int32) (u : Mem), fX12_text_L64 K104 t a1 u = some out → V shM nM D cy ad 4 p l e rX12_text s m args below meth c (MQ below (qI shM nM D cy ad out.1 out.2) args s 0 0 (rA ad nM)) 64 [(0, .ref (ad 0)), (1, .int a1)] [] u := by
  intro t
  induction t with
  | zero => intro a1 u h; rw [fX12_text_L64] at h; cases h
  | succ t ih =>
    intro a1 u h
    rw [fX12_text_L64] at h
    refine v_iload_n C 1 dX12_text_64 rfl rfl ?_
    refine v_sipush C (v := 220) dX12_text_65 (by decide) ?_
    refine v_icmp_ge C 104 dX12_text_68 (by decide) h (fun h => ?_) (fun h => ?_)
    · refine v_sub [0] rfl ?_
      exact hK104 u h
    · refine v_aload_n C 0 dX12_text_71 rfl rfl ?_
      refine v_getr C pM_0 fd_X12_44 rfl dX12_text_72 ?_
      refine v_iload_n C 1 dX12_text_75 rfl rfl ?_
      refine v_aload_n C 0 dX12_text_76 rfl rfl ?_
      refine v_getr C pM_0 fd_X12_7 rfl dX12_text_77 ?_
      refine v_sipush C (v := 1500) dX12_text_80 (by decide) ?_
      refine v_sipush C (v := 220) dX12_text_83 (by decide) ?_
      refine v_aload_n C 0 dX12_text_86 rfl rfl ?_
      refine v_getr C pM_0 fd_X12_7 rfl dX12_text_87 ?_
      refine v_iconst C (v := 0) dX12_text_90 (by decide) ?_
      refine v_ialdN C pM_1 (j := 0) (by decide) (by decide) dX12_text_91 ?_
      refine v_imul C dX12_text_92 ?_
      refine v_iadd C dX12_text_93 ?_
      refine v_iload_n C 1 dX12_text_94 rfl rfl ?_
      refine v_iadd C dX12_text_95 ?_
      refine v_iald C pM_1 dX12_text_96 h (fun h => ?_)
      refine v_iast C pM_8 dX12_text_97 h (fun h => ?_)
      refine v_mem (fun u6 hu6 => ?_)
      have h := nmd hu6 h
      refine v_iinc C 1 (v := a1 + 1) [(1, .int (a1 + 1)), (0, .ref (ad 0))] dX12_text_98 rfl rfl (by decide) rfl ?_
      refine v_goto C 64 dX12_text_101 (by decide) ?_
      refine v_sub [1, 0] rfl ?_
      exact ih (a1 + 1) u6 h
set_option maxHeartbeats 4000000 in
set_option maxRecDepth 100000 in
theorem kX12_text_J199 {l : Launch} {D : va_G} {cy : Nat → ClassId} {ad : Nat → Nat} {p : Program} {e : Env} {s : State} {m : MethodId} {args : Array Value} {below : List Frame} {meth : Method} {c : Code} (C : Cx nM D cy ad 4 cX12_text RX12 rX12_text p s m args c) (hr : meth.sig.returnType = some .int) (hlk : meth.locks = false) {out : (Int32 × Mem)} (Rc110 : Int32 → Mem → Option (Int32 × Mem))  (a1 : Int32) (a2 : Int32) (s0 : Bool) (u : Mem)  (hRc110 : ∀ (a1 : Int32) (w : Mem), Rc110 a1 w = some out → V shM nM D cy ad 4 p l e rX12_text s m args below meth c (MQ below (qI shM nM D cy ad out.1 out.2) args s 0 0 (rA ad nM)) 110 [(0, .ref (ad 0)), (1, .int a1)] [] w) (h : fX12_text_J199 Rc110 a1 a2 s0 u = some out) : V shM nM D cy ad 4 p l e rX12_text s m args below meth c (MQ below (qI shM nM D cy ad out.1 out.2) args s 0 0 (rA ad nM)) 199 [(0, .ref (ad 0)), (1, .int a1), (2, .int a2)] [.int (bz s0)] u := by
  unfold fX12_text_J199 at h
  refine v_istore_n C [(3, .int (bz s0)), (0, .ref (ad 0)), (1, .int a1), (2, .int a2)] dX12_text_199 rfl (by decide) rfl ?_
  refine v_iload_n C 2 dX12_text_200 rfl rfl ?_
  refine v_bipush C (v := 20) dX12_text_201 (by decide) ?_
  refine v_icmp_ne C 222 dX12_text_203 (by decide) h (fun h => ?_) (fun h => ?_)
  · refine v_iload_n C 3 dX12_text_206 rfl rfl ?_
    refine v_if_eq C 222 dX12_text_207 (by decide) h (fun h => ?_) (fun h => ?_)
    · refine v_aload_n C 1 dX12_text_222 rfl rfl ?_
      obtain ⟨u25, hc24, h⟩ := bnd h
      refine v_callVv C [] (cX12_clause_ct l D cy ad u u25 hc24) ml_X12_186 pM_0 ⟨Nat.le_of_ble_eq_true rfl, Nat.le_of_ble_eq_true rfl⟩ ⟨rfl, rfl⟩ rfl rfl (Nat.le_of_ble_eq_true rfl) dX12_text_223 ?_
      refine v_iinc C 2 (v := a1 + 1) [(1, .int (a1 + 1)), (3, .int (bz s0)), (0, .ref (ad 0)), (2, .int a2)] dX12_text_226 rfl rfl (by decide) rfl ?_
      refine v_goto C 110 dX12_text_229 (by decide) ?_
      refine v_sub [2, 0] rfl ?_
      exact hRc110 (a1 + 1) u25 h
    · refine v_iload_n C 0 dX12_text_210 rfl rfl ?_
      refine v_z_ne C 222 dX12_text_211 (by decide) h (fun h => ?_) (fun h => ?_)
      · refine v_aload_n C 1 dX12_text_222 rfl rfl ?_
        obtain ⟨u28, hc27, h⟩ := bnd h
        refine v_callVv C [] (cX12_clause_ct l D cy ad u u28 hc27) ml_X12_186 pM_0 ⟨Nat.le_of_ble_eq_true rfl, Nat.le_of_ble_eq_true rfl⟩ ⟨rfl, rfl⟩ rfl rfl (Nat.le_of_ble_eq_true rfl) dX12_text_223 ?_
        refine v_iinc C 2 (v := a1 + 1) [(1, .int (a1 + 1)), (3, .int (bz s0)), (0, .ref (ad 0)), (2, .int a2)] dX12_text_226 rfl rfl (by decide) rfl ?_
        refine v_goto C 110 dX12_text_229 (by decide) ?_
        refine v_sub [2, 0] rfl ?_
        exact hRc110 (a1 + 1) u28 h
      · refine v_aload_n C 1 dX12_text_214 rfl rfl ?_
        refine v_iconst C (v := 5) dX12_text_215 (by decide) ?_
        obtain ⟨u30, hc29, h⟩ := bnd h
        refine v_callVv C [.int 5] (cX12_errs_ct l D cy ad 5 u u30 hc29) ml_X12_152 pM_0 ⟨Nat.le_of_ble_eq_true rfl, Nat.le_of_ble_eq_true rfl⟩ ⟨rfl, rfl⟩ rfl rfl (Nat.le_of_ble_eq_true rfl) dX12_text_216 ?_
        refine v_goto C 226 dX12_text_219 (by decide) ?_
        refine v_iinc C 2 (v := a1 + 1) [(1, .int (a1 + 1)), (3, .int (bz s0)), (0, .ref (ad 0)), (2, .int a2)] dX12_text_226 rfl rfl (by decide) rfl ?_
        refine v_goto C 110 dX12_text_229 (by decide) ?_
        refine v_sub [2, 0] rfl ?_
        exact hRc110 (a1 + 1) u30 h
  · refine v_aload_n C 1 dX12_text_222 rfl rfl ?_
    obtain ⟨u32, hc31, h⟩ := bnd h
    refine v_callVv C [] (cX12_clause_ct l D cy ad u u32 hc31) ml_X12_186 pM_0 ⟨Nat.le_of_ble_eq_true rfl, Nat.le_of_ble_eq_true rfl⟩ ⟨rfl, rfl⟩ rfl rfl (Nat.le_of_ble_eq_true rfl) dX12_text_223 ?_
    refine v_iinc C 2 (v := a1 + 1) [(1, .int (a1 + 1)), (3, .int (bz s0)), (0, .ref (ad 0)), (2, .int a2)] dX12_text_226 rfl rfl (by decide) rfl ?_
    refine v_goto C 110 dX12_text_229 (by decide) ?_
    refine v_sub [2, 0] rfl ?_
    exact hRc110 (a1 + 1) u32 h
set_option maxHeartbeats 4000000 in
set_option maxRecDepth 100000 in
theorem kX12_text_J198 {l : Launch} {D : va_G} {cy : Nat → ClassId} {ad : Nat → Nat} {p : Program} {e : Env} {s : State} {m : MethodId} {args : Array Value} {below : List Frame} {meth : Method} {c : Code} (C : Cx nM D cy ad 4 cX12_text RX12 rX12_text p s m args c) (hr : meth.sig.returnType = some .int) (hlk : meth.locks = false) {out : (Int32 × Mem)} (Rc110 : Int32 → Mem → Option (Int32 × Mem))  (a1 : Int32) (a2 : Int32) (u : Mem)  (hRc110 : ∀ (a1 : Int32) (w : Mem), Rc110 a1 w = some out → V shM nM D cy ad 4 p l e rX12_text s m args below meth c (MQ below (qI shM nM D cy ad out.1 out.2) args s 0 0 (rA ad nM)) 110 [(0, .ref (ad 0)), (1, .int a1)] [] w) (h : fX12_text_J198 Rc110 a1 a2 u = some out) : V shM nM D cy ad 4 p l e rX12_text s m args below meth c (MQ below (qI shM nM D cy ad out.1 out.2) args s 0 0 (rA ad nM)) 198 [(0, .ref (ad 0)), (1, .int a1), (2, .int a2)] [] u := by
  unfold fX12_text_J198 at h
  refine v_iconst C (v := 0) dX12_text_198 (by decide) ?_
  exact kX12_text_J199 C hr hlk Rc110 a1 a2 false u hRc110 h
set_option maxHeartbeats 4000000 in
set_option maxRecDepth 100000 in
theorem kX12_text_J176 {l : Launch} {D : va_G} {cy : Nat → ClassId} {ad : Nat → Nat} {p : Program} {e : Env} {s : State} {m : MethodId} {args : Array Value} {below : List Frame} {meth : Method} {c : Code} (C : Cx nM D cy ad 4 cX12_text RX12 rX12_text p s m args c) (hr : meth.sig.returnType = some .int) (hlk : meth.locks = false) {out : (Int32 × Mem)} (Rc110 : Int32 → Mem → Option (Int32 × Mem))  (a1 : Int32) (a2 : Int32) (u : Mem)  (hRc110 : ∀ (a1 : Int32) (w : Mem), Rc110 a1 w = some out → V shM nM D cy ad 4 p l e rX12_text s m args below meth c (MQ below (qI shM nM D cy ad out.1 out.2) args s 0 0 (rA ad nM)) 110 [(0, .ref (ad 0)), (1, .int a1)] [] w) (h : fX12_text_J176 Rc110 a1 a2 u = some out) : V shM nM D cy ad 4 p l e rX12_text s m args below meth c (MQ below (qI shM nM D cy ad out.1 out.2) args s 0 0 (rA ad nM)) 176 [(0, .ref (ad 0)), (1, .int a1), (2, .int a2)] [] u := by
  unfold fX12_text_J176 at h
  refine v_aload_n C 0 dX12_text_176 rfl rfl ?_
  refine v_geti C pM_0 fd_X12_134 rfl dX12_text_177 ?_
  refine v_iconst C (v := 5) dX12_text_180 (by decide) ?_
  refine v_icmp_ne C 198 dX12_text_181 (by decide) h (fun h => ?_) (fun h => ?_)
  · refine v_aload_n C 0 dX12_text_184 rfl rfl ?_
    refine v_getr C pM_0 fd_X12_40 rfl dX12_text_185 ?_
    refine v_bipush C (v := 12) dX12_text_188 (by decide) ?_
    refine v_zaldN C pM_7 (j := 12) (by decide) (by decide) dX12_text_190 ?_
    refine v_dia 199 (.int (bz (if (u.1 7 12) = 0 then false else true))) [] ?_ (fun hj => ?_)
    · refine v_istore_n C [(3, .int (bz (if (u.1 7 12) = 0 then false else true))), (0, .ref (ad 0)), (1, .int a1), (2, .int a2)] dX12_text_199 rfl (by decide) rfl ?_
      refine v_iload_n C 2 dX12_text_200 rfl rfl ?_
      refine v_bipush C (v := 20) dX12_text_201 (by decide) ?_
      refine v_icmp_ne C 222 dX12_text_203 (by decide) h (fun h => ?_) (fun h => ?_)
      · refine v_iload_n C 3 dX12_text_206 rfl rfl ?_
        refine v_if_eq C 222 dX12_text_207 (by decide) h (fun h => ?_) (fun h => ?_)
        · refine v_aload_n C 1 dX12_text_222 rfl rfl ?_
          obtain ⟨u42, hc41, h⟩ := bnd h
          refine v_callVv C [] (cX12_clause_ct l D cy ad u u42 hc41) ml_X12_186 pM_0 ⟨Nat.le_of_ble_eq_true rfl, Nat.le_of_ble_eq_true rfl⟩ ⟨rfl, rfl⟩ rfl rfl (Nat.le_of_ble_eq_true rfl) dX12_text_223 ?_
          refine v_iinc C 2 (v := a1 + 1) [(1, .int (a1 + 1)), (3, .int (bz (if (u.1 7 12) = 0 then false else true))), (0, .ref (ad 0)), (2, .int a2)] dX12_text_226 rfl rfl (by decide) rfl ?_
          refine v_goto C 110 dX12_text_229 (by decide) ?_
          refine v_sub [2, 0] rfl ?_
          exact hRc110 (a1 + 1) u42 h
        · refine v_iload_n C 0 dX12_text_210 rfl rfl ?_
          refine v_z_ne C 222 dX12_text_211 (by decide) h (fun h => ?_) (fun h => ?_)
          · refine v_aload_n C 1 dX12_text_222 rfl rfl ?_
            obtain ⟨u45, hc44, h⟩ := bnd h
            refine v_callVv C [] (cX12_clause_ct l D cy ad u u45 hc44) ml_X12_186 pM_0 ⟨Nat.le_of_ble_eq_true rfl, Nat.le_of_ble_eq_true rfl⟩ ⟨rfl, rfl⟩ rfl rfl (Nat.le_of_ble_eq_true rfl) dX12_text_223 ?_
            refine v_iinc C 2 (v := a1 + 1) [(1, .int (a1 + 1)), (3, .int (bz (if (u.1 7 12) = 0 then false else true))), (0, .ref (ad 0)), (2, .int a2)] dX12_text_226 rfl rfl (by decide) rfl ?_
            refine v_goto C 110 dX12_text_229 (by decide) ?_
            refine v_sub [2, 0] rfl ?_
            exact hRc110 (a1 + 1) u45 h
          · refine v_aload_n C 1 dX12_text_214 rfl rfl ?_
            refine v_iconst C (v := 5) dX12_text_215 (by decide) ?_
            obtain ⟨u47, hc46, h⟩ := bnd h
            refine v_callVv C [.int 5] (cX12_errs_ct l D cy ad 5 u u47 hc46) ml_X12_152 pM_0 ⟨Nat.le_of_ble_eq_true rfl, Nat.le_of_ble_eq_true rfl⟩ ⟨rfl, rfl⟩ rfl rfl (Nat.le_of_ble_eq_true rfl) dX12_text_216 ?_
            refine v_goto C 226 dX12_text_219 (by decide) ?_
            refine v_iinc C 2 (v := a1 + 1) [(1, .int (a1 + 1)), (3, .int (bz (if (u.1 7 12) = 0 then false else true))), (0, .ref (ad 0)), (2, .int a2)] dX12_text_226 rfl rfl (by decide) rfl ?_
            refine v_goto C 110 dX12_text_229 (by decide) ?_
            refine v_sub [2, 0] rfl ?_
            exact hRc110 (a1 + 1) u47 h
      · refine v_aload_n C 1 dX12_text_222 rfl rfl ?_
        obtain ⟨u49, hc48, h⟩ := bnd h
        refine v_callVv C [] (cX12_clause_ct l D cy ad u u49 hc48) ml_X12_186 pM_0 ⟨Nat.le_of_ble_eq_true rfl, Nat.le_of_ble_eq_true rfl⟩ ⟨rfl, rfl⟩ rfl rfl (Nat.le_of_ble_eq_true rfl) dX12_text_223 ?_
        refine v_iinc C 2 (v := a1 + 1) [(1, .int (a1 + 1)), (3, .int (bz (if (u.1 7 12) = 0 then false else true))), (0, .ref (ad 0)), (2, .int a2)] dX12_text_226 rfl rfl (by decide) rfl ?_
        refine v_goto C 110 dX12_text_229 (by decide) ?_
        refine v_sub [2, 0] rfl ?_
        exact hRc110 (a1 + 1) u49 h
    · refine p_if_eq C 198 dX12_text_191 (by decide) (fun z37 => ?_) (fun z37 => ?_)
      · refine v_iconst C (v := 0) dX12_text_198 (by decide) ?_
        exact v_top (by rw [if_pos z37]; first | done | rfl) hj
      · refine v_iconst C (v := 1) dX12_text_194 (by decide) ?_
        refine v_goto C 199 dX12_text_195 (by decide) ?_
        exact v_top (by rw [if_neg z37]; first | done | rfl) hj
  · exact kX12_text_J198 C hr hlk Rc110 a1 a2 u hRc110 h
set_option maxHeartbeats 4000000 in
set_option maxRecDepth 100000 in
theorem kX12_text_J194 {l : Launch} {D : va_G} {cy : Nat → ClassId} {ad : Nat → Nat} {p : Program} {e : Env} {s : State} {m : MethodId} {args : Array Value} {below : List Frame} {meth : Method} {c : Code} (C : Cx nM D cy ad 4 cX12_text RX12 rX12_text p s m args c) (hr : meth.sig.returnType = some .int) (hlk : meth.locks = false) {out : (Int32 × Mem)} (Rc110 : Int32 → Mem → Option (Int32 × Mem))  (a1 : Int32) (a2 : Int32) (u : Mem)  (hRc110 : ∀ (a1 : Int32) (w : Mem), Rc110 a1 w = some out → V shM nM D cy ad 4 p l e rX12_text s m args below meth c (MQ below (qI shM nM D cy ad out.1 out.2) args s 0 0 (rA ad nM)) 110 [(0, .ref (ad 0)), (1, .int a1)] [] w) (h : fX12_text_J194 Rc110 a1 a2 u = some out) : V shM nM D cy ad 4 p l e rX12_text s m args below meth c (MQ below (qI shM nM D cy ad out.1 out.2) args s 0 0 (rA ad nM)) 194 [(0, .ref (ad 0)), (1, .int a1), (2, .int a2)] [] u := by
  unfold fX12_text_J194 at h
  refine v_iconst C (v := 1) dX12_text_194 (by decide) ?_
  refine v_goto C 199 dX12_text_195 (by decide) ?_
  exact kX12_text_J199 C hr hlk Rc110 a1 a2 true u hRc110 h
set_option maxHeartbeats 4000000 in
set_option maxRecDepth 100000 in
theorem kX12_text_L110 {l : Launch} {D : va_G} {cy : Nat → ClassId} {ad : Nat → Nat} {p : Program} {e : Env} {s : State} {m : MethodId} {args : Array Value} {below : List Frame} {meth : Method} {c : Code} (C : Cx nM D cy ad 4 cX12_text RX12 rX12_text p s m args c) (hr : meth.sig.returnType = some .int) (hlk : meth.locks = false)   {out : (Int32 × Mem)} (K232 : Int32 → Mem → Option (Int32 × Mem)) (hK232 : ∀ (a1 : Int32) (w : Mem), K232 a1 w = some out → V shM nM D cy ad 4 p l e rX12_text s m args below meth c (MQ below (qI shM nM D cy ad out.1 out.2) args s 0 0 (rA ad nM)) 232 [(0, .ref (ad 0)), (1, .int a1)] [] w) : ∀ (t : Nat) (a1 : Int32) (u : Mem), fX12_text_L110 K232 t a1 u = some out → V shM nM D cy ad 4 p l e rX12_text s m args below meth c (MQ below (qI shM nM D cy ad out.1 out.2) args s 0 0 (rA ad nM)) 110 [(0, .ref (ad 0)), (1, .int a1)] [] u := by
  intro t
  induction t with
  | zero => intro a1 u h; rw [fX12_text_L110] at h; cases h
  | succ t ih =>
    intro a1 u h
    rw [fX12_text_L110] at h
    refine v_aload_n C 0 dX12_text_110 rfl rfl ?_
    refine v_geti C pM_0 fd_X12_124 rfl dX12_text_111 ?_
    refine v_if_eq C 232 dX12_text_114 (by decide) h (fun h => ?_) (fun h => ?_)
    · exact hK232 a1 u h
    · refine v_aload_n C 0 dX12_text_117 rfl rfl ?_
      refine v_geti C pM_0 fd_X12_146 rfl dX12_text_118 ?_
      refine v_if_ne C 232 dX12_text_121 (by decide) h (fun h => ?_) (fun h => ?_)
      · refine v_aload_n C 0 dX12_text_124 rfl rfl ?_
        refine v_geti C pM_0 fd_X12_124 rfl dX12_text_125 ?_
        refine v_iconst C (v := 1) dX12_text_128 (by decide) ?_
        refine v_dia 153 (.int ((if (u.1 0 13) = 1 then (if (u.1 0 14) = 2 then 0 else (if (u.1 0 14) = 3 then 0 else 1)) else 0) : Int32)) [] ?_ (fun hj => ?_)
        · refine v_nmi (fun x18 hx18 => ?_)
          have h := nmd hx18 h
          refine v_istore_n C [(2, .int x18), (0, .ref (ad 0)), (1, .int a1)] dX12_text_153 rfl (by decide) rfl ?_
          refine v_iload_n C 0 dX12_text_154 rfl rfl ?_
          refine v_if_eq C 198 dX12_text_155 (by decide) h (fun h => ?_) (fun h => ?_)
          · refine v_sub [1, 2, 0] rfl ?_
            exact kX12_text_J198 C hr hlk (fX12_text_L110 K232 t) a1 x18 u ih h
          · refine v_aload_n C 1 dX12_text_158 rfl rfl ?_
            refine v_geti C pM_0 fd_X12_134 rfl dX12_text_159 ?_
            refine v_iconst C (v := 4) dX12_text_162 (by decide) ?_
            refine v_icmp_ne C 176 dX12_text_163 (by decide) h (fun h => ?_) (fun h => ?_)
            · refine v_aload_n C 1 dX12_text_166 rfl rfl ?_
              refine v_getr C pM_0 fd_X12_40 rfl dX12_text_167 ?_
              refine v_bipush C (v := 11) dX12_text_170 (by decide) ?_
              refine v_zaldN C pM_7 (j := 11) (by decide) (by decide) dX12_text_172 ?_
              refine v_if_ne C 194 dX12_text_173 (by decide) h (fun h => ?_) (fun h => ?_)
              · refine v_sub [1, 2, 0] rfl ?_
                exact kX12_text_J176 C hr hlk (fX12_text_L110 K232 t) a1 x18 u ih h
              · refine v_sub [1, 2, 0] rfl ?_
                exact kX12_text_J194 C hr hlk (fX12_text_L110 K232 t) a1 x18 u ih h
            · refine v_sub [1, 2, 0] rfl ?_
              exact kX12_text_J176 C hr hlk (fX12_text_L110 K232 t) a1 x18 u ih h
        · refine p_icmp_ne C 152 dX12_text_129 (by decide) (fun z15 => ?_) (fun z15 => ?_)
          · refine v_aload_n C 0 dX12_text_132 rfl rfl ?_
            refine v_geti C pM_0 fd_X12_134 rfl dX12_text_133 ?_
            refine v_iconst C (v := 2) dX12_text_136 (by decide) ?_
            refine p_icmp_eq C 152 dX12_text_137 (by decide) (fun z16 => ?_) (fun z16 => ?_)
            · refine v_iconst C (v := 0) dX12_text_152 (by decide) ?_
              exact v_top (by rw [if_pos z15, if_pos z16]; first | done | rfl) hj
            · refine v_aload_n C 0 dX12_text_140 rfl rfl ?_
              refine v_geti C pM_0 fd_X12_134 rfl dX12_text_141 ?_
              refine v_iconst C (v := 3) dX12_text_144 (by decide) ?_
              refine p_icmp_eq C 152 dX12_text_145 (by decide) (fun z17 => ?_) (fun z17 => ?_)
              · refine v_iconst C (v := 0) dX12_text_152 (by decide) ?_
                exact v_top (by rw [if_pos z15, if_neg z16, if_pos z17]; first | done | rfl) hj
              · refine v_iconst C (v := 1) dX12_text_148 (by decide) ?_
                refine v_goto C 153 dX12_text_149 (by decide) ?_
                exact v_top (by rw [if_pos z15, if_neg z16, if_neg z17]; first | done | rfl) hj
          · refine v_iconst C (v := 0) dX12_text_152 (by decide) ?_
            exact v_top (by rw [if_neg z15]; first | done | rfl) hj
      · exact hK232 a1 u h
set_option maxHeartbeats 4000000 in
set_option maxRecDepth 100000 in
theorem kX12_text_L309 {l : Launch} {D : va_G} {cy : Nat → ClassId} {ad : Nat → Nat} {p : Program} {e : Env} {s : State} {m : MethodId} {args : Array Value} {below : List Frame} {meth : Method} {c : Code} (C : Cx nM D cy ad 4 cX12_text RX12 rX12_text p s m args c) (hr : meth.sig.returnType = some .int) (hlk : meth.locks = false)   {out : (Int32 × Mem)}  : ∀ (t : Nat) (a2 : Int32) (u : Mem), fX12_text_L309 t a2 u = some out → V shM nM D cy ad 4 p l e rX12_text s m args below meth c (MQ below (qI shM nM D cy ad out.1 out.2) args s 0 0 (rA ad nM)) 309 [(0, .ref (ad 0)), (2, .int a2)] [] u := by
  intro t
  induction t with
  | zero => intro a2 u h; rw [fX12_text_L309] at h; cases h
  | succ t ih =>
    intro a2 u h
    rw [fX12_text_L309] at h
    refine v_iload_n C 1 dX12_text_309 rfl rfl ?_
    refine v_sipush C (v := 220) dX12_text_310 (by decide) ?_
    refine v_icmp_ge C 349 dX12_text_313 (by decide) h (fun h => ?_) (fun h => ?_)
    · refine v_aload_n C 0 dX12_text_349 rfl rfl ?_
      refine v_getr C pM_0 fd_X12_7 rfl dX12_text_350 ?_
      refine v_iconst C (v := 0) dX12_text_353 (by decide) ?_
      refine v_ialdN C pM_1 (j := 0) (by decide) (by decide) dX12_text_354 ?_
      cases h
      exact v_iret C hr hlk dX12_text_355
    · refine v_aload_n C 0 dX12_text_316 rfl rfl ?_
      refine v_getr C pM_0 fd_X12_7 rfl dX12_text_317 ?_
      refine v_sipush C (v := 1500) dX12_text_320 (by decide) ?_
      refine v_sipush C (v := 220) dX12_text_323 (by decide) ?_
      refine v_aload_n C 0 dX12_text_326 rfl rfl ?_
      refine v_getr C pM_0 fd_X12_7 rfl dX12_text_327 ?_
      refine v_iconst C (v := 0) dX12_text_330 (by decide) ?_
      refine v_ialdN C pM_1 (j := 0) (by decide) (by decide) dX12_text_331 ?_
      refine v_imul C dX12_text_332 ?_
      refine v_iadd C dX12_text_333 ?_
      refine v_iload_n C 1 dX12_text_334 rfl rfl ?_
      refine v_iadd C dX12_text_335 ?_
      refine v_aload_n C 0 dX12_text_336 rfl rfl ?_
      refine v_getr C pM_0 fd_X12_44 rfl dX12_text_337 ?_
      refine v_iload_n C 1 dX12_text_340 rfl rfl ?_
      refine v_iald C pM_8 dX12_text_341 h (fun h => ?_)
      refine v_iast C pM_1 dX12_text_342 h (fun h => ?_)
      refine v_mem (fun u60 hu60 => ?_)
      have h := nmd hu60 h
      refine v_iinc C 1 (v := a2 + 1) [(2, .int (a2 + 1)), (0, .ref (ad 0))] dX12_text_343 rfl rfl (by decide) rfl ?_
      refine v_goto C 309 dX12_text_346 (by decide) ?_
      refine v_sub [1, 0] rfl ?_
      exact ih (a2 + 1) u60 h
set_option maxHeartbeats 4000000 in
set_option maxRecDepth 100000 in
theorem kX12_text_J252 {l : Launch} {D : va_G} {cy : Nat → ClassId} {ad : Nat → Nat} {p : Program} {e : Env} {s : State} {m : MethodId} {args : Array Value} {below : List Frame} {meth : Method} {c : Code} (C : Cx nM D cy ad 4 cX12_text RX12 rX12_text p s m args c) (hr : meth.sig.returnType = some .int) (hlk : meth.locks = false) {out : (Int32 × Mem)}  (a1 : Int32) (u : Mem)   (h : fX12_text_J252 a1 u = some out) : V shM nM D cy ad 4 p l e rX12_text s m args below meth c (MQ below (qI shM nM D cy ad out.1 out.2) args s 0 0 (rA ad nM)) 252 [(0, .ref (ad 0)), (1, .int a1)] [] u := by
  unfold fX12_text_J252 at h
  refine v_aload_n C 0 dX12_text_252 rfl rfl ?_
  refine v_aload_n C 0 dX12_text_253 rfl rfl ?_
  refine v_geti C pM_0 fd_X12_146 rfl dX12_text_254 ?_
  refine v_puti C pM_0 fp_X12_34 rfl rfl rfl dX12_text_257 ?_
  refine v_aload_n C 0 dX12_text_260 rfl rfl ?_
  refine v_aload_n C 0 dX12_text_261 rfl rfl ?_
  refine v_geti C pM_0 fd_X12_149 rfl dX12_text_262 ?_
  refine v_puti C pM_0 fp_X12_37 rfl rfl rfl dX12_text_265 ?_
  refine v_mem (fun u56 hu56 => ?_)
  have h := nmd hu56 h
  refine v_aload_n C 0 dX12_text_268 rfl rfl ?_
  refine v_geti C pM_0 fd_X12_146 rfl dX12_text_269 ?_
  refine v_if_le C 277 dX12_text_272 (by decide) h (fun h => ?_) (fun h => ?_)
  · refine v_aload_n C 0 dX12_text_277 rfl rfl ?_
    refine v_getr C pM_0 fd_X12_7 rfl dX12_text_278 ?_
    refine v_iconst C (v := 0) dX12_text_281 (by decide) ?_
    refine v_dup2 C rfl rfl dX12_text_282 ?_
    refine v_ialdN C pM_1 (j := 0) (by decide) (by decide) dX12_text_283 ?_
    refine v_iconst C (v := 1) dX12_text_284 (by decide) ?_
    refine v_iadd C dX12_text_285 ?_
    refine v_iastN C pM_1 (j := 0) (by decide) (by decide) dX12_text_286 ?_
    refine v_aload_n C 0 dX12_text_287 rfl rfl ?_
    refine v_getr C pM_0 fd_X12_7 rfl dX12_text_288 ?_
    refine v_iconst C (v := 1) dX12_text_291 (by decide) ?_
    refine v_aload_n C 0 dX12_text_292 rfl rfl ?_
    refine v_getr C pM_0 fd_X12_7 rfl dX12_text_293 ?_
    refine v_iconst C (v := 0) dX12_text_296 (by decide) ?_
    refine v_ialdN C pM_1 (j := 0) (by decide) (by decide) dX12_text_297 ?_
    refine v_iastN C pM_1 (j := 1) (by decide) (by decide) dX12_text_298 ?_
    refine v_mem (fun u58 hu58 => ?_)
    have h := nmd hu58 h
    refine v_aload_n C 0 dX12_text_299 rfl rfl ?_
    refine v_getr C pM_0 fd_X12_7 rfl dX12_text_300 ?_
    refine v_bipush C (v := 7) dX12_text_303 (by decide) ?_
    refine v_iload_n C 1 dX12_text_305 rfl rfl ?_
    refine v_iastN C pM_1 (j := 7) (by decide) (by decide) dX12_text_306 ?_
    refine v_iconst C (v := 0) dX12_text_307 (by decide) ?_
    refine v_istore_n C [(2, .int 0), (0, .ref (ad 0)), (1, .int a1)] dX12_text_308 rfl (by decide) rfl ?_
    refine v_sub [1, 0] rfl ?_
    refine kX12_text_L309 C hr hlk    fu0 0 (si u58 1 7 a1) h
  · refine v_iconst C (v := (-1)) dX12_text_275 (by decide) ?_
    cases h
    exact v_iret C hr hlk dX12_text_276
set_option maxHeartbeats 4000000 in
set_option maxRecDepth 100000 in
theorem cX12_text_ct (l : Launch) (D : va_G) (cy : Nat → ClassId) (ad : Nat → Nat) (u : Mem)  (out : (Int32 × Mem)) (h : fX12_text u = some out) : Met l yX12_text (.code yX12_text cX12_text 4 (some .int) :: gw) rX12_text (va_Pc [.ref (ad 0)] (wv shM nM D cy ad u)) (qI shM nM D cy ad out.1 out.2) 0 0 (rA ad nM) := by
  refine met_of (cc := cX12_text) (nL := 4) (by decide) (Nat.le_of_ble_eq_true rfl) (fun p e s m below meth c C hr hlk => ?_)
  unfold fX12_text at h
  show V shM nM D cy ad 4 p l e rX12_text s m _ below meth c (MQ below (qI shM nM D cy ad out.1 out.2) _ s 0 0 (rA ad nM)) 0 [(0, .ref (ad 0))] [] u
  refine v_aload_n C 0 dX12_text_0 rfl rfl ?_
  refine v_getr C pM_0 fd_X12_7 rfl dX12_text_1 ?_
  refine v_iconst C (v := 0) dX12_text_4 (by decide) ?_
  refine v_ialdN C pM_1 (j := 0) (by decide) (by decide) dX12_text_5 ?_
  refine v_bipush C (v := 30) dX12_text_6 (by decide) ?_
  refine v_icmp_ne C 13 dX12_text_8 (by decide) h (fun h => ?_) (fun h => ?_)
  · refine v_iconst C (v := (-1)) dX12_text_11 (by decide) ?_
    cases h
    exact v_iret C hr hlk dX12_text_12
  · refine v_aload_n C 0 dX12_text_13 rfl rfl ?_
    refine v_aload_n C 0 dX12_text_14 rfl rfl ?_
    refine v_geti C pM_0 fd_X12_86 rfl dX12_text_15 ?_
    refine v_puti C pM_0 fp_X12_118 rfl rfl rfl dX12_text_18 ?_
    refine v_aload_n C 0 dX12_text_21 rfl rfl ?_
    refine v_iconst C (v := 0) dX12_text_22 (by decide) ?_
    refine v_puti C pM_0 fp_X12_86 rfl rfl rfl dX12_text_23 ?_
    refine v_aload_n C 0 dX12_text_26 rfl rfl ?_
    refine v_iconst C (v := 0) dX12_text_27 (by decide) ?_
    refine v_puti C pM_0 fp_X12_115 rfl rfl rfl dX12_text_28 ?_
    refine v_aload_n C 0 dX12_text_31 rfl rfl ?_
    refine v_iconst C (v := 0) dX12_text_32 (by decide) ?_
    refine v_puti C pM_0 fp_X12_146 rfl rfl rfl dX12_text_33 ?_
    refine v_mem (fun u2 hu2 => ?_)
    have h := nmd hu2 h
    refine v_aload_n C 0 dX12_text_36 rfl rfl ?_
    refine v_iconst C (v := (-1)) dX12_text_37 (by decide) ?_
    refine v_puti C pM_0 fp_X12_149 rfl rfl rfl dX12_text_38 ?_
    refine v_iconst C (v := 0) dX12_text_41 (by decide) ?_
    refine v_istore_n C [(1, .int 0), (0, .ref (ad 0))] dX12_text_42 rfl (by decide) rfl ?_
    refine v_sub [1, 0] rfl ?_
    refine kX12_text_L43 C hr hlk  _ (fun u4 h => ?_) fu0 0 (si u2 0 16 (-1)) h
    · refine v_iconst C (v := 0) dX12_text_62 (by decide) ?_
      refine v_istore_n C [(1, .int 0), (0, .ref (ad 0))] dX12_text_63 rfl (by decide) rfl ?_
      refine v_sub [1, 0] rfl ?_
      refine kX12_text_L64 C hr hlk  _ (fun u7 h => ?_) fu0 0 u4 h
      · refine v_iconst C (v := 0) dX12_text_104 (by decide) ?_
        refine v_istore_n C [(1, .int 0), (0, .ref (ad 0))] dX12_text_105 rfl (by decide) rfl ?_
        refine v_aload_n C 1 dX12_text_106 rfl rfl ?_
        obtain ⟨u9, hc8, h⟩ := bnd h
        refine v_callVv C [] (cX12_next_ct l D cy ad u7 u9 hc8) ml_X12_155 pM_0 ⟨Nat.le_of_ble_eq_true rfl, Nat.le_of_ble_eq_true rfl⟩ ⟨rfl, rfl⟩ rfl rfl (Nat.le_of_ble_eq_true rfl) dX12_text_107 ?_
        refine v_sub [1, 0] rfl ?_
        refine kX12_text_L110 C hr hlk  _ (fun v50 u51 h => ?_) fu0 0 u9 h
        · refine v_aload_n C 0 dX12_text_232 rfl rfl ?_
          refine v_geti C pM_0 fd_X12_146 rfl dX12_text_233 ?_
          refine v_if_ne C 252 dX12_text_236 (by decide) h (fun h => ?_) (fun h => ?_)
          · refine v_aload_n C 0 dX12_text_239 rfl rfl ?_
            obtain ⟨r54, hc53, h⟩ := bnd h
            refine v_callVi C [] (cX12_isEven_ct l D cy ad u51 r54 hc53) ml_X12_189 pM_0 ⟨Nat.le_of_ble_eq_true rfl, Nat.le_of_ble_eq_true rfl⟩ ⟨rfl, rfl⟩ rfl rfl (Nat.le_of_ble_eq_true rfl) dX12_text_240 ?_
            refine v_z_ne C 252 dX12_text_243 (by decide) h (fun h => ?_) (fun h => ?_)
            · exact kX12_text_J252 C hr hlk v50 u51 h
            · refine v_aload_n C 0 dX12_text_246 rfl rfl ?_
              refine v_bipush C (v := 6) dX12_text_247 (by decide) ?_
              obtain ⟨u62, hc61, h⟩ := bnd h
              refine v_callVv C [.int 6] (cX12_errs_ct l D cy ad 6 u51 u62 hc61) ml_X12_152 pM_0 ⟨Nat.le_of_ble_eq_true rfl, Nat.le_of_ble_eq_true rfl⟩ ⟨rfl, rfl⟩ rfl rfl (Nat.le_of_ble_eq_true rfl) dX12_text_249 ?_
              exact kX12_text_J252 C hr hlk v50 u62 h
          · exact kX12_text_J252 C hr hlk v50 u51 h
