def rX0_keep : Room := { frames := 0, cells := 0, slots := 0, locals := 0 }
def fX0_keep_J39 (a1 : Int32) (a2 : Int32) (u : Mem) : Option Mem := (if 9 ≤ (u.1 204 2) then (some u) else (if inB (u.1 204 2) 9 then (if inB ((si u 205 (u.1 204 2).toNatClampNeg a1).1 204 2) 9 then ((some (si (si u 205 (u.1 204 2).toNatClampNeg a1) 206 ((si u 205 (u.1 204 2).toNatClampNeg a1).1 204 2).toNatClampNeg a2)).bind fun u3 => (some (si u3 204 2 ((u3.1 204 2) + 1)))) else none) else none))
def fX0_keep (a1 : Int32) (a2 : Int32) (u : Mem) : Option Mem := (if (u.1 204 2) ≤ 0 then fX0_keep_J39 a1 a2 u else (if inB ((u.1 204 2) - 1) 9 then (if ((u.1 206 ((u.1 204 2) - 1).toNatClampNeg) + 1) = a1 then (if inB ((u.1 204 2) - 1) 9 then (some (si u 206 ((u.1 204 2) - 1).toNatClampNeg a2)) else none) else fX0_keep_J39 a1 a2 u) else none))
set_option maxHeartbeats 4000000 in
set_option maxRecDepth 100000 in
theorem kX0_keep_J39 {l : Launch} {D : va_G} {cy : Nat → ClassId} {ad : Nat → Nat} {p : Program} {e : Env} {s : State} {m : MethodId} {args : Array Value} {below : List Frame} {meth : Method} {c : Code} (C : Cx nX D cy ad 3 cX0_keep RX0 rX0_keep p s m args c) (hr : meth.sig.returnType = none) (hlk : meth.locks = false) {out : Mem}  (a1 : Int32) (a2 : Int32) (u : Mem)   (h : fX0_keep_J39 a1 a2 u = some out) : V shX nX D cy ad 3 p l e rX0_keep s m args below meth c (MQ below (qV shX nX D cy ad out) args s 0 0 (rA ad nX)) 39 [(0, .ref (ad 204)), (1, .int a1), (2, .int a2)] [] u := by
  unfold fX0_keep_J39 at h
  refine v_aload_n C 0 dX0_keep_39 rfl rfl ?_
  refine v_geti C pX_204 fd_X0_18 rfl dX0_keep_40 ?_
  refine v_aload_n C 0 dX0_keep_43 rfl rfl ?_
  refine v_getr C pX_204 fd_X0_9 rfl dX0_keep_44 ?_
  refine v_alen0 C pX_205 (v := 9) (by decide) dX0_keep_47 ?_
  refine v_icmp_ge C 81 dX0_keep_48 (by decide) h (fun h => ?_) (fun h => ?_)
  · cases h
    exact v_vret C hr hlk dX0_keep_81
  · refine v_aload_n C 0 dX0_keep_51 rfl rfl ?_
    refine v_getr C pX_204 fd_X0_9 rfl dX0_keep_52 ?_
    refine v_aload_n C 0 dX0_keep_55 rfl rfl ?_
    refine v_geti C pX_204 fd_X0_18 rfl dX0_keep_56 ?_
    refine v_iload_n C 1 dX0_keep_59 rfl rfl ?_
    refine v_iast C pX_205 dX0_keep_60 h (fun h => ?_)
    refine v_aload_n C 0 dX0_keep_61 rfl rfl ?_
    refine v_getr C pX_204 fd_X0_15 rfl dX0_keep_62 ?_
    refine v_aload_n C 0 dX0_keep_65 rfl rfl ?_
    refine v_geti C pX_204 fd_X0_18 rfl dX0_keep_66 ?_
    refine v_iload_n C 2 dX0_keep_69 rfl rfl ?_
    refine v_iast C pX_206 dX0_keep_70 h (fun h => ?_)
    refine v_mem (fun u3 hu3 => ?_)
    have h := nmd hu3 h
    refine v_aload_n C 0 dX0_keep_71 rfl rfl ?_
    refine v_dup C rfl dX0_keep_72 ?_
    refine v_geti C pX_204 fd_X0_18 rfl dX0_keep_73 ?_
    refine v_iconst C (v := 1) dX0_keep_76 (by decide) ?_
    refine v_iadd C dX0_keep_77 ?_
    refine v_puti C pX_204 fp_X0_18 rfl rfl rfl dX0_keep_78 ?_
    cases h
    exact v_vret C hr hlk dX0_keep_81
set_option maxHeartbeats 4000000 in
set_option maxRecDepth 100000 in
theorem cX0_keep_ct (l : Launch) (D : va_G) (cy : Nat → ClassId) (ad : Nat → Nat) (a1 : Int32) (a2 : Int32) (u : Mem)  (out : Mem) (h : fX0_keep a1 a2 u = some out) : Met l yX0_keep (.code yX0_keep cX0_keep 3 (none) :: gw) rX0_keep (va_Pc [.ref (ad 204), .int a1, .int a2] (wv shX nX D cy ad u)) (qV shX nX D cy ad out) 0 0 (rA ad nX) := by
  refine met_of (cc := cX0_keep) (nL := 3) (by decide) (Nat.le_of_ble_eq_true rfl) (fun p e s m below meth c C hr hlk => ?_)
  unfold fX0_keep at h
  show V shX nX D cy ad 3 p l e rX0_keep s m _ below meth c (MQ below (qV shX nX D cy ad out) _ s 0 0 (rA ad nX)) 0 [(0, .ref (ad 204)), (1, .int a1), (2, .int a2)] [] u
  refine v_aload_n C 0 dX0_keep_0 rfl rfl ?_
  refine v_geti C pX_204 fd_X0_18 rfl dX0_keep_1 ?_
  refine v_if_le C 39 dX0_keep_4 (by decide) h (fun h => ?_) (fun h => ?_)
  · exact kX0_keep_J39 C hr hlk a1 a2 u h
  · refine v_aload_n C 0 dX0_keep_7 rfl rfl ?_
    refine v_getr C pX_204 fd_X0_15 rfl dX0_keep_8 ?_
    refine v_aload_n C 0 dX0_keep_11 rfl rfl ?_
    refine v_geti C pX_204 fd_X0_18 rfl dX0_keep_12 ?_
    refine v_iconst C (v := 1) dX0_keep_15 (by decide) ?_
    refine v_isub C dX0_keep_16 ?_
    refine v_iald C pX_206 dX0_keep_17 h (fun h => ?_)
    refine v_iconst C (v := 1) dX0_keep_18 (by decide) ?_
    refine v_iadd C dX0_keep_19 ?_
    refine v_iload_n C 1 dX0_keep_20 rfl rfl ?_
    refine v_icmp_ne C 39 dX0_keep_21 (by decide) h (fun h => ?_) (fun h => ?_)
    · refine v_aload_n C 0 dX0_keep_24 rfl rfl ?_
      refine v_getr C pX_204 fd_X0_15 rfl dX0_keep_25 ?_
      refine v_aload_n C 0 dX0_keep_28 rfl rfl ?_
      refine v_geti C pX_204 fd_X0_18 rfl dX0_keep_29 ?_
      refine v_iconst C (v := 1) dX0_keep_32 (by decide) ?_
      refine v_isub C dX0_keep_33 ?_
      refine v_iload_n C 2 dX0_keep_34 rfl rfl ?_
      refine v_iast C pX_206 dX0_keep_35 h (fun h => ?_)
      refine v_goto C 81 dX0_keep_36 (by decide) ?_
      cases h
      exact v_vret C hr hlk dX0_keep_81
    · exact kX0_keep_J39 C hr hlk a1 a2 u h
def rJ9_floorDiv_f86c9 : Room := { frames := 0, cells := 0, slots := 0, locals := 0 }
def fJ9_floorDiv_f86c9 (a0 : Int64) (a2 : Int64) : Option Int64 := (if a2 = 0 then none else (if 0 ≤ (a0 ^^^ a2) then (some (a0 / a2)) else (if ((a0 / a2) * a2) = a0 then (some (a0 / a2)) else (some ((a0 / a2) - 1)))))
set_option maxHeartbeats 4000000 in
set_option maxRecDepth 100000 in
theorem cJ9_floorDiv_f86c9_ct (l : Launch) (D : va_G) (cy : Nat → ClassId) (ad : Nat → Nat) (a0 : Int64) (a2 : Int64) (u : Mem)  (out : Int64) (h : fJ9_floorDiv_f86c9 a0 a2 = some out) : Met l yJ9_floorDiv_f86c9 (.code yJ9_floorDiv_f86c9 cJ9_floorDiv_f86c9 6 (some .long) :: gw) rJ9_floorDiv_f86c9 (va_Pc [.long a0, .long a2] (wv shX nX D cy ad u)) (qL shX nX D cy ad out u) 0 0 (rA ad nX) := by
  refine met_ofJ (cc := cJ9_floorDiv_f86c9) (nL := 6) (by decide +kernel) (Nat.le_of_ble_eq_true rfl) (fun p e s m below meth c C hr hlk => ?_)
  unfold fJ9_floorDiv_f86c9 at h
  show V shX nX D cy ad 6 p l e rJ9_floorDiv_f86c9 s m _ below meth c (MQ below (qL shX nX D cy ad out u) _ s 0 0 (rA ad nX)) 0 [(0, .long a0), (2, .long a2)] [] u
  refine v_lload_n C 0 dJ9_floorDiv_f86c9_0 rfl rfl ?_
  refine v_lload_n C 1 dJ9_floorDiv_f86c9_1 rfl rfl ?_
  refine v_ldiv C dJ9_floorDiv_f86c9_2 h (fun h => ?_)
  refine v_lstore C [(4, .long (a0 / a2)), (0, .long a0), (2, .long a2)] dJ9_floorDiv_f86c9_3 (by decide) rfl ?_
  refine v_lload_n C 1 dJ9_floorDiv_f86c9_5 rfl rfl ?_
  refine v_lload_n C 2 dJ9_floorDiv_f86c9_6 rfl rfl ?_
  refine v_lxor C dJ9_floorDiv_f86c9_7 ?_
  refine v_lconst C (v := 0) dJ9_floorDiv_f86c9_8 (by decide) ?_
  refine v_lcmp_ge C 27 dJ9_floorDiv_f86c9_9 dJ9_floorDiv_f86c9_10 (by decide) h (fun h => ?_) (fun h => ?_)
  · refine v_lload C 0 dJ9_floorDiv_f86c9_27 rfl ?_
    cases h
    exact v_lret C hr hlk dJ9_floorDiv_f86c9_29
  · refine v_lload C 0 dJ9_floorDiv_f86c9_13 rfl ?_
    refine v_lload_n C 2 dJ9_floorDiv_f86c9_15 rfl rfl ?_
    refine v_lmul C dJ9_floorDiv_f86c9_16 ?_
    refine v_lload_n C 1 dJ9_floorDiv_f86c9_17 rfl rfl ?_
    refine v_lcmp_eq C 27 dJ9_floorDiv_f86c9_18 dJ9_floorDiv_f86c9_19 (by decide) h (fun h => ?_) (fun h => ?_)
    · refine v_lload C 0 dJ9_floorDiv_f86c9_27 rfl ?_
      cases h
      exact v_lret C hr hlk dJ9_floorDiv_f86c9_29
    · refine v_lload C 0 dJ9_floorDiv_f86c9_22 rfl ?_
      refine v_lconst C (v := 1) dJ9_floorDiv_f86c9_24 (by decide) ?_
      refine v_lsub C dJ9_floorDiv_f86c9_25 ?_
      cases h
      exact v_lret C hr hlk dJ9_floorDiv_f86c9_26
def rX0_narrow : Room := { frames := 1, cells := 0, slots := 0, locals := 25 }
def fX0_narrow (a1 : Int32) (a2 : Int32) (a3 : Int64) (u : Mem) : Option Mem := (if a2 ≤ 0 then (if 0 ≤ a2 then (if 0 < a3 then (some u) else (some (sl u 204 4 ((u.2 204 3) - 1)))) else ((fJ9_floorDiv_f86c9 (-a3) (-a2.toInt64)).bind fun r8 => ((some (sl u 204 3 (if ((a1.toInt64 + r8) + 1) < (u.2 204 3) then (u.2 204 3) else ((a1.toInt64 + r8) + 1)))).bind fun u9 => (some u9)))) else ((fJ9_floorDiv_f86c9 (a3 - 1) a2.toInt64).bind fun r11 => ((some (sl u 204 4 (if (a1.toInt64 + r11) < (u.2 204 4) then (a1.toInt64 + r11) else (u.2 204 4)))).bind fun u12 => (some u12))))
set_option maxHeartbeats 4000000 in
set_option maxRecDepth 100000 in
theorem cX0_narrow_ct (l : Launch) (D : va_G) (cy : Nat → ClassId) (ad : Nat → Nat) (a1 : Int32) (a2 : Int32) (a3 : Int64) (u : Mem)  (out : Mem) (h : fX0_narrow a1 a2 a3 u = some out) : Met l yX0_narrow (.code yX0_narrow cX0_narrow 5 (none) :: gw) rX0_narrow (va_Pc [.ref (ad 204), .int a1, .int a2, .long a3] (wv shX nX D cy ad u)) (qV shX nX D cy ad out) 0 0 (rA ad nX) := by
  refine met_of (cc := cX0_narrow) (nL := 5) (by decide) (Nat.le_of_ble_eq_true rfl) (fun p e s m below meth c C hr hlk => ?_)
  unfold fX0_narrow at h
  show V shX nX D cy ad 5 p l e rX0_narrow s m _ below meth c (MQ below (qV shX nX D cy ad out) _ s 0 0 (rA ad nX)) 0 [(0, .ref (ad 204)), (1, .int a1), (2, .int a2), (3, .long a3)] [] u
  refine v_iload_n C 2 dX0_narrow_0 rfl rfl ?_
  refine v_if_le C 29 dX0_narrow_1 (by decide) h (fun h => ?_) (fun h => ?_)
  · refine v_iload_n C 2 dX0_narrow_29 rfl rfl ?_
    refine v_if_ge C 60 dX0_narrow_30 (by decide) h (fun h => ?_) (fun h => ?_)
    · refine v_lload_n C 3 dX0_narrow_60 rfl rfl ?_
      refine v_lconst C (v := 0) dX0_narrow_61 (by decide) ?_
      refine v_lcmp_gt C 76 dX0_narrow_62 dX0_narrow_63 (by decide) h (fun h => ?_) (fun h => ?_)
      · cases h
        exact v_vret C hr hlk dX0_narrow_76
      · refine v_aload_n C 0 dX0_narrow_66 rfl rfl ?_
        refine v_aload_n C 0 dX0_narrow_67 rfl rfl ?_
        refine v_getl C pX_204 fd_X0_35 rfl dX0_narrow_68 ?_
        refine v_lconst C (v := 1) dX0_narrow_71 (by decide) ?_
        refine v_lsub C dX0_narrow_72 ?_
        refine v_putl C pX_204 fp_X0_41 rfl rfl rfl dX0_narrow_73 ?_
        cases h
        exact v_vret C hr hlk dX0_narrow_76
    · refine v_aload_n C 0 dX0_narrow_33 rfl rfl ?_
      refine v_aload_n C 0 dX0_narrow_34 rfl rfl ?_
      refine v_getl C pX_204 fd_X0_35 rfl dX0_narrow_35 ?_
      refine v_iload_n C 1 dX0_narrow_38 rfl rfl ?_
      refine v_i2l C dX0_narrow_39 ?_
      refine v_lload_n C 3 dX0_narrow_40 rfl rfl ?_
      refine v_lneg C dX0_narrow_41 ?_
      refine v_iload_n C 2 dX0_narrow_42 rfl rfl ?_
      refine v_i2l C dX0_narrow_43 ?_
      refine v_lneg C dX0_narrow_44 ?_
      obtain ⟨r8, hc7, h⟩ := bnd h
      refine v_callSl C [.long (-a3), .long (-a2.toInt64)] (cJ9_floorDiv_f86c9_ct l D cy ad (-a3) (-a2.toInt64) _ r8 hc7) ml_X0_61 ⟨Nat.le_of_ble_eq_true rfl, Nat.le_of_ble_eq_true rfl⟩ ⟨rfl, rfl⟩ rfl rfl (Nat.le_of_ble_eq_true rfl) dX0_narrow_45 ?_
      refine v_ladd C dX0_narrow_48 ?_
      refine v_lconst C (v := 1) dX0_narrow_49 (by decide) ?_
      refine v_ladd C dX0_narrow_50 ?_
      refine v_mmax_long C ma_X0_67 (Nat.le_of_ble_eq_true rfl) (Nat.le_of_ble_eq_true rfl) (Nat.le_of_ble_eq_true rfl) dX0_narrow_51 ?_
      refine v_putl C pX_204 fp_X0_35 rfl rfl rfl dX0_narrow_54 ?_
      refine v_mem (fun u9 hu9 => ?_)
      have h := nmd hu9 h
      refine v_goto C 76 dX0_narrow_57 (by decide) ?_
      cases h
      exact v_vret C hr hlk dX0_narrow_76
  · refine v_aload_n C 0 dX0_narrow_4 rfl rfl ?_
    refine v_aload_n C 0 dX0_narrow_5 rfl rfl ?_
    refine v_getl C pX_204 fd_X0_41 rfl dX0_narrow_6 ?_
    refine v_iload_n C 1 dX0_narrow_9 rfl rfl ?_
    refine v_i2l C dX0_narrow_10 ?_
    refine v_lload_n C 3 dX0_narrow_11 rfl rfl ?_
    refine v_lconst C (v := 1) dX0_narrow_12 (by decide) ?_
    refine v_lsub C dX0_narrow_13 ?_
    refine v_iload_n C 2 dX0_narrow_14 rfl rfl ?_
    refine v_i2l C dX0_narrow_15 ?_
    obtain ⟨r11, hc10, h⟩ := bnd h
    refine v_callSl C [.long (a3 - 1), .long a2.toInt64] (cJ9_floorDiv_f86c9_ct l D cy ad (a3 - 1) a2.toInt64 _ r11 hc10) ml_X0_61 ⟨Nat.le_of_ble_eq_true rfl, Nat.le_of_ble_eq_true rfl⟩ ⟨rfl, rfl⟩ rfl rfl (Nat.le_of_ble_eq_true rfl) dX0_narrow_16 ?_
    refine v_ladd C dX0_narrow_19 ?_
    refine v_mmin_long C ma_X0_65 (Nat.le_of_ble_eq_true rfl) (Nat.le_of_ble_eq_true rfl) (Nat.le_of_ble_eq_true rfl) dX0_narrow_20 ?_
    refine v_putl C pX_204 fp_X0_41 rfl rfl rfl dX0_narrow_23 ?_
    refine v_mem (fun u12 hu12 => ?_)
    have h := nmd hu12 h
    refine v_goto C 76 dX0_narrow_26 (by decide) ?_
    cases h
    exact v_vret C hr hlk dX0_narrow_76
def rX0_narrowToNeed : Room := { frames := 2, cells := 0, slots := 0, locals := 49 }
def fX0_narrowToNeed (i1 : Nat) (a2 : Int32) (a3 : Int32) (a4 : Int64) (u : Mem) : Option Mem := ((fX3_ofPoint i1 0 a2 0 u).bind fun r2 => ((fX3_ofPoint i1 0 a3 0 u).bind fun r4 => ((fX3_ofPoint i1 0 a2 1 u).bind fun r6 => ((fX3_ofPoint i1 0 a2 2 u).bind fun r8 => ((fX3_ofPoint i1 0 a3 1 u).bind fun r10 => ((fX0_narrow r2 (r10 - r6) (((a4 + 1) - r6.toInt64) * ((if (r4 - r2) < 1 then 1 else (r4 - r2)).toInt64)) u).bind fun u12 => ((fX3_ofPoint i1 0 a3 2 u12).bind fun r14 => ((fX0_narrow r2 (r8 - r14) ((((r8 + 1).toInt64) - a4) * ((if (r4 - r2) < 1 then 1 else (r4 - r2)).toInt64)) u12).bind fun u16 => (some u16)))))))))
set_option maxHeartbeats 4000000 in
set_option maxRecDepth 100000 in
theorem cX0_narrowToNeed_ct (l : Launch) (D : va_G) (cy : Nat → ClassId) (ad : Nat → Nat) (i1 : Nat) (a2 : Int32) (a3 : Int32) (a4 : Int64) (u : Mem) (hi1 : i1 < 32) (out : Mem) (h : fX0_narrowToNeed i1 a2 a3 a4 u = some out) : Met l yX0_narrowToNeed (.code yX0_narrowToNeed cX0_narrowToNeed 11 (none) :: gw) rX0_narrowToNeed (va_Pc [.ref (ad 204), .ref (ad (5 * i1)), .int a2, .int a3, .long a4] (wv shX nX D cy ad u)) (qV shX nX D cy ad out) 0 0 (rA ad nX) := by
  refine met_of (cc := cX0_narrowToNeed) (nL := 11) (by decide) (Nat.le_of_ble_eq_true rfl) (fun p e s m below meth c C hr hlk => ?_)
  unfold fX0_narrowToNeed at h
  show V shX nX D cy ad 11 p l e rX0_narrowToNeed s m _ below meth c (MQ below (qV shX nX D cy ad out) _ s 0 0 (rA ad nX)) 0 [(0, .ref (ad 204)), (1, .ref (ad (5 * i1))), (2, .int a2), (3, .int a3), (4, .long a4)] [] u
  refine v_aload_n C 1 dX0_narrowToNeed_0 rfl rfl ?_
  refine v_iconst C (v := 0) dX0_narrowToNeed_1 (by decide) ?_
  refine v_iload_n C 2 dX0_narrowToNeed_2 rfl rfl ?_
  refine v_iconst C (v := 0) dX0_narrowToNeed_3 (by decide) ?_
  obtain ⟨r2, hc1, h⟩ := bnd h
  refine v_callVi C [.int 0, .int a2, .int 0] (cX3_ofPoint_ct l D cy ad i1 0 a2 0 u hi1 r2 hc1) ml_X0_31 (pL_0 i1 hi1) ⟨Nat.le_of_ble_eq_true rfl, Nat.le_of_ble_eq_true rfl⟩ ⟨rfl, rfl⟩ rfl rfl (Nat.le_of_ble_eq_true rfl) dX0_narrowToNeed_4 ?_
  refine v_istore C [(6, .int r2), (0, .ref (ad 204)), (1, .ref (ad (5 * i1))), (2, .int a2), (3, .int a3), (4, .long a4)] dX0_narrowToNeed_7 (by decide) rfl ?_
  refine v_aload_n C 2 dX0_narrowToNeed_9 rfl rfl ?_
  refine v_iconst C (v := 0) dX0_narrowToNeed_10 (by decide) ?_
  refine v_iload_n C 4 dX0_narrowToNeed_11 rfl rfl ?_
  refine v_iconst C (v := 0) dX0_narrowToNeed_12 (by decide) ?_
  obtain ⟨r4, hc3, h⟩ := bnd h
  refine v_callVi C [.int 0, .int a3, .int 0] (cX3_ofPoint_ct l D cy ad i1 0 a3 0 u hi1 r4 hc3) ml_X0_31 (pL_0 i1 hi1) ⟨Nat.le_of_ble_eq_true rfl, Nat.le_of_ble_eq_true rfl⟩ ⟨rfl, rfl⟩ rfl rfl (Nat.le_of_ble_eq_true rfl) dX0_narrowToNeed_13 ?_
  refine v_iload C 0 dX0_narrowToNeed_16 rfl ?_
  refine v_isub C dX0_narrowToNeed_18 ?_
  refine v_iconst C (v := 1) dX0_narrowToNeed_19 (by decide) ?_
  refine v_mmax C ma_X0_44 (Nat.le_of_ble_eq_true rfl) (Nat.le_of_ble_eq_true rfl) (Nat.le_of_ble_eq_true rfl) dX0_narrowToNeed_20 ?_
  refine v_i2l C dX0_narrowToNeed_23 ?_
  refine v_lstore C [(7, .long ((if (r4 - r2) < 1 then 1 else (r4 - r2)).toInt64)), (6, .int r2), (0, .ref (ad 204)), (1, .ref (ad (5 * i1))), (2, .int a2), (3, .int a3), (4, .long a4)] dX0_narrowToNeed_24 (by decide) rfl ?_
  refine v_aload_n C 3 dX0_narrowToNeed_26 rfl rfl ?_
  refine v_iconst C (v := 0) dX0_narrowToNeed_27 (by decide) ?_
  refine v_iload_n C 4 dX0_narrowToNeed_28 rfl rfl ?_
  refine v_iconst C (v := 1) dX0_narrowToNeed_29 (by decide) ?_
  obtain ⟨r6, hc5, h⟩ := bnd h
  refine v_callVi C [.int 0, .int a2, .int 1] (cX3_ofPoint_ct l D cy ad i1 0 a2 1 u hi1 r6 hc5) ml_X0_31 (pL_0 i1 hi1) ⟨Nat.le_of_ble_eq_true rfl, Nat.le_of_ble_eq_true rfl⟩ ⟨rfl, rfl⟩ rfl rfl (Nat.le_of_ble_eq_true rfl) dX0_narrowToNeed_30 ?_
  refine v_istore C [(9, .int r6), (7, .long ((if (r4 - r2) < 1 then 1 else (r4 - r2)).toInt64)), (6, .int r2), (0, .ref (ad 204)), (1, .ref (ad (5 * i1))), (2, .int a2), (3, .int a3), (4, .long a4)] dX0_narrowToNeed_33 (by decide) rfl ?_
  refine v_aload_n C 4 dX0_narrowToNeed_35 rfl rfl ?_
  refine v_iconst C (v := 0) dX0_narrowToNeed_36 (by decide) ?_
  refine v_iload_n C 5 dX0_narrowToNeed_37 rfl rfl ?_
  refine v_iconst C (v := 2) dX0_narrowToNeed_38 (by decide) ?_
  obtain ⟨r8, hc7, h⟩ := bnd h
  refine v_callVi C [.int 0, .int a2, .int 2] (cX3_ofPoint_ct l D cy ad i1 0 a2 2 u hi1 r8 hc7) ml_X0_31 (pL_0 i1 hi1) ⟨Nat.le_of_ble_eq_true rfl, Nat.le_of_ble_eq_true rfl⟩ ⟨rfl, rfl⟩ rfl rfl (Nat.le_of_ble_eq_true rfl) dX0_narrowToNeed_39 ?_
  refine v_istore C [(10, .int r8), (9, .int r6), (7, .long ((if (r4 - r2) < 1 then 1 else (r4 - r2)).toInt64)), (6, .int r2), (0, .ref (ad 204)), (1, .ref (ad (5 * i1))), (2, .int a2), (3, .int a3), (4, .long a4)] dX0_narrowToNeed_42 (by decide) rfl ?_
  refine v_aload_n C 4 dX0_narrowToNeed_44 rfl rfl ?_
  refine v_iload C 3 dX0_narrowToNeed_45 rfl ?_
  refine v_aload_n C 5 dX0_narrowToNeed_47 rfl rfl ?_
  refine v_iconst C (v := 0) dX0_narrowToNeed_48 (by decide) ?_
  refine v_iload_n C 7 dX0_narrowToNeed_49 rfl rfl ?_
  refine v_iconst C (v := 1) dX0_narrowToNeed_50 (by decide) ?_
  obtain ⟨r10, hc9, h⟩ := bnd h
  refine v_callVi C [.int 0, .int a3, .int 1] (cX3_ofPoint_ct l D cy ad i1 0 a3 1 u hi1 r10 hc9) ml_X0_31 (pL_0 i1 hi1) ⟨Nat.le_of_ble_eq_true rfl, Nat.le_of_ble_eq_true rfl⟩ ⟨rfl, rfl⟩ rfl rfl (Nat.le_of_ble_eq_true rfl) dX0_narrowToNeed_51 ?_
  refine v_iload C 1 dX0_narrowToNeed_54 rfl ?_
  refine v_isub C dX0_narrowToNeed_56 ?_
  refine v_lload C 8 dX0_narrowToNeed_57 rfl ?_
  refine v_lconst C (v := 1) dX0_narrowToNeed_59 (by decide) ?_
  refine v_ladd C dX0_narrowToNeed_60 ?_
  refine v_iload C 1 dX0_narrowToNeed_61 rfl ?_
  refine v_i2l C dX0_narrowToNeed_63 ?_
  refine v_lsub C dX0_narrowToNeed_64 ?_
  refine v_lload C 2 dX0_narrowToNeed_65 rfl ?_
  refine v_lmul C dX0_narrowToNeed_67 ?_
  obtain ⟨u12, hc11, h⟩ := bnd h
  refine v_callVv C [.int r2, .int (r10 - r6), .long (((a4 + 1) - r6.toInt64) * ((if (r4 - r2) < 1 then 1 else (r4 - r2)).toInt64))] (cX0_narrow_ct l D cy ad r2 (r10 - r6) (((a4 + 1) - r6.toInt64) * ((if (r4 - r2) < 1 then 1 else (r4 - r2)).toInt64)) u u12 hc11) ml_X0_57 pX_204 ⟨Nat.le_of_ble_eq_true rfl, Nat.le_of_ble_eq_true rfl⟩ ⟨rfl, rfl⟩ rfl rfl (Nat.le_of_ble_eq_true rfl) dX0_narrowToNeed_68 ?_
  refine v_aload_n C 4 dX0_narrowToNeed_71 rfl rfl ?_
  refine v_iload C 3 dX0_narrowToNeed_72 rfl ?_
  refine v_iload C 0 dX0_narrowToNeed_74 rfl ?_
  refine v_aload_n C 5 dX0_narrowToNeed_76 rfl rfl ?_
  refine v_iconst C (v := 0) dX0_narrowToNeed_77 (by decide) ?_
  refine v_iload_n C 7 dX0_narrowToNeed_78 rfl rfl ?_
  refine v_iconst C (v := 2) dX0_narrowToNeed_79 (by decide) ?_
  obtain ⟨r14, hc13, h⟩ := bnd h
  refine v_callVi C [.int 0, .int a3, .int 2] (cX3_ofPoint_ct l D cy ad i1 0 a3 2 u12 hi1 r14 hc13) ml_X0_31 (pL_0 i1 hi1) ⟨Nat.le_of_ble_eq_true rfl, Nat.le_of_ble_eq_true rfl⟩ ⟨rfl, rfl⟩ rfl rfl (Nat.le_of_ble_eq_true rfl) dX0_narrowToNeed_80 ?_
  refine v_isub C dX0_narrowToNeed_83 ?_
  refine v_iload C 0 dX0_narrowToNeed_84 rfl ?_
  refine v_iconst C (v := 1) dX0_narrowToNeed_86 (by decide) ?_
  refine v_iadd C dX0_narrowToNeed_87 ?_
  refine v_i2l C dX0_narrowToNeed_88 ?_
  refine v_lload C 8 dX0_narrowToNeed_89 rfl ?_
  refine v_lsub C dX0_narrowToNeed_91 ?_
  refine v_lload C 2 dX0_narrowToNeed_92 rfl ?_
  refine v_lmul C dX0_narrowToNeed_94 ?_
  obtain ⟨u16, hc15, h⟩ := bnd h
  refine v_callVv C [.int r2, .int (r8 - r14), .long ((((r8 + 1).toInt64) - a4) * ((if (r4 - r2) < 1 then 1 else (r4 - r2)).toInt64))] (cX0_narrow_ct l D cy ad r2 (r8 - r14) ((((r8 + 1).toInt64) - a4) * ((if (r4 - r2) < 1 then 1 else (r4 - r2)).toInt64)) u12 u16 hc15) ml_X0_57 pX_204 ⟨Nat.le_of_ble_eq_true rfl, Nat.le_of_ble_eq_true rfl⟩ ⟨rfl, rfl⟩ rfl rfl (Nat.le_of_ble_eq_true rfl) dX0_narrowToNeed_95 ?_
  cases h
  exact v_vret C hr hlk dX0_narrowToNeed_98
def rX0_find : Room := { frames := 3, cells := 0, slots := 0, locals := 79 }
def fX0_find_J89 (Rc31 : Int32 → Mem → Option Mem) (a1 : Nat) (a2 : Int32) (a3 : Int32) (a4 : Int32) (s0 : Int64) (u : Mem) : Option Mem := ((fX0_narrowToNeed a1 (if (a4 - 1) < 0 then 0 else (a4 - 1)) (if (a3 - 1) < a4 then (a3 - 1) else a4) a2.toInt64 (sl u 204 4 s0)).bind fun u11 => (if (u11.2 204 4) < (u11.2 204 3) then Rc31 (a4 + 1) u11 else ((fX0_keep ((u11.2 204 3).toInt32) ((u11.2 204 4).toInt32) u11).bind fun u14 => Rc31 (a4 + 1) u14)))
def fX0_find_J62 (Rc31 : Int32 → Mem → Option Mem) (a1 : Nat) (a2 : Int32) (a3 : Int32) (a4 : Int32) (s0 : Int64) (u : Mem) : Option Mem := (if a4 = a3 then fX0_find_J89 Rc31 a1 a2 a3 a4 999 (sl u 204 3 s0) else ((fX3_ofPoint a1 0 a4 0 (sl u 204 3 s0)).bind fun r16 => fX0_find_J89 Rc31 a1 a2 a3 a4 ((r16 - 1).toInt64) (sl u 204 3 s0)))
def fX0_find_L31 (a1 : Nat) (a2 : Int32) (a3 : Int32) : Nat → Int32 → Mem → Option Mem
  | 0, _, _ => none
  | t + 1, a4, u => (if a3 < a4 then (some u) else (if a3 ≤ 0 then (some u) else (if a4 = 0 then fX0_find_J62 (fX0_find_L31 a1 a2 a3 t) a1 a2 a3 a4 0 u else ((fX3_ofPoint a1 0 (a4 - 1) 0 u).bind fun r18 => fX0_find_J62 (fX0_find_L31 a1 a2 a3 t) a1 a2 a3 a4 r18.toInt64 u))))
def fX0_find_J28 (a1 : Nat) (a2 : Int32) (a3 : Int32) (u : Mem) : Option Mem := fX0_find_L31 a1 a2 a3 fu0 0 u
def fX0_find (i1 : Nat) (a2 : Int32) (u : Mem) : Option Mem := (if ((si u 204 2 0).1 (5 * i1 + 3) 0) = 0 then (if a2 = 0 then ((fX0_keep 0 999 (si u 204 2 0)).bind fun u5 => fX0_find_J28 i1 a2 ((si u 204 2 0).1 (5 * i1 + 3) 0) u5) else fX0_find_J28 i1 a2 ((si u 204 2 0).1 (5 * i1 + 3) 0) (si u 204 2 0)) else fX0_find_J28 i1 a2 ((si u 204 2 0).1 (5 * i1 + 3) 0) (si u 204 2 0))
set_option maxHeartbeats 4000000 in
set_option maxRecDepth 100000 in
theorem kX0_find_J89 {l : Launch} {D : va_G} {cy : Nat → ClassId} {ad : Nat → Nat} {p : Program} {e : Env} {s : State} {m : MethodId} {args : Array Value} {below : List Frame} {meth : Method} {c : Code} (C : Cx nX D cy ad 5 cX0_find RX0 rX0_find p s m args c) (hr : meth.sig.returnType = none) (hlk : meth.locks = false) {out : Mem} (Rc31 : Int32 → Mem → Option Mem)  (a1 : Nat) (a2 : Int32) (a3 : Int32) (a4 : Int32) (s0 : Int64) (u : Mem) (ha1 : a1 < 32) (hRc31 : ∀ (a4 : Int32) (w : Mem), Rc31 a4 w = some out → V shX nX D cy ad 5 p l e rX0_find s m args below meth c (MQ below (qV shX nX D cy ad out) args s 0 0 (rA ad nX)) 31 [(0, .ref (ad 204)), (1, .ref (ad (5 * a1))), (2, .int a2), (3, .int a3), (4, .int a4)] [] w) (h : fX0_find_J89 Rc31 a1 a2 a3 a4 s0 u = some out) : V shX nX D cy ad 5 p l e rX0_find s m args below meth c (MQ below (qV shX nX D cy ad out) args s 0 0 (rA ad nX)) 89 [(0, .ref (ad 204)), (1, .ref (ad (5 * a1))), (2, .int a2), (3, .int a3), (4, .int a4)] [.long s0, .ref (ad 204)] u := by
  unfold fX0_find_J89 at h
  refine v_putl C pX_204 fp_X0_41 rfl rfl rfl dX0_find_89 ?_
  refine v_aload_n C 0 dX0_find_92 rfl rfl ?_
  refine v_aload_n C 1 dX0_find_93 rfl rfl ?_
  refine v_iload C 4 dX0_find_94 rfl ?_
  refine v_iconst C (v := 1) dX0_find_96 (by decide) ?_
  refine v_isub C dX0_find_97 ?_
  refine v_iconst C (v := 0) dX0_find_98 (by decide) ?_
  refine v_mmax C ma_X0_44 (Nat.le_of_ble_eq_true rfl) (Nat.le_of_ble_eq_true rfl) (Nat.le_of_ble_eq_true rfl) dX0_find_99 ?_
  refine v_iload C 4 dX0_find_102 rfl ?_
  refine v_iload_n C 3 dX0_find_104 rfl rfl ?_
  refine v_iconst C (v := 1) dX0_find_105 (by decide) ?_
  refine v_isub C dX0_find_106 ?_
  refine v_mmin C ma_X0_50 (Nat.le_of_ble_eq_true rfl) (Nat.le_of_ble_eq_true rfl) (Nat.le_of_ble_eq_true rfl) dX0_find_107 ?_
  refine v_iload_n C 2 dX0_find_110 rfl rfl ?_
  refine v_i2l C dX0_find_111 ?_
  obtain ⟨u11, hc10, h⟩ := bnd h
  refine v_callVv C [.ref (ad (5 * a1)), .int (if (a4 - 1) < 0 then 0 else (a4 - 1)), .int (if (a3 - 1) < a4 then (a3 - 1) else a4), .long a2.toInt64] (cX0_narrowToNeed_ct l D cy ad a1 (if (a4 - 1) < 0 then 0 else (a4 - 1)) (if (a3 - 1) < a4 then (a3 - 1) else a4) a2.toInt64 (sl u 204 4 s0) ha1 u11 hc10) ml_X0_53 pX_204 ⟨Nat.le_of_ble_eq_true rfl, Nat.le_of_ble_eq_true rfl⟩ ⟨rfl, rfl⟩ rfl rfl (Nat.le_of_ble_eq_true rfl) dX0_find_112 ?_
  refine v_aload_n C 0 dX0_find_115 rfl rfl ?_
  refine v_getl C pX_204 fd_X0_35 rfl dX0_find_116 ?_
  refine v_aload_n C 0 dX0_find_119 rfl rfl ?_
  refine v_getl C pX_204 fd_X0_41 rfl dX0_find_120 ?_
  refine v_lcmp_gt C 141 dX0_find_123 dX0_find_124 (by decide) h (fun h => ?_) (fun h => ?_)
  · refine v_iinc C 4 (v := a4 + 1) [(4, .int (a4 + 1)), (0, .ref (ad 204)), (1, .ref (ad (5 * a1))), (2, .int a2), (3, .int a3)] dX0_find_141 rfl rfl (by decide) rfl ?_
    refine v_goto C 31 dX0_find_144 (by decide) ?_
    refine v_sub [1, 2, 3, 4, 0] rfl ?_
    exact hRc31 (a4 + 1) u11 h
  · refine v_aload_n C 0 dX0_find_127 rfl rfl ?_
    refine v_aload_n C 0 dX0_find_128 rfl rfl ?_
    refine v_getl C pX_204 fd_X0_35 rfl dX0_find_129 ?_
    refine v_l2i C dX0_find_132 ?_
    refine v_aload_n C 0 dX0_find_133 rfl rfl ?_
    refine v_getl C pX_204 fd_X0_41 rfl dX0_find_134 ?_
    refine v_l2i C dX0_find_137 ?_
    obtain ⟨u14, hc13, h⟩ := bnd h
    refine v_callVv C [.int ((u11.2 204 3).toInt32), .int ((u11.2 204 4).toInt32)] (cX0_keep_ct l D cy ad ((u11.2 204 3).toInt32) ((u11.2 204 4).toInt32) u11 u14 hc13) ml_X0_27 pX_204 ⟨Nat.le_of_ble_eq_true rfl, Nat.le_of_ble_eq_true rfl⟩ ⟨rfl, rfl⟩ rfl rfl (Nat.le_of_ble_eq_true rfl) dX0_find_138 ?_
    refine v_iinc C 4 (v := a4 + 1) [(4, .int (a4 + 1)), (0, .ref (ad 204)), (1, .ref (ad (5 * a1))), (2, .int a2), (3, .int a3)] dX0_find_141 rfl rfl (by decide) rfl ?_
    refine v_goto C 31 dX0_find_144 (by decide) ?_
    refine v_sub [1, 2, 3, 4, 0] rfl ?_
    exact hRc31 (a4 + 1) u14 h
set_option maxHeartbeats 4000000 in
set_option maxRecDepth 100000 in
theorem kX0_find_J62 {l : Launch} {D : va_G} {cy : Nat → ClassId} {ad : Nat → Nat} {p : Program} {e : Env} {s : State} {m : MethodId} {args : Array Value} {below : List Frame} {meth : Method} {c : Code} (C : Cx nX D cy ad 5 cX0_find RX0 rX0_find p s m args c) (hr : meth.sig.returnType = none) (hlk : meth.locks = false) {out : Mem} (Rc31 : Int32 → Mem → Option Mem)  (a1 : Nat) (a2 : Int32) (a3 : Int32) (a4 : Int32) (s0 : Int64) (u : Mem) (ha1 : a1 < 32) (hRc31 : ∀ (a4 : Int32) (w : Mem), Rc31 a4 w = some out → V shX nX D cy ad 5 p l e rX0_find s m args below meth c (MQ below (qV shX nX D cy ad out) args s 0 0 (rA ad nX)) 31 [(0, .ref (ad 204)), (1, .ref (ad (5 * a1))), (2, .int a2), (3, .int a3), (4, .int a4)] [] w) (h : fX0_find_J62 Rc31 a1 a2 a3 a4 s0 u = some out) : V shX nX D cy ad 5 p l e rX0_find s m args below meth c (MQ below (qV shX nX D cy ad out) args s 0 0 (rA ad nX)) 62 [(0, .ref (ad 204)), (1, .ref (ad (5 * a1))), (2, .int a2), (3, .int a3), (4, .int a4)] [.long s0, .ref (ad 204)] u := by
  unfold fX0_find_J62 at h
  refine v_putl C pX_204 fp_X0_35 rfl rfl rfl dX0_find_62 ?_
  refine v_aload_n C 0 dX0_find_65 rfl rfl ?_
  refine v_iload C 4 dX0_find_66 rfl ?_
  refine v_iload_n C 3 dX0_find_68 rfl rfl ?_
  refine v_icmp_ne C 78 dX0_find_69 (by decide) h (fun h => ?_) (fun h => ?_)
  · refine v_ldc2 C kc_X0_39 dX0_find_72 ?_
    refine v_goto C 89 dX0_find_75 (by decide) ?_
    exact kX0_find_J89 C hr hlk Rc31 a1 a2 a3 a4 999 (sl u 204 3 s0) ha1 hRc31 h
  · refine v_aload_n C 1 dX0_find_78 rfl rfl ?_
    refine v_iconst C (v := 0) dX0_find_79 (by decide) ?_
    refine v_iload C 4 dX0_find_80 rfl ?_
    refine v_iconst C (v := 0) dX0_find_82 (by decide) ?_
    obtain ⟨r16, hc15, h⟩ := bnd h
    refine v_callVi C [.int 0, .int a4, .int 0] (cX3_ofPoint_ct l D cy ad a1 0 a4 0 (sl u 204 3 s0) ha1 r16 hc15) ml_X0_31 (pL_0 a1 ha1) ⟨Nat.le_of_ble_eq_true rfl, Nat.le_of_ble_eq_true rfl⟩ ⟨rfl, rfl⟩ rfl rfl (Nat.le_of_ble_eq_true rfl) dX0_find_83 ?_
    refine v_iconst C (v := 1) dX0_find_86 (by decide) ?_
    refine v_isub C dX0_find_87 ?_
    refine v_i2l C dX0_find_88 ?_
    exact kX0_find_J89 C hr hlk Rc31 a1 a2 a3 a4 ((r16 - 1).toInt64) (sl u 204 3 s0) ha1 hRc31 h
set_option maxHeartbeats 4000000 in
set_option maxRecDepth 100000 in
theorem kX0_find_L31 {l : Launch} {D : va_G} {cy : Nat → ClassId} {ad : Nat → Nat} {p : Program} {e : Env} {s : State} {m : MethodId} {args : Array Value} {below : List Frame} {meth : Method} {c : Code} (C : Cx nX D cy ad 5 cX0_find RX0 rX0_find p s m args c) (hr : meth.sig.returnType = none) (hlk : meth.locks = false) (a1 : Nat) (a2 : Int32) (a3 : Int32) (ha1 : a1 < 32) {out : Mem}  : ∀ (t : Nat) (a4 : Int32) (u : Mem), fX0_find_L31 a1 a2 a3 t a4 u = some out → V shX nX D cy ad 5 p l e rX0_find s m args below meth c (MQ below (qV shX nX D cy ad out) args s 0 0 (rA ad nX)) 31 [(0, .ref (ad 204)), (1, .ref (ad (5 * a1))), (2, .int a2), (3, .int a3), (4, .int a4)] [] u := by
  intro t
  induction t with
  | zero => intro a4 u h; rw [fX0_find_L31] at h; cases h
  | succ t ih =>
    intro a4 u h
    rw [fX0_find_L31] at h
    refine v_iload C 4 dX0_find_31 rfl ?_
    refine v_iload_n C 3 dX0_find_33 rfl rfl ?_
    refine v_icmp_gt C 147 dX0_find_34 (by decide) h (fun h => ?_) (fun h => ?_)
    · cases h
      exact v_vret C hr hlk dX0_find_147
    · refine v_iload_n C 3 dX0_find_37 rfl rfl ?_
      refine v_if_le C 147 dX0_find_38 (by decide) h (fun h => ?_) (fun h => ?_)
      · cases h
        exact v_vret C hr hlk dX0_find_147
      · refine v_aload_n C 0 dX0_find_41 rfl rfl ?_
        refine v_iload C 4 dX0_find_42 rfl ?_
        refine v_if_ne C 51 dX0_find_44 (by decide) h (fun h => ?_) (fun h => ?_)
        · refine v_lconst C (v := 0) dX0_find_47 (by decide) ?_
          refine v_goto C 62 dX0_find_48 (by decide) ?_
          exact kX0_find_J62 C hr hlk (fX0_find_L31 a1 a2 a3 t) a1 a2 a3 a4 0 u ha1 ih h
        · refine v_aload_n C 1 dX0_find_51 rfl rfl ?_
          refine v_iconst C (v := 0) dX0_find_52 (by decide) ?_
          refine v_iload C 4 dX0_find_53 rfl ?_
          refine v_iconst C (v := 1) dX0_find_55 (by decide) ?_
          refine v_isub C dX0_find_56 ?_
          refine v_iconst C (v := 0) dX0_find_57 (by decide) ?_
          obtain ⟨r18, hc17, h⟩ := bnd h
          refine v_callVi C [.int 0, .int (a4 - 1), .int 0] (cX3_ofPoint_ct l D cy ad a1 0 (a4 - 1) 0 u ha1 r18 hc17) ml_X0_31 (pL_0 a1 ha1) ⟨Nat.le_of_ble_eq_true rfl, Nat.le_of_ble_eq_true rfl⟩ ⟨rfl, rfl⟩ rfl rfl (Nat.le_of_ble_eq_true rfl) dX0_find_58 ?_
          refine v_i2l C dX0_find_61 ?_
          exact kX0_find_J62 C hr hlk (fX0_find_L31 a1 a2 a3 t) a1 a2 a3 a4 r18.toInt64 u ha1 ih h
set_option maxHeartbeats 4000000 in
set_option maxRecDepth 100000 in
theorem kX0_find_J28 {l : Launch} {D : va_G} {cy : Nat → ClassId} {ad : Nat → Nat} {p : Program} {e : Env} {s : State} {m : MethodId} {args : Array Value} {below : List Frame} {meth : Method} {c : Code} (C : Cx nX D cy ad 5 cX0_find RX0 rX0_find p s m args c) (hr : meth.sig.returnType = none) (hlk : meth.locks = false) {out : Mem}  (a1 : Nat) (a2 : Int32) (a3 : Int32) (u : Mem) (ha1 : a1 < 32)  (h : fX0_find_J28 a1 a2 a3 u = some out) : V shX nX D cy ad 5 p l e rX0_find s m args below meth c (MQ below (qV shX nX D cy ad out) args s 0 0 (rA ad nX)) 28 [(0, .ref (ad 204)), (1, .ref (ad (5 * a1))), (2, .int a2), (3, .int a3)] [] u := by
  unfold fX0_find_J28 at h
  refine v_iconst C (v := 0) dX0_find_28 (by decide) ?_
  refine v_istore C [(4, .int 0), (0, .ref (ad 204)), (1, .ref (ad (5 * a1))), (2, .int a2), (3, .int a3)] dX0_find_29 (by decide) rfl ?_
  refine v_sub [1, 2, 3, 4, 0] rfl ?_
  refine kX0_find_L31 C hr hlk a1 a2 a3 ha1   fu0 0 u h
set_option maxHeartbeats 4000000 in
set_option maxRecDepth 100000 in
theorem cX0_find_ct (l : Launch) (D : va_G) (cy : Nat → ClassId) (ad : Nat → Nat) (i1 : Nat) (a2 : Int32) (u : Mem) (hi1 : i1 < 32) (out : Mem) (h : fX0_find i1 a2 u = some out) : Met l yX0_find (.code yX0_find cX0_find 5 (none) :: gw) rX0_find (va_Pc [.ref (ad 204), .ref (ad (5 * i1)), .int a2] (wv shX nX D cy ad u)) (qV shX nX D cy ad out) 0 0 (rA ad nX) := by
  refine met_of (cc := cX0_find) (nL := 5) (by decide) (Nat.le_of_ble_eq_true rfl) (fun p e s m below meth c C hr hlk => ?_)
  unfold fX0_find at h
  show V shX nX D cy ad 5 p l e rX0_find s m _ below meth c (MQ below (qV shX nX D cy ad out) _ s 0 0 (rA ad nX)) 0 [(0, .ref (ad 204)), (1, .ref (ad (5 * i1))), (2, .int a2)] [] u
  refine v_aload_n C 0 dX0_find_0 rfl rfl ?_
  refine v_iconst C (v := 0) dX0_find_1 (by decide) ?_
  refine v_puti C pX_204 fp_X0_18 rfl rfl rfl dX0_find_2 ?_
  refine v_aload_n C 1 dX0_find_5 rfl rfl ?_
  refine v_getr C (pL_0 i1 hi1) fd_X0_22 rfl dX0_find_6 ?_
  refine v_iconst C (v := 0) dX0_find_9 (by decide) ?_
  refine v_ialdN C (pL_3 i1 hi1) (j := 0) (by decide) (by decide) dX0_find_10 ?_
  refine v_istore_n C [(3, .int ((si u 204 2 0).1 (5 * i1 + 3) 0)), (0, .ref (ad 204)), (1, .ref (ad (5 * i1))), (2, .int a2)] dX0_find_11 rfl (by decide) rfl ?_
  refine v_iload_n C 0 dX0_find_12 rfl rfl ?_
  refine v_if_ne C 28 dX0_find_13 (by decide) h (fun h => ?_) (fun h => ?_)
  · refine v_iload_n C 3 dX0_find_16 rfl rfl ?_
    refine v_if_ne C 28 dX0_find_17 (by decide) h (fun h => ?_) (fun h => ?_)
    · refine v_aload_n C 1 dX0_find_20 rfl rfl ?_
      refine v_iconst C (v := 0) dX0_find_21 (by decide) ?_
      refine v_sipush C (v := 999) dX0_find_22 (by decide) ?_
      obtain ⟨u5, hc4, h⟩ := bnd h
      refine v_callVv C [.int 0, .int 999] (cX0_keep_ct l D cy ad 0 999 (si u 204 2 0) u5 hc4) ml_X0_27 pX_204 ⟨Nat.le_of_ble_eq_true rfl, Nat.le_of_ble_eq_true rfl⟩ ⟨rfl, rfl⟩ rfl rfl (Nat.le_of_ble_eq_true rfl) dX0_find_25 ?_
      refine v_sub [1, 2, 3, 0] rfl ?_
      exact kX0_find_J28 C hr hlk i1 a2 ((si u 204 2 0).1 (5 * i1 + 3) 0) u5 hi1 h
    · refine v_sub [1, 2, 3, 0] rfl ?_
      exact kX0_find_J28 C hr hlk i1 a2 ((si u 204 2 0).1 (5 * i1 + 3) 0) (si u 204 2 0) hi1 h
  · refine v_sub [1, 2, 3, 0] rfl ?_
    exact kX0_find_J28 C hr hlk i1 a2 ((si u 204 2 0).1 (5 * i1 + 3) 0) (si u 204 2 0) hi1 h
def rX2_settle : Room := { frames := 4, cells := 0, slots := 0, locals := 103 }
def fX2_settle_J177 (Rc35 : Int32 → Int32 → Mem → Option Mem) (a1 : Nat) (a2 : Nat) (a3 : Int32) (a4 : Int32) (a5 : Int32) (s0 : Int32) (s1 : Int32) (u : Mem) : Option Mem := (if inB s1 16 then (if ((si u 200 s1.toNatClampNeg s0).1 204 2) = 1 then Rc35 a4 (a5 + (-1)) (si u 200 s1.toNatClampNeg s0) else ((some ((if ((if ((si u 200 s1.toNatClampNeg s0).1 204 2) = 0 then 0 else 1) : Int32) < ((si u 200 s1.toNatClampNeg s0).1 195 10) then ((if ((si u 200 s1.toNatClampNeg s0).1 204 2) = 0 then 0 else 1) : Int32) else ((si u 200 s1.toNatClampNeg s0).1 195 10)))).bind fun x15 => Rc35 a4 (a5 + (-1)) (si (si u 200 s1.toNatClampNeg s0) 195 10 x15))) else none)
def fX2_settle_J147 (Rc35 : Int32 → Int32 → Mem → Option Mem) (a1 : Nat) (a2 : Nat) (a3 : Int32) (a4 : Int32) (a5 : Int32) (s0 : Int32) (s1 : Int32) (u : Mem) : Option Mem := (if inB s1 16 then (if ((si u 199 s1.toNatClampNeg s0).1 204 2) = 0 then fX2_settle_J177 Rc35 a1 a2 a3 a4 a5 (-1) a5 (si u 199 s1.toNatClampNeg s0) else fX2_settle_J177 Rc35 a1 a2 a3 a4 a5 ((si u 199 s1.toNatClampNeg s0).1 206 0) a5 (si u 199 s1.toNatClampNeg s0)) else none)
def fX2_settle_L35 (a1 : Nat) (a2 : Nat) (a3 : Int32) : Nat → Int32 → Int32 → Mem → Option Mem
  | 0, _, _, _ => none
  | t + 1, a4, a5, u => (if a5 < 0 then (some u) else ((fX7_weightOf a1 a5 a2 u).bind fun r5 => (if inB a5 16 then (if inB a5 16 then ((fX11_cut (a4 + (((si u 196 a5.toNatClampNeg r5).1 196 a5.toNatClampNeg) / 2)) a3).bind fun r7 => (if inB a5 16 then ((some (si (si u 196 a5.toNatClampNeg r5) 197 a5.toNatClampNeg r7)).bind fun u8 => (if inB a5 16 then (if inB a5 16 then ((fX0_find a2 (u8.1 197 a5.toNatClampNeg) u8).bind fun u10 => (if inB a5 16 then (if ((si u10 198 a5.toNatClampNeg (u10.1 204 2)).1 204 2) = 0 then fX2_settle_J147 (fX2_settle_L35 a1 a2 a3 t) a1 a2 a3 (a4 + (u8.1 196 a5.toNatClampNeg)) a5 (-1) a5 (si u10 198 a5.toNatClampNeg (u10.1 204 2)) else fX2_settle_J147 (fX2_settle_L35 a1 a2 a3 t) a1 a2 a3 (a4 + (u8.1 196 a5.toNatClampNeg)) a5 ((si u10 198 a5.toNatClampNeg (u10.1 204 2)).1 205 0) a5 (si u10 198 a5.toNatClampNeg (u10.1 204 2))) else none)) else none) else none)) else none)) else none) else none)))
def fX2_settle (i1 : Nat) (i2 : Nat) (a3 : Int32) (u : Mem) : Option Mem := ((some (si (si u 195 9 (u.1 (160 + 4 * i1) 3)) 195 10 ((if ((si u 195 9 (u.1 (160 + 4 * i1) 3)).1 195 9) = 0 then 0 else 2) : Int32))).bind fun u2 => fX2_settle_L35 i1 i2 a3 fu0 0 ((u2.1 195 9) - 1) u2)
set_option maxHeartbeats 4000000 in
set_option maxRecDepth 100000 in
theorem kX2_settle_J177 {l : Launch} {D : va_G} {cy : Nat → ClassId} {ad : Nat → Nat} {p : Program} {e : Env} {s : State} {m : MethodId} {args : Array Value} {below : List Frame} {meth : Method} {c : Code} (C : Cx nX D cy ad 6 cX2_settle RX2 rX2_settle p s m args c) (hr : meth.sig.returnType = none) (hlk : meth.locks = false) {out : Mem} (Rc35 : Int32 → Int32 → Mem → Option Mem)  (a1 : Nat) (a2 : Nat) (a3 : Int32) (a4 : Int32) (a5 : Int32) (s0 : Int32) (s1 : Int32) (u : Mem) (ha1 : a1 < 4) (ha2 : a2 < 32) (hRc35 : ∀ (a4 : Int32) (a5 : Int32) (w : Mem), Rc35 a4 a5 w = some out → V shX nX D cy ad 6 p l e rX2_settle s m args below meth c (MQ below (qV shX nX D cy ad out) args s 0 0 (rA ad nX)) 35 [(0, .ref (ad 195)), (1, .ref (ad (160 + 4 * a1))), (2, .ref (ad (5 * a2))), (3, .int a3), (4, .int a4), (5, .int a5)] [] w) (h : fX2_settle_J177 Rc35 a1 a2 a3 a4 a5 s0 s1 u = some out) : V shX nX D cy ad 6 p l e rX2_settle s m args below meth c (MQ below (qV shX nX D cy ad out) args s 0 0 (rA ad nX)) 177 [(0, .ref (ad 195)), (1, .ref (ad (160 + 4 * a1))), (2, .ref (ad (5 * a2))), (3, .int a3), (4, .int a4), (5, .int a5)] [.int s0, .int s1, .ref (ad 200)] u := by
  unfold fX2_settle_J177 at h
  refine v_iast C pX_200 dX2_settle_177 h (fun h => ?_)
  refine v_aload_n C 0 dX2_settle_178 rfl rfl ?_
  refine v_getr C pX_195 fd_X2_40 rfl dX2_settle_179 ?_
  refine v_geti C pX_204 fd_X2_66 rfl dX2_settle_182 ?_
  refine v_iconst C (v := 1) dX2_settle_185 (by decide) ?_
  refine v_icmp_eq C 215 dX2_settle_186 (by decide) h (fun h => ?_) (fun h => ?_)
  · refine v_iinc C 5 (v := a5 + (-1)) [(5, .int (a5 + (-1))), (0, .ref (ad 195)), (1, .ref (ad (160 + 4 * a1))), (2, .ref (ad (5 * a2))), (3, .int a3), (4, .int a4)] dX2_settle_215 rfl rfl (by decide) rfl ?_
    refine v_goto C 35 dX2_settle_218 (by decide) ?_
    refine v_sub [1, 2, 3, 4, 5, 0] rfl ?_
    exact hRc35 a4 (a5 + (-1)) (si u 200 s1.toNatClampNeg s0) h
  · refine v_aload_n C 0 dX2_settle_189 rfl rfl ?_
    refine v_aload_n C 0 dX2_settle_190 rfl rfl ?_
    refine v_geti C pX_195 fd_X2_51 rfl dX2_settle_191 ?_
    refine v_aload_n C 0 dX2_settle_194 rfl rfl ?_
    refine v_getr C pX_195 fd_X2_40 rfl dX2_settle_195 ?_
    refine v_geti C pX_204 fd_X2_66 rfl dX2_settle_198 ?_
    refine v_dia 209 (.int ((if ((si u 200 s1.toNatClampNeg s0).1 204 2) = 0 then 0 else 1) : Int32)) [.int ((si u 200 s1.toNatClampNeg s0).1 195 10), .ref (ad 195)] ?_ (fun hj => ?_)
    · refine v_mmin C ma_X2_75 (Nat.le_of_ble_eq_true rfl) (Nat.le_of_ble_eq_true rfl) (Nat.le_of_ble_eq_true rfl) dX2_settle_209 ?_
      refine v_nmi (fun x15 hx15 => ?_)
      have h := nmd hx15 h
      refine v_puti C pX_195 fp_X2_51 rfl rfl rfl dX2_settle_212 ?_
      refine v_iinc C 5 (v := a5 + (-1)) [(5, .int (a5 + (-1))), (0, .ref (ad 195)), (1, .ref (ad (160 + 4 * a1))), (2, .ref (ad (5 * a2))), (3, .int a3), (4, .int a4)] dX2_settle_215 rfl rfl (by decide) rfl ?_
      refine v_goto C 35 dX2_settle_218 (by decide) ?_
      refine v_sub [1, 2, 3, 4, 5, 0] rfl ?_
      exact hRc35 a4 (a5 + (-1)) (si (si u 200 s1.toNatClampNeg s0) 195 10 x15) h
    · refine p_if_ne C 208 dX2_settle_201 (by decide) (fun z14 => ?_) (fun z14 => ?_)
      · refine v_iconst C (v := 0) dX2_settle_204 (by decide) ?_
        refine v_goto C 209 dX2_settle_205 (by decide) ?_
        exact v_top (by rw [if_pos z14]; first | done | rfl) hj
      · refine v_iconst C (v := 1) dX2_settle_208 (by decide) ?_
        exact v_top (by rw [if_neg z14]; first | done | rfl) hj
set_option maxHeartbeats 4000000 in
set_option maxRecDepth 100000 in
theorem kX2_settle_J147 {l : Launch} {D : va_G} {cy : Nat → ClassId} {ad : Nat → Nat} {p : Program} {e : Env} {s : State} {m : MethodId} {args : Array Value} {below : List Frame} {meth : Method} {c : Code} (C : Cx nX D cy ad 6 cX2_settle RX2 rX2_settle p s m args c) (hr : meth.sig.returnType = none) (hlk : meth.locks = false) {out : Mem} (Rc35 : Int32 → Int32 → Mem → Option Mem)  (a1 : Nat) (a2 : Nat) (a3 : Int32) (a4 : Int32) (a5 : Int32) (s0 : Int32) (s1 : Int32) (u : Mem) (ha1 : a1 < 4) (ha2 : a2 < 32) (hRc35 : ∀ (a4 : Int32) (a5 : Int32) (w : Mem), Rc35 a4 a5 w = some out → V shX nX D cy ad 6 p l e rX2_settle s m args below meth c (MQ below (qV shX nX D cy ad out) args s 0 0 (rA ad nX)) 35 [(0, .ref (ad 195)), (1, .ref (ad (160 + 4 * a1))), (2, .ref (ad (5 * a2))), (3, .int a3), (4, .int a4), (5, .int a5)] [] w) (h : fX2_settle_J147 Rc35 a1 a2 a3 a4 a5 s0 s1 u = some out) : V shX nX D cy ad 6 p l e rX2_settle s m args below meth c (MQ below (qV shX nX D cy ad out) args s 0 0 (rA ad nX)) 147 [(0, .ref (ad 195)), (1, .ref (ad (160 + 4 * a1))), (2, .ref (ad (5 * a2))), (3, .int a3), (4, .int a4), (5, .int a5)] [.int s0, .int s1, .ref (ad 199)] u := by
  unfold fX2_settle_J147 at h
  refine v_iast C pX_199 dX2_settle_147 h (fun h => ?_)
  refine v_aload_n C 0 dX2_settle_148 rfl rfl ?_
  refine v_getr C pX_195 fd_X2_24 rfl dX2_settle_149 ?_
  refine v_iload C 5 dX2_settle_152 rfl ?_
  refine v_aload_n C 0 dX2_settle_154 rfl rfl ?_
  refine v_getr C pX_195 fd_X2_40 rfl dX2_settle_155 ?_
  refine v_geti C pX_204 fd_X2_66 rfl dX2_settle_158 ?_
  refine v_if_ne C 168 dX2_settle_161 (by decide) h (fun h => ?_) (fun h => ?_)
  · refine v_iconst C (v := (-1)) dX2_settle_164 (by decide) ?_
    refine v_goto C 177 dX2_settle_165 (by decide) ?_
    exact kX2_settle_J177 C hr hlk Rc35 a1 a2 a3 a4 a5 (-1) a5 (si u 199 s1.toNatClampNeg s0) ha1 ha2 hRc35 h
  · refine v_aload_n C 0 dX2_settle_168 rfl rfl ?_
    refine v_getr C pX_195 fd_X2_40 rfl dX2_settle_169 ?_
    refine v_getr C pX_204 fd_X2_72 rfl dX2_settle_172 ?_
    refine v_iconst C (v := 0) dX2_settle_175 (by decide) ?_
    refine v_ialdN C pX_206 (j := 0) (by decide) (by decide) dX2_settle_176 ?_
    exact kX2_settle_J177 C hr hlk Rc35 a1 a2 a3 a4 a5 ((si u 199 s1.toNatClampNeg s0).1 206 0) a5 (si u 199 s1.toNatClampNeg s0) ha1 ha2 hRc35 h
set_option maxHeartbeats 4000000 in
set_option maxRecDepth 100000 in
theorem kX2_settle_L35 {l : Launch} {D : va_G} {cy : Nat → ClassId} {ad : Nat → Nat} {p : Program} {e : Env} {s : State} {m : MethodId} {args : Array Value} {below : List Frame} {meth : Method} {c : Code} (C : Cx nX D cy ad 6 cX2_settle RX2 rX2_settle p s m args c) (hr : meth.sig.returnType = none) (hlk : meth.locks = false) (a1 : Nat) (a2 : Nat) (a3 : Int32) (ha1 : a1 < 4) (ha2 : a2 < 32) {out : Mem}  : ∀ (t : Nat) (a4 : Int32) (a5 : Int32) (u : Mem), fX2_settle_L35 a1 a2 a3 t a4 a5 u = some out → V shX nX D cy ad 6 p l e rX2_settle s m args below meth c (MQ below (qV shX nX D cy ad out) args s 0 0 (rA ad nX)) 35 [(0, .ref (ad 195)), (1, .ref (ad (160 + 4 * a1))), (2, .ref (ad (5 * a2))), (3, .int a3), (4, .int a4), (5, .int a5)] [] u := by
  intro t
  induction t with
  | zero => intro a4 a5 u h; rw [fX2_settle_L35] at h; cases h
  | succ t ih =>
    intro a4 a5 u h
    rw [fX2_settle_L35] at h
    refine v_iload C 5 dX2_settle_35 rfl ?_
    refine v_if_lt C 221 dX2_settle_37 (by decide) h (fun h => ?_) (fun h => ?_)
    · cases h
      exact v_vret C hr hlk dX2_settle_221
    · refine v_aload_n C 0 dX2_settle_40 rfl rfl ?_
      refine v_getr C pX_195 fd_X2_9 rfl dX2_settle_41 ?_
      refine v_iload C 5 dX2_settle_44 rfl ?_
      refine v_aload_n C 1 dX2_settle_46 rfl rfl ?_
      refine v_iload C 5 dX2_settle_47 rfl ?_
      refine v_aload_n C 2 dX2_settle_49 rfl rfl ?_
      obtain ⟨r5, hc4, h⟩ := bnd h
      refine v_callVi C [.int a5, .ref (ad (5 * a2))] (cX7_weightOf_ct l D cy ad a1 a5 a2 u ha1 ha2 r5 hc4) ml_X2_54 (pS_0 a1 ha1) ⟨Nat.le_of_ble_eq_true rfl, Nat.le_of_ble_eq_true rfl⟩ ⟨rfl, rfl⟩ rfl rfl (Nat.le_of_ble_eq_true rfl) dX2_settle_50 ?_
      refine v_iast C pX_196 dX2_settle_53 h (fun h => ?_)
      refine v_aload_n C 0 dX2_settle_54 rfl rfl ?_
      refine v_getr C pX_195 fd_X2_15 rfl dX2_settle_55 ?_
      refine v_iload C 5 dX2_settle_58 rfl ?_
      refine v_iload C 4 dX2_settle_60 rfl ?_
      refine v_aload_n C 0 dX2_settle_62 rfl rfl ?_
      refine v_getr C pX_195 fd_X2_9 rfl dX2_settle_63 ?_
      refine v_iload C 5 dX2_settle_66 rfl ?_
      refine v_iald C pX_196 dX2_settle_68 h (fun h => ?_)
      refine v_iconst C (v := 2) dX2_settle_69 (by decide) ?_
      refine v_idivN C dX2_settle_70 (by decide) ?_
      refine v_iadd C dX2_settle_71 ?_
      refine v_iload_n C 3 dX2_settle_72 rfl rfl ?_
      obtain ⟨r7, hc6, h⟩ := bnd h
      refine v_callNi C [.int (a4 + (((si u 196 a5.toNatClampNeg r5).1 196 a5.toNatClampNeg) / 2)), .int a3] (cX11_cut_ct l D cy ad (a4 + (((si u 196 a5.toNatClampNeg r5).1 196 a5.toNatClampNeg) / 2)) a3 _ r7 hc6) ml_X2_58 ⟨Nat.le_of_ble_eq_true rfl, Nat.le_of_ble_eq_true rfl⟩ ⟨rfl, rfl⟩ rfl rfl (Nat.le_of_ble_eq_true rfl) dX2_settle_73 ?_
      refine v_iast C pX_197 dX2_settle_76 h (fun h => ?_)
      refine v_mem (fun u8 hu8 => ?_)
      have h := nmd hu8 h
      refine v_iload C 4 dX2_settle_77 rfl ?_
      refine v_aload_n C 0 dX2_settle_79 rfl rfl ?_
      refine v_getr C pX_195 fd_X2_9 rfl dX2_settle_80 ?_
      refine v_iload C 5 dX2_settle_83 rfl ?_
      refine v_iald C pX_196 dX2_settle_85 h (fun h => ?_)
      refine v_iadd C dX2_settle_86 ?_
      refine v_istore C [(4, .int (a4 + (u8.1 196 a5.toNatClampNeg))), (0, .ref (ad 195)), (1, .ref (ad (160 + 4 * a1))), (2, .ref (ad (5 * a2))), (3, .int a3), (5, .int a5)] dX2_settle_87 (by decide) rfl ?_
      refine v_aload_n C 1 dX2_settle_89 rfl rfl ?_
      refine v_getr C pX_195 fd_X2_40 rfl dX2_settle_90 ?_
      refine v_aload_n C 3 dX2_settle_93 rfl rfl ?_
      refine v_aload_n C 1 dX2_settle_94 rfl rfl ?_
      refine v_getr C pX_195 fd_X2_15 rfl dX2_settle_95 ?_
      refine v_iload C 5 dX2_settle_98 rfl ?_
      refine v_iald C pX_197 dX2_settle_100 h (fun h => ?_)
      obtain ⟨u10, hc9, h⟩ := bnd h
      refine v_callVv C [.ref (ad (5 * a2)), .int (u8.1 197 a5.toNatClampNeg)] (cX0_find_ct l D cy ad a2 (u8.1 197 a5.toNatClampNeg) u8 ha2 u10 hc9) ml_X2_62 pX_204 ⟨Nat.le_of_ble_eq_true rfl, Nat.le_of_ble_eq_true rfl⟩ ⟨rfl, rfl⟩ rfl rfl (Nat.le_of_ble_eq_true rfl) dX2_settle_101 ?_
      refine v_aload_n C 1 dX2_settle_104 rfl rfl ?_
      refine v_getr C pX_195 fd_X2_18 rfl dX2_settle_105 ?_
      refine v_iload C 5 dX2_settle_108 rfl ?_
      refine v_aload_n C 1 dX2_settle_110 rfl rfl ?_
      refine v_getr C pX_195 fd_X2_40 rfl dX2_settle_111 ?_
      refine v_geti C pX_204 fd_X2_66 rfl dX2_settle_114 ?_
      refine v_iast C pX_198 dX2_settle_117 h (fun h => ?_)
      refine v_aload_n C 1 dX2_settle_118 rfl rfl ?_
      refine v_getr C pX_195 fd_X2_21 rfl dX2_settle_119 ?_
      refine v_iload C 5 dX2_settle_122 rfl ?_
      refine v_aload_n C 1 dX2_settle_124 rfl rfl ?_
      refine v_getr C pX_195 fd_X2_40 rfl dX2_settle_125 ?_
      refine v_geti C pX_204 fd_X2_66 rfl dX2_settle_128 ?_
      refine v_if_ne C 138 dX2_settle_131 (by decide) h (fun h => ?_) (fun h => ?_)
      · refine v_iconst C (v := (-1)) dX2_settle_134 (by decide) ?_
        refine v_goto C 147 dX2_settle_135 (by decide) ?_
        refine v_sub [1, 2, 3, 4, 0, 5] rfl ?_
        exact kX2_settle_J147 C hr hlk (fX2_settle_L35 a1 a2 a3 t) a1 a2 a3 (a4 + (u8.1 196 a5.toNatClampNeg)) a5 (-1) a5 (si u10 198 a5.toNatClampNeg (u10.1 204 2)) ha1 ha2 ih h
      · refine v_aload_n C 1 dX2_settle_138 rfl rfl ?_
        refine v_getr C pX_195 fd_X2_40 rfl dX2_settle_139 ?_
        refine v_getr C pX_204 fd_X2_69 rfl dX2_settle_142 ?_
        refine v_iconst C (v := 0) dX2_settle_145 (by decide) ?_
        refine v_ialdN C pX_205 (j := 0) (by decide) (by decide) dX2_settle_146 ?_
        refine v_sub [1, 2, 3, 4, 0, 5] rfl ?_
        exact kX2_settle_J147 C hr hlk (fX2_settle_L35 a1 a2 a3 t) a1 a2 a3 (a4 + (u8.1 196 a5.toNatClampNeg)) a5 ((si u10 198 a5.toNatClampNeg (u10.1 204 2)).1 205 0) a5 (si u10 198 a5.toNatClampNeg (u10.1 204 2)) ha1 ha2 ih h
set_option maxHeartbeats 4000000 in
set_option maxRecDepth 100000 in
theorem cX2_settle_ct (l : Launch) (D : va_G) (cy : Nat → ClassId) (ad : Nat → Nat) (i1 : Nat) (i2 : Nat) (a3 : Int32) (u : Mem) (hi1 : i1 < 4) (hi2 : i2 < 32) (out : Mem) (h : fX2_settle i1 i2 a3 u = some out) : Met l yX2_settle (.code yX2_settle cX2_settle 6 (none) :: gw) rX2_settle (va_Pc [.ref (ad 195), .ref (ad (160 + 4 * i1)), .ref (ad (5 * i2)), .int a3] (wv shX nX D cy ad u)) (qV shX nX D cy ad out) 0 0 (rA ad nX) := by
  refine met_of (cc := cX2_settle) (nL := 6) (by decide) (Nat.le_of_ble_eq_true rfl) (fun p e s m below meth c C hr hlk => ?_)
  unfold fX2_settle at h
  show V shX nX D cy ad 6 p l e rX2_settle s m _ below meth c (MQ below (qV shX nX D cy ad out) _ s 0 0 (rA ad nX)) 0 [(0, .ref (ad 195)), (1, .ref (ad (160 + 4 * i1))), (2, .ref (ad (5 * i2))), (3, .int a3)] [] u
  refine v_aload_n C 0 dX2_settle_0 rfl rfl ?_
  refine v_aload_n C 1 dX2_settle_1 rfl rfl ?_
  refine v_geti C (pS_0 i1 hi1) fd_X2_44 rfl dX2_settle_2 ?_
  refine v_puti C pX_195 fp_X2_50 rfl rfl rfl dX2_settle_5 ?_
  refine v_aload_n C 0 dX2_settle_8 rfl rfl ?_
  refine v_aload_n C 0 dX2_settle_9 rfl rfl ?_
  refine v_geti C pX_195 fd_X2_50 rfl dX2_settle_10 ?_
  refine v_dia 21 (.int ((if ((si u 195 9 (u.1 (160 + 4 * i1) 3)).1 195 9) = 0 then 0 else 2) : Int32)) [.ref (ad 195)] ?_ (fun hj => ?_)
  · refine v_puti C pX_195 fp_X2_51 rfl rfl rfl dX2_settle_21 ?_
    refine v_mem (fun u2 hu2 => ?_)
    have h := nmd hu2 h
    refine v_iconst C (v := 0) dX2_settle_24 (by decide) ?_
    refine v_istore C [(4, .int 0), (0, .ref (ad 195)), (1, .ref (ad (160 + 4 * i1))), (2, .ref (ad (5 * i2))), (3, .int a3)] dX2_settle_25 (by decide) rfl ?_
    refine v_aload_n C 1 dX2_settle_27 rfl rfl ?_
    refine v_geti C pX_195 fd_X2_50 rfl dX2_settle_28 ?_
    refine v_iconst C (v := 1) dX2_settle_31 (by decide) ?_
    refine v_isub C dX2_settle_32 ?_
    refine v_istore C [(5, .int ((u2.1 195 9) - 1)), (4, .int 0), (0, .ref (ad 195)), (1, .ref (ad (160 + 4 * i1))), (2, .ref (ad (5 * i2))), (3, .int a3)] dX2_settle_33 (by decide) rfl ?_
    refine v_sub [2, 3, 4, 5, 1, 0] rfl ?_
    refine kX2_settle_L35 C hr hlk i1 i2 a3 hi1 hi2   fu0 0 ((u2.1 195 9) - 1) u2 h
  · refine p_if_ne C 20 dX2_settle_13 (by decide) (fun z1 => ?_) (fun z1 => ?_)
    · refine v_iconst C (v := 0) dX2_settle_16 (by decide) ?_
      refine v_goto C 21 dX2_settle_17 (by decide) ?_
      exact v_top (by rw [if_pos z1]; first | done | rfl) hj
    · refine v_iconst C (v := 2) dX2_settle_20 (by decide) ?_
      exact v_top (by rw [if_neg z1]; first | done | rfl) hj
def rX2_spanFrom : Room := { frames := 0, cells := 0, slots := 0, locals := 0 }
def fX2_spanFrom (a1 : Int32) (u : Mem) : Option Int32 := (if inB a1 16 then (if (u.1 199 a1.toNatClampNeg) = (-1) then (some 0) else (if inB a1 16 then (some (u.1 199 a1.toNatClampNeg)) else none)) else none)
set_option maxHeartbeats 4000000 in
set_option maxRecDepth 100000 in
theorem cX2_spanFrom_ct (l : Launch) (D : va_G) (cy : Nat → ClassId) (ad : Nat → Nat) (a1 : Int32) (u : Mem)  (out : Int32) (h : fX2_spanFrom a1 u = some out) : Met l yX2_spanFrom (.code yX2_spanFrom cX2_spanFrom 2 (some .int) :: gw) rX2_spanFrom (va_Pc [.ref (ad 195), .int a1] (wv shX nX D cy ad u)) (qI shX nX D cy ad out u) 0 0 (rA ad nX) := by
  refine met_of (cc := cX2_spanFrom) (nL := 2) (by decide) (Nat.le_of_ble_eq_true rfl) (fun p e s m below meth c C hr hlk => ?_)
  unfold fX2_spanFrom at h
  show V shX nX D cy ad 2 p l e rX2_spanFrom s m _ below meth c (MQ below (qI shX nX D cy ad out u) _ s 0 0 (rA ad nX)) 0 [(0, .ref (ad 195)), (1, .int a1)] [] u
  refine v_aload_n C 0 dX2_spanFrom_0 rfl rfl ?_
  refine v_getr C pX_195 fd_X2_21 rfl dX2_spanFrom_1 ?_
  refine v_iload_n C 1 dX2_spanFrom_4 rfl rfl ?_
  refine v_iald C pX_199 dX2_spanFrom_5 h (fun h => ?_)
  refine v_iconst C (v := (-1)) dX2_spanFrom_6 (by decide) ?_
  refine v_icmp_ne C 14 dX2_spanFrom_7 (by decide) h (fun h => ?_) (fun h => ?_)
  · refine v_iconst C (v := 0) dX2_spanFrom_10 (by decide) ?_
    refine v_goto C 20 dX2_spanFrom_11 (by decide) ?_
    cases h
    exact v_iret C hr hlk dX2_spanFrom_20
  · refine v_aload_n C 0 dX2_spanFrom_14 rfl rfl ?_
    refine v_getr C pX_195 fd_X2_21 rfl dX2_spanFrom_15 ?_
    refine v_iload_n C 1 dX2_spanFrom_18 rfl rfl ?_
    refine v_iald C pX_199 dX2_spanFrom_19 h (fun h => ?_)
    cases h
    exact v_iret C hr hlk dX2_spanFrom_20
def rX2_spanTo : Room := { frames := 0, cells := 0, slots := 0, locals := 0 }
def fX2_spanTo (a1 : Int32) (u : Mem) : Option Int32 := (if inB a1 16 then (if (u.1 200 a1.toNatClampNeg) = (-1) then (some 0) else (if inB a1 16 then (some (u.1 200 a1.toNatClampNeg)) else none)) else none)
set_option maxHeartbeats 4000000 in
set_option maxRecDepth 100000 in
theorem cX2_spanTo_ct (l : Launch) (D : va_G) (cy : Nat → ClassId) (ad : Nat → Nat) (a1 : Int32) (u : Mem)  (out : Int32) (h : fX2_spanTo a1 u = some out) : Met l yX2_spanTo (.code yX2_spanTo cX2_spanTo 2 (some .int) :: gw) rX2_spanTo (va_Pc [.ref (ad 195), .int a1] (wv shX nX D cy ad u)) (qI shX nX D cy ad out u) 0 0 (rA ad nX) := by
  refine met_of (cc := cX2_spanTo) (nL := 2) (by decide) (Nat.le_of_ble_eq_true rfl) (fun p e s m below meth c C hr hlk => ?_)
  unfold fX2_spanTo at h
  show V shX nX D cy ad 2 p l e rX2_spanTo s m _ below meth c (MQ below (qI shX nX D cy ad out u) _ s 0 0 (rA ad nX)) 0 [(0, .ref (ad 195)), (1, .int a1)] [] u
  refine v_aload_n C 0 dX2_spanTo_0 rfl rfl ?_
  refine v_getr C pX_195 fd_X2_24 rfl dX2_spanTo_1 ?_
  refine v_iload_n C 1 dX2_spanTo_4 rfl rfl ?_
  refine v_iald C pX_200 dX2_spanTo_5 h (fun h => ?_)
  refine v_iconst C (v := (-1)) dX2_spanTo_6 (by decide) ?_
  refine v_icmp_ne C 14 dX2_spanTo_7 (by decide) h (fun h => ?_) (fun h => ?_)
  · refine v_iconst C (v := 0) dX2_spanTo_10 (by decide) ?_
    refine v_goto C 20 dX2_spanTo_11 (by decide) ?_
    cases h
    exact v_iret C hr hlk dX2_spanTo_20
  · refine v_aload_n C 0 dX2_spanTo_14 rfl rfl ?_
    refine v_getr C pX_195 fd_X2_24 rfl dX2_spanTo_15 ?_
    refine v_iload_n C 1 dX2_spanTo_18 rfl rfl ?_
    refine v_iald C pX_200 dX2_spanTo_19 h (fun h => ?_)
    cases h
    exact v_iret C hr hlk dX2_spanTo_20
def rX2_made : Room := { frames := 3, cells := 0, slots := 0, locals := 84 }
def fX2_made_L6 (a1 : Nat) (a2 : Int32) (a3 : Nat) (a4 : Bool) (u : Mem) : Nat → Int64 → Int32 → Option Int64
  | 0, _, _ => none
  | t + 1, a5, a7 => (if 5 ≤ a7 then (some a5) else ((fX3_isTold a3 a7 u).bind fun r3 => (if r3 = true then ((fX2_spanFrom a2 u).bind fun r6 => ((fX2_spanTo a2 u).bind fun r8 => ((fX3_extreme a3 (2 + a7) r6 r8 a4 u).bind fun r10 => ((fX7_timesOf a1 a2 a7 a3 r10 u).bind fun r12 => ((fX3_ofChain a3 a7 4 u).bind fun r14 => fX2_made_L6 a1 a2 a3 a4 u t (a5 + (r12.toInt64 * r14.toInt64)) (a7 + 1)))))) else fX2_made_L6 a1 a2 a3 a4 u t a5 (a7 + 1))))
def fX2_made (i1 : Nat) (a2 : Int32) (i3 : Nat) (a4 : Bool) (u : Mem) : Option Int64 := fX2_made_L6 i1 a2 i3 a4 u fu0 0 0
set_option maxHeartbeats 4000000 in
set_option maxRecDepth 100000 in
theorem kX2_made_L6 {l : Launch} {D : va_G} {cy : Nat → ClassId} {ad : Nat → Nat} {p : Program} {e : Env} {s : State} {m : MethodId} {args : Array Value} {below : List Frame} {meth : Method} {c : Code} (C : Cx nX D cy ad 9 cX2_made RX2 rX2_made p s m args c) (hr : meth.sig.returnType = some .long) (hlk : meth.locks = false) (a1 : Nat) (a2 : Int32) (a3 : Nat) (a4 : Bool) (ha1 : a1 < 4) (ha3 : a3 < 32) (u : Mem) {out : Int64}  : ∀ (t : Nat) (a5 : Int64) (a7 : Int32), fX2_made_L6 a1 a2 a3 a4 u t a5 a7 = some out → V shX nX D cy ad 9 p l e rX2_made s m args below meth c (MQ below (qL shX nX D cy ad out u) args s 0 0 (rA ad nX)) 6 [(0, .ref (ad 195)), (1, .ref (ad (160 + 4 * a1))), (2, .int a2), (3, .ref (ad (5 * a3))), (4, .int (bz a4)), (5, .long a5), (7, .int a7)] [] u := by
  intro t
  induction t with
  | zero => intro a5 a7 h; rw [fX2_made_L6] at h; cases h
  | succ t ih =>
    intro a5 a7 h
    rw [fX2_made_L6] at h
    refine v_iload C 6 dX2_made_6 rfl ?_
    refine v_iconst C (v := 5) dX2_made_8 (by decide) ?_
    refine v_icmp_ge C 74 dX2_made_9 (by decide) h (fun h => ?_) (fun h => ?_)
    · refine v_lload C 5 dX2_made_74 rfl ?_
      cases h
      exact v_lret C hr hlk dX2_made_76
    · refine v_aload_n C 3 dX2_made_12 rfl rfl ?_
      refine v_iload C 6 dX2_made_13 rfl ?_
      obtain ⟨r3, hc2, h⟩ := bnd h
      refine v_callVi C [.int a7] (cX3_isTold_ct l D cy ad a3 a7 u ha3 r3 hc2) ml_X2_93 (pL_0 a3 ha3) ⟨Nat.le_of_ble_eq_true rfl, Nat.le_of_ble_eq_true rfl⟩ ⟨rfl, rfl⟩ rfl rfl (Nat.le_of_ble_eq_true rfl) dX2_made_15 ?_
      refine v_z_eq C 68 dX2_made_18 (by decide) h (fun h => ?_) (fun h => ?_)
      · refine v_aload_n C 3 dX2_made_21 rfl rfl ?_
        refine v_iconst C (v := 2) dX2_made_22 (by decide) ?_
        refine v_iload C 6 dX2_made_23 rfl ?_
        refine v_iadd C dX2_made_25 ?_
        refine v_aload_n C 0 dX2_made_26 rfl rfl ?_
        refine v_iload_n C 2 dX2_made_27 rfl rfl ?_
        obtain ⟨r6, hc5, h⟩ := bnd h
        refine v_callVi C [.int a2] (cX2_spanFrom_ct l D cy ad a2 u r6 hc5) ml_X2_99 pX_195 ⟨Nat.le_of_ble_eq_true rfl, Nat.le_of_ble_eq_true rfl⟩ ⟨rfl, rfl⟩ rfl rfl (Nat.le_of_ble_eq_true rfl) dX2_made_28 ?_
        refine v_aload_n C 0 dX2_made_31 rfl rfl ?_
        refine v_iload_n C 2 dX2_made_32 rfl rfl ?_
        obtain ⟨r8, hc7, h⟩ := bnd h
        refine v_callVi C [.int a2] (cX2_spanTo_ct l D cy ad a2 u r8 hc7) ml_X2_103 pX_195 ⟨Nat.le_of_ble_eq_true rfl, Nat.le_of_ble_eq_true rfl⟩ ⟨rfl, rfl⟩ rfl rfl (Nat.le_of_ble_eq_true rfl) dX2_made_33 ?_
        refine v_iload C 4 dX2_made_36 rfl ?_
        obtain ⟨r10, hc9, h⟩ := bnd h
        refine v_callVi C [.int (2 + a7), .int r6, .int r8, .int (bz a4)] (cX3_extreme_ct l D cy ad a3 (2 + a7) r6 r8 a4 u ha3 r10 hc9) ml_X2_106 (pL_0 a3 ha3) ⟨Nat.le_of_ble_eq_true rfl, Nat.le_of_ble_eq_true rfl⟩ ⟨rfl, rfl⟩ rfl rfl (Nat.le_of_ble_eq_true rfl) dX2_made_38 ?_
        refine v_istore C [(8, .int r10), (0, .ref (ad 195)), (1, .ref (ad (160 + 4 * a1))), (2, .int a2), (3, .ref (ad (5 * a3))), (4, .int (bz a4)), (5, .long a5), (7, .int a7)] dX2_made_41 (by decide) rfl ?_
        refine v_lload C 6 dX2_made_43 rfl ?_
        refine v_aload_n C 2 dX2_made_45 rfl rfl ?_
        refine v_iload_n C 3 dX2_made_46 rfl rfl ?_
        refine v_iload C 7 dX2_made_47 rfl ?_
        refine v_aload_n C 4 dX2_made_49 rfl rfl ?_
        refine v_iload C 0 dX2_made_50 rfl ?_
        obtain ⟨r12, hc11, h⟩ := bnd h
        refine v_callVi C [.int a2, .int a7, .ref (ad (5 * a3)), .int r10] (cX7_timesOf_ct l D cy ad a1 a2 a7 a3 r10 u ha1 ha3 r12 hc11) ml_X2_110 (pS_0 a1 ha1) ⟨Nat.le_of_ble_eq_true rfl, Nat.le_of_ble_eq_true rfl⟩ ⟨rfl, rfl⟩ rfl rfl (Nat.le_of_ble_eq_true rfl) dX2_made_52 ?_
        refine v_i2l C dX2_made_55 ?_
        refine v_aload_n C 4 dX2_made_56 rfl rfl ?_
        refine v_iload C 7 dX2_made_57 rfl ?_
        refine v_iconst C (v := 4) dX2_made_59 (by decide) ?_
        obtain ⟨r14, hc13, h⟩ := bnd h
        refine v_callVi C [.int a7, .int 4] (cX3_ofChain_ct l D cy ad a3 a7 4 u ha3 r14 hc13) ml_X2_114 (pL_0 a3 ha3) ⟨Nat.le_of_ble_eq_true rfl, Nat.le_of_ble_eq_true rfl⟩ ⟨rfl, rfl⟩ rfl rfl (Nat.le_of_ble_eq_true rfl) dX2_made_60 ?_
        refine v_i2l C dX2_made_63 ?_
        refine v_lmul C dX2_made_64 ?_
        refine v_ladd C dX2_made_65 ?_
        refine v_lstore C [(5, .long (a5 + (r12.toInt64 * r14.toInt64))), (8, .int r10), (0, .ref (ad 195)), (1, .ref (ad (160 + 4 * a1))), (2, .int a2), (3, .ref (ad (5 * a3))), (4, .int (bz a4)), (7, .int a7)] dX2_made_66 (by decide) rfl ?_
        refine v_iinc C 7 (v := a7 + 1) [(7, .int (a7 + 1)), (5, .long (a5 + (r12.toInt64 * r14.toInt64))), (8, .int r10), (0, .ref (ad 195)), (1, .ref (ad (160 + 4 * a1))), (2, .int a2), (3, .ref (ad (5 * a3))), (4, .int (bz a4))] dX2_made_68 rfl rfl (by decide) rfl ?_
        refine v_goto C 6 dX2_made_71 (by decide) ?_
        refine v_sub [3, 4, 5, 6, 7, 1, 0] rfl ?_
        exact ih (a5 + (r12.toInt64 * r14.toInt64)) (a7 + 1) h
      · refine v_iinc C 6 (v := a7 + 1) [(7, .int (a7 + 1)), (0, .ref (ad 195)), (1, .ref (ad (160 + 4 * a1))), (2, .int a2), (3, .ref (ad (5 * a3))), (4, .int (bz a4)), (5, .long a5)] dX2_made_68 rfl rfl (by decide) rfl ?_
        refine v_goto C 6 dX2_made_71 (by decide) ?_
        refine v_sub [1, 2, 3, 4, 5, 6, 0] rfl ?_
        exact ih a5 (a7 + 1) h
set_option maxHeartbeats 4000000 in
set_option maxRecDepth 100000 in
theorem cX2_made_ct (l : Launch) (D : va_G) (cy : Nat → ClassId) (ad : Nat → Nat) (i1 : Nat) (a2 : Int32) (i3 : Nat) (a4 : Bool) (u : Mem) (hi1 : i1 < 4) (hi3 : i3 < 32) (out : Int64) (h : fX2_made i1 a2 i3 a4 u = some out) : Met l yX2_made (.code yX2_made cX2_made 9 (some .long) :: gw) rX2_made (va_Pc [.ref (ad 195), .ref (ad (160 + 4 * i1)), .int a2, .ref (ad (5 * i3)), .int (bz a4)] (wv shX nX D cy ad u)) (qL shX nX D cy ad out u) 0 0 (rA ad nX) := by
  refine met_of (cc := cX2_made) (nL := 9) (by decide) (Nat.le_of_ble_eq_true rfl) (fun p e s m below meth c C hr hlk => ?_)
  unfold fX2_made at h
  show V shX nX D cy ad 9 p l e rX2_made s m _ below meth c (MQ below (qL shX nX D cy ad out u) _ s 0 0 (rA ad nX)) 0 [(0, .ref (ad 195)), (1, .ref (ad (160 + 4 * i1))), (2, .int a2), (3, .ref (ad (5 * i3))), (4, .int (bz a4))] [] u
  refine v_lconst C (v := 0) dX2_made_0 (by decide) ?_
  refine v_lstore C [(5, .long 0), (0, .ref (ad 195)), (1, .ref (ad (160 + 4 * i1))), (2, .int a2), (3, .ref (ad (5 * i3))), (4, .int (bz a4))] dX2_made_1 (by decide) rfl ?_
  refine v_iconst C (v := 0) dX2_made_3 (by decide) ?_
  refine v_istore C [(7, .int 0), (5, .long 0), (0, .ref (ad 195)), (1, .ref (ad (160 + 4 * i1))), (2, .int a2), (3, .ref (ad (5 * i3))), (4, .int (bz a4))] dX2_made_4 (by decide) rfl ?_
  refine v_sub [2, 3, 4, 5, 6, 1, 0] rfl ?_
  refine kX2_made_L6 C hr hlk i1 a2 i3 a4 hi1 hi3 u   fu0 0 0 h
def rX2_haze : Room := { frames := 3, cells := 0, slots := 0, locals := 84 }
def fX2_haze (a1 : Int32) (i2 : Nat) (a3 : Bool) (u : Mem) : Option Int32 := ((fX2_spanFrom a1 u).bind fun r2 => ((fX2_spanTo a1 u).bind fun r4 => ((fX3_extreme i2 1 r2 r4 a3 u).bind fun r6 => (some r6))))
set_option maxHeartbeats 4000000 in
set_option maxRecDepth 100000 in
theorem cX2_haze_ct (l : Launch) (D : va_G) (cy : Nat → ClassId) (ad : Nat → Nat) (a1 : Int32) (i2 : Nat) (a3 : Bool) (u : Mem) (hi2 : i2 < 32) (out : Int32) (h : fX2_haze a1 i2 a3 u = some out) : Met l yX2_haze (.code yX2_haze cX2_haze 4 (some .int) :: gw) rX2_haze (va_Pc [.ref (ad 195), .int a1, .ref (ad (5 * i2)), .int (bz a3)] (wv shX nX D cy ad u)) (qI shX nX D cy ad out u) 0 0 (rA ad nX) := by
  refine met_of (cc := cX2_haze) (nL := 4) (by decide) (Nat.le_of_ble_eq_true rfl) (fun p e s m below meth c C hr hlk => ?_)
  unfold fX2_haze at h
  show V shX nX D cy ad 4 p l e rX2_haze s m _ below meth c (MQ below (qI shX nX D cy ad out u) _ s 0 0 (rA ad nX)) 0 [(0, .ref (ad 195)), (1, .int a1), (2, .ref (ad (5 * i2))), (3, .int (bz a3))] [] u
  refine v_aload_n C 2 dX2_haze_0 rfl rfl ?_
  refine v_iconst C (v := 1) dX2_haze_1 (by decide) ?_
  refine v_aload_n C 0 dX2_haze_2 rfl rfl ?_
  refine v_iload_n C 1 dX2_haze_3 rfl rfl ?_
  obtain ⟨r2, hc1, h⟩ := bnd h
  refine v_callVi C [.int a1] (cX2_spanFrom_ct l D cy ad a1 u r2 hc1) ml_X2_99 pX_195 ⟨Nat.le_of_ble_eq_true rfl, Nat.le_of_ble_eq_true rfl⟩ ⟨rfl, rfl⟩ rfl rfl (Nat.le_of_ble_eq_true rfl) dX2_haze_4 ?_
  refine v_aload_n C 0 dX2_haze_7 rfl rfl ?_
  refine v_iload_n C 1 dX2_haze_8 rfl rfl ?_
  obtain ⟨r4, hc3, h⟩ := bnd h
  refine v_callVi C [.int a1] (cX2_spanTo_ct l D cy ad a1 u r4 hc3) ml_X2_103 pX_195 ⟨Nat.le_of_ble_eq_true rfl, Nat.le_of_ble_eq_true rfl⟩ ⟨rfl, rfl⟩ rfl rfl (Nat.le_of_ble_eq_true rfl) dX2_haze_9 ?_
  refine v_iload_n C 3 dX2_haze_12 rfl rfl ?_
  obtain ⟨r6, hc5, h⟩ := bnd h
  refine v_callVi C [.int 1, .int r2, .int r4, .int (bz a3)] (cX3_extreme_ct l D cy ad i2 1 r2 r4 a3 u hi2 r6 hc5) ml_X2_106 (pL_0 i2 hi2) ⟨Nat.le_of_ble_eq_true rfl, Nat.le_of_ble_eq_true rfl⟩ ⟨rfl, rfl⟩ rfl rfl (Nat.le_of_ble_eq_true rfl) dX2_haze_13 ?_
  cases h
  exact v_iret C hr hlk dX2_haze_16
def rX2_shine : Room := { frames := 4, cells := 0, slots := 0, locals := 112 }
def fX2_shine_L8 (a1 : Nat) (a2 : Nat) : Nat → Int64 → Int64 → Int32 → Mem → Option Mem
  | 0, _, _, _, _ => none
  | t + 1, a3, a5, a7, u => (if (u.1 195 9) ≤ a7 then (some u) else ((fX2_made a1 a7 a2 false u).bind fun r3 => ((fX2_made a1 a7 a2 true u).bind fun r5 => (if inB a7 16 then (if inB a7 16 then ((some (sl (sl u 202 a7.toNatClampNeg (a3 + r3)) 203 a7.toNatClampNeg (a5 + r5))).bind fun u6 => ((fX2_haze a7 a2 true u6).bind fun r8 => (if ((u6.1 (160 + 4 * a1) 5).toInt64) < (((a5 + r5) * r8.toInt64) / 1000) then ((fX2_haze a7 a2 false u6).bind fun r11 => ((some (((if (((a3 + r3) * r11.toInt64) / 1000) ≤ ((u6.1 (160 + 4 * a1) 5).toInt64) then 2 else 1) : Int32))).bind fun x13 => (if inB a7 16 then fX2_shine_L8 a1 a2 t (a3 + r3) (a5 + r5) (a7 + 1) (si u6 201 a7.toNatClampNeg x13) else none))) else (if inB a7 16 then fX2_shine_L8 a1 a2 t (a3 + r3) (a5 + r5) (a7 + 1) (si u6 201 a7.toNatClampNeg 0) else none)))) else none) else none))))
def fX2_shine (i1 : Nat) (i2 : Nat) (u : Mem) : Option Mem := fX2_shine_L8 i1 i2 fu0 0 0 0 u
set_option maxHeartbeats 4000000 in
set_option maxRecDepth 100000 in
theorem kX2_shine_L8 {l : Launch} {D : va_G} {cy : Nat → ClassId} {ad : Nat → Nat} {p : Program} {e : Env} {s : State} {m : MethodId} {args : Array Value} {below : List Frame} {meth : Method} {c : Code} (C : Cx nX D cy ad 8 cX2_shine RX2 rX2_shine p s m args c) (hr : meth.sig.returnType = none) (hlk : meth.locks = false) (a1 : Nat) (a2 : Nat) (ha1 : a1 < 4) (ha2 : a2 < 32) {out : Mem}  : ∀ (t : Nat) (a3 : Int64) (a5 : Int64) (a7 : Int32) (u : Mem), fX2_shine_L8 a1 a2 t a3 a5 a7 u = some out → V shX nX D cy ad 8 p l e rX2_shine s m args below meth c (MQ below (qV shX nX D cy ad out) args s 0 0 (rA ad nX)) 8 [(0, .ref (ad 195)), (1, .ref (ad (160 + 4 * a1))), (2, .ref (ad (5 * a2))), (3, .long a3), (5, .long a5), (7, .int a7)] [] u := by
  intro t
  induction t with
  | zero => intro a3 a5 a7 u h; rw [fX2_shine_L8] at h; cases h
  | succ t ih =>
    intro a3 a5 a7 u h
    rw [fX2_shine_L8] at h
    refine v_iload C 5 dX2_shine_8 rfl ?_
    refine v_aload_n C 0 dX2_shine_10 rfl rfl ?_
    refine v_geti C pX_195 fd_X2_50 rfl dX2_shine_11 ?_
    refine v_icmp_ge C 138 dX2_shine_14 (by decide) h (fun h => ?_) (fun h => ?_)
    · cases h
      exact v_vret C hr hlk dX2_shine_138
    · refine v_lload_n C 3 dX2_shine_17 rfl rfl ?_
      refine v_aload_n C 0 dX2_shine_18 rfl rfl ?_
      refine v_aload_n C 1 dX2_shine_19 rfl rfl ?_
      refine v_iload C 5 dX2_shine_20 rfl ?_
      refine v_aload_n C 2 dX2_shine_22 rfl rfl ?_
      refine v_iconst C (v := 0) dX2_shine_23 (by decide) ?_
      obtain ⟨r3, hc2, h⟩ := bnd h
      refine v_callVl C [.ref (ad (160 + 4 * a1)), .int a7, .ref (ad (5 * a2)), .int (bz false)] (cX2_made_ct l D cy ad a1 a7 a2 false u ha1 ha2 r3 hc2) ml_X2_80 pX_195 ⟨Nat.le_of_ble_eq_true rfl, Nat.le_of_ble_eq_true rfl⟩ ⟨rfl, rfl⟩ rfl rfl (Nat.le_of_ble_eq_true rfl) dX2_shine_24 ?_
      refine v_ladd C dX2_shine_27 ?_
      refine v_lstore_n C [(3, .long (a3 + r3)), (0, .ref (ad 195)), (1, .ref (ad (160 + 4 * a1))), (2, .ref (ad (5 * a2))), (5, .long a5), (7, .int a7)] dX2_shine_28 rfl (by decide) rfl ?_
      refine v_lload C 4 dX2_shine_29 rfl ?_
      refine v_aload_n C 1 dX2_shine_31 rfl rfl ?_
      refine v_aload_n C 2 dX2_shine_32 rfl rfl ?_
      refine v_iload C 5 dX2_shine_33 rfl ?_
      refine v_aload_n C 3 dX2_shine_35 rfl rfl ?_
      refine v_iconst C (v := 1) dX2_shine_36 (by decide) ?_
      obtain ⟨r5, hc4, h⟩ := bnd h
      refine v_callVl C [.ref (ad (160 + 4 * a1)), .int a7, .ref (ad (5 * a2)), .int (bz true)] (cX2_made_ct l D cy ad a1 a7 a2 true u ha1 ha2 r5 hc4) ml_X2_80 pX_195 ⟨Nat.le_of_ble_eq_true rfl, Nat.le_of_ble_eq_true rfl⟩ ⟨rfl, rfl⟩ rfl rfl (Nat.le_of_ble_eq_true rfl) dX2_shine_37 ?_
      refine v_ladd C dX2_shine_40 ?_
      refine v_lstore C [(5, .long (a5 + r5)), (3, .long (a3 + r3)), (0, .ref (ad 195)), (1, .ref (ad (160 + 4 * a1))), (2, .ref (ad (5 * a2))), (7, .int a7)] dX2_shine_41 (by decide) rfl ?_
      refine v_aload_n C 2 dX2_shine_43 rfl rfl ?_
      refine v_getr C pX_195 fd_X2_30 rfl dX2_shine_44 ?_
      refine v_iload C 5 dX2_shine_47 rfl ?_
      refine v_lload_n C 1 dX2_shine_49 rfl rfl ?_
      refine v_last C pX_202 dX2_shine_50 h (fun h => ?_)
      refine v_aload_n C 2 dX2_shine_51 rfl rfl ?_
      refine v_getr C pX_195 fd_X2_34 rfl dX2_shine_52 ?_
      refine v_iload C 5 dX2_shine_55 rfl ?_
      refine v_lload C 0 dX2_shine_57 rfl ?_
      refine v_last C pX_203 dX2_shine_59 h (fun h => ?_)
      refine v_mem (fun u6 hu6 => ?_)
      have h := nmd hu6 h
      refine v_lload C 0 dX2_shine_60 rfl ?_
      refine v_aload_n C 2 dX2_shine_62 rfl rfl ?_
      refine v_iload C 5 dX2_shine_63 rfl ?_
      refine v_aload_n C 4 dX2_shine_65 rfl rfl ?_
      refine v_iconst C (v := 1) dX2_shine_66 (by decide) ?_
      obtain ⟨r8, hc7, h⟩ := bnd h
      refine v_callVi C [.int a7, .ref (ad (5 * a2)), .int (bz true)] (cX2_haze_ct l D cy ad a7 a2 true u6 ha2 r8 hc7) ml_X2_84 pX_195 ⟨Nat.le_of_ble_eq_true rfl, Nat.le_of_ble_eq_true rfl⟩ ⟨rfl, rfl⟩ rfl rfl (Nat.le_of_ble_eq_true rfl) dX2_shine_67 ?_
      refine v_i2l C dX2_shine_70 ?_
      refine v_lmul C dX2_shine_71 ?_
      refine v_ldc2 C kc_X2_88 dX2_shine_72 ?_
      refine v_ldivN C dX2_shine_75 (by decide) ?_
      refine v_aload_n C 3 dX2_shine_76 rfl rfl ?_
      refine v_geti C (pS_0 a1 ha1) fd_X2_90 rfl dX2_shine_77 ?_
      refine v_i2l C dX2_shine_80 ?_
      refine v_lcmp_gt C 96 dX2_shine_81 dX2_shine_82 (by decide) h (fun h => ?_) (fun h => ?_)
      · refine v_aload_n C 2 dX2_shine_96 rfl rfl ?_
        refine v_getr C pX_195 fd_X2_27 rfl dX2_shine_97 ?_
        refine v_iload C 5 dX2_shine_100 rfl ?_
        refine v_lload_n C 1 dX2_shine_102 rfl rfl ?_
        refine v_aload_n C 2 dX2_shine_103 rfl rfl ?_
        refine v_iload C 5 dX2_shine_104 rfl ?_
        refine v_aload_n C 4 dX2_shine_106 rfl rfl ?_
        refine v_iconst C (v := 0) dX2_shine_107 (by decide) ?_
        obtain ⟨r11, hc10, h⟩ := bnd h
        refine v_callVi C [.int a7, .ref (ad (5 * a2)), .int (bz false)] (cX2_haze_ct l D cy ad a7 a2 false u6 ha2 r11 hc10) ml_X2_84 pX_195 ⟨Nat.le_of_ble_eq_true rfl, Nat.le_of_ble_eq_true rfl⟩ ⟨rfl, rfl⟩ rfl rfl (Nat.le_of_ble_eq_true rfl) dX2_shine_108 ?_
        refine v_i2l C dX2_shine_111 ?_
        refine v_lmul C dX2_shine_112 ?_
        refine v_ldc2 C kc_X2_88 dX2_shine_113 ?_
        refine v_ldivN C dX2_shine_116 (by decide) ?_
        refine v_aload_n C 3 dX2_shine_117 rfl rfl ?_
        refine v_geti C (pS_0 a1 ha1) fd_X2_90 rfl dX2_shine_118 ?_
        refine v_i2l C dX2_shine_121 ?_
        refine v_dia 131 (.int ((if (((a3 + r3) * r11.toInt64) / 1000) ≤ ((u6.1 (160 + 4 * a1) 5).toInt64) then 2 else 1) : Int32)) [.int a7, .ref (ad 201)] ?_ (fun hj => ?_)
        · refine v_nmi (fun x13 hx13 => ?_)
          have h := nmd hx13 h
          refine v_iast C pX_201 dX2_shine_131 h (fun h => ?_)
          refine v_iinc C 5 (v := a7 + 1) [(7, .int (a7 + 1)), (5, .long (a5 + r5)), (3, .long (a3 + r3)), (0, .ref (ad 195)), (1, .ref (ad (160 + 4 * a1))), (2, .ref (ad (5 * a2)))] dX2_shine_132 rfl rfl (by decide) rfl ?_
          refine v_goto C 8 dX2_shine_135 (by decide) ?_
          refine v_sub [3, 4, 5, 2, 1, 0] rfl ?_
          exact ih (a3 + r3) (a5 + r5) (a7 + 1) (si u6 201 a7.toNatClampNeg x13) h
        · refine p_lcmp_le C 130 dX2_shine_122 dX2_shine_123 (by decide) (fun z12 => ?_) (fun z12 => ?_)
          · refine v_iconst C (v := 2) dX2_shine_130 (by decide) ?_
            exact v_top (by rw [if_pos z12]; first | done | rfl) hj
          · refine v_iconst C (v := 1) dX2_shine_126 (by decide) ?_
            refine v_goto C 131 dX2_shine_127 (by decide) ?_
            exact v_top (by rw [if_neg z12]; first | done | rfl) hj
      · refine v_aload_n C 2 dX2_shine_85 rfl rfl ?_
        refine v_getr C pX_195 fd_X2_27 rfl dX2_shine_86 ?_
        refine v_iload C 5 dX2_shine_89 rfl ?_
        refine v_iconst C (v := 0) dX2_shine_91 (by decide) ?_
        refine v_iast C pX_201 dX2_shine_92 h (fun h => ?_)
        refine v_goto C 132 dX2_shine_93 (by decide) ?_
        refine v_iinc C 5 (v := a7 + 1) [(7, .int (a7 + 1)), (5, .long (a5 + r5)), (3, .long (a3 + r3)), (0, .ref (ad 195)), (1, .ref (ad (160 + 4 * a1))), (2, .ref (ad (5 * a2)))] dX2_shine_132 rfl rfl (by decide) rfl ?_
        refine v_goto C 8 dX2_shine_135 (by decide) ?_
        refine v_sub [3, 4, 5, 2, 1, 0] rfl ?_
        exact ih (a3 + r3) (a5 + r5) (a7 + 1) (si u6 201 a7.toNatClampNeg 0) h
set_option maxHeartbeats 4000000 in
set_option maxRecDepth 100000 in
theorem cX2_shine_ct (l : Launch) (D : va_G) (cy : Nat → ClassId) (ad : Nat → Nat) (i1 : Nat) (i2 : Nat) (u : Mem) (hi1 : i1 < 4) (hi2 : i2 < 32) (out : Mem) (h : fX2_shine i1 i2 u = some out) : Met l yX2_shine (.code yX2_shine cX2_shine 8 (none) :: gw) rX2_shine (va_Pc [.ref (ad 195), .ref (ad (160 + 4 * i1)), .ref (ad (5 * i2))] (wv shX nX D cy ad u)) (qV shX nX D cy ad out) 0 0 (rA ad nX) := by
  refine met_of (cc := cX2_shine) (nL := 8) (by decide) (Nat.le_of_ble_eq_true rfl) (fun p e s m below meth c C hr hlk => ?_)
  unfold fX2_shine at h
  show V shX nX D cy ad 8 p l e rX2_shine s m _ below meth c (MQ below (qV shX nX D cy ad out) _ s 0 0 (rA ad nX)) 0 [(0, .ref (ad 195)), (1, .ref (ad (160 + 4 * i1))), (2, .ref (ad (5 * i2)))] [] u
  refine v_lconst C (v := 0) dX2_shine_0 (by decide) ?_
  refine v_lstore_n C [(3, .long 0), (0, .ref (ad 195)), (1, .ref (ad (160 + 4 * i1))), (2, .ref (ad (5 * i2)))] dX2_shine_1 rfl (by decide) rfl ?_
  refine v_lconst C (v := 0) dX2_shine_2 (by decide) ?_
  refine v_lstore C [(5, .long 0), (3, .long 0), (0, .ref (ad 195)), (1, .ref (ad (160 + 4 * i1))), (2, .ref (ad (5 * i2)))] dX2_shine_3 (by decide) rfl ?_
  refine v_iconst C (v := 0) dX2_shine_5 (by decide) ?_
  refine v_istore C [(7, .int 0), (5, .long 0), (3, .long 0), (0, .ref (ad 195)), (1, .ref (ad (160 + 4 * i1))), (2, .ref (ad (5 * i2)))] dX2_shine_6 (by decide) rfl ?_
  refine v_sub [3, 4, 5, 2, 1, 0] rfl ?_
  refine kX2_shine_L8 C hr hlk i1 i2 hi1 hi2   fu0 0 0 0 u h
def rX9_listen : Room := { frames := 0, cells := 0, slots := 0, locals := 0 }
def fX9_listen_L23  : Nat → Int32 → Mem → Option (Bool × Mem)
  | 0, _, _ => none
  | t + 1, a2, u => (if (u.1 207 1) ≤ a2 then (some ((if (u.1 207 1) ≤ 0 then false else true), u)) else (if inB a2 16 then (if inB a2 7 then ((some (si u 208 a2.toNatClampNeg ((u.1 199 a2.toNatClampNeg) / 10))).bind fun u6 => fX9_listen_L23 t (a2 + 1) u6) else none) else none))
def fX9_listen (u : Mem) : Option (Bool × Mem) := ((some (si u 207 1 (if 7 < (u.1 195 9) then 0 else u.1 195 9))).bind fun u2 => fX9_listen_L23 fu0 0 u2)
set_option maxHeartbeats 4000000 in
set_option maxRecDepth 100000 in
theorem kX9_listen_L23 {l : Launch} {D : va_G} {cy : Nat → ClassId} {ad : Nat → Nat} {p : Program} {e : Env} {s : State} {m : MethodId} {args : Array Value} {below : List Frame} {meth : Method} {c : Code} (C : Cx nX D cy ad 3 cX9_listen RX9 rX9_listen p s m args c) (hr : meth.sig.returnType = some .boolean) (hlk : meth.locks = false)   {out : (Bool × Mem)}  : ∀ (t : Nat) (a2 : Int32) (u : Mem), fX9_listen_L23 t a2 u = some out → V shX nX D cy ad 3 p l e rX9_listen s m args below meth c (MQ below (qI shX nX D cy ad (bz out.1) out.2) args s 0 0 (rA ad nX)) 23 [(0, .ref (ad 207)), (1, .ref (ad 195)), (2, .int a2)] [] u := by
  intro t
  induction t with
  | zero => intro a2 u h; rw [fX9_listen_L23] at h; cases h
  | succ t ih =>
    intro a2 u h
    rw [fX9_listen_L23] at h
    refine v_iload_n C 2 dX9_listen_23 rfl rfl ?_
    refine v_aload_n C 0 dX9_listen_24 rfl rfl ?_
    refine v_geti C pX_207 fd_X9_21 rfl dX9_listen_25 ?_
    refine v_icmp_ge C 52 dX9_listen_28 (by decide) h (fun h => ?_) (fun h => ?_)
    · refine v_aload_n C 0 dX9_listen_52 rfl rfl ?_
      refine v_geti C pX_207 fd_X9_21 rfl dX9_listen_53 ?_
      refine v_dia 64 (.int (bz (if (u.1 207 1) ≤ 0 then false else true))) [] ?_ (fun hj => ?_)
      · cases h
        exact v_zret (b := (if (u.1 207 1) ≤ 0 then false else true)) C hr hlk dX9_listen_64
      · refine p_if_le C 63 dX9_listen_56 (by decide) (fun z5 => ?_) (fun z5 => ?_)
        · refine v_iconst C (v := 0) dX9_listen_63 (by decide) ?_
          exact v_top (by rw [if_pos z5]; first | done | rfl) hj
        · refine v_iconst C (v := 1) dX9_listen_59 (by decide) ?_
          refine v_goto C 64 dX9_listen_60 (by decide) ?_
          exact v_top (by rw [if_neg z5]; first | done | rfl) hj
    · refine v_aload_n C 0 dX9_listen_31 rfl rfl ?_
      refine v_getr C pX_207 fd_X9_9 rfl dX9_listen_32 ?_
      refine v_iload_n C 2 dX9_listen_35 rfl rfl ?_
      refine v_aload_n C 1 dX9_listen_36 rfl rfl ?_
      refine v_getr C pX_195 fd_X9_24 rfl dX9_listen_37 ?_
      refine v_iload_n C 2 dX9_listen_40 rfl rfl ?_
      refine v_iald C pX_199 dX9_listen_41 h (fun h => ?_)
      refine v_bipush C (v := 10) dX9_listen_42 (by decide) ?_
      refine v_idivN C dX9_listen_44 (by decide) ?_
      refine v_iast C pX_208 dX9_listen_45 h (fun h => ?_)
      refine v_mem (fun u6 hu6 => ?_)
      have h := nmd hu6 h
      refine v_iinc C 2 (v := a2 + 1) [(2, .int (a2 + 1)), (0, .ref (ad 207)), (1, .ref (ad 195))] dX9_listen_46 rfl rfl (by decide) rfl ?_
      refine v_goto C 23 dX9_listen_49 (by decide) ?_
      refine v_sub [1, 2, 0] rfl ?_
      exact ih (a2 + 1) u6 h
set_option maxHeartbeats 4000000 in
set_option maxRecDepth 100000 in
theorem cX9_listen_ct (l : Launch) (D : va_G) (cy : Nat → ClassId) (ad : Nat → Nat) (u : Mem)  (out : (Bool × Mem)) (h : fX9_listen u = some out) : Met l yX9_listen (.code yX9_listen cX9_listen 3 (some .boolean) :: gw) rX9_listen (va_Pc [.ref (ad 207), .ref (ad 195)] (wv shX nX D cy ad u)) (qI shX nX D cy ad (bz out.1) out.2) 0 0 (rA ad nX) := by
  refine met_of (cc := cX9_listen) (nL := 3) (by decide) (Nat.le_of_ble_eq_true rfl) (fun p e s m below meth c C hr hlk => ?_)
  unfold fX9_listen at h
  show V shX nX D cy ad 3 p l e rX9_listen s m _ below meth c (MQ below (qI shX nX D cy ad (bz out.1) out.2) _ s 0 0 (rA ad nX)) 0 [(0, .ref (ad 207)), (1, .ref (ad 195))] [] u
  refine v_aload_n C 0 dX9_listen_0 rfl rfl ?_
  refine v_aload_n C 1 dX9_listen_1 rfl rfl ?_
  refine v_geti C pX_195 fd_X9_15 rfl dX9_listen_2 ?_
  refine v_bipush C (v := 7) dX9_listen_5 (by decide) ?_
  refine v_dia 18 (.int (if 7 < (u.1 195 9) then 0 else u.1 195 9)) [.ref (ad 207)] ?_ (fun hj => ?_)
  · refine v_puti C pX_207 fp_X9_21 rfl rfl rfl dX9_listen_18 ?_
    refine v_mem (fun u2 hu2 => ?_)
    have h := nmd hu2 h
    refine v_iconst C (v := 0) dX9_listen_21 (by decide) ?_
    refine v_istore_n C [(2, .int 0), (0, .ref (ad 207)), (1, .ref (ad 195))] dX9_listen_22 rfl (by decide) rfl ?_
    refine v_sub [1, 2, 0] rfl ?_
    refine kX9_listen_L23 C hr hlk    fu0 0 u2 h
  · refine p_icmp_gt C 17 dX9_listen_7 (by decide) (fun z1 => ?_) (fun z1 => ?_)
    · refine v_iconst C (v := 0) dX9_listen_17 (by decide) ?_
      exact v_top (by rw [if_pos z1]; first | done | rfl) hj
    · refine v_aload_n C 1 dX9_listen_10 rfl rfl ?_
      refine v_geti C pX_195 fd_X9_15 rfl dX9_listen_11 ?_
      refine v_goto C 18 dX9_listen_14 (by decide) ?_
      exact v_top (by rw [if_neg z1]; first | done | rfl) hj
def rX9_countBelow : Room := { frames := 0, cells := 0, slots := 0, locals := 0 }
def fX9_countBelow_J72 (Rc13 : Int32 → Int64 → Int64 → Bool → Int32 → Option Int32) (a1 : Int32) (a2 : Int32) (a3 : Int64) (a5 : Int64) (a7 : Bool) (a8 : Int32) (a9 : Int64) (a11 : Int64) (u : Mem) : Option Int32 := (if inB a8 7 then (if ((((((u.1 208 a8.toNatClampNeg).toInt64) + a9) - a1.toInt64) * a5) - ((a11 * a11) * a3)) = 0 then Rc13 a2 a5 ((((((u.1 208 a8.toNatClampNeg).toInt64) + a9) - a1.toInt64) * a5) - ((a11 * a11) * a3)) a7 (a8 + 1) else ((some (((if 0 ≤ ((((((u.1 208 a8.toNatClampNeg).toInt64) + a9) - a1.toInt64) * a5) - ((a11 * a11) * a3)) then 0 else 1) : Int32))).bind fun x6 => (if x6 = (bz a7) then Rc13 a2 a5 ((((((u.1 208 a8.toNatClampNeg).toInt64) + a9) - a1.toInt64) * a5) - ((a11 * a11) * a3)) a7 (a8 + 1) else Rc13 (a2 + 1) a5 ((((((u.1 208 a8.toNatClampNeg).toInt64) + a9) - a1.toInt64) * a5) - ((a11 * a11) * a3)) (if a7 = true then false else true) (a8 + 1)))) else none)
def fX9_countBelow_J47 (Rc13 : Int32 → Int64 → Int64 → Bool → Int32 → Option Int32) (a1 : Int32) (a2 : Int32) (a3 : Int64) (a5 : Int64) (a7 : Bool) (a8 : Int32) (s0 : Int64) (u : Mem) : Option Int32 := (if inB a8 7 then (if ((u.1 208 a8.toNatClampNeg).toInt64) = 0 then fX9_countBelow_J72 Rc13 a1 a2 a3 1 false a8 s0 ((u.1 208 a8.toNatClampNeg).toInt64) u else fX9_countBelow_J72 Rc13 a1 a2 a3 a5 a7 a8 s0 ((u.1 208 a8.toNatClampNeg).toInt64) u) else none)
def fX9_countBelow_L13 (a1 : Int32) (u : Mem) : Nat → Int32 → Int64 → Int64 → Bool → Int32 → Option Int32
  | 0, _, _, _, _, _ => none
  | t + 1, a2, a3, a5, a7, a8 => (if (u.1 207 1) ≤ a8 then (some a2) else (if (u.1 207 1) ≤ (a8 + 1) then fX9_countBelow_J47 (fX9_countBelow_L13 a1 u t) a1 a2 a3 a5 a7 a8 0 u else (if inB (a8 + 1) 7 then fX9_countBelow_J47 (fX9_countBelow_L13 a1 u t) a1 a2 a3 a5 a7 a8 ((u.1 208 (a8 + 1).toNatClampNeg).toInt64) u else none)))
def fX9_countBelow (a1 : Int32) (u : Mem) : Option Int32 := fX9_countBelow_L13 a1 u fu0 0 0 1 false 0
set_option maxHeartbeats 4000000 in
set_option maxRecDepth 100000 in
theorem kX9_countBelow_J72 {l : Launch} {D : va_G} {cy : Nat → ClassId} {ad : Nat → Nat} {p : Program} {e : Env} {s : State} {m : MethodId} {args : Array Value} {below : List Frame} {meth : Method} {c : Code} (C : Cx nX D cy ad 15 cX9_countBelow RX9 rX9_countBelow p s m args c) (hr : meth.sig.returnType = some .int) (hlk : meth.locks = false) {out : Int32} (Rc13 : Int32 → Int64 → Int64 → Bool → Int32 → Option Int32)  (a1 : Int32) (a2 : Int32) (a3 : Int64) (a5 : Int64) (a7 : Bool) (a8 : Int32) (a9 : Int64) (a11 : Int64) (u : Mem)  (hRc13 : ∀ (a2 : Int32) (a3 : Int64) (a5 : Int64) (a7 : Bool) (a8 : Int32), Rc13 a2 a3 a5 a7 a8 = some out → V shX nX D cy ad 15 p l e rX9_countBelow s m args below meth c (MQ below (qI shX nX D cy ad out u) args s 0 0 (rA ad nX)) 13 [(0, .ref (ad 207)), (1, .int a1), (2, .int a2), (3, .long a3), (5, .long a5), (7, .int (bz a7)), (8, .int a8)] [] u) (h : fX9_countBelow_J72 Rc13 a1 a2 a3 a5 a7 a8 a9 a11 u = some out) : V shX nX D cy ad 15 p l e rX9_countBelow s m args below meth c (MQ below (qI shX nX D cy ad out u) args s 0 0 (rA ad nX)) 72 [(0, .ref (ad 207)), (1, .int a1), (2, .int a2), (3, .long a3), (5, .long a5), (7, .int (bz a7)), (8, .int a8), (9, .long a9), (11, .long a11)] [] u := by
  unfold fX9_countBelow_J72 at h
  refine v_aload_n C 0 dX9_countBelow_72 rfl rfl ?_
  refine v_getr C pX_207 fd_X9_9 rfl dX9_countBelow_73 ?_
  refine v_iload C 6 dX9_countBelow_76 rfl ?_
  refine v_iald C pX_208 dX9_countBelow_78 h (fun h => ?_)
  refine v_i2l C dX9_countBelow_79 ?_
  refine v_lload C 7 dX9_countBelow_80 rfl ?_
  refine v_ladd C dX9_countBelow_82 ?_
  refine v_iload_n C 1 dX9_countBelow_83 rfl rfl ?_
  refine v_i2l C dX9_countBelow_84 ?_
  refine v_lsub C dX9_countBelow_85 ?_
  refine v_lload C 4 dX9_countBelow_86 rfl ?_
  refine v_lmul C dX9_countBelow_88 ?_
  refine v_lload C 8 dX9_countBelow_89 rfl ?_
  refine v_lload C 8 dX9_countBelow_91 rfl ?_
  refine v_lmul C dX9_countBelow_93 ?_
  refine v_lload_n C 3 dX9_countBelow_94 rfl rfl ?_
  refine v_lmul C dX9_countBelow_95 ?_
  refine v_lsub C dX9_countBelow_96 ?_
  refine v_lstore C [(13, .long ((((((u.1 208 a8.toNatClampNeg).toInt64) + a9) - a1.toInt64) * a5) - ((a11 * a11) * a3))), (0, .ref (ad 207)), (1, .int a1), (2, .int a2), (3, .long a3), (5, .long a5), (7, .int (bz a7)), (8, .int a8), (9, .long a9), (11, .long a11)] dX9_countBelow_97 (by decide) rfl ?_
  refine v_lload C 0 dX9_countBelow_99 rfl ?_
  refine v_lconst C (v := 0) dX9_countBelow_101 (by decide) ?_
  refine v_lcmp_eq C 138 dX9_countBelow_102 dX9_countBelow_103 (by decide) h (fun h => ?_) (fun h => ?_)
  · refine v_lload C 5 dX9_countBelow_138 rfl ?_
    refine v_lstore_n C [(3, .long a5), (13, .long ((((((u.1 208 a8.toNatClampNeg).toInt64) + a9) - a1.toInt64) * a5) - ((a11 * a11) * a3))), (0, .ref (ad 207)), (1, .int a1), (2, .int a2), (5, .long a5), (7, .int (bz a7)), (8, .int a8), (9, .long a9), (11, .long a11)] dX9_countBelow_140 rfl (by decide) rfl ?_
    refine v_lload C 1 dX9_countBelow_141 rfl ?_
    refine v_lstore C [(5, .long ((((((u.1 208 a8.toNatClampNeg).toInt64) + a9) - a1.toInt64) * a5) - ((a11 * a11) * a3))), (3, .long a5), (13, .long ((((((u.1 208 a8.toNatClampNeg).toInt64) + a9) - a1.toInt64) * a5) - ((a11 * a11) * a3))), (0, .ref (ad 207)), (1, .int a1), (2, .int a2), (7, .int (bz a7)), (8, .int a8), (9, .long a9), (11, .long a11)] dX9_countBelow_143 (by decide) rfl ?_
    refine v_iinc C 7 (v := a8 + 1) [(8, .int (a8 + 1)), (5, .long ((((((u.1 208 a8.toNatClampNeg).toInt64) + a9) - a1.toInt64) * a5) - ((a11 * a11) * a3))), (3, .long a5), (13, .long ((((((u.1 208 a8.toNatClampNeg).toInt64) + a9) - a1.toInt64) * a5) - ((a11 * a11) * a3))), (0, .ref (ad 207)), (1, .int a1), (2, .int a2), (7, .int (bz a7)), (9, .long a9), (11, .long a11)] dX9_countBelow_145 rfl rfl (by decide) rfl ?_
    refine v_goto C 13 dX9_countBelow_148 (by decide) ?_
    refine v_sub [4, 5, 6, 2, 1, 7, 0] rfl ?_
    exact hRc13 a2 a5 ((((((u.1 208 a8.toNatClampNeg).toInt64) + a9) - a1.toInt64) * a5) - ((a11 * a11) * a3)) a7 (a8 + 1) h
  · refine v_lload C 0 dX9_countBelow_106 rfl ?_
    refine v_lconst C (v := 0) dX9_countBelow_108 (by decide) ?_
    refine v_dia 118 (.int ((if 0 ≤ ((((((u.1 208 a8.toNatClampNeg).toInt64) + a9) - a1.toInt64) * a5) - ((a11 * a11) * a3)) then 0 else 1) : Int32)) [] ?_ (fun hj => ?_)
    · refine v_nmi (fun x6 hx6 => ?_)
      have h := nmd hx6 h
      refine v_iload C 6 dX9_countBelow_118 rfl ?_
      refine v_icmp_eq C 138 dX9_countBelow_120 (by decide) h (fun h => ?_) (fun h => ?_)
      · refine v_lload C 5 dX9_countBelow_138 rfl ?_
        refine v_lstore_n C [(3, .long a5), (13, .long ((((((u.1 208 a8.toNatClampNeg).toInt64) + a9) - a1.toInt64) * a5) - ((a11 * a11) * a3))), (0, .ref (ad 207)), (1, .int a1), (2, .int a2), (5, .long a5), (7, .int (bz a7)), (8, .int a8), (9, .long a9), (11, .long a11)] dX9_countBelow_140 rfl (by decide) rfl ?_
        refine v_lload C 1 dX9_countBelow_141 rfl ?_
        refine v_lstore C [(5, .long ((((((u.1 208 a8.toNatClampNeg).toInt64) + a9) - a1.toInt64) * a5) - ((a11 * a11) * a3))), (3, .long a5), (13, .long ((((((u.1 208 a8.toNatClampNeg).toInt64) + a9) - a1.toInt64) * a5) - ((a11 * a11) * a3))), (0, .ref (ad 207)), (1, .int a1), (2, .int a2), (7, .int (bz a7)), (8, .int a8), (9, .long a9), (11, .long a11)] dX9_countBelow_143 (by decide) rfl ?_
        refine v_iinc C 7 (v := a8 + 1) [(8, .int (a8 + 1)), (5, .long ((((((u.1 208 a8.toNatClampNeg).toInt64) + a9) - a1.toInt64) * a5) - ((a11 * a11) * a3))), (3, .long a5), (13, .long ((((((u.1 208 a8.toNatClampNeg).toInt64) + a9) - a1.toInt64) * a5) - ((a11 * a11) * a3))), (0, .ref (ad 207)), (1, .int a1), (2, .int a2), (7, .int (bz a7)), (9, .long a9), (11, .long a11)] dX9_countBelow_145 rfl rfl (by decide) rfl ?_
        refine v_goto C 13 dX9_countBelow_148 (by decide) ?_
        refine v_sub [4, 5, 6, 2, 1, 7, 0] rfl ?_
        exact hRc13 a2 a5 ((((((u.1 208 a8.toNatClampNeg).toInt64) + a9) - a1.toInt64) * a5) - ((a11 * a11) * a3)) a7 (a8 + 1) h
      · refine v_iinc C 3 (v := a2 + 1) [(2, .int (a2 + 1)), (13, .long ((((((u.1 208 a8.toNatClampNeg).toInt64) + a9) - a1.toInt64) * a5) - ((a11 * a11) * a3))), (0, .ref (ad 207)), (1, .int a1), (3, .long a3), (5, .long a5), (7, .int (bz a7)), (8, .int a8), (9, .long a9), (11, .long a11)] dX9_countBelow_123 rfl rfl (by decide) rfl ?_
        refine v_iload C 6 dX9_countBelow_126 rfl ?_
        refine v_dia 136 (.int (bz (if a7 = true then false else true))) [] ?_ (fun hj => ?_)
        · refine v_istore C [(7, .int (bz (if a7 = true then false else true))), (2, .int (a2 + 1)), (13, .long ((((((u.1 208 a8.toNatClampNeg).toInt64) + a9) - a1.toInt64) * a5) - ((a11 * a11) * a3))), (0, .ref (ad 207)), (1, .int a1), (3, .long a3), (5, .long a5), (8, .int a8), (9, .long a9), (11, .long a11)] dX9_countBelow_136 (by decide) rfl ?_
          refine v_lload C 6 dX9_countBelow_138 rfl ?_
          refine v_lstore_n C [(3, .long a5), (7, .int (bz (if a7 = true then false else true))), (2, .int (a2 + 1)), (13, .long ((((((u.1 208 a8.toNatClampNeg).toInt64) + a9) - a1.toInt64) * a5) - ((a11 * a11) * a3))), (0, .ref (ad 207)), (1, .int a1), (5, .long a5), (8, .int a8), (9, .long a9), (11, .long a11)] dX9_countBelow_140 rfl (by decide) rfl ?_
          refine v_lload C 3 dX9_countBelow_141 rfl ?_
          refine v_lstore C [(5, .long ((((((u.1 208 a8.toNatClampNeg).toInt64) + a9) - a1.toInt64) * a5) - ((a11 * a11) * a3))), (3, .long a5), (7, .int (bz (if a7 = true then false else true))), (2, .int (a2 + 1)), (13, .long ((((((u.1 208 a8.toNatClampNeg).toInt64) + a9) - a1.toInt64) * a5) - ((a11 * a11) * a3))), (0, .ref (ad 207)), (1, .int a1), (8, .int a8), (9, .long a9), (11, .long a11)] dX9_countBelow_143 (by decide) rfl ?_
          refine v_iinc C 7 (v := a8 + 1) [(8, .int (a8 + 1)), (5, .long ((((((u.1 208 a8.toNatClampNeg).toInt64) + a9) - a1.toInt64) * a5) - ((a11 * a11) * a3))), (3, .long a5), (7, .int (bz (if a7 = true then false else true))), (2, .int (a2 + 1)), (13, .long ((((((u.1 208 a8.toNatClampNeg).toInt64) + a9) - a1.toInt64) * a5) - ((a11 * a11) * a3))), (0, .ref (ad 207)), (1, .int a1), (9, .long a9), (11, .long a11)] dX9_countBelow_145 rfl rfl (by decide) rfl ?_
          refine v_goto C 13 dX9_countBelow_148 (by decide) ?_
          refine v_sub [6, 7, 4, 2, 1, 3, 0] rfl ?_
          exact hRc13 (a2 + 1) a5 ((((((u.1 208 a8.toNatClampNeg).toInt64) + a9) - a1.toInt64) * a5) - ((a11 * a11) * a3)) (if a7 = true then false else true) (a8 + 1) h
        · refine p_z_ne C 135 dX9_countBelow_128 (by decide) (fun z8 => ?_) (fun z8 => ?_)
          · refine v_iconst C (v := 0) dX9_countBelow_135 (by decide) ?_
            exact v_top (by rw [if_pos z8]; first | done | rfl) hj
          · refine v_iconst C (v := 1) dX9_countBelow_131 (by decide) ?_
            refine v_goto C 136 dX9_countBelow_132 (by decide) ?_
            exact v_top (by rw [if_neg z8]; first | done | rfl) hj
    · refine p_lcmp_ge C 117 dX9_countBelow_109 dX9_countBelow_110 (by decide) (fun z5 => ?_) (fun z5 => ?_)
      · refine v_iconst C (v := 0) dX9_countBelow_117 (by decide) ?_
        exact v_top (by rw [if_pos z5]; first | done | rfl) hj
      · refine v_iconst C (v := 1) dX9_countBelow_113 (by decide) ?_
        refine v_goto C 118 dX9_countBelow_114 (by decide) ?_
        exact v_top (by rw [if_neg z5]; first | done | rfl) hj
set_option maxHeartbeats 4000000 in
set_option maxRecDepth 100000 in
theorem kX9_countBelow_J47 {l : Launch} {D : va_G} {cy : Nat → ClassId} {ad : Nat → Nat} {p : Program} {e : Env} {s : State} {m : MethodId} {args : Array Value} {below : List Frame} {meth : Method} {c : Code} (C : Cx nX D cy ad 15 cX9_countBelow RX9 rX9_countBelow p s m args c) (hr : meth.sig.returnType = some .int) (hlk : meth.locks = false) {out : Int32} (Rc13 : Int32 → Int64 → Int64 → Bool → Int32 → Option Int32)  (a1 : Int32) (a2 : Int32) (a3 : Int64) (a5 : Int64) (a7 : Bool) (a8 : Int32) (s0 : Int64) (u : Mem)  (hRc13 : ∀ (a2 : Int32) (a3 : Int64) (a5 : Int64) (a7 : Bool) (a8 : Int32), Rc13 a2 a3 a5 a7 a8 = some out → V shX nX D cy ad 15 p l e rX9_countBelow s m args below meth c (MQ below (qI shX nX D cy ad out u) args s 0 0 (rA ad nX)) 13 [(0, .ref (ad 207)), (1, .int a1), (2, .int a2), (3, .long a3), (5, .long a5), (7, .int (bz a7)), (8, .int a8)] [] u) (h : fX9_countBelow_J47 Rc13 a1 a2 a3 a5 a7 a8 s0 u = some out) : V shX nX D cy ad 15 p l e rX9_countBelow s m args below meth c (MQ below (qI shX nX D cy ad out u) args s 0 0 (rA ad nX)) 47 [(0, .ref (ad 207)), (1, .int a1), (2, .int a2), (3, .long a3), (5, .long a5), (7, .int (bz a7)), (8, .int a8)] [.long s0] u := by
  unfold fX9_countBelow_J47 at h
  refine v_lstore C [(9, .long s0), (0, .ref (ad 207)), (1, .int a1), (2, .int a2), (3, .long a3), (5, .long a5), (7, .int (bz a7)), (8, .int a8)] dX9_countBelow_47 (by decide) rfl ?_
  refine v_aload_n C 1 dX9_countBelow_49 rfl rfl ?_
  refine v_getr C pX_207 fd_X9_9 rfl dX9_countBelow_50 ?_
  refine v_iload C 7 dX9_countBelow_53 rfl ?_
  refine v_iald C pX_208 dX9_countBelow_55 h (fun h => ?_)
  refine v_i2l C dX9_countBelow_56 ?_
  refine v_lstore C [(11, .long ((u.1 208 a8.toNatClampNeg).toInt64)), (9, .long s0), (0, .ref (ad 207)), (1, .int a1), (2, .int a2), (3, .long a3), (5, .long a5), (7, .int (bz a7)), (8, .int a8)] dX9_countBelow_57 (by decide) rfl ?_
  refine v_lload C 0 dX9_countBelow_59 rfl ?_
  refine v_lconst C (v := 0) dX9_countBelow_61 (by decide) ?_
  refine v_lcmp_ne C 72 dX9_countBelow_62 dX9_countBelow_63 (by decide) h (fun h => ?_) (fun h => ?_)
  · refine v_lconst C (v := 1) dX9_countBelow_66 (by decide) ?_
    refine v_lstore C [(5, .long 1), (11, .long ((u.1 208 a8.toNatClampNeg).toInt64)), (9, .long s0), (0, .ref (ad 207)), (1, .int a1), (2, .int a2), (3, .long a3), (7, .int (bz a7)), (8, .int a8)] dX9_countBelow_67 (by decide) rfl ?_
    refine v_iconst C (v := 0) dX9_countBelow_69 (by decide) ?_
    refine v_istore C [(7, .int 0), (5, .long 1), (11, .long ((u.1 208 a8.toNatClampNeg).toInt64)), (9, .long s0), (0, .ref (ad 207)), (1, .int a1), (2, .int a2), (3, .long a3), (8, .int a8)] dX9_countBelow_70 (by decide) rfl ?_
    refine v_sub [4, 5, 6, 7, 1, 0, 8, 3, 2] rfl ?_
    exact kX9_countBelow_J72 C hr hlk Rc13 a1 a2 a3 1 false a8 s0 ((u.1 208 a8.toNatClampNeg).toInt64) u hRc13 h
  · refine v_sub [2, 3, 4, 5, 6, 7, 8, 1, 0] rfl ?_
    exact kX9_countBelow_J72 C hr hlk Rc13 a1 a2 a3 a5 a7 a8 s0 ((u.1 208 a8.toNatClampNeg).toInt64) u hRc13 h
set_option maxHeartbeats 4000000 in
set_option maxRecDepth 100000 in
theorem kX9_countBelow_L13 {l : Launch} {D : va_G} {cy : Nat → ClassId} {ad : Nat → Nat} {p : Program} {e : Env} {s : State} {m : MethodId} {args : Array Value} {below : List Frame} {meth : Method} {c : Code} (C : Cx nX D cy ad 15 cX9_countBelow RX9 rX9_countBelow p s m args c) (hr : meth.sig.returnType = some .int) (hlk : meth.locks = false) (a1 : Int32)  (u : Mem) {out : Int32}  : ∀ (t : Nat) (a2 : Int32) (a3 : Int64) (a5 : Int64) (a7 : Bool) (a8 : Int32), fX9_countBelow_L13 a1 u t a2 a3 a5 a7 a8 = some out → V shX nX D cy ad 15 p l e rX9_countBelow s m args below meth c (MQ below (qI shX nX D cy ad out u) args s 0 0 (rA ad nX)) 13 [(0, .ref (ad 207)), (1, .int a1), (2, .int a2), (3, .long a3), (5, .long a5), (7, .int (bz a7)), (8, .int a8)] [] u := by
  intro t
  induction t with
  | zero => intro a2 a3 a5 a7 a8 h; rw [fX9_countBelow_L13] at h; cases h
  | succ t ih =>
    intro a2 a3 a5 a7 a8 h
    rw [fX9_countBelow_L13] at h
    refine v_iload C 6 dX9_countBelow_13 rfl ?_
    refine v_aload_n C 0 dX9_countBelow_15 rfl rfl ?_
    refine v_geti C pX_207 fd_X9_21 rfl dX9_countBelow_16 ?_
    refine v_icmp_ge C 151 dX9_countBelow_19 (by decide) h (fun h => ?_) (fun h => ?_)
    · refine v_iload_n C 2 dX9_countBelow_151 rfl rfl ?_
      cases h
      exact v_iret C hr hlk dX9_countBelow_152
    · refine v_iload C 6 dX9_countBelow_22 rfl ?_
      refine v_iconst C (v := 1) dX9_countBelow_24 (by decide) ?_
      refine v_iadd C dX9_countBelow_25 ?_
      refine v_aload_n C 0 dX9_countBelow_26 rfl rfl ?_
      refine v_geti C pX_207 fd_X9_21 rfl dX9_countBelow_27 ?_
      refine v_icmp_ge C 46 dX9_countBelow_30 (by decide) h (fun h => ?_) (fun h => ?_)
      · refine v_lconst C (v := 0) dX9_countBelow_46 (by decide) ?_
        exact kX9_countBelow_J47 C hr hlk (fX9_countBelow_L13 a1 u t) a1 a2 a3 a5 a7 a8 0 u ih h
      · refine v_aload_n C 0 dX9_countBelow_33 rfl rfl ?_
        refine v_getr C pX_207 fd_X9_9 rfl dX9_countBelow_34 ?_
        refine v_iload C 6 dX9_countBelow_37 rfl ?_
        refine v_iconst C (v := 1) dX9_countBelow_39 (by decide) ?_
        refine v_iadd C dX9_countBelow_40 ?_
        refine v_iald C pX_208 dX9_countBelow_41 h (fun h => ?_)
        refine v_i2l C dX9_countBelow_42 ?_
        refine v_goto C 47 dX9_countBelow_43 (by decide) ?_
        exact kX9_countBelow_J47 C hr hlk (fX9_countBelow_L13 a1 u t) a1 a2 a3 a5 a7 a8 ((u.1 208 (a8 + 1).toNatClampNeg).toInt64) u ih h
set_option maxHeartbeats 4000000 in
set_option maxRecDepth 100000 in
theorem cX9_countBelow_ct (l : Launch) (D : va_G) (cy : Nat → ClassId) (ad : Nat → Nat) (a1 : Int32) (u : Mem)  (out : Int32) (h : fX9_countBelow a1 u = some out) : Met l yX9_countBelow (.code yX9_countBelow cX9_countBelow 15 (some .int) :: gw) rX9_countBelow (va_Pc [.ref (ad 207), .int a1] (wv shX nX D cy ad u)) (qI shX nX D cy ad out u) 0 0 (rA ad nX) := by
  refine met_of (cc := cX9_countBelow) (nL := 15) (by decide) (Nat.le_of_ble_eq_true rfl) (fun p e s m below meth c C hr hlk => ?_)
  unfold fX9_countBelow at h
  show V shX nX D cy ad 15 p l e rX9_countBelow s m _ below meth c (MQ below (qI shX nX D cy ad out u) _ s 0 0 (rA ad nX)) 0 [(0, .ref (ad 207)), (1, .int a1)] [] u
  refine v_iconst C (v := 0) dX9_countBelow_0 (by decide) ?_
  refine v_istore_n C [(2, .int 0), (0, .ref (ad 207)), (1, .int a1)] dX9_countBelow_1 rfl (by decide) rfl ?_
  refine v_lconst C (v := 0) dX9_countBelow_2 (by decide) ?_
  refine v_lstore_n C [(3, .long 0), (2, .int 0), (0, .ref (ad 207)), (1, .int a1)] dX9_countBelow_3 rfl (by decide) rfl ?_
  refine v_lconst C (v := 1) dX9_countBelow_4 (by decide) ?_
  refine v_lstore C [(5, .long 1), (3, .long 0), (2, .int 0), (0, .ref (ad 207)), (1, .int a1)] dX9_countBelow_5 (by decide) rfl ?_
  refine v_iconst C (v := 0) dX9_countBelow_7 (by decide) ?_
  refine v_istore C [(7, .int 0), (5, .long 1), (3, .long 0), (2, .int 0), (0, .ref (ad 207)), (1, .int a1)] dX9_countBelow_8 (by decide) rfl ?_
  refine v_iconst C (v := 0) dX9_countBelow_10 (by decide) ?_
  refine v_istore C [(8, .int 0), (7, .int 0), (5, .long 1), (3, .long 0), (2, .int 0), (0, .ref (ad 207)), (1, .int a1)] dX9_countBelow_11 (by decide) rfl ?_
  refine v_sub [5, 6, 4, 3, 2, 1, 0] rfl ?_
  refine kX9_countBelow_L13 C hr hlk a1 u   fu0 0 0 1 false 0 h
def rX9_boxOf : Room := { frames := 1, cells := 0, slots := 0, locals := 34 }
def fX9_boxOf_L20 (a1 : Int32) (u : Mem) : Nat → Int32 → Int32 → Option Int32
  | 0, _, _ => none
  | t + 1, a2, a3 => (if a3 ≤ 0 then (some a2) else (if 400 < (a2 + a3) then fX9_boxOf_L20 a1 u t a2 (a3 / 2) else ((fX9_countBelow (a2 + a3) u).bind fun r6 => (if a1 < r6 then fX9_boxOf_L20 a1 u t a2 (a3 / 2) else fX9_boxOf_L20 a1 u t (a2 + a3) (a3 / 2)))))
def fX9_boxOf (a1 : Int32) (u : Mem) : Option Int32 := (if a1 < 0 then (some (-1)) else (if a1 < (u.1 207 1) then fX9_boxOf_L20 a1 u fu0 0 256 else (some (-1))))
set_option maxHeartbeats 4000000 in
set_option maxRecDepth 100000 in
theorem kX9_boxOf_L20 {l : Launch} {D : va_G} {cy : Nat → ClassId} {ad : Nat → Nat} {p : Program} {e : Env} {s : State} {m : MethodId} {args : Array Value} {below : List Frame} {meth : Method} {c : Code} (C : Cx nX D cy ad 4 cX9_boxOf RX9 rX9_boxOf p s m args c) (hr : meth.sig.returnType = some .int) (hlk : meth.locks = false) (a1 : Int32)  (u : Mem) {out : Int32}  : ∀ (t : Nat) (a2 : Int32) (a3 : Int32), fX9_boxOf_L20 a1 u t a2 a3 = some out → V shX nX D cy ad 4 p l e rX9_boxOf s m args below meth c (MQ below (qI shX nX D cy ad out u) args s 0 0 (rA ad nX)) 20 [(0, .ref (ad 207)), (1, .int a1), (2, .int a2), (3, .int a3)] [] u := by
  intro t
  induction t with
  | zero => intro a2 a3 h; rw [fX9_boxOf_L20] at h; cases h
  | succ t ih =>
    intro a2 a3 h
    rw [fX9_boxOf_L20] at h
    refine v_iload_n C 3 dX9_boxOf_20 rfl rfl ?_
    refine v_if_le C 55 dX9_boxOf_21 (by decide) h (fun h => ?_) (fun h => ?_)
    · refine v_iload_n C 2 dX9_boxOf_55 rfl rfl ?_
      cases h
      exact v_iret C hr hlk dX9_boxOf_56
    · refine v_iload_n C 2 dX9_boxOf_24 rfl rfl ?_
      refine v_iload_n C 3 dX9_boxOf_25 rfl rfl ?_
      refine v_iadd C dX9_boxOf_26 ?_
      refine v_sipush C (v := 400) dX9_boxOf_27 (by decide) ?_
      refine v_icmp_gt C 48 dX9_boxOf_30 (by decide) h (fun h => ?_) (fun h => ?_)
      · refine v_iload_n C 3 dX9_boxOf_48 rfl rfl ?_
        refine v_iconst C (v := 2) dX9_boxOf_49 (by decide) ?_
        refine v_idivN C dX9_boxOf_50 (by decide) ?_
        refine v_istore_n C [(3, .int (a3 / 2)), (0, .ref (ad 207)), (1, .int a1), (2, .int a2)] dX9_boxOf_51 rfl (by decide) rfl ?_
        refine v_goto C 20 dX9_boxOf_52 (by decide) ?_
        refine v_sub [1, 2, 3, 0] rfl ?_
        exact ih a2 (a3 / 2) h
      · refine v_aload_n C 0 dX9_boxOf_33 rfl rfl ?_
        refine v_iload_n C 2 dX9_boxOf_34 rfl rfl ?_
        refine v_iload_n C 3 dX9_boxOf_35 rfl rfl ?_
        refine v_iadd C dX9_boxOf_36 ?_
        obtain ⟨r6, hc5, h⟩ := bnd h
        refine v_callVi C [.int (a2 + a3)] (cX9_countBelow_ct l D cy ad (a2 + a3) u r6 hc5) ml_X9_27 pX_207 ⟨Nat.le_of_ble_eq_true rfl, Nat.le_of_ble_eq_true rfl⟩ ⟨rfl, rfl⟩ rfl rfl (Nat.le_of_ble_eq_true rfl) dX9_boxOf_37 ?_
        refine v_iload_n C 1 dX9_boxOf_40 rfl rfl ?_
        refine v_icmp_gt C 48 dX9_boxOf_41 (by decide) h (fun h => ?_) (fun h => ?_)
        · refine v_iload_n C 3 dX9_boxOf_48 rfl rfl ?_
          refine v_iconst C (v := 2) dX9_boxOf_49 (by decide) ?_
          refine v_idivN C dX9_boxOf_50 (by decide) ?_
          refine v_istore_n C [(3, .int (a3 / 2)), (0, .ref (ad 207)), (1, .int a1), (2, .int a2)] dX9_boxOf_51 rfl (by decide) rfl ?_
          refine v_goto C 20 dX9_boxOf_52 (by decide) ?_
          refine v_sub [1, 2, 3, 0] rfl ?_
          exact ih a2 (a3 / 2) h
        · refine v_iload_n C 2 dX9_boxOf_44 rfl rfl ?_
          refine v_iload_n C 3 dX9_boxOf_45 rfl rfl ?_
          refine v_iadd C dX9_boxOf_46 ?_
          refine v_istore_n C [(2, .int (a2 + a3)), (0, .ref (ad 207)), (1, .int a1), (3, .int a3)] dX9_boxOf_47 rfl (by decide) rfl ?_
          refine v_iload_n C 3 dX9_boxOf_48 rfl rfl ?_
          refine v_iconst C (v := 2) dX9_boxOf_49 (by decide) ?_
          refine v_idivN C dX9_boxOf_50 (by decide) ?_
          refine v_istore_n C [(3, .int (a3 / 2)), (2, .int (a2 + a3)), (0, .ref (ad 207)), (1, .int a1)] dX9_boxOf_51 rfl (by decide) rfl ?_
          refine v_goto C 20 dX9_boxOf_52 (by decide) ?_
          refine v_sub [2, 3, 1, 0] rfl ?_
          exact ih (a2 + a3) (a3 / 2) h
set_option maxHeartbeats 4000000 in
set_option maxRecDepth 100000 in
theorem cX9_boxOf_ct (l : Launch) (D : va_G) (cy : Nat → ClassId) (ad : Nat → Nat) (a1 : Int32) (u : Mem)  (out : Int32) (h : fX9_boxOf a1 u = some out) : Met l yX9_boxOf (.code yX9_boxOf cX9_boxOf 4 (some .int) :: gw) rX9_boxOf (va_Pc [.ref (ad 207), .int a1] (wv shX nX D cy ad u)) (qI shX nX D cy ad out u) 0 0 (rA ad nX) := by
  refine met_of (cc := cX9_boxOf) (nL := 4) (by decide) (Nat.le_of_ble_eq_true rfl) (fun p e s m below meth c C hr hlk => ?_)
  unfold fX9_boxOf at h
  show V shX nX D cy ad 4 p l e rX9_boxOf s m _ below meth c (MQ below (qI shX nX D cy ad out u) _ s 0 0 (rA ad nX)) 0 [(0, .ref (ad 207)), (1, .int a1)] [] u
  refine v_iload_n C 1 dX9_boxOf_0 rfl rfl ?_
  refine v_if_lt C 12 dX9_boxOf_1 (by decide) h (fun h => ?_) (fun h => ?_)
  · refine v_iconst C (v := (-1)) dX9_boxOf_12 (by decide) ?_
    cases h
    exact v_iret C hr hlk dX9_boxOf_13
  · refine v_iload_n C 1 dX9_boxOf_4 rfl rfl ?_
    refine v_aload_n C 0 dX9_boxOf_5 rfl rfl ?_
    refine v_geti C pX_207 fd_X9_21 rfl dX9_boxOf_6 ?_
    refine v_icmp_lt C 14 dX9_boxOf_9 (by decide) h (fun h => ?_) (fun h => ?_)
    · refine v_iconst C (v := 0) dX9_boxOf_14 (by decide) ?_
      refine v_istore_n C [(2, .int 0), (0, .ref (ad 207)), (1, .int a1)] dX9_boxOf_15 rfl (by decide) rfl ?_
      refine v_sipush C (v := 256) dX9_boxOf_16 (by decide) ?_
      refine v_istore_n C [(3, .int 256), (2, .int 0), (0, .ref (ad 207)), (1, .int a1)] dX9_boxOf_19 rfl (by decide) rfl ?_
      refine v_sub [2, 3, 1, 0] rfl ?_
      refine kX9_boxOf_L20 C hr hlk a1 u   fu0 0 256 h
    · refine v_iconst C (v := (-1)) dX9_boxOf_12 (by decide) ?_
      cases h
      exact v_iret C hr hlk dX9_boxOf_13
