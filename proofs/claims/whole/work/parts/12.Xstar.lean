def rX5_take : Room := { frames := 1, cells := 0, slots := 0, locals := 39 }
def fX5_take (a1 : Int32) (i2 : Nat) (u : Mem) : Option Mem := (some (srl (si u 193 1 a1) 194 (va_cpy ((si u 193 1 a1).2 (160 + 4 * i2 + 2)) ((si u 193 1 a1).2 194) 0 0 80)))
set_option maxHeartbeats 4000000 in
set_option maxRecDepth 100000 in
theorem cX5_take_ct (l : Launch) (D : va_G) (cy : Nat → ClassId) (ad : Nat → Nat) (a1 : Int32) (i2 : Nat) (u : Mem) (hi2 : i2 < 4) (out : Mem) (h : fX5_take a1 i2 u = some out) : Met l yX5_take (.code yX5_take cX5_take 3 (none) :: gw) rX5_take (va_Pc [.ref (ad 193), .int a1, .ref (ad (160 + 4 * i2 + 2))] (wv shX nX D cy ad u)) (qV shX nX D cy ad out) 0 0 (rA ad nX) := by
  refine met_of (cc := cX5_take) (nL := 3) (by decide) (Nat.le_of_ble_eq_true rfl) (fun p e s m below meth c C hr hlk => ?_)
  unfold fX5_take at h
  show V shX nX D cy ad 3 p l e rX5_take s m _ below meth c (MQ below (qV shX nX D cy ad out) _ s 0 0 (rA ad nX)) 0 [(0, .ref (ad 193)), (1, .int a1), (2, .ref (ad (160 + 4 * i2 + 2)))] [] u
  refine v_aload_n C 0 dX5_take_0 rfl rfl ?_
  refine v_iload_n C 1 dX5_take_1 rfl rfl ?_
  refine v_puti C pX_193 fp_X5_15 rfl rfl rfl dX5_take_2 ?_
  refine v_aload_n C 2 dX5_take_5 rfl rfl ?_
  refine v_iconst C (v := 0) dX5_take_6 (by decide) ?_
  refine v_aload_n C 0 dX5_take_7 rfl rfl ?_
  refine v_getr C pX_193 fd_X5_9 rfl dX5_take_8 ?_
  refine v_iconst C (v := 0) dX5_take_11 (by decide) ?_
  refine v_bipush C (v := 80) dX5_take_12 (by decide) ?_
  refine v_copyl C ac_X5_19 (pS_2 i2 hi2) pX_194 (sp0 := 0) (dp0 := 0) (n0 := 80) (by decide) (by decide) (by decide) (by decide) (by decide) (by decide) (by decide) (by decide) (Nat.le_of_ble_eq_true rfl) (Nat.le_of_ble_eq_true rfl) (Nat.le_of_ble_eq_true rfl) dX5_take_14 ?_
  cases h
  exact v_vret C hr hlk dX5_take_17
def rX5_compare : Room := { frames := 0, cells := 0, slots := 0, locals := 0 }
def fX5_compare_L7 (a1 : Nat) : Nat → Int32 → Mem → Option Mem
  | 0, _, _ => none
  | t + 1, a2, u => (if 80 ≤ a2 then (some u) else (if inB a2 80 then (if inB a2 80 then (if (u.2 194 a2.toNatClampNeg) = (u.2 (160 + 4 * a1 + 2) a2.toNatClampNeg) then fX5_compare_L7 a1 t (a2 + 1) u else fX5_compare_L7 a1 t (a2 + 1) (si (si u 193 2 ((u.1 193 2) + 1)) 193 3 a2)) else none) else none))
def fX5_compare (i1 : Nat) (u : Mem) : Option Mem := fX5_compare_L7 i1 fu0 0 (si u 193 2 0)
set_option maxHeartbeats 4000000 in
set_option maxRecDepth 100000 in
theorem kX5_compare_L7 {l : Launch} {D : va_G} {cy : Nat → ClassId} {ad : Nat → Nat} {p : Program} {e : Env} {s : State} {m : MethodId} {args : Array Value} {below : List Frame} {meth : Method} {c : Code} (C : Cx nX D cy ad 3 cX5_compare RX5 rX5_compare p s m args c) (hr : meth.sig.returnType = none) (hlk : meth.locks = false) (a1 : Nat) (ha1 : a1 < 4) {out : Mem}  : ∀ (t : Nat) (a2 : Int32) (u : Mem), fX5_compare_L7 a1 t a2 u = some out → V shX nX D cy ad 3 p l e rX5_compare s m args below meth c (MQ below (qV shX nX D cy ad out) args s 0 0 (rA ad nX)) 7 [(0, .ref (ad 193)), (1, .ref (ad (160 + 4 * a1 + 2))), (2, .int a2)] [] u := by
  intro t
  induction t with
  | zero => intro a2 u h; rw [fX5_compare_L7] at h; cases h
  | succ t ih =>
    intro a2 u h
    rw [fX5_compare_L7] at h
    refine v_iload_n C 2 dX5_compare_7 rfl rfl ?_
    refine v_bipush C (v := 80) dX5_compare_8 (by decide) ?_
    refine v_icmp_ge C 47 dX5_compare_10 (by decide) h (fun h => ?_) (fun h => ?_)
    · cases h
      exact v_vret C hr hlk dX5_compare_47
    · refine v_aload_n C 0 dX5_compare_13 rfl rfl ?_
      refine v_getr C pX_193 fd_X5_9 rfl dX5_compare_14 ?_
      refine v_iload_n C 2 dX5_compare_17 rfl rfl ?_
      refine v_lald C pX_194 dX5_compare_18 h (fun h => ?_)
      refine v_aload_n C 1 dX5_compare_19 rfl rfl ?_
      refine v_iload_n C 2 dX5_compare_20 rfl rfl ?_
      refine v_lald C (pS_2 a1 ha1) dX5_compare_21 h (fun h => ?_)
      refine v_lcmp_eq C 41 dX5_compare_22 dX5_compare_23 (by decide) h (fun h => ?_) (fun h => ?_)
      · refine v_iinc C 2 (v := a2 + 1) [(2, .int (a2 + 1)), (0, .ref (ad 193)), (1, .ref (ad (160 + 4 * a1 + 2)))] dX5_compare_41 rfl rfl (by decide) rfl ?_
        refine v_goto C 7 dX5_compare_44 (by decide) ?_
        refine v_sub [1, 2, 0] rfl ?_
        exact ih (a2 + 1) u h
      · refine v_aload_n C 0 dX5_compare_26 rfl rfl ?_
        refine v_dup C rfl dX5_compare_27 ?_
        refine v_geti C pX_193 fd_X5_25 rfl dX5_compare_28 ?_
        refine v_iconst C (v := 1) dX5_compare_31 (by decide) ?_
        refine v_iadd C dX5_compare_32 ?_
        refine v_puti C pX_193 fp_X5_25 rfl rfl rfl dX5_compare_33 ?_
        refine v_aload_n C 0 dX5_compare_36 rfl rfl ?_
        refine v_iload_n C 2 dX5_compare_37 rfl rfl ?_
        refine v_puti C pX_193 fp_X5_28 rfl rfl rfl dX5_compare_38 ?_
        refine v_iinc C 2 (v := a2 + 1) [(2, .int (a2 + 1)), (0, .ref (ad 193)), (1, .ref (ad (160 + 4 * a1 + 2)))] dX5_compare_41 rfl rfl (by decide) rfl ?_
        refine v_goto C 7 dX5_compare_44 (by decide) ?_
        refine v_sub [1, 2, 0] rfl ?_
        exact ih (a2 + 1) (si (si u 193 2 ((u.1 193 2) + 1)) 193 3 a2) h
set_option maxHeartbeats 4000000 in
set_option maxRecDepth 100000 in
theorem cX5_compare_ct (l : Launch) (D : va_G) (cy : Nat → ClassId) (ad : Nat → Nat) (i1 : Nat) (u : Mem) (hi1 : i1 < 4) (out : Mem) (h : fX5_compare i1 u = some out) : Met l yX5_compare (.code yX5_compare cX5_compare 3 (none) :: gw) rX5_compare (va_Pc [.ref (ad 193), .ref (ad (160 + 4 * i1 + 2))] (wv shX nX D cy ad u)) (qV shX nX D cy ad out) 0 0 (rA ad nX) := by
  refine met_of (cc := cX5_compare) (nL := 3) (by decide) (Nat.le_of_ble_eq_true rfl) (fun p e s m below meth c C hr hlk => ?_)
  unfold fX5_compare at h
  show V shX nX D cy ad 3 p l e rX5_compare s m _ below meth c (MQ below (qV shX nX D cy ad out) _ s 0 0 (rA ad nX)) 0 [(0, .ref (ad 193)), (1, .ref (ad (160 + 4 * i1 + 2)))] [] u
  refine v_aload_n C 0 dX5_compare_0 rfl rfl ?_
  refine v_iconst C (v := 0) dX5_compare_1 (by decide) ?_
  refine v_puti C pX_193 fp_X5_25 rfl rfl rfl dX5_compare_2 ?_
  refine v_iconst C (v := 0) dX5_compare_5 (by decide) ?_
  refine v_istore_n C [(2, .int 0), (0, .ref (ad 193)), (1, .ref (ad (160 + 4 * i1 + 2)))] dX5_compare_6 rfl (by decide) rfl ?_
  refine v_sub [1, 2, 0] rfl ?_
  refine kX5_compare_L7 C hr hlk i1 hi1   fu0 0 (si u 193 2 0) h
def rX7_copyFrom : Room := { frames := 1, cells := 0, slots := 0, locals := 39 }
def fX7_copyFrom_L38 (a0 : Nat) (a1 : Nat) (K62 : Mem → Option Mem) : Nat → Int32 → Mem → Option Mem
  | 0, _, _ => none
  | t + 1, a2, u => (if 80 ≤ a2 then K62 u else (if inB a2 80 then (if vp_nar .boolean (u.1 (160 + 4 * a1 + 3) a2.toNatClampNeg) = (u.1 (160 + 4 * a1 + 3) a2.toNatClampNeg) then (if inB a2 80 then ((some (si u (160 + 4 * a0 + 3) a2.toNatClampNeg (u.1 (160 + 4 * a1 + 3) a2.toNatClampNeg))).bind fun u4 => fX7_copyFrom_L38 a0 a1 K62 t (a2 + 1) u4) else none) else none) else none))
def fX7_copyFrom (i0 : Nat) (i1 : Nat) (u : Mem) : Option Mem := ((some (sr u (160 + 4 * i0 + 1) (va_cpy (u.1 (160 + 4 * i1 + 1)) (u.1 (160 + 4 * i0 + 1)) 0 0 96))).bind fun u1 => ((some (srl u1 (160 + 4 * i0 + 2) (va_cpy (u1.2 (160 + 4 * i1 + 2)) (u1.2 (160 + 4 * i0 + 2)) 0 0 80))).bind fun u2 => fX7_copyFrom_L38 i0 i1 (fun u5 => ((some (si u5 (160 + 4 * i0) 3 (u5.1 (160 + 4 * i1) 3))).bind fun u6 => ((some (si u6 (160 + 4 * i0) 4 (u6.1 (160 + 4 * i1) 4))).bind fun u7 => (some (si u7 (160 + 4 * i0) 5 (u7.1 (160 + 4 * i1) 5)))))) fu0 0 u2))
set_option maxHeartbeats 4000000 in
set_option maxRecDepth 100000 in
theorem kX7_copyFrom_L38 {l : Launch} {D : va_G} {cy : Nat → ClassId} {ad : Nat → Nat} {p : Program} {e : Env} {s : State} {m : MethodId} {args : Array Value} {below : List Frame} {meth : Method} {c : Code} (C : Cx nX D cy ad 3 cX7_copyFrom RX7 rX7_copyFrom p s m args c) (hr : meth.sig.returnType = none) (hlk : meth.locks = false) (a0 : Nat) (a1 : Nat) (ha0 : a0 < 4) (ha1 : a1 < 4) {out : Mem} (K62 : Mem → Option Mem) (hK62 : ∀ (w : Mem), K62 w = some out → V shX nX D cy ad 3 p l e rX7_copyFrom s m args below meth c (MQ below (qV shX nX D cy ad out) args s 0 0 (rA ad nX)) 62 [(0, .ref (ad (160 + 4 * a0))), (1, .ref (ad (160 + 4 * a1)))] [] w) : ∀ (t : Nat) (a2 : Int32) (u : Mem), fX7_copyFrom_L38 a0 a1 K62 t a2 u = some out → V shX nX D cy ad 3 p l e rX7_copyFrom s m args below meth c (MQ below (qV shX nX D cy ad out) args s 0 0 (rA ad nX)) 38 [(0, .ref (ad (160 + 4 * a0))), (1, .ref (ad (160 + 4 * a1))), (2, .int a2)] [] u := by
  intro t
  induction t with
  | zero => intro a2 u h; rw [fX7_copyFrom_L38] at h; cases h
  | succ t ih =>
    intro a2 u h
    rw [fX7_copyFrom_L38] at h
    refine v_iload_n C 2 dX7_copyFrom_38 rfl rfl ?_
    refine v_bipush C (v := 80) dX7_copyFrom_39 (by decide) ?_
    refine v_icmp_ge C 62 dX7_copyFrom_41 (by decide) h (fun h => ?_) (fun h => ?_)
    · refine v_sub [0, 1] rfl ?_
      exact hK62 u h
    · refine v_aload_n C 0 dX7_copyFrom_44 rfl rfl ?_
      refine v_getr C (pS_0 a0 ha0) fd_X7_19 rfl dX7_copyFrom_45 ?_
      refine v_iload_n C 2 dX7_copyFrom_48 rfl rfl ?_
      refine v_aload_n C 1 dX7_copyFrom_49 rfl rfl ?_
      refine v_getr C (pS_0 a1 ha1) fd_X7_19 rfl dX7_copyFrom_50 ?_
      refine v_iload_n C 2 dX7_copyFrom_53 rfl rfl ?_
      refine v_zald C (pS_3 a1 ha1) dX7_copyFrom_54 h (fun h => ?_)
      obtain ⟨hnz, h⟩ := chk h
      refine v_zast C (pS_3 a0 ha0) hnz dX7_copyFrom_55 h (fun h => ?_)
      refine v_mem (fun u4 hu4 => ?_)
      have h := nmd hu4 h
      refine v_iinc C 2 (v := a2 + 1) [(2, .int (a2 + 1)), (0, .ref (ad (160 + 4 * a0))), (1, .ref (ad (160 + 4 * a1)))] dX7_copyFrom_56 rfl rfl (by decide) rfl ?_
      refine v_goto C 38 dX7_copyFrom_59 (by decide) ?_
      refine v_sub [1, 2, 0] rfl ?_
      exact ih (a2 + 1) u4 h
set_option maxHeartbeats 4000000 in
set_option maxRecDepth 100000 in
theorem cX7_copyFrom_ct (l : Launch) (D : va_G) (cy : Nat → ClassId) (ad : Nat → Nat) (i0 : Nat) (i1 : Nat) (u : Mem) (hi0 : i0 < 4) (hi1 : i1 < 4) (out : Mem) (h : fX7_copyFrom i0 i1 u = some out) : Met l yX7_copyFrom (.code yX7_copyFrom cX7_copyFrom 3 (none) :: gw) rX7_copyFrom (va_Pc [.ref (ad (160 + 4 * i0)), .ref (ad (160 + 4 * i1))] (wv shX nX D cy ad u)) (qV shX nX D cy ad out) 0 0 (rA ad nX) := by
  refine met_of (cc := cX7_copyFrom) (nL := 3) (by decide) (Nat.le_of_ble_eq_true rfl) (fun p e s m below meth c C hr hlk => ?_)
  unfold fX7_copyFrom at h
  show V shX nX D cy ad 3 p l e rX7_copyFrom s m _ below meth c (MQ below (qV shX nX D cy ad out) _ s 0 0 (rA ad nX)) 0 [(0, .ref (ad (160 + 4 * i0))), (1, .ref (ad (160 + 4 * i1)))] [] u
  refine v_aload_n C 1 dX7_copyFrom_0 rfl rfl ?_
  refine v_getr C (pS_0 i1 hi1) fd_X7_9 rfl dX7_copyFrom_1 ?_
  refine v_iconst C (v := 0) dX7_copyFrom_4 (by decide) ?_
  refine v_aload_n C 0 dX7_copyFrom_5 rfl rfl ?_
  refine v_getr C (pS_0 i0 hi0) fd_X7_9 rfl dX7_copyFrom_6 ?_
  refine v_iconst C (v := 0) dX7_copyFrom_9 (by decide) ?_
  refine v_aload_n C 0 dX7_copyFrom_10 rfl rfl ?_
  refine v_getr C (pS_0 i0 hi0) fd_X7_9 rfl dX7_copyFrom_11 ?_
  refine v_alen0 C (pS_1 i0 hi0) (v := 96) (by decide) dX7_copyFrom_14 ?_
  refine v_copyi C ac_X7_30 (pS_1 i1 hi1) (pS_1 i0 hi0) (sp0 := 0) (dp0 := 0) (n0 := 96) (by decide) (by decide) (by decide) (by decide) (by decide) (by decide) (by decide) (by decide) (Nat.le_of_ble_eq_true rfl) (Nat.le_of_ble_eq_true rfl) (Nat.le_of_ble_eq_true rfl) dX7_copyFrom_15 ?_
  refine v_mem (fun u1 hu1 => ?_)
  have h := nmd hu1 h
  refine v_aload_n C 1 dX7_copyFrom_18 rfl rfl ?_
  refine v_getr C (pS_0 i1 hi1) fd_X7_15 rfl dX7_copyFrom_19 ?_
  refine v_iconst C (v := 0) dX7_copyFrom_22 (by decide) ?_
  refine v_aload_n C 0 dX7_copyFrom_23 rfl rfl ?_
  refine v_getr C (pS_0 i0 hi0) fd_X7_15 rfl dX7_copyFrom_24 ?_
  refine v_iconst C (v := 0) dX7_copyFrom_27 (by decide) ?_
  refine v_aload_n C 0 dX7_copyFrom_28 rfl rfl ?_
  refine v_getr C (pS_0 i0 hi0) fd_X7_15 rfl dX7_copyFrom_29 ?_
  refine v_alen3 C (pS_2 i0 hi0) (v := 80) (by decide) dX7_copyFrom_32 ?_
  refine v_copyl C ac_X7_30 (pS_2 i1 hi1) (pS_2 i0 hi0) (sp0 := 0) (dp0 := 0) (n0 := 80) (by decide) (by decide) (by decide) (by decide) (by decide) (by decide) (by decide) (by decide) (Nat.le_of_ble_eq_true rfl) (Nat.le_of_ble_eq_true rfl) (Nat.le_of_ble_eq_true rfl) dX7_copyFrom_33 ?_
  refine v_mem (fun u2 hu2 => ?_)
  have h := nmd hu2 h
  refine v_iconst C (v := 0) dX7_copyFrom_36 (by decide) ?_
  refine v_istore_n C [(2, .int 0), (0, .ref (ad (160 + 4 * i0))), (1, .ref (ad (160 + 4 * i1)))] dX7_copyFrom_37 rfl (by decide) rfl ?_
  refine v_sub [1, 2, 0] rfl ?_
  refine kX7_copyFrom_L38 C hr hlk i0 i1 hi0 hi1 _ (fun u5 h => ?_) fu0 0 u2 h
  · refine v_aload_n C 0 dX7_copyFrom_62 rfl rfl ?_
    refine v_aload_n C 1 dX7_copyFrom_63 rfl rfl ?_
    refine v_geti C (pS_0 i1 hi1) fd_X7_36 rfl dX7_copyFrom_64 ?_
    refine v_puti C (pS_0 i0 hi0) fp_X7_36 rfl rfl rfl dX7_copyFrom_67 ?_
    refine v_mem (fun u6 hu6 => ?_)
    have h := nmd hu6 h
    refine v_aload_n C 0 dX7_copyFrom_70 rfl rfl ?_
    refine v_aload_n C 1 dX7_copyFrom_71 rfl rfl ?_
    refine v_geti C (pS_0 i1 hi1) fd_X7_23 rfl dX7_copyFrom_72 ?_
    refine v_puti C (pS_0 i0 hi0) fp_X7_23 rfl rfl rfl dX7_copyFrom_75 ?_
    refine v_mem (fun u7 hu7 => ?_)
    have h := nmd hu7 h
    refine v_aload_n C 0 dX7_copyFrom_78 rfl rfl ?_
    refine v_aload_n C 1 dX7_copyFrom_79 rfl rfl ?_
    refine v_geti C (pS_0 i1 hi1) fd_X7_27 rfl dX7_copyFrom_80 ?_
    refine v_puti C (pS_0 i0 hi0) fp_X7_27 rfl rfl rfl dX7_copyFrom_83 ?_
    cases h
    exact v_vret C hr hlk dX7_copyFrom_86
def rX7_partsOf : Room := { frames := 0, cells := 0, slots := 0, locals := 0 }
def fX7_partsOf (i0 : Nat) (a1 : Int32) (a2 : Int32) (u : Mem) : Option Int32 := (if inB ((a1 * 6) + a2) 96 then (some (u.1 (160 + 4 * i0 + 1) ((a1 * 6) + a2).toNatClampNeg)) else none)
set_option maxHeartbeats 4000000 in
set_option maxRecDepth 100000 in
theorem cX7_partsOf_ct (l : Launch) (D : va_G) (cy : Nat → ClassId) (ad : Nat → Nat) (i0 : Nat) (a1 : Int32) (a2 : Int32) (u : Mem) (hi0 : i0 < 4) (out : Int32) (h : fX7_partsOf i0 a1 a2 u = some out) : Met l yX7_partsOf (.code yX7_partsOf cX7_partsOf 3 (some .int) :: gw) rX7_partsOf (va_Pc [.ref (ad (160 + 4 * i0)), .int a1, .int a2] (wv shX nX D cy ad u)) (qI shX nX D cy ad out u) 0 0 (rA ad nX) := by
  refine met_of (cc := cX7_partsOf) (nL := 3) (by decide) (Nat.le_of_ble_eq_true rfl) (fun p e s m below meth c C hr hlk => ?_)
  unfold fX7_partsOf at h
  show V shX nX D cy ad 3 p l e rX7_partsOf s m _ below meth c (MQ below (qI shX nX D cy ad out u) _ s 0 0 (rA ad nX)) 0 [(0, .ref (ad (160 + 4 * i0))), (1, .int a1), (2, .int a2)] [] u
  refine v_aload_n C 0 dX7_partsOf_0 rfl rfl ?_
  refine v_getr C (pS_0 i0 hi0) fd_X7_9 rfl dX7_partsOf_1 ?_
  refine v_iload_n C 1 dX7_partsOf_4 rfl rfl ?_
  refine v_bipush C (v := 6) dX7_partsOf_5 (by decide) ?_
  refine v_imul C dX7_partsOf_7 ?_
  refine v_iload_n C 2 dX7_partsOf_8 rfl rfl ?_
  refine v_iadd C dX7_partsOf_9 ?_
  refine v_iald C (pS_1 i0 hi0) dX7_partsOf_10 h (fun h => ?_)
  cases h
  exact v_iret C hr hlk dX7_partsOf_11
def rX7_setParts : Room := { frames := 0, cells := 0, slots := 0, locals := 0 }
def fX7_setParts (i0 : Nat) (a1 : Int32) (a2 : Int32) (a3 : Int32) (u : Mem) : Option Mem := (if inB ((a1 * 6) + a2) 96 then (some (si u (160 + 4 * i0 + 1) ((a1 * 6) + a2).toNatClampNeg a3)) else none)
set_option maxHeartbeats 4000000 in
set_option maxRecDepth 100000 in
theorem cX7_setParts_ct (l : Launch) (D : va_G) (cy : Nat → ClassId) (ad : Nat → Nat) (i0 : Nat) (a1 : Int32) (a2 : Int32) (a3 : Int32) (u : Mem) (hi0 : i0 < 4) (out : Mem) (h : fX7_setParts i0 a1 a2 a3 u = some out) : Met l yX7_setParts (.code yX7_setParts cX7_setParts 4 (none) :: gw) rX7_setParts (va_Pc [.ref (ad (160 + 4 * i0)), .int a1, .int a2, .int a3] (wv shX nX D cy ad u)) (qV shX nX D cy ad out) 0 0 (rA ad nX) := by
  refine met_of (cc := cX7_setParts) (nL := 4) (by decide) (Nat.le_of_ble_eq_true rfl) (fun p e s m below meth c C hr hlk => ?_)
  unfold fX7_setParts at h
  show V shX nX D cy ad 4 p l e rX7_setParts s m _ below meth c (MQ below (qV shX nX D cy ad out) _ s 0 0 (rA ad nX)) 0 [(0, .ref (ad (160 + 4 * i0))), (1, .int a1), (2, .int a2), (3, .int a3)] [] u
  refine v_aload_n C 0 dX7_setParts_0 rfl rfl ?_
  refine v_getr C (pS_0 i0 hi0) fd_X7_9 rfl dX7_setParts_1 ?_
  refine v_iload_n C 1 dX7_setParts_4 rfl rfl ?_
  refine v_bipush C (v := 6) dX7_setParts_5 (by decide) ?_
  refine v_imul C dX7_setParts_7 ?_
  refine v_iload_n C 2 dX7_setParts_8 rfl rfl ?_
  refine v_iadd C dX7_setParts_9 ?_
  refine v_iload_n C 3 dX7_setParts_10 rfl rfl ?_
  refine v_iast C (pS_1 i0 hi0) dX7_setParts_11 h (fun h => ?_)
  cases h
  exact v_vret C hr hlk dX7_setParts_12
def rX7_weightOf : Room := { frames := 1, cells := 0, slots := 0, locals := 22 }
def fX7_weightOf_L5 (a0 : Nat) (a1 : Int32) (a2 : Nat) (u : Mem) : Nat → Int32 → Int32 → Option Int32
  | 0, _, _ => none
  | t + 1, a3, a4 => (if 6 ≤ a4 then (some a3) else ((fX7_partsOf a0 a1 a4 u).bind fun r3 => (if inB a4 6 then fX7_weightOf_L5 a0 a1 a2 u t (a3 + (r3 * (u.1 (5 * a2 + 1) a4.toNatClampNeg))) (a4 + 1) else none)))
def fX7_weightOf (i0 : Nat) (a1 : Int32) (i2 : Nat) (u : Mem) : Option Int32 := fX7_weightOf_L5 i0 a1 i2 u fu0 0 0
set_option maxHeartbeats 4000000 in
set_option maxRecDepth 100000 in
theorem kX7_weightOf_L5 {l : Launch} {D : va_G} {cy : Nat → ClassId} {ad : Nat → Nat} {p : Program} {e : Env} {s : State} {m : MethodId} {args : Array Value} {below : List Frame} {meth : Method} {c : Code} (C : Cx nX D cy ad 5 cX7_weightOf RX7 rX7_weightOf p s m args c) (hr : meth.sig.returnType = some .int) (hlk : meth.locks = false) (a0 : Nat) (a1 : Int32) (a2 : Nat) (ha0 : a0 < 4) (ha2 : a2 < 32) (u : Mem) {out : Int32}  : ∀ (t : Nat) (a3 : Int32) (a4 : Int32), fX7_weightOf_L5 a0 a1 a2 u t a3 a4 = some out → V shX nX D cy ad 5 p l e rX7_weightOf s m args below meth c (MQ below (qI shX nX D cy ad out u) args s 0 0 (rA ad nX)) 5 [(0, .ref (ad (160 + 4 * a0))), (1, .int a1), (2, .ref (ad (5 * a2))), (3, .int a3), (4, .int a4)] [] u := by
  intro t
  induction t with
  | zero => intro a3 a4 h; rw [fX7_weightOf_L5] at h; cases h
  | succ t ih =>
    intro a3 a4 h
    rw [fX7_weightOf_L5] at h
    refine v_iload C 4 dX7_weightOf_5 rfl ?_
    refine v_bipush C (v := 6) dX7_weightOf_7 (by decide) ?_
    refine v_icmp_ge C 36 dX7_weightOf_9 (by decide) h (fun h => ?_) (fun h => ?_)
    · refine v_iload_n C 3 dX7_weightOf_36 rfl rfl ?_
      cases h
      exact v_iret C hr hlk dX7_weightOf_37
    · refine v_iload_n C 3 dX7_weightOf_12 rfl rfl ?_
      refine v_aload_n C 0 dX7_weightOf_13 rfl rfl ?_
      refine v_iload_n C 1 dX7_weightOf_14 rfl rfl ?_
      refine v_iload C 4 dX7_weightOf_15 rfl ?_
      obtain ⟨r3, hc2, h⟩ := bnd h
      refine v_callVi C [.int a1, .int a4] (cX7_partsOf_ct l D cy ad a0 a1 a4 u ha0 r3 hc2) ml_X7_39 (pS_0 a0 ha0) ⟨Nat.le_of_ble_eq_true rfl, Nat.le_of_ble_eq_true rfl⟩ ⟨rfl, rfl⟩ rfl rfl (Nat.le_of_ble_eq_true rfl) dX7_weightOf_17 ?_
      refine v_aload_n C 2 dX7_weightOf_20 rfl rfl ?_
      refine v_getr C (pL_0 a2 ha2) fd_X7_43 rfl dX7_weightOf_21 ?_
      refine v_iload C 4 dX7_weightOf_24 rfl ?_
      refine v_iald C (pL_1 a2 ha2) dX7_weightOf_26 h (fun h => ?_)
      refine v_imul C dX7_weightOf_27 ?_
      refine v_iadd C dX7_weightOf_28 ?_
      refine v_istore_n C [(3, .int (a3 + (r3 * (u.1 (5 * a2 + 1) a4.toNatClampNeg)))), (0, .ref (ad (160 + 4 * a0))), (1, .int a1), (2, .ref (ad (5 * a2))), (4, .int a4)] dX7_weightOf_29 rfl (by decide) rfl ?_
      refine v_iinc C 4 (v := a4 + 1) [(4, .int (a4 + 1)), (3, .int (a3 + (r3 * (u.1 (5 * a2 + 1) a4.toNatClampNeg)))), (0, .ref (ad (160 + 4 * a0))), (1, .int a1), (2, .ref (ad (5 * a2)))] dX7_weightOf_30 rfl rfl (by decide) rfl ?_
      refine v_goto C 5 dX7_weightOf_33 (by decide) ?_
      refine v_sub [2, 3, 4, 1, 0] rfl ?_
      exact ih (a3 + (r3 * (u.1 (5 * a2 + 1) a4.toNatClampNeg))) (a4 + 1) h
set_option maxHeartbeats 4000000 in
set_option maxRecDepth 100000 in
theorem cX7_weightOf_ct (l : Launch) (D : va_G) (cy : Nat → ClassId) (ad : Nat → Nat) (i0 : Nat) (a1 : Int32) (i2 : Nat) (u : Mem) (hi0 : i0 < 4) (hi2 : i2 < 32) (out : Int32) (h : fX7_weightOf i0 a1 i2 u = some out) : Met l yX7_weightOf (.code yX7_weightOf cX7_weightOf 5 (some .int) :: gw) rX7_weightOf (va_Pc [.ref (ad (160 + 4 * i0)), .int a1, .ref (ad (5 * i2))] (wv shX nX D cy ad u)) (qI shX nX D cy ad out u) 0 0 (rA ad nX) := by
  refine met_of (cc := cX7_weightOf) (nL := 5) (by decide) (Nat.le_of_ble_eq_true rfl) (fun p e s m below meth c C hr hlk => ?_)
  unfold fX7_weightOf at h
  show V shX nX D cy ad 5 p l e rX7_weightOf s m _ below meth c (MQ below (qI shX nX D cy ad out u) _ s 0 0 (rA ad nX)) 0 [(0, .ref (ad (160 + 4 * i0))), (1, .int a1), (2, .ref (ad (5 * i2)))] [] u
  refine v_iconst C (v := 0) dX7_weightOf_0 (by decide) ?_
  refine v_istore_n C [(3, .int 0), (0, .ref (ad (160 + 4 * i0))), (1, .int a1), (2, .ref (ad (5 * i2)))] dX7_weightOf_1 rfl (by decide) rfl ?_
  refine v_iconst C (v := 0) dX7_weightOf_2 (by decide) ?_
  refine v_istore C [(4, .int 0), (3, .int 0), (0, .ref (ad (160 + 4 * i0))), (1, .int a1), (2, .ref (ad (5 * i2)))] dX7_weightOf_3 (by decide) rfl ?_
  refine v_sub [2, 3, 4, 1, 0] rfl ?_
  refine kX7_weightOf_L5 C hr hlk i0 a1 i2 hi0 hi2 u   fu0 0 0 h
def rX7_timesOf : Room := { frames := 1, cells := 0, slots := 0, locals := 23 }
def fX7_timesOf (i0 : Nat) (a1 : Int32) (a2 : Int32) (i3 : Nat) (a4 : Int32) (u : Mem) : Option Int32 := ((fX3_ofChain i3 a2 0 u).bind fun r2 => ((fX7_partsOf i0 a1 r2 u).bind fun r4 => ((fX3_ofChain i3 a2 1 u).bind fun r6 => ((fX11_cut r4 r6).bind fun r8 => (some (if a4 < r8 then a4 else r8))))))
set_option maxHeartbeats 4000000 in
set_option maxRecDepth 100000 in
theorem cX7_timesOf_ct (l : Launch) (D : va_G) (cy : Nat → ClassId) (ad : Nat → Nat) (i0 : Nat) (a1 : Int32) (a2 : Int32) (i3 : Nat) (a4 : Int32) (u : Mem) (hi0 : i0 < 4) (hi3 : i3 < 32) (out : Int32) (h : fX7_timesOf i0 a1 a2 i3 a4 u = some out) : Met l yX7_timesOf (.code yX7_timesOf cX7_timesOf 6 (some .int) :: gw) rX7_timesOf (va_Pc [.ref (ad (160 + 4 * i0)), .int a1, .int a2, .ref (ad (5 * i3)), .int a4] (wv shX nX D cy ad u)) (qI shX nX D cy ad out u) 0 0 (rA ad nX) := by
  refine met_of (cc := cX7_timesOf) (nL := 6) (by decide) (Nat.le_of_ble_eq_true rfl) (fun p e s m below meth c C hr hlk => ?_)
  unfold fX7_timesOf at h
  show V shX nX D cy ad 6 p l e rX7_timesOf s m _ below meth c (MQ below (qI shX nX D cy ad out u) _ s 0 0 (rA ad nX)) 0 [(0, .ref (ad (160 + 4 * i0))), (1, .int a1), (2, .int a2), (3, .ref (ad (5 * i3))), (4, .int a4)] [] u
  refine v_aload_n C 0 dX7_timesOf_0 rfl rfl ?_
  refine v_iload_n C 1 dX7_timesOf_1 rfl rfl ?_
  refine v_aload_n C 3 dX7_timesOf_2 rfl rfl ?_
  refine v_iload_n C 2 dX7_timesOf_3 rfl rfl ?_
  refine v_iconst C (v := 0) dX7_timesOf_4 (by decide) ?_
  obtain ⟨r2, hc1, h⟩ := bnd h
  refine v_callVi C [.int a2, .int 0] (cX3_ofChain_ct l D cy ad i3 a2 0 u hi3 r2 hc1) ml_X7_48 (pL_0 i3 hi3) ⟨Nat.le_of_ble_eq_true rfl, Nat.le_of_ble_eq_true rfl⟩ ⟨rfl, rfl⟩ rfl rfl (Nat.le_of_ble_eq_true rfl) dX7_timesOf_5 ?_
  obtain ⟨r4, hc3, h⟩ := bnd h
  refine v_callVi C [.int a1, .int r2] (cX7_partsOf_ct l D cy ad i0 a1 r2 u hi0 r4 hc3) ml_X7_39 (pS_0 i0 hi0) ⟨Nat.le_of_ble_eq_true rfl, Nat.le_of_ble_eq_true rfl⟩ ⟨rfl, rfl⟩ rfl rfl (Nat.le_of_ble_eq_true rfl) dX7_timesOf_8 ?_
  refine v_istore C [(5, .int r4), (0, .ref (ad (160 + 4 * i0))), (1, .int a1), (2, .int a2), (3, .ref (ad (5 * i3))), (4, .int a4)] dX7_timesOf_11 (by decide) rfl ?_
  refine v_iload C 0 dX7_timesOf_13 rfl ?_
  refine v_aload_n C 4 dX7_timesOf_15 rfl rfl ?_
  refine v_iload_n C 3 dX7_timesOf_16 rfl rfl ?_
  refine v_iconst C (v := 1) dX7_timesOf_17 (by decide) ?_
  obtain ⟨r6, hc5, h⟩ := bnd h
  refine v_callVi C [.int a2, .int 1] (cX3_ofChain_ct l D cy ad i3 a2 1 u hi3 r6 hc5) ml_X7_48 (pL_0 i3 hi3) ⟨Nat.le_of_ble_eq_true rfl, Nat.le_of_ble_eq_true rfl⟩ ⟨rfl, rfl⟩ rfl rfl (Nat.le_of_ble_eq_true rfl) dX7_timesOf_18 ?_
  obtain ⟨r8, hc7, h⟩ := bnd h
  refine v_callNi C [.int r4, .int r6] (cX11_cut_ct l D cy ad r4 r6 _ r8 hc7) ml_X7_51 ⟨Nat.le_of_ble_eq_true rfl, Nat.le_of_ble_eq_true rfl⟩ ⟨rfl, rfl⟩ rfl rfl (Nat.le_of_ble_eq_true rfl) dX7_timesOf_21 ?_
  refine v_iload C 5 dX7_timesOf_24 rfl ?_
  refine v_mmin C ma_X7_54 (Nat.le_of_ble_eq_true rfl) (Nat.le_of_ble_eq_true rfl) (Nat.le_of_ble_eq_true rfl) dX7_timesOf_26 ?_
  cases h
  exact v_iret C hr hlk dX7_timesOf_29
def rX7_burn : Room := { frames := 2, cells := 0, slots := 0, locals := 48 }
def fX7_burn (i0 : Nat) (a1 : Int32) (a2 : Int32) (i3 : Nat) (a4 : Int32) (u : Mem) : Option (Int64 × Mem) := ((fX3_ofChain i3 a2 2 u).bind fun r2 => ((fX3_ofChain i3 a2 3 u).bind fun r4 => ((fX7_timesOf i0 a1 a2 i3 a4 u).bind fun r6 => (if inB ((a1 * 6) + r2) 96 then ((fX11_cut (100000 - (u.1 (160 + 4 * i0 + 1) ((a1 * 6) + r2).toNatClampNeg)) r4).bind fun r8 => ((fX3_ofChain i3 a2 0 u).bind fun r10 => (if inB ((a1 * 6) + r10) 96 then ((fX3_ofChain i3 a2 1 u).bind fun r12 => ((some ((u.1 (160 + 4 * i0 + 1) ((a1 * 6) + r10).toNatClampNeg) - ((if r8 < r6 then r8 else r6) * r12))).bind fun x13 => (if inB ((a1 * 6) + r10) 96 then ((some (si u (160 + 4 * i0 + 1) ((a1 * 6) + r10).toNatClampNeg x13)).bind fun u14 => (if inB ((a1 * 6) + r2) 96 then ((some ((u14.1 (160 + 4 * i0 + 1) ((a1 * 6) + r2).toNatClampNeg) + ((if r8 < r6 then r8 else r6) * r4))).bind fun x15 => (if inB ((a1 * 6) + r2) 96 then ((some (si u14 (160 + 4 * i0 + 1) ((a1 * 6) + r2).toNatClampNeg x15)).bind fun u16 => ((fX3_ofChain i3 a2 4 u16).bind fun r18 => (if inB ((a1 * 5) + a2) 80 then ((some ((u16.2 (160 + 4 * i0 + 2) ((a1 * 5) + a2).toNatClampNeg) + (((if r8 < r6 then r8 else r6).toInt64) * r18.toInt64))).bind fun x19 => (if inB ((a1 * 5) + a2) 80 then ((some (sl u16 (160 + 4 * i0 + 2) ((a1 * 5) + a2).toNatClampNeg x19)).bind fun u20 => (some (((if r8 < r6 then r8 else r6).toInt64) * r18.toInt64, u20))) else none)) else none))) else none)) else none)) else none))) else none))) else none))))
set_option maxHeartbeats 4000000 in
set_option maxRecDepth 100000 in
theorem cX7_burn_ct (l : Launch) (D : va_G) (cy : Nat → ClassId) (ad : Nat → Nat) (i0 : Nat) (a1 : Int32) (a2 : Int32) (i3 : Nat) (a4 : Int32) (u : Mem) (hi0 : i0 < 4) (hi3 : i3 < 32) (out : (Int64 × Mem)) (h : fX7_burn i0 a1 a2 i3 a4 u = some out) : Met l yX7_burn (.code yX7_burn cX7_burn 10 (some .long) :: gw) rX7_burn (va_Pc [.ref (ad (160 + 4 * i0)), .int a1, .int a2, .ref (ad (5 * i3)), .int a4] (wv shX nX D cy ad u)) (qL shX nX D cy ad out.1 out.2) 0 0 (rA ad nX) := by
  refine met_of (cc := cX7_burn) (nL := 10) (by decide) (Nat.le_of_ble_eq_true rfl) (fun p e s m below meth c C hr hlk => ?_)
  unfold fX7_burn at h
  show V shX nX D cy ad 10 p l e rX7_burn s m _ below meth c (MQ below (qL shX nX D cy ad out.1 out.2) _ s 0 0 (rA ad nX)) 0 [(0, .ref (ad (160 + 4 * i0))), (1, .int a1), (2, .int a2), (3, .ref (ad (5 * i3))), (4, .int a4)] [] u
  refine v_iload_n C 1 dX7_burn_0 rfl rfl ?_
  refine v_bipush C (v := 6) dX7_burn_1 (by decide) ?_
  refine v_imul C dX7_burn_3 ?_
  refine v_aload_n C 3 dX7_burn_4 rfl rfl ?_
  refine v_iload_n C 2 dX7_burn_5 rfl rfl ?_
  refine v_iconst C (v := 2) dX7_burn_6 (by decide) ?_
  obtain ⟨r2, hc1, h⟩ := bnd h
  refine v_callVi C [.int a2, .int 2] (cX3_ofChain_ct l D cy ad i3 a2 2 u hi3 r2 hc1) ml_X7_48 (pL_0 i3 hi3) ⟨Nat.le_of_ble_eq_true rfl, Nat.le_of_ble_eq_true rfl⟩ ⟨rfl, rfl⟩ rfl rfl (Nat.le_of_ble_eq_true rfl) dX7_burn_7 ?_
  refine v_iadd C dX7_burn_10 ?_
  refine v_istore C [(5, .int ((a1 * 6) + r2)), (0, .ref (ad (160 + 4 * i0))), (1, .int a1), (2, .int a2), (3, .ref (ad (5 * i3))), (4, .int a4)] dX7_burn_11 (by decide) rfl ?_
  refine v_aload_n C 4 dX7_burn_13 rfl rfl ?_
  refine v_iload_n C 3 dX7_burn_14 rfl rfl ?_
  refine v_iconst C (v := 3) dX7_burn_15 (by decide) ?_
  obtain ⟨r4, hc3, h⟩ := bnd h
  refine v_callVi C [.int a2, .int 3] (cX3_ofChain_ct l D cy ad i3 a2 3 u hi3 r4 hc3) ml_X7_48 (pL_0 i3 hi3) ⟨Nat.le_of_ble_eq_true rfl, Nat.le_of_ble_eq_true rfl⟩ ⟨rfl, rfl⟩ rfl rfl (Nat.le_of_ble_eq_true rfl) dX7_burn_16 ?_
  refine v_istore C [(6, .int r4), (5, .int ((a1 * 6) + r2)), (0, .ref (ad (160 + 4 * i0))), (1, .int a1), (2, .int a2), (3, .ref (ad (5 * i3))), (4, .int a4)] dX7_burn_19 (by decide) rfl ?_
  refine v_aload_n C 2 dX7_burn_21 rfl rfl ?_
  refine v_iload_n C 3 dX7_burn_22 rfl rfl ?_
  refine v_iload_n C 4 dX7_burn_23 rfl rfl ?_
  refine v_aload_n C 5 dX7_burn_24 rfl rfl ?_
  refine v_iload C 6 dX7_burn_25 rfl ?_
  obtain ⟨r6, hc5, h⟩ := bnd h
  refine v_callVi C [.int a1, .int a2, .ref (ad (5 * i3)), .int a4] (cX7_timesOf_ct l D cy ad i0 a1 a2 i3 a4 u hi0 hi3 r6 hc5) ml_X7_59 (pS_0 i0 hi0) ⟨Nat.le_of_ble_eq_true rfl, Nat.le_of_ble_eq_true rfl⟩ ⟨rfl, rfl⟩ rfl rfl (Nat.le_of_ble_eq_true rfl) dX7_burn_27 ?_
  refine v_ldc C kc_X7_63 dX7_burn_30 ?_
  refine v_aload_n C 2 dX7_burn_32 rfl rfl ?_
  refine v_getr C (pS_0 i0 hi0) fd_X7_9 rfl dX7_burn_33 ?_
  refine v_iload C 1 dX7_burn_36 rfl ?_
  refine v_iald C (pS_1 i0 hi0) dX7_burn_38 h (fun h => ?_)
  refine v_isub C dX7_burn_39 ?_
  refine v_iload C 0 dX7_burn_40 rfl ?_
  obtain ⟨r8, hc7, h⟩ := bnd h
  refine v_callNi C [.int (100000 - (u.1 (160 + 4 * i0 + 1) ((a1 * 6) + r2).toNatClampNeg)), .int r4] (cX11_cut_ct l D cy ad (100000 - (u.1 (160 + 4 * i0 + 1) ((a1 * 6) + r2).toNatClampNeg)) r4 _ r8 hc7) ml_X7_51 ⟨Nat.le_of_ble_eq_true rfl, Nat.le_of_ble_eq_true rfl⟩ ⟨rfl, rfl⟩ rfl rfl (Nat.le_of_ble_eq_true rfl) dX7_burn_42 ?_
  refine v_mmin C ma_X7_54 (Nat.le_of_ble_eq_true rfl) (Nat.le_of_ble_eq_true rfl) (Nat.le_of_ble_eq_true rfl) dX7_burn_45 ?_
  refine v_istore C [(7, .int (if r8 < r6 then r8 else r6)), (6, .int r4), (5, .int ((a1 * 6) + r2)), (0, .ref (ad (160 + 4 * i0))), (1, .int a1), (2, .int a2), (3, .ref (ad (5 * i3))), (4, .int a4)] dX7_burn_48 (by decide) rfl ?_
  refine v_aload_n C 3 dX7_burn_50 rfl rfl ?_
  refine v_getr C (pS_0 i0 hi0) fd_X7_9 rfl dX7_burn_51 ?_
  refine v_iload_n C 4 dX7_burn_54 rfl rfl ?_
  refine v_bipush C (v := 6) dX7_burn_55 (by decide) ?_
  refine v_imul C dX7_burn_57 ?_
  refine v_aload_n C 6 dX7_burn_58 rfl rfl ?_
  refine v_iload_n C 5 dX7_burn_59 rfl rfl ?_
  refine v_iconst C (v := 0) dX7_burn_60 (by decide) ?_
  obtain ⟨r10, hc9, h⟩ := bnd h
  refine v_callVi C [.int a2, .int 0] (cX3_ofChain_ct l D cy ad i3 a2 0 u hi3 r10 hc9) ml_X7_48 (pL_0 i3 hi3) ⟨Nat.le_of_ble_eq_true rfl, Nat.le_of_ble_eq_true rfl⟩ ⟨rfl, rfl⟩ rfl rfl (Nat.le_of_ble_eq_true rfl) dX7_burn_61 ?_
  refine v_iadd C dX7_burn_64 ?_
  refine v_dup2 C rfl rfl dX7_burn_65 ?_
  refine v_iald C (pS_1 i0 hi0) dX7_burn_66 h (fun h => ?_)
  refine v_iload C 0 dX7_burn_67 rfl ?_
  refine v_aload_n C 6 dX7_burn_69 rfl rfl ?_
  refine v_iload_n C 5 dX7_burn_70 rfl rfl ?_
  refine v_iconst C (v := 1) dX7_burn_71 (by decide) ?_
  obtain ⟨r12, hc11, h⟩ := bnd h
  refine v_callVi C [.int a2, .int 1] (cX3_ofChain_ct l D cy ad i3 a2 1 u hi3 r12 hc11) ml_X7_48 (pL_0 i3 hi3) ⟨Nat.le_of_ble_eq_true rfl, Nat.le_of_ble_eq_true rfl⟩ ⟨rfl, rfl⟩ rfl rfl (Nat.le_of_ble_eq_true rfl) dX7_burn_72 ?_
  refine v_imul C dX7_burn_75 ?_
  refine v_isub C dX7_burn_76 ?_
  refine v_nmi (fun x13 hx13 => ?_)
  have h := nmd hx13 h
  refine v_iast C (pS_1 i0 hi0) dX7_burn_77 h (fun h => ?_)
  refine v_mem (fun u14 hu14 => ?_)
  have h := nmd hu14 h
  refine v_aload_n C 3 dX7_burn_78 rfl rfl ?_
  refine v_getr C (pS_0 i0 hi0) fd_X7_9 rfl dX7_burn_79 ?_
  refine v_iload C 2 dX7_burn_82 rfl ?_
  refine v_dup2 C rfl rfl dX7_burn_84 ?_
  refine v_iald C (pS_1 i0 hi0) dX7_burn_85 h (fun h => ?_)
  refine v_iload C 0 dX7_burn_86 rfl ?_
  refine v_iload C 1 dX7_burn_88 rfl ?_
  refine v_imul C dX7_burn_90 ?_
  refine v_iadd C dX7_burn_91 ?_
  refine v_nmi (fun x15 hx15 => ?_)
  have h := nmd hx15 h
  refine v_iast C (pS_1 i0 hi0) dX7_burn_92 h (fun h => ?_)
  refine v_mem (fun u16 hu16 => ?_)
  have h := nmd hu16 h
  refine v_iload C 0 dX7_burn_93 rfl ?_
  refine v_i2l C dX7_burn_95 ?_
  refine v_aload_n C 6 dX7_burn_96 rfl rfl ?_
  refine v_iload_n C 5 dX7_burn_97 rfl rfl ?_
  refine v_iconst C (v := 4) dX7_burn_98 (by decide) ?_
  obtain ⟨r18, hc17, h⟩ := bnd h
  refine v_callVi C [.int a2, .int 4] (cX3_ofChain_ct l D cy ad i3 a2 4 u16 hi3 r18 hc17) ml_X7_48 (pL_0 i3 hi3) ⟨Nat.le_of_ble_eq_true rfl, Nat.le_of_ble_eq_true rfl⟩ ⟨rfl, rfl⟩ rfl rfl (Nat.le_of_ble_eq_true rfl) dX7_burn_99 ?_
  refine v_i2l C dX7_burn_102 ?_
  refine v_lmul C dX7_burn_103 ?_
  refine v_lstore C [(8, .long (((if r8 < r6 then r8 else r6).toInt64) * r18.toInt64)), (7, .int (if r8 < r6 then r8 else r6)), (6, .int r4), (5, .int ((a1 * 6) + r2)), (0, .ref (ad (160 + 4 * i0))), (1, .int a1), (2, .int a2), (3, .ref (ad (5 * i3))), (4, .int a4)] dX7_burn_104 (by decide) rfl ?_
  refine v_aload_n C 4 dX7_burn_106 rfl rfl ?_
  refine v_getr C (pS_0 i0 hi0) fd_X7_15 rfl dX7_burn_107 ?_
  refine v_iload_n C 5 dX7_burn_110 rfl rfl ?_
  refine v_iconst C (v := 5) dX7_burn_111 (by decide) ?_
  refine v_imul C dX7_burn_112 ?_
  refine v_iload_n C 6 dX7_burn_113 rfl rfl ?_
  refine v_iadd C dX7_burn_114 ?_
  refine v_dup2 C rfl rfl dX7_burn_115 ?_
  refine v_lald C (pS_2 i0 hi0) dX7_burn_116 h (fun h => ?_)
  refine v_lload C 0 dX7_burn_117 rfl ?_
  refine v_ladd C dX7_burn_119 ?_
  refine v_nmj (fun x19 hx19 => ?_)
  have h := nmd hx19 h
  refine v_last C (pS_2 i0 hi0) dX7_burn_120 h (fun h => ?_)
  refine v_mem (fun u20 hu20 => ?_)
  have h := nmd hu20 h
  refine v_lload C 0 dX7_burn_121 rfl ?_
  cases h
  exact v_lret C hr hlk dX7_burn_123
def rX7_mix : Room := { frames := 1, cells := 0, slots := 0, locals := 23 }
def fX7_mix_L22 (a0 : Nat) (a1 : Int32) (a2 : Int32) (a3 : Int32) (a4 : Int32) (u : Mem) (K47 : Int32 → Option Mem) : Nat → Int32 → Int32 → Option Mem
  | 0, _, _ => none
  | t + 1, a5, a6 => (if a2 < a6 then K47 a5 else ((fX7_partsOf a0 a6 a4 u).bind fun r4 => fX7_mix_L22 a0 a1 a2 a3 a4 u K47 t (a5 + r4) (a6 + 1)))
def fX7_mix_L67 (a0 : Nat) (a1 : Int32) (a2 : Int32) (a3 : Int32) (a4 : Int32) (a6 : Int32) (a7 : Int32) (Rc9 : Int32 → Mem → Option Mem) : Nat → Int32 → Mem → Option Mem
  | 0, _, _ => none
  | t + 1, a8, u => (if a2 < a8 then Rc9 (a4 + 1) u else ((fX7_setParts a0 a8 a4 (if a7 ≤ (a8 - a1) then a6 else a6 + 1) u).bind fun u11 => fX7_mix_L67 a0 a1 a2 a3 a4 a6 a7 Rc9 t (a8 + 1) u11))
def fX7_mix_L9 (a0 : Nat) (a1 : Int32) (a2 : Int32) (a3 : Int32) : Nat → Int32 → Mem → Option Mem
  | 0, _, _ => none
  | t + 1, a4, u => (if 6 ≤ a4 then (some u) else fX7_mix_L22 a0 a1 a2 a3 a4 u (fun v5 => ((fX11_cut v5 a3).bind fun r7 => fX7_mix_L67 a0 a1 a2 a3 a4 r7 (v5 - (r7 * a3)) (fX7_mix_L9 a0 a1 a2 a3 t) fu0 a1 u)) fu0 0 a1)
def fX7_mix (i0 : Nat) (a1 : Int32) (a2 : Int32) (u : Mem) : Option Mem := fX7_mix_L9 i0 a1 a2 ((a2 - a1) + 1) fu0 0 u
set_option maxHeartbeats 4000000 in
set_option maxRecDepth 100000 in
theorem kX7_mix_L22 {l : Launch} {D : va_G} {cy : Nat → ClassId} {ad : Nat → Nat} {p : Program} {e : Env} {s : State} {m : MethodId} {args : Array Value} {below : List Frame} {meth : Method} {c : Code} (C : Cx nX D cy ad 9 cX7_mix RX7 rX7_mix p s m args c) (hr : meth.sig.returnType = none) (hlk : meth.locks = false) (a0 : Nat) (a1 : Int32) (a2 : Int32) (a3 : Int32) (a4 : Int32) (ha0 : a0 < 4) (u : Mem) {out : Mem} (K47 : Int32 → Option Mem) (hK47 : ∀ (a5 : Int32), K47 a5 = some out → V shX nX D cy ad 9 p l e rX7_mix s m args below meth c (MQ below (qV shX nX D cy ad out) args s 0 0 (rA ad nX)) 47 [(0, .ref (ad (160 + 4 * a0))), (1, .int a1), (2, .int a2), (3, .int a3), (4, .int a4), (5, .int a5)] [] u) : ∀ (t : Nat) (a5 : Int32) (a6 : Int32), fX7_mix_L22 a0 a1 a2 a3 a4 u K47 t a5 a6 = some out → V shX nX D cy ad 9 p l e rX7_mix s m args below meth c (MQ below (qV shX nX D cy ad out) args s 0 0 (rA ad nX)) 22 [(0, .ref (ad (160 + 4 * a0))), (1, .int a1), (2, .int a2), (3, .int a3), (4, .int a4), (5, .int a5), (6, .int a6)] [] u := by
  intro t
  induction t with
  | zero => intro a5 a6 h; rw [fX7_mix_L22] at h; cases h
  | succ t ih =>
    intro a5 a6 h
    rw [fX7_mix_L22] at h
    refine v_iload C 6 dX7_mix_22 rfl ?_
    refine v_iload_n C 2 dX7_mix_24 rfl rfl ?_
    refine v_icmp_gt C 47 dX7_mix_25 (by decide) h (fun h => ?_) (fun h => ?_)
    · refine v_sub [0, 1, 2, 3, 4, 5] rfl ?_
      exact hK47 a5 h
    · refine v_iload C 5 dX7_mix_28 rfl ?_
      refine v_aload_n C 0 dX7_mix_30 rfl rfl ?_
      refine v_iload C 6 dX7_mix_31 rfl ?_
      refine v_iload C 4 dX7_mix_33 rfl ?_
      obtain ⟨r4, hc3, h⟩ := bnd h
      refine v_callVi C [.int a6, .int a4] (cX7_partsOf_ct l D cy ad a0 a6 a4 u ha0 r4 hc3) ml_X7_39 (pS_0 a0 ha0) ⟨Nat.le_of_ble_eq_true rfl, Nat.le_of_ble_eq_true rfl⟩ ⟨rfl, rfl⟩ rfl rfl (Nat.le_of_ble_eq_true rfl) dX7_mix_35 ?_
      refine v_iadd C dX7_mix_38 ?_
      refine v_istore C [(5, .int (a5 + r4)), (0, .ref (ad (160 + 4 * a0))), (1, .int a1), (2, .int a2), (3, .int a3), (4, .int a4), (6, .int a6)] dX7_mix_39 (by decide) rfl ?_
      refine v_iinc C 6 (v := a6 + 1) [(6, .int (a6 + 1)), (5, .int (a5 + r4)), (0, .ref (ad (160 + 4 * a0))), (1, .int a1), (2, .int a2), (3, .int a3), (4, .int a4)] dX7_mix_41 rfl rfl (by decide) rfl ?_
      refine v_goto C 22 dX7_mix_44 (by decide) ?_
      refine v_sub [2, 3, 4, 5, 6, 1, 0] rfl ?_
      exact ih (a5 + r4) (a6 + 1) h
set_option maxHeartbeats 4000000 in
set_option maxRecDepth 100000 in
theorem kX7_mix_L67 {l : Launch} {D : va_G} {cy : Nat → ClassId} {ad : Nat → Nat} {p : Program} {e : Env} {s : State} {m : MethodId} {args : Array Value} {below : List Frame} {meth : Method} {c : Code} (C : Cx nX D cy ad 9 cX7_mix RX7 rX7_mix p s m args c) (hr : meth.sig.returnType = none) (hlk : meth.locks = false) (a0 : Nat) (a1 : Int32) (a2 : Int32) (a3 : Int32) (a4 : Int32) (a6 : Int32) (a7 : Int32) (ha0 : a0 < 4) {out : Mem} (Rc9 : Int32 → Mem → Option Mem) (hRc9 : ∀ (a4 : Int32) (w : Mem), Rc9 a4 w = some out → V shX nX D cy ad 9 p l e rX7_mix s m args below meth c (MQ below (qV shX nX D cy ad out) args s 0 0 (rA ad nX)) 9 [(0, .ref (ad (160 + 4 * a0))), (1, .int a1), (2, .int a2), (3, .int a3), (4, .int a4)] [] w) : ∀ (t : Nat) (a8 : Int32) (u : Mem), fX7_mix_L67 a0 a1 a2 a3 a4 a6 a7 Rc9 t a8 u = some out → V shX nX D cy ad 9 p l e rX7_mix s m args below meth c (MQ below (qV shX nX D cy ad out) args s 0 0 (rA ad nX)) 67 [(0, .ref (ad (160 + 4 * a0))), (1, .int a1), (2, .int a2), (3, .int a3), (4, .int a4), (6, .int a6), (7, .int a7), (8, .int a8)] [] u := by
  intro t
  induction t with
  | zero => intro a8 u h; rw [fX7_mix_L67] at h; cases h
  | succ t ih =>
    intro a8 u h
    rw [fX7_mix_L67] at h
    refine v_iload C 7 dX7_mix_67 rfl ?_
    refine v_iload_n C 2 dX7_mix_69 rfl rfl ?_
    refine v_icmp_gt C 105 dX7_mix_70 (by decide) h (fun h => ?_) (fun h => ?_)
    · refine v_iinc C 4 (v := a4 + 1) [(4, .int (a4 + 1)), (0, .ref (ad (160 + 4 * a0))), (1, .int a1), (2, .int a2), (3, .int a3), (6, .int a6), (7, .int a7), (8, .int a8)] dX7_mix_105 rfl rfl (by decide) rfl ?_
      refine v_goto C 9 dX7_mix_108 (by decide) ?_
      refine v_sub [1, 2, 3, 4, 0] rfl ?_
      exact hRc9 (a4 + 1) u h
    · refine v_aload_n C 0 dX7_mix_73 rfl rfl ?_
      refine v_iload C 7 dX7_mix_74 rfl ?_
      refine v_iload C 4 dX7_mix_76 rfl ?_
      refine v_iload C 7 dX7_mix_78 rfl ?_
      refine v_iload_n C 1 dX7_mix_80 rfl rfl ?_
      refine v_isub C dX7_mix_81 ?_
      refine v_iload C 6 dX7_mix_82 rfl ?_
      refine v_dia 96 (.int (if a7 ≤ (a8 - a1) then a6 else a6 + 1)) [.int a4, .int a8, .ref (ad (160 + 4 * a0))] ?_ (fun hj => ?_)
      · obtain ⟨u11, hc10, h⟩ := bnd h
        refine v_callVv C [.int a8, .int a4, .int (if a7 ≤ (a8 - a1) then a6 else a6 + 1)] (cX7_setParts_ct l D cy ad a0 a8 a4 (if a7 ≤ (a8 - a1) then a6 else a6 + 1) u ha0 u11 hc10) ml_X7_64 (pS_0 a0 ha0) ⟨Nat.le_of_ble_eq_true rfl, Nat.le_of_ble_eq_true rfl⟩ ⟨rfl, rfl⟩ rfl rfl (Nat.le_of_ble_eq_true rfl) dX7_mix_96 ?_
        refine v_iinc C 7 (v := a8 + 1) [(8, .int (a8 + 1)), (0, .ref (ad (160 + 4 * a0))), (1, .int a1), (2, .int a2), (3, .int a3), (4, .int a4), (6, .int a6), (7, .int a7)] dX7_mix_99 rfl rfl (by decide) rfl ?_
        refine v_goto C 67 dX7_mix_102 (by decide) ?_
        refine v_sub [1, 2, 3, 4, 5, 6, 7, 0] rfl ?_
        exact ih (a8 + 1) u11 h
      · refine p_icmp_ge C 94 dX7_mix_84 (by decide) (fun z9 => ?_) (fun z9 => ?_)
        · refine v_iload C 5 dX7_mix_94 rfl ?_
          exact v_top (by rw [if_pos z9]; first | done | rfl) hj
        · refine v_iload C 5 dX7_mix_87 rfl ?_
          refine v_iconst C (v := 1) dX7_mix_89 (by decide) ?_
          refine v_iadd C dX7_mix_90 ?_
          refine v_goto C 96 dX7_mix_91 (by decide) ?_
          exact v_top (by rw [if_neg z9]; first | done | rfl) hj
set_option maxHeartbeats 4000000 in
set_option maxRecDepth 100000 in
theorem kX7_mix_L9 {l : Launch} {D : va_G} {cy : Nat → ClassId} {ad : Nat → Nat} {p : Program} {e : Env} {s : State} {m : MethodId} {args : Array Value} {below : List Frame} {meth : Method} {c : Code} (C : Cx nX D cy ad 9 cX7_mix RX7 rX7_mix p s m args c) (hr : meth.sig.returnType = none) (hlk : meth.locks = false) (a0 : Nat) (a1 : Int32) (a2 : Int32) (a3 : Int32) (ha0 : a0 < 4) {out : Mem}  : ∀ (t : Nat) (a4 : Int32) (u : Mem), fX7_mix_L9 a0 a1 a2 a3 t a4 u = some out → V shX nX D cy ad 9 p l e rX7_mix s m args below meth c (MQ below (qV shX nX D cy ad out) args s 0 0 (rA ad nX)) 9 [(0, .ref (ad (160 + 4 * a0))), (1, .int a1), (2, .int a2), (3, .int a3), (4, .int a4)] [] u := by
  intro t
  induction t with
  | zero => intro a4 u h; rw [fX7_mix_L9] at h; cases h
  | succ t ih =>
    intro a4 u h
    rw [fX7_mix_L9] at h
    refine v_iload C 4 dX7_mix_9 rfl ?_
    refine v_bipush C (v := 6) dX7_mix_11 (by decide) ?_
    refine v_icmp_ge C 111 dX7_mix_13 (by decide) h (fun h => ?_) (fun h => ?_)
    · cases h
      exact v_vret C hr hlk dX7_mix_111
    · refine v_iconst C (v := 0) dX7_mix_16 (by decide) ?_
      refine v_istore C [(5, .int 0), (0, .ref (ad (160 + 4 * a0))), (1, .int a1), (2, .int a2), (3, .int a3), (4, .int a4)] dX7_mix_17 (by decide) rfl ?_
      refine v_iload_n C 2 dX7_mix_19 rfl rfl ?_
      refine v_istore C [(6, .int a1), (5, .int 0), (0, .ref (ad (160 + 4 * a0))), (1, .int a1), (2, .int a2), (3, .int a3), (4, .int a4)] dX7_mix_20 (by decide) rfl ?_
      refine v_sub [2, 3, 4, 5, 6, 1, 0] rfl ?_
      refine kX7_mix_L22 C hr hlk a0 a1 a2 a3 a4 ha0 u _ (fun v5 h => ?_) fu0 0 a1 h
      · refine v_iload C 5 dX7_mix_47 rfl ?_
        refine v_iload_n C 3 dX7_mix_49 rfl rfl ?_
        obtain ⟨r7, hc6, h⟩ := bnd h
        refine v_callNi C [.int v5, .int a3] (cX11_cut_ct l D cy ad v5 a3 _ r7 hc6) ml_X7_51 ⟨Nat.le_of_ble_eq_true rfl, Nat.le_of_ble_eq_true rfl⟩ ⟨rfl, rfl⟩ rfl rfl (Nat.le_of_ble_eq_true rfl) dX7_mix_50 ?_
        refine v_istore C [(6, .int r7), (0, .ref (ad (160 + 4 * a0))), (1, .int a1), (2, .int a2), (3, .int a3), (4, .int a4), (5, .int v5)] dX7_mix_53 (by decide) rfl ?_
        refine v_iload C 6 dX7_mix_55 rfl ?_
        refine v_iload C 0 dX7_mix_57 rfl ?_
        refine v_iload_n C 4 dX7_mix_59 rfl rfl ?_
        refine v_imul C dX7_mix_60 ?_
        refine v_isub C dX7_mix_61 ?_
        refine v_istore C [(7, .int (v5 - (r7 * a3))), (6, .int r7), (0, .ref (ad (160 + 4 * a0))), (1, .int a1), (2, .int a2), (3, .int a3), (4, .int a4), (5, .int v5)] dX7_mix_62 (by decide) rfl ?_
        refine v_iload_n C 3 dX7_mix_64 rfl rfl ?_
        refine v_istore C [(8, .int a1), (7, .int (v5 - (r7 * a3))), (6, .int r7), (0, .ref (ad (160 + 4 * a0))), (1, .int a1), (2, .int a2), (3, .int a3), (4, .int a4), (5, .int v5)] dX7_mix_65 (by decide) rfl ?_
        refine v_sub [3, 4, 5, 6, 7, 2, 1, 0] rfl ?_
        refine kX7_mix_L67 C hr hlk a0 a1 a2 a3 a4 r7 (v5 - (r7 * a3)) ha0 (fX7_mix_L9 a0 a1 a2 a3 t) ih fu0 a1 u h
set_option maxHeartbeats 4000000 in
set_option maxRecDepth 100000 in
theorem cX7_mix_ct (l : Launch) (D : va_G) (cy : Nat → ClassId) (ad : Nat → Nat) (i0 : Nat) (a1 : Int32) (a2 : Int32) (u : Mem) (hi0 : i0 < 4) (out : Mem) (h : fX7_mix i0 a1 a2 u = some out) : Met l yX7_mix (.code yX7_mix cX7_mix 9 (none) :: gw) rX7_mix (va_Pc [.ref (ad (160 + 4 * i0)), .int a1, .int a2] (wv shX nX D cy ad u)) (qV shX nX D cy ad out) 0 0 (rA ad nX) := by
  refine met_of (cc := cX7_mix) (nL := 9) (by decide) (Nat.le_of_ble_eq_true rfl) (fun p e s m below meth c C hr hlk => ?_)
  unfold fX7_mix at h
  show V shX nX D cy ad 9 p l e rX7_mix s m _ below meth c (MQ below (qV shX nX D cy ad out) _ s 0 0 (rA ad nX)) 0 [(0, .ref (ad (160 + 4 * i0))), (1, .int a1), (2, .int a2)] [] u
  refine v_iload_n C 2 dX7_mix_0 rfl rfl ?_
  refine v_iload_n C 1 dX7_mix_1 rfl rfl ?_
  refine v_isub C dX7_mix_2 ?_
  refine v_iconst C (v := 1) dX7_mix_3 (by decide) ?_
  refine v_iadd C dX7_mix_4 ?_
  refine v_istore_n C [(3, .int ((a2 - a1) + 1)), (0, .ref (ad (160 + 4 * i0))), (1, .int a1), (2, .int a2)] dX7_mix_5 rfl (by decide) rfl ?_
  refine v_iconst C (v := 0) dX7_mix_6 (by decide) ?_
  refine v_istore C [(4, .int 0), (3, .int ((a2 - a1) + 1)), (0, .ref (ad (160 + 4 * i0))), (1, .int a1), (2, .int a2)] dX7_mix_7 (by decide) rfl ?_
  refine v_sub [2, 3, 4, 1, 0] rfl ?_
  refine kX7_mix_L9 C hr hlk i0 a1 a2 ((a2 - a1) + 1) hi0   fu0 0 u h
def rX7_giveRim : Room := { frames := 1, cells := 0, slots := 0, locals := 23 }
def fX7_giveRim_L21 (a0 : Nat) (a1 : Nat) (a2 : Int32) (u : Mem) (K79 : Int32 → Option (Bool × Mem)) : Nat → Int32 → Int32 → Option (Bool × Mem)
  | 0, _, _ => none
  | t + 1, a3, a4 => (if 6 ≤ a4 then K79 a3 else ((fX7_partsOf a0 ((u.1 (160 + 4 * a0) 3) - 1) a4 u).bind fun r5 => ((fX7_partsOf a1 ((u.1 (160 + 4 * a1) 3) - 1) a4 u).bind fun r7 => (if (r7 + (if a3 < r5 then a3 else r5)) ≤ 100000 then fX7_giveRim_L21 a0 a1 a2 u K79 t (a3 - (if a3 < r5 then a3 else r5)) (a4 + 1) else (some (false, u))))))
def fX7_giveRim_L90 (a0 : Nat) (a1 : Nat) : Nat → Int32 → Int32 → Mem → Option (Bool × Mem)
  | 0, _, _, _ => none
  | t + 1, a3, a4, u => (if 6 ≤ a4 then (some (true, u)) else ((fX7_partsOf a0 ((u.1 (160 + 4 * a0) 3) - 1) a4 u).bind fun r13 => (if inB ((((u.1 (160 + 4 * a0) 3) - 1) * 6) + a4) 96 then ((some ((u.1 (160 + 4 * a0 + 1) ((((u.1 (160 + 4 * a0) 3) - 1) * 6) + a4).toNatClampNeg) - (if a3 < r13 then a3 else r13))).bind fun x14 => (if inB ((((u.1 (160 + 4 * a0) 3) - 1) * 6) + a4) 96 then ((some (si u (160 + 4 * a0 + 1) ((((u.1 (160 + 4 * a0) 3) - 1) * 6) + a4).toNatClampNeg x14)).bind fun u15 => (if inB ((((u15.1 (160 + 4 * a1) 3) - 1) * 6) + a4) 96 then ((some ((u15.1 (160 + 4 * a1 + 1) ((((u15.1 (160 + 4 * a1) 3) - 1) * 6) + a4).toNatClampNeg) + (if a3 < r13 then a3 else r13))).bind fun x16 => (if inB ((((u15.1 (160 + 4 * a1) 3) - 1) * 6) + a4) 96 then ((some (si u15 (160 + 4 * a1 + 1) ((((u15.1 (160 + 4 * a1) 3) - 1) * 6) + a4).toNatClampNeg x16)).bind fun u17 => fX7_giveRim_L90 a0 a1 t (a3 - (if a3 < r13 then a3 else r13)) (a4 + 1) u17) else none)) else none)) else none)) else none)))
def fX7_giveRim (i0 : Nat) (i1 : Nat) (a2 : Int32) (u : Mem) : Option (Bool × Mem) := (if (u.1 (160 + 4 * i0) 3) = 0 then (some (false, u)) else (if (u.1 (160 + 4 * i1) 3) = 0 then (some (false, u)) else fX7_giveRim_L21 i0 i1 a2 u (fun v9 => (if v9 ≤ 0 then fX7_giveRim_L90 i0 i1 fu0 a2 0 u else (some (false, u)))) fu0 a2 0))
set_option maxHeartbeats 4000000 in
set_option maxRecDepth 100000 in
theorem kX7_giveRim_L21 {l : Launch} {D : va_G} {cy : Nat → ClassId} {ad : Nat → Nat} {p : Program} {e : Env} {s : State} {m : MethodId} {args : Array Value} {below : List Frame} {meth : Method} {c : Code} (C : Cx nX D cy ad 6 cX7_giveRim RX7 rX7_giveRim p s m args c) (hr : meth.sig.returnType = some .boolean) (hlk : meth.locks = false) (a0 : Nat) (a1 : Nat) (a2 : Int32) (ha0 : a0 < 4) (ha1 : a1 < 4) (u : Mem) {out : (Bool × Mem)} (K79 : Int32 → Option (Bool × Mem)) (hK79 : ∀ (a3 : Int32), K79 a3 = some out → V shX nX D cy ad 6 p l e rX7_giveRim s m args below meth c (MQ below (qI shX nX D cy ad (bz out.1) out.2) args s 0 0 (rA ad nX)) 79 [(0, .ref (ad (160 + 4 * a0))), (1, .ref (ad (160 + 4 * a1))), (2, .int a2), (3, .int a3)] [] u) : ∀ (t : Nat) (a3 : Int32) (a4 : Int32), fX7_giveRim_L21 a0 a1 a2 u K79 t a3 a4 = some out → V shX nX D cy ad 6 p l e rX7_giveRim s m args below meth c (MQ below (qI shX nX D cy ad (bz out.1) out.2) args s 0 0 (rA ad nX)) 21 [(0, .ref (ad (160 + 4 * a0))), (1, .ref (ad (160 + 4 * a1))), (2, .int a2), (3, .int a3), (4, .int a4)] [] u := by
  intro t
  induction t with
  | zero => intro a3 a4 h; rw [fX7_giveRim_L21] at h; cases h
  | succ t ih =>
    intro a3 a4 h
    rw [fX7_giveRim_L21] at h
    refine v_iload C 4 dX7_giveRim_21 rfl ?_
    refine v_bipush C (v := 6) dX7_giveRim_23 (by decide) ?_
    refine v_icmp_ge C 79 dX7_giveRim_25 (by decide) h (fun h => ?_) (fun h => ?_)
    · refine v_sub [0, 1, 2, 3] rfl ?_
      exact hK79 a3 h
    · refine v_aload_n C 0 dX7_giveRim_28 rfl rfl ?_
      refine v_aload_n C 0 dX7_giveRim_29 rfl rfl ?_
      refine v_geti C (pS_0 a0 ha0) fd_X7_36 rfl dX7_giveRim_30 ?_
      refine v_iconst C (v := 1) dX7_giveRim_33 (by decide) ?_
      refine v_isub C dX7_giveRim_34 ?_
      refine v_iload C 4 dX7_giveRim_35 rfl ?_
      obtain ⟨r5, hc4, h⟩ := bnd h
      refine v_callVi C [.int ((u.1 (160 + 4 * a0) 3) - 1), .int a4] (cX7_partsOf_ct l D cy ad a0 ((u.1 (160 + 4 * a0) 3) - 1) a4 u ha0 r5 hc4) ml_X7_39 (pS_0 a0 ha0) ⟨Nat.le_of_ble_eq_true rfl, Nat.le_of_ble_eq_true rfl⟩ ⟨rfl, rfl⟩ rfl rfl (Nat.le_of_ble_eq_true rfl) dX7_giveRim_37 ?_
      refine v_iload_n C 3 dX7_giveRim_40 rfl rfl ?_
      refine v_mmin C ma_X7_54 (Nat.le_of_ble_eq_true rfl) (Nat.le_of_ble_eq_true rfl) (Nat.le_of_ble_eq_true rfl) dX7_giveRim_41 ?_
      refine v_istore C [(5, .int (if a3 < r5 then a3 else r5)), (0, .ref (ad (160 + 4 * a0))), (1, .ref (ad (160 + 4 * a1))), (2, .int a2), (3, .int a3), (4, .int a4)] dX7_giveRim_44 (by decide) rfl ?_
      refine v_aload_n C 2 dX7_giveRim_46 rfl rfl ?_
      refine v_aload_n C 2 dX7_giveRim_47 rfl rfl ?_
      refine v_geti C (pS_0 a1 ha1) fd_X7_36 rfl dX7_giveRim_48 ?_
      refine v_iconst C (v := 1) dX7_giveRim_51 (by decide) ?_
      refine v_isub C dX7_giveRim_52 ?_
      refine v_iload C 5 dX7_giveRim_53 rfl ?_
      obtain ⟨r7, hc6, h⟩ := bnd h
      refine v_callVi C [.int ((u.1 (160 + 4 * a1) 3) - 1), .int a4] (cX7_partsOf_ct l D cy ad a1 ((u.1 (160 + 4 * a1) 3) - 1) a4 u ha1 r7 hc6) ml_X7_39 (pS_0 a1 ha1) ⟨Nat.le_of_ble_eq_true rfl, Nat.le_of_ble_eq_true rfl⟩ ⟨rfl, rfl⟩ rfl rfl (Nat.le_of_ble_eq_true rfl) dX7_giveRim_55 ?_
      refine v_iload C 0 dX7_giveRim_58 rfl ?_
      refine v_iadd C dX7_giveRim_60 ?_
      refine v_ldc C kc_X7_63 dX7_giveRim_61 ?_
      refine v_icmp_le C 68 dX7_giveRim_63 (by decide) h (fun h => ?_) (fun h => ?_)
      · refine v_iload_n C 4 dX7_giveRim_68 rfl rfl ?_
        refine v_iload C 0 dX7_giveRim_69 rfl ?_
        refine v_isub C dX7_giveRim_71 ?_
        refine v_istore_n C [(3, .int (a3 - (if a3 < r5 then a3 else r5))), (5, .int (if a3 < r5 then a3 else r5)), (0, .ref (ad (160 + 4 * a0))), (1, .ref (ad (160 + 4 * a1))), (2, .int a2), (4, .int a4)] dX7_giveRim_72 rfl (by decide) rfl ?_
        refine v_iinc C 5 (v := a4 + 1) [(4, .int (a4 + 1)), (3, .int (a3 - (if a3 < r5 then a3 else r5))), (5, .int (if a3 < r5 then a3 else r5)), (0, .ref (ad (160 + 4 * a0))), (1, .ref (ad (160 + 4 * a1))), (2, .int a2)] dX7_giveRim_73 rfl rfl (by decide) rfl ?_
        refine v_goto C 21 dX7_giveRim_76 (by decide) ?_
        refine v_sub [3, 4, 5, 1, 0] rfl ?_
        exact ih (a3 - (if a3 < r5 then a3 else r5)) (a4 + 1) h
      · refine v_iconst C (v := 0) dX7_giveRim_66 (by decide) ?_
        cases h
        exact v_zret (b := false) C hr hlk dX7_giveRim_67
set_option maxHeartbeats 4000000 in
set_option maxRecDepth 100000 in
theorem kX7_giveRim_L90 {l : Launch} {D : va_G} {cy : Nat → ClassId} {ad : Nat → Nat} {p : Program} {e : Env} {s : State} {m : MethodId} {args : Array Value} {below : List Frame} {meth : Method} {c : Code} (C : Cx nX D cy ad 6 cX7_giveRim RX7 rX7_giveRim p s m args c) (hr : meth.sig.returnType = some .boolean) (hlk : meth.locks = false) (a0 : Nat) (a1 : Nat) (ha0 : a0 < 4) (ha1 : a1 < 4) {out : (Bool × Mem)}  : ∀ (t : Nat) (a3 : Int32) (a4 : Int32) (u : Mem), fX7_giveRim_L90 a0 a1 t a3 a4 u = some out → V shX nX D cy ad 6 p l e rX7_giveRim s m args below meth c (MQ below (qI shX nX D cy ad (bz out.1) out.2) args s 0 0 (rA ad nX)) 90 [(0, .ref (ad (160 + 4 * a0))), (1, .ref (ad (160 + 4 * a1))), (3, .int a3), (4, .int a4)] [] u := by
  intro t
  induction t with
  | zero => intro a3 a4 u h; rw [fX7_giveRim_L90] at h; cases h
  | succ t ih =>
    intro a3 a4 u h
    rw [fX7_giveRim_L90] at h
    refine v_iload C 3 dX7_giveRim_90 rfl ?_
    refine v_bipush C (v := 6) dX7_giveRim_92 (by decide) ?_
    refine v_icmp_ge C 170 dX7_giveRim_94 (by decide) h (fun h => ?_) (fun h => ?_)
    · refine v_iconst C (v := 1) dX7_giveRim_170 (by decide) ?_
      cases h
      exact v_zret (b := true) C hr hlk dX7_giveRim_171
    · refine v_aload_n C 0 dX7_giveRim_97 rfl rfl ?_
      refine v_aload_n C 0 dX7_giveRim_98 rfl rfl ?_
      refine v_geti C (pS_0 a0 ha0) fd_X7_36 rfl dX7_giveRim_99 ?_
      refine v_iconst C (v := 1) dX7_giveRim_102 (by decide) ?_
      refine v_isub C dX7_giveRim_103 ?_
      refine v_iload C 3 dX7_giveRim_104 rfl ?_
      obtain ⟨r13, hc12, h⟩ := bnd h
      refine v_callVi C [.int ((u.1 (160 + 4 * a0) 3) - 1), .int a4] (cX7_partsOf_ct l D cy ad a0 ((u.1 (160 + 4 * a0) 3) - 1) a4 u ha0 r13 hc12) ml_X7_39 (pS_0 a0 ha0) ⟨Nat.le_of_ble_eq_true rfl, Nat.le_of_ble_eq_true rfl⟩ ⟨rfl, rfl⟩ rfl rfl (Nat.le_of_ble_eq_true rfl) dX7_giveRim_106 ?_
      refine v_iload_n C 2 dX7_giveRim_109 rfl rfl ?_
      refine v_mmin C ma_X7_54 (Nat.le_of_ble_eq_true rfl) (Nat.le_of_ble_eq_true rfl) (Nat.le_of_ble_eq_true rfl) dX7_giveRim_110 ?_
      refine v_istore C [(5, .int (if a3 < r13 then a3 else r13)), (0, .ref (ad (160 + 4 * a0))), (1, .ref (ad (160 + 4 * a1))), (3, .int a3), (4, .int a4)] dX7_giveRim_113 (by decide) rfl ?_
      refine v_aload_n C 1 dX7_giveRim_115 rfl rfl ?_
      refine v_getr C (pS_0 a0 ha0) fd_X7_9 rfl dX7_giveRim_116 ?_
      refine v_aload_n C 1 dX7_giveRim_119 rfl rfl ?_
      refine v_geti C (pS_0 a0 ha0) fd_X7_36 rfl dX7_giveRim_120 ?_
      refine v_iconst C (v := 1) dX7_giveRim_123 (by decide) ?_
      refine v_isub C dX7_giveRim_124 ?_
      refine v_bipush C (v := 6) dX7_giveRim_125 (by decide) ?_
      refine v_imul C dX7_giveRim_127 ?_
      refine v_iload C 4 dX7_giveRim_128 rfl ?_
      refine v_iadd C dX7_giveRim_130 ?_
      refine v_dup2 C rfl rfl dX7_giveRim_131 ?_
      refine v_iald C (pS_1 a0 ha0) dX7_giveRim_132 h (fun h => ?_)
      refine v_iload C 0 dX7_giveRim_133 rfl ?_
      refine v_isub C dX7_giveRim_135 ?_
      refine v_nmi (fun x14 hx14 => ?_)
      have h := nmd hx14 h
      refine v_iast C (pS_1 a0 ha0) dX7_giveRim_136 h (fun h => ?_)
      refine v_mem (fun u15 hu15 => ?_)
      have h := nmd hu15 h
      refine v_aload_n C 2 dX7_giveRim_137 rfl rfl ?_
      refine v_getr C (pS_0 a1 ha1) fd_X7_9 rfl dX7_giveRim_138 ?_
      refine v_aload_n C 2 dX7_giveRim_141 rfl rfl ?_
      refine v_geti C (pS_0 a1 ha1) fd_X7_36 rfl dX7_giveRim_142 ?_
      refine v_iconst C (v := 1) dX7_giveRim_145 (by decide) ?_
      refine v_isub C dX7_giveRim_146 ?_
      refine v_bipush C (v := 6) dX7_giveRim_147 (by decide) ?_
      refine v_imul C dX7_giveRim_149 ?_
      refine v_iload C 4 dX7_giveRim_150 rfl ?_
      refine v_iadd C dX7_giveRim_152 ?_
      refine v_dup2 C rfl rfl dX7_giveRim_153 ?_
      refine v_iald C (pS_1 a1 ha1) dX7_giveRim_154 h (fun h => ?_)
      refine v_iload C 0 dX7_giveRim_155 rfl ?_
      refine v_iadd C dX7_giveRim_157 ?_
      refine v_nmi (fun x16 hx16 => ?_)
      have h := nmd hx16 h
      refine v_iast C (pS_1 a1 ha1) dX7_giveRim_158 h (fun h => ?_)
      refine v_mem (fun u17 hu17 => ?_)
      have h := nmd hu17 h
      refine v_iload_n C 3 dX7_giveRim_159 rfl rfl ?_
      refine v_iload C 0 dX7_giveRim_160 rfl ?_
      refine v_isub C dX7_giveRim_162 ?_
      refine v_istore_n C [(3, .int (a3 - (if a3 < r13 then a3 else r13))), (5, .int (if a3 < r13 then a3 else r13)), (0, .ref (ad (160 + 4 * a0))), (1, .ref (ad (160 + 4 * a1))), (4, .int a4)] dX7_giveRim_163 rfl (by decide) rfl ?_
      refine v_iinc C 4 (v := a4 + 1) [(4, .int (a4 + 1)), (3, .int (a3 - (if a3 < r13 then a3 else r13))), (5, .int (if a3 < r13 then a3 else r13)), (0, .ref (ad (160 + 4 * a0))), (1, .ref (ad (160 + 4 * a1)))] dX7_giveRim_164 rfl rfl (by decide) rfl ?_
      refine v_goto C 90 dX7_giveRim_167 (by decide) ?_
      refine v_sub [3, 4, 1, 0] rfl ?_
      exact ih (a3 - (if a3 < r13 then a3 else r13)) (a4 + 1) u17 h
set_option maxHeartbeats 4000000 in
set_option maxRecDepth 100000 in
theorem cX7_giveRim_ct (l : Launch) (D : va_G) (cy : Nat → ClassId) (ad : Nat → Nat) (i0 : Nat) (i1 : Nat) (a2 : Int32) (u : Mem) (hi0 : i0 < 4) (hi1 : i1 < 4) (out : (Bool × Mem)) (h : fX7_giveRim i0 i1 a2 u = some out) : Met l yX7_giveRim (.code yX7_giveRim cX7_giveRim 6 (some .boolean) :: gw) rX7_giveRim (va_Pc [.ref (ad (160 + 4 * i0)), .ref (ad (160 + 4 * i1)), .int a2] (wv shX nX D cy ad u)) (qI shX nX D cy ad (bz out.1) out.2) 0 0 (rA ad nX) := by
  refine met_of (cc := cX7_giveRim) (nL := 6) (by decide) (Nat.le_of_ble_eq_true rfl) (fun p e s m below meth c C hr hlk => ?_)
  unfold fX7_giveRim at h
  show V shX nX D cy ad 6 p l e rX7_giveRim s m _ below meth c (MQ below (qI shX nX D cy ad (bz out.1) out.2) _ s 0 0 (rA ad nX)) 0 [(0, .ref (ad (160 + 4 * i0))), (1, .ref (ad (160 + 4 * i1))), (2, .int a2)] [] u
  refine v_aload_n C 0 dX7_giveRim_0 rfl rfl ?_
  refine v_geti C (pS_0 i0 hi0) fd_X7_36 rfl dX7_giveRim_1 ?_
  refine v_if_eq C 14 dX7_giveRim_4 (by decide) h (fun h => ?_) (fun h => ?_)
  · refine v_iconst C (v := 0) dX7_giveRim_14 (by decide) ?_
    cases h
    exact v_zret (b := false) C hr hlk dX7_giveRim_15
  · refine v_aload_n C 1 dX7_giveRim_7 rfl rfl ?_
    refine v_geti C (pS_0 i1 hi1) fd_X7_36 rfl dX7_giveRim_8 ?_
    refine v_if_ne C 16 dX7_giveRim_11 (by decide) h (fun h => ?_) (fun h => ?_)
    · refine v_iconst C (v := 0) dX7_giveRim_14 (by decide) ?_
      cases h
      exact v_zret (b := false) C hr hlk dX7_giveRim_15
    · refine v_iload_n C 2 dX7_giveRim_16 rfl rfl ?_
      refine v_istore_n C [(3, .int a2), (0, .ref (ad (160 + 4 * i0))), (1, .ref (ad (160 + 4 * i1))), (2, .int a2)] dX7_giveRim_17 rfl (by decide) rfl ?_
      refine v_iconst C (v := 0) dX7_giveRim_18 (by decide) ?_
      refine v_istore C [(4, .int 0), (3, .int a2), (0, .ref (ad (160 + 4 * i0))), (1, .ref (ad (160 + 4 * i1))), (2, .int a2)] dX7_giveRim_19 (by decide) rfl ?_
      refine v_sub [2, 3, 4, 1, 0] rfl ?_
      refine kX7_giveRim_L21 C hr hlk i0 i1 a2 hi0 hi1 u _ (fun v9 h => ?_) fu0 a2 0 h
      · refine v_iload_n C 3 dX7_giveRim_79 rfl rfl ?_
        refine v_if_le C 85 dX7_giveRim_80 (by decide) h (fun h => ?_) (fun h => ?_)
        · refine v_iload_n C 2 dX7_giveRim_85 rfl rfl ?_
          refine v_istore_n C [(3, .int a2), (0, .ref (ad (160 + 4 * i0))), (1, .ref (ad (160 + 4 * i1))), (2, .int a2)] dX7_giveRim_86 rfl (by decide) rfl ?_
          refine v_iconst C (v := 0) dX7_giveRim_87 (by decide) ?_
          refine v_istore C [(4, .int 0), (3, .int a2), (0, .ref (ad (160 + 4 * i0))), (1, .ref (ad (160 + 4 * i1))), (2, .int a2)] dX7_giveRim_88 (by decide) rfl ?_
          refine v_sub [2, 3, 1, 0] rfl ?_
          refine kX7_giveRim_L90 C hr hlk i0 i1 hi0 hi1   fu0 a2 0 u h
        · refine v_iconst C (v := 0) dX7_giveRim_83 (by decide) ?_
          cases h
          exact v_zret (b := false) C hr hlk dX7_giveRim_84
def rX8_append : Room := { frames := 0, cells := 0, slots := 0, locals := 0 }
def fX8_append_L3 (a1 : Int32) : Nat → Int32 → Mem → Option Mem
  | 0, _, _ => none
  | t + 1, a2, u => (if a2 < 0 then (some u) else (if 400 ≤ (u.1 182 1) then (some u) else (if inB (u.1 182 1) 400 then ((some (si u 183 (u.1 182 1).toNatClampNeg (((a1.toUInt32 >>> (a2.toUInt32 &&& Int32.toUInt32 31)).toInt32) &&& 255))).bind fun u3 => fX8_append_L3 a1 t (a2 + (-8)) (si u3 182 1 ((u3.1 182 1) + 1))) else none)))
def fX8_append (a1 : Int32) (u : Mem) : Option Mem := fX8_append_L3 a1 fu0 24 u
set_option maxHeartbeats 4000000 in
set_option maxRecDepth 100000 in
theorem kX8_append_L3 {l : Launch} {D : va_G} {cy : Nat → ClassId} {ad : Nat → Nat} {p : Program} {e : Env} {s : State} {m : MethodId} {args : Array Value} {below : List Frame} {meth : Method} {c : Code} (C : Cx nX D cy ad 3 cX8_append RX8 rX8_append p s m args c) (hr : meth.sig.returnType = none) (hlk : meth.locks = false) (a1 : Int32)  {out : Mem}  : ∀ (t : Nat) (a2 : Int32) (u : Mem), fX8_append_L3 a1 t a2 u = some out → V shX nX D cy ad 3 p l e rX8_append s m args below meth c (MQ below (qV shX nX D cy ad out) args s 0 0 (rA ad nX)) 3 [(0, .ref (ad 182)), (1, .int a1), (2, .int a2)] [] u := by
  intro t
  induction t with
  | zero => intro a2 u h; rw [fX8_append_L3] at h; cases h
  | succ t ih =>
    intro a2 u h
    rw [fX8_append_L3] at h
    refine v_iload_n C 2 dX8_append_3 rfl rfl ?_
    refine v_if_lt C 49 dX8_append_4 (by decide) h (fun h => ?_) (fun h => ?_)
    · cases h
      exact v_vret C hr hlk dX8_append_49
    · refine v_aload_n C 0 dX8_append_7 rfl rfl ?_
      refine v_geti C pX_182 fd_X8_15 rfl dX8_append_8 ?_
      refine v_sipush C (v := 400) dX8_append_11 (by decide) ?_
      refine v_icmp_ge C 49 dX8_append_14 (by decide) h (fun h => ?_) (fun h => ?_)
      · cases h
        exact v_vret C hr hlk dX8_append_49
      · refine v_aload_n C 0 dX8_append_17 rfl rfl ?_
        refine v_getr C pX_182 fd_X8_9 rfl dX8_append_18 ?_
        refine v_aload_n C 0 dX8_append_21 rfl rfl ?_
        refine v_geti C pX_182 fd_X8_15 rfl dX8_append_22 ?_
        refine v_iload_n C 1 dX8_append_25 rfl rfl ?_
        refine v_iload_n C 2 dX8_append_26 rfl rfl ?_
        refine v_iushr C dX8_append_27 ?_
        refine v_sipush C (v := 255) dX8_append_28 (by decide) ?_
        refine v_iand C dX8_append_31 ?_
        refine v_iast C pX_183 dX8_append_32 h (fun h => ?_)
        refine v_mem (fun u3 hu3 => ?_)
        have h := nmd hu3 h
        refine v_aload_n C 0 dX8_append_33 rfl rfl ?_
        refine v_dup C rfl dX8_append_34 ?_
        refine v_geti C pX_182 fd_X8_15 rfl dX8_append_35 ?_
        refine v_iconst C (v := 1) dX8_append_38 (by decide) ?_
        refine v_iadd C dX8_append_39 ?_
        refine v_puti C pX_182 fp_X8_15 rfl rfl rfl dX8_append_40 ?_
        refine v_iinc C 2 (v := a2 + (-8)) [(2, .int (a2 + (-8))), (0, .ref (ad 182)), (1, .int a1)] dX8_append_43 rfl rfl (by decide) rfl ?_
        refine v_goto C 3 dX8_append_46 (by decide) ?_
        refine v_sub [1, 2, 0] rfl ?_
        exact ih (a2 + (-8)) (si u3 182 1 ((u3.1 182 1) + 1)) h
set_option maxHeartbeats 4000000 in
set_option maxRecDepth 100000 in
theorem cX8_append_ct (l : Launch) (D : va_G) (cy : Nat → ClassId) (ad : Nat → Nat) (a1 : Int32) (u : Mem)  (out : Mem) (h : fX8_append a1 u = some out) : Met l yX8_append (.code yX8_append cX8_append 3 (none) :: gw) rX8_append (va_Pc [.ref (ad 182), .int a1] (wv shX nX D cy ad u)) (qV shX nX D cy ad out) 0 0 (rA ad nX) := by
  refine met_of (cc := cX8_append) (nL := 3) (by decide) (Nat.le_of_ble_eq_true rfl) (fun p e s m below meth c C hr hlk => ?_)
  unfold fX8_append at h
  show V shX nX D cy ad 3 p l e rX8_append s m _ below meth c (MQ below (qV shX nX D cy ad out) _ s 0 0 (rA ad nX)) 0 [(0, .ref (ad 182)), (1, .int a1)] [] u
  refine v_bipush C (v := 24) dX8_append_0 (by decide) ?_
  refine v_istore_n C [(2, .int 24), (0, .ref (ad 182)), (1, .int a1)] dX8_append_2 rfl (by decide) rfl ?_
  refine v_sub [1, 2, 0] rfl ?_
  refine kX8_append_L3 C hr hlk a1   fu0 24 u h
def rX10_copyFrom : Room := { frames := 2, cells := 0, slots := 0, locals := 61 }
def fX10_copyFrom_L2 (a0 : Nat) (a1 : Nat) (K28 : Mem → Option Mem) : Nat → Int32 → Mem → Option Mem
  | 0, _, _ => none
  | t + 1, a2, u => (if 2 ≤ a2 then K28 u else (if inB a2 2 then (if inB a2 2 then ((fX7_copyFrom (2 * a0 + a2.toNatClampNeg) (2 * a1 + a2.toNatClampNeg) u).bind fun u5 => fX10_copyFrom_L2 a0 a1 K28 t (a2 + 1) u5) else none) else none))
def fX10_copyFrom (i0 : Nat) (i1 : Nat) (u : Mem) : Option Mem := fX10_copyFrom_L2 i0 i1 (fun u6 => ((some (si u6 (176 + 2 * i0) 1 (u6.1 (176 + 2 * i1) 1))).bind fun u7 => ((some (si u7 (176 + 2 * i0) 2 (u7.1 (176 + 2 * i1) 2))).bind fun u8 => ((some (si u8 (176 + 2 * i0) 3 (u8.1 (176 + 2 * i1) 3))).bind fun u9 => ((some (si u9 (176 + 2 * i0) 4 (u9.1 (176 + 2 * i1) 4))).bind fun u10 => (some (si u10 (176 + 2 * i0) 5 (u10.1 (176 + 2 * i1) 5)))))))) fu0 0 u
set_option maxHeartbeats 4000000 in
set_option maxRecDepth 100000 in
theorem kX10_copyFrom_L2 {l : Launch} {D : va_G} {cy : Nat → ClassId} {ad : Nat → Nat} {p : Program} {e : Env} {s : State} {m : MethodId} {args : Array Value} {below : List Frame} {meth : Method} {c : Code} (C : Cx nX D cy ad 3 cX10_copyFrom RX10 rX10_copyFrom p s m args c) (hr : meth.sig.returnType = none) (hlk : meth.locks = false) (a0 : Nat) (a1 : Nat) (ha0 : a0 < 2) (ha1 : a1 < 2) {out : Mem} (K28 : Mem → Option Mem) (hK28 : ∀ (w : Mem), K28 w = some out → V shX nX D cy ad 3 p l e rX10_copyFrom s m args below meth c (MQ below (qV shX nX D cy ad out) args s 0 0 (rA ad nX)) 28 [(0, .ref (ad (176 + 2 * a0))), (1, .ref (ad (176 + 2 * a1)))] [] w) : ∀ (t : Nat) (a2 : Int32) (u : Mem), fX10_copyFrom_L2 a0 a1 K28 t a2 u = some out → V shX nX D cy ad 3 p l e rX10_copyFrom s m args below meth c (MQ below (qV shX nX D cy ad out) args s 0 0 (rA ad nX)) 2 [(0, .ref (ad (176 + 2 * a0))), (1, .ref (ad (176 + 2 * a1))), (2, .int a2)] [] u := by
  intro t
  induction t with
  | zero => intro a2 u h; rw [fX10_copyFrom_L2] at h; cases h
  | succ t ih =>
    intro a2 u h
    rw [fX10_copyFrom_L2] at h
    refine v_iload_n C 2 dX10_copyFrom_2 rfl rfl ?_
    refine v_iconst C (v := 2) dX10_copyFrom_3 (by decide) ?_
    refine v_icmp_ge C 28 dX10_copyFrom_4 (by decide) h (fun h => ?_) (fun h => ?_)
    · refine v_sub [0, 1] rfl ?_
      exact hK28 u h
    · refine v_aload_n C 0 dX10_copyFrom_7 rfl rfl ?_
      refine v_getr C (pW_0 a0 ha0) fd_X10_11 rfl dX10_copyFrom_8 ?_
      refine v_iload_n C 2 dX10_copyFrom_11 rfl rfl ?_
      have hb2 := chk1 h
      refine v_aald5 C (pW_1 a0 ha0) dX10_copyFrom_12 h (fun h => ?_)
      refine v_aload_n C 1 dX10_copyFrom_13 rfl rfl ?_
      refine v_getr C (pW_0 a1 ha1) fd_X10_11 rfl dX10_copyFrom_14 ?_
      refine v_iload_n C 2 dX10_copyFrom_17 rfl rfl ?_
      have hb3 := chk1 h
      refine v_aald5 C (pW_1 a1 ha1) dX10_copyFrom_18 h (fun h => ?_)
      obtain ⟨u5, hc4, h⟩ := bnd h
      refine v_callVv C [.ref (ad (160 + 4 * (2 * a1 + a2.toNatClampNeg)))] (cX7_copyFrom_ct l D cy ad (2 * a0 + a2.toNatClampNeg) (2 * a1 + a2.toNatClampNeg) u (lt24 ha0 (inB_lt hb2)) (lt24 ha1 (inB_lt hb3)) u5 hc4) ml_X10_18 (pS_0 (2 * a0 + a2.toNatClampNeg) (lt24 ha0 (inB_lt hb2))) ⟨Nat.le_of_ble_eq_true rfl, Nat.le_of_ble_eq_true rfl⟩ ⟨rfl, rfl⟩ rfl rfl (Nat.le_of_ble_eq_true rfl) dX10_copyFrom_19 ?_
      refine v_iinc C 2 (v := a2 + 1) [(2, .int (a2 + 1)), (0, .ref (ad (176 + 2 * a0))), (1, .ref (ad (176 + 2 * a1)))] dX10_copyFrom_22 rfl rfl (by decide) rfl ?_
      refine v_goto C 2 dX10_copyFrom_25 (by decide) ?_
      refine v_sub [1, 2, 0] rfl ?_
      exact ih (a2 + 1) u5 h
set_option maxHeartbeats 4000000 in
set_option maxRecDepth 100000 in
theorem cX10_copyFrom_ct (l : Launch) (D : va_G) (cy : Nat → ClassId) (ad : Nat → Nat) (i0 : Nat) (i1 : Nat) (u : Mem) (hi0 : i0 < 2) (hi1 : i1 < 2) (out : Mem) (h : fX10_copyFrom i0 i1 u = some out) : Met l yX10_copyFrom (.code yX10_copyFrom cX10_copyFrom 3 (none) :: gw) rX10_copyFrom (va_Pc [.ref (ad (176 + 2 * i0)), .ref (ad (176 + 2 * i1))] (wv shX nX D cy ad u)) (qV shX nX D cy ad out) 0 0 (rA ad nX) := by
  refine met_of (cc := cX10_copyFrom) (nL := 3) (by decide) (Nat.le_of_ble_eq_true rfl) (fun p e s m below meth c C hr hlk => ?_)
  unfold fX10_copyFrom at h
  show V shX nX D cy ad 3 p l e rX10_copyFrom s m _ below meth c (MQ below (qV shX nX D cy ad out) _ s 0 0 (rA ad nX)) 0 [(0, .ref (ad (176 + 2 * i0))), (1, .ref (ad (176 + 2 * i1)))] [] u
  refine v_iconst C (v := 0) dX10_copyFrom_0 (by decide) ?_
  refine v_istore_n C [(2, .int 0), (0, .ref (ad (176 + 2 * i0))), (1, .ref (ad (176 + 2 * i1)))] dX10_copyFrom_1 rfl (by decide) rfl ?_
  refine v_sub [1, 2, 0] rfl ?_
  refine kX10_copyFrom_L2 C hr hlk i0 i1 hi0 hi1 _ (fun u6 h => ?_) fu0 0 u h
  · refine v_aload_n C 0 dX10_copyFrom_28 rfl rfl ?_
    refine v_aload_n C 1 dX10_copyFrom_29 rfl rfl ?_
    refine v_geti C (pW_0 i1 hi1) fd_X10_22 rfl dX10_copyFrom_30 ?_
    refine v_puti C (pW_0 i0 hi0) fp_X10_22 rfl rfl rfl dX10_copyFrom_33 ?_
    refine v_mem (fun u7 hu7 => ?_)
    have h := nmd hu7 h
    refine v_aload_n C 0 dX10_copyFrom_36 rfl rfl ?_
    refine v_aload_n C 1 dX10_copyFrom_37 rfl rfl ?_
    refine v_geti C (pW_0 i1 hi1) fd_X10_26 rfl dX10_copyFrom_38 ?_
    refine v_puti C (pW_0 i0 hi0) fp_X10_26 rfl rfl rfl dX10_copyFrom_41 ?_
    refine v_mem (fun u8 hu8 => ?_)
    have h := nmd hu8 h
    refine v_aload_n C 0 dX10_copyFrom_44 rfl rfl ?_
    refine v_aload_n C 1 dX10_copyFrom_45 rfl rfl ?_
    refine v_geti C (pW_0 i1 hi1) fd_X10_29 rfl dX10_copyFrom_46 ?_
    refine v_puti C (pW_0 i0 hi0) fp_X10_29 rfl rfl rfl dX10_copyFrom_49 ?_
    refine v_mem (fun u9 hu9 => ?_)
    have h := nmd hu9 h
    refine v_aload_n C 0 dX10_copyFrom_52 rfl rfl ?_
    refine v_aload_n C 1 dX10_copyFrom_53 rfl rfl ?_
    refine v_geti C (pW_0 i1 hi1) fd_X10_32 rfl dX10_copyFrom_54 ?_
    refine v_puti C (pW_0 i0 hi0) fp_X10_32 rfl rfl rfl dX10_copyFrom_57 ?_
    refine v_mem (fun u10 hu10 => ?_)
    have h := nmd hu10 h
    refine v_aload_n C 0 dX10_copyFrom_60 rfl rfl ?_
    refine v_aload_n C 1 dX10_copyFrom_61 rfl rfl ?_
    refine v_geti C (pW_0 i1 hi1) fd_X10_35 rfl dX10_copyFrom_62 ?_
    refine v_puti C (pW_0 i0 hi0) fp_X10_35 rfl rfl rfl dX10_copyFrom_65 ?_
    cases h
    exact v_vret C hr hlk dX10_copyFrom_68
