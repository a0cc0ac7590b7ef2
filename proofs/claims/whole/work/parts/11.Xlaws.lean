def rX3_copyFrom : Room := { frames := 1, cells := 0, slots := 0, locals := 39 }
def fX3_copyFrom (i0 : Nat) (i1 : Nat) (u : Mem) : Option Mem := ((some (sr u (5 * i0 + 1) (va_cpy (u.1 (5 * i1 + 1)) (u.1 (5 * i0 + 1)) 0 0 6))).bind fun u1 => ((some (sr u1 (5 * i0 + 2) (va_cpy (u1.1 (5 * i1 + 2)) (u1.1 (5 * i0 + 2)) 0 0 25))).bind fun u2 => ((some (sr u2 (5 * i0 + 3) (va_cpy (u2.1 (5 * i1 + 3)) (u2.1 (5 * i0 + 3)) 0 0 7))).bind fun u3 => (some (sr u3 (5 * i0 + 4) (va_cpy (u3.1 (5 * i1 + 4)) (u3.1 (5 * i0 + 4)) 0 0 168))))))
set_option maxHeartbeats 4000000 in
set_option maxRecDepth 100000 in
theorem cX3_copyFrom_ct (l : Launch) (D : va_G) (cy : Nat → ClassId) (ad : Nat → Nat) (i0 : Nat) (i1 : Nat) (u : Mem) (hi0 : i0 < 32) (hi1 : i1 < 32) (out : Mem) (h : fX3_copyFrom i0 i1 u = some out) : Met l yX3_copyFrom (.code yX3_copyFrom cX3_copyFrom 2 (none) :: gw) rX3_copyFrom (va_Pc [.ref (ad (5 * i0)), .ref (ad (5 * i1))] (wv shX nX D cy ad u)) (qV shX nX D cy ad out) 0 0 (rA ad nX) := by
  refine met_of (cc := cX3_copyFrom) (nL := 2) (by decide) (Nat.le_of_ble_eq_true rfl) (fun p e s m below meth c C hr hlk => ?_)
  unfold fX3_copyFrom at h
  show V shX nX D cy ad 2 p l e rX3_copyFrom s m _ below meth c (MQ below (qV shX nX D cy ad out) _ s 0 0 (rA ad nX)) 0 [(0, .ref (ad (5 * i0))), (1, .ref (ad (5 * i1)))] [] u
  refine v_aload_n C 1 dX3_copyFrom_0 rfl rfl ?_
  refine v_getr C (pL_0 i1 hi1) fd_X3_9 rfl dX3_copyFrom_1 ?_
  refine v_iconst C (v := 0) dX3_copyFrom_4 (by decide) ?_
  refine v_aload_n C 0 dX3_copyFrom_5 rfl rfl ?_
  refine v_getr C (pL_0 i0 hi0) fd_X3_9 rfl dX3_copyFrom_6 ?_
  refine v_iconst C (v := 0) dX3_copyFrom_9 (by decide) ?_
  refine v_aload_n C 0 dX3_copyFrom_10 rfl rfl ?_
  refine v_getr C (pL_0 i0 hi0) fd_X3_9 rfl dX3_copyFrom_11 ?_
  refine v_alen0 C (pL_1 i0 hi0) (v := 6) (by decide) dX3_copyFrom_14 ?_
  refine v_copyi C ac_X3_24 (pL_1 i1 hi1) (pL_1 i0 hi0) (sp0 := 0) (dp0 := 0) (n0 := 6) (by decide) (by decide) (by decide) (by decide) (by decide) (by decide) (by decide) (by decide) (Nat.le_of_ble_eq_true rfl) (Nat.le_of_ble_eq_true rfl) (Nat.le_of_ble_eq_true rfl) dX3_copyFrom_15 ?_
  refine v_mem (fun u1 hu1 => ?_)
  have h := nmd hu1 h
  refine v_aload_n C 1 dX3_copyFrom_18 rfl rfl ?_
  refine v_getr C (pL_0 i1 hi1) fd_X3_15 rfl dX3_copyFrom_19 ?_
  refine v_iconst C (v := 0) dX3_copyFrom_22 (by decide) ?_
  refine v_aload_n C 0 dX3_copyFrom_23 rfl rfl ?_
  refine v_getr C (pL_0 i0 hi0) fd_X3_15 rfl dX3_copyFrom_24 ?_
  refine v_iconst C (v := 0) dX3_copyFrom_27 (by decide) ?_
  refine v_aload_n C 0 dX3_copyFrom_28 rfl rfl ?_
  refine v_getr C (pL_0 i0 hi0) fd_X3_15 rfl dX3_copyFrom_29 ?_
  refine v_alen0 C (pL_2 i0 hi0) (v := 25) (by decide) dX3_copyFrom_32 ?_
  refine v_copyi C ac_X3_24 (pL_2 i1 hi1) (pL_2 i0 hi0) (sp0 := 0) (dp0 := 0) (n0 := 25) (by decide) (by decide) (by decide) (by decide) (by decide) (by decide) (by decide) (by decide) (Nat.le_of_ble_eq_true rfl) (Nat.le_of_ble_eq_true rfl) (Nat.le_of_ble_eq_true rfl) dX3_copyFrom_33 ?_
  refine v_mem (fun u2 hu2 => ?_)
  have h := nmd hu2 h
  refine v_aload_n C 1 dX3_copyFrom_36 rfl rfl ?_
  refine v_getr C (pL_0 i1 hi1) fd_X3_18 rfl dX3_copyFrom_37 ?_
  refine v_iconst C (v := 0) dX3_copyFrom_40 (by decide) ?_
  refine v_aload_n C 0 dX3_copyFrom_41 rfl rfl ?_
  refine v_getr C (pL_0 i0 hi0) fd_X3_18 rfl dX3_copyFrom_42 ?_
  refine v_iconst C (v := 0) dX3_copyFrom_45 (by decide) ?_
  refine v_aload_n C 0 dX3_copyFrom_46 rfl rfl ?_
  refine v_getr C (pL_0 i0 hi0) fd_X3_18 rfl dX3_copyFrom_47 ?_
  refine v_alen0 C (pL_3 i0 hi0) (v := 7) (by decide) dX3_copyFrom_50 ?_
  refine v_copyi C ac_X3_24 (pL_3 i1 hi1) (pL_3 i0 hi0) (sp0 := 0) (dp0 := 0) (n0 := 7) (by decide) (by decide) (by decide) (by decide) (by decide) (by decide) (by decide) (by decide) (Nat.le_of_ble_eq_true rfl) (Nat.le_of_ble_eq_true rfl) (Nat.le_of_ble_eq_true rfl) dX3_copyFrom_51 ?_
  refine v_mem (fun u3 hu3 => ?_)
  have h := nmd hu3 h
  refine v_aload_n C 1 dX3_copyFrom_54 rfl rfl ?_
  refine v_getr C (pL_0 i1 hi1) fd_X3_21 rfl dX3_copyFrom_55 ?_
  refine v_iconst C (v := 0) dX3_copyFrom_58 (by decide) ?_
  refine v_aload_n C 0 dX3_copyFrom_59 rfl rfl ?_
  refine v_getr C (pL_0 i0 hi0) fd_X3_21 rfl dX3_copyFrom_60 ?_
  refine v_iconst C (v := 0) dX3_copyFrom_63 (by decide) ?_
  refine v_aload_n C 0 dX3_copyFrom_64 rfl rfl ?_
  refine v_getr C (pL_0 i0 hi0) fd_X3_21 rfl dX3_copyFrom_65 ?_
  refine v_alen0 C (pL_4 i0 hi0) (v := 168) (by decide) dX3_copyFrom_68 ?_
  refine v_copyi C ac_X3_24 (pL_4 i1 hi1) (pL_4 i0 hi0) (sp0 := 0) (dp0 := 0) (n0 := 168) (by decide) (by decide) (by decide) (by decide) (by decide) (by decide) (by decide) (by decide) (Nat.le_of_ble_eq_true rfl) (Nat.le_of_ble_eq_true rfl) (Nat.le_of_ble_eq_true rfl) dX3_copyFrom_69 ?_
  cases h
  exact v_vret C hr hlk dX3_copyFrom_72
def rX3_ofChain : Room := { frames := 0, cells := 0, slots := 0, locals := 0 }
def fX3_ofChain (i0 : Nat) (a1 : Int32) (a2 : Int32) (u : Mem) : Option Int32 := (if inB ((a1 * 5) + a2) 25 then (some (u.1 (5 * i0 + 2) ((a1 * 5) + a2).toNatClampNeg)) else none)
set_option maxHeartbeats 4000000 in
set_option maxRecDepth 100000 in
theorem cX3_ofChain_ct (l : Launch) (D : va_G) (cy : Nat → ClassId) (ad : Nat → Nat) (i0 : Nat) (a1 : Int32) (a2 : Int32) (u : Mem) (hi0 : i0 < 32) (out : Int32) (h : fX3_ofChain i0 a1 a2 u = some out) : Met l yX3_ofChain (.code yX3_ofChain cX3_ofChain 3 (some .int) :: gw) rX3_ofChain (va_Pc [.ref (ad (5 * i0)), .int a1, .int a2] (wv shX nX D cy ad u)) (qI shX nX D cy ad out u) 0 0 (rA ad nX) := by
  refine met_of (cc := cX3_ofChain) (nL := 3) (by decide) (Nat.le_of_ble_eq_true rfl) (fun p e s m below meth c C hr hlk => ?_)
  unfold fX3_ofChain at h
  show V shX nX D cy ad 3 p l e rX3_ofChain s m _ below meth c (MQ below (qI shX nX D cy ad out u) _ s 0 0 (rA ad nX)) 0 [(0, .ref (ad (5 * i0))), (1, .int a1), (2, .int a2)] [] u
  refine v_aload_n C 0 dX3_ofChain_0 rfl rfl ?_
  refine v_getr C (pL_0 i0 hi0) fd_X3_15 rfl dX3_ofChain_1 ?_
  refine v_iload_n C 1 dX3_ofChain_4 rfl rfl ?_
  refine v_iconst C (v := 5) dX3_ofChain_5 (by decide) ?_
  refine v_imul C dX3_ofChain_6 ?_
  refine v_iload_n C 2 dX3_ofChain_7 rfl rfl ?_
  refine v_iadd C dX3_ofChain_8 ?_
  refine v_iald C (pL_2 i0 hi0) dX3_ofChain_9 h (fun h => ?_)
  cases h
  exact v_iret C hr hlk dX3_ofChain_10
def rX3_isTold : Room := { frames := 1, cells := 0, slots := 0, locals := 22 }
def fX3_isTold (i0 : Nat) (a1 : Int32) (u : Mem) : Option Bool := ((fX3_ofChain i0 a1 1 u).bind fun r2 => (some (if r2 ≤ 0 then false else true)))
set_option maxHeartbeats 4000000 in
set_option maxRecDepth 100000 in
theorem cX3_isTold_ct (l : Launch) (D : va_G) (cy : Nat → ClassId) (ad : Nat → Nat) (i0 : Nat) (a1 : Int32) (u : Mem) (hi0 : i0 < 32) (out : Bool) (h : fX3_isTold i0 a1 u = some out) : Met l yX3_isTold (.code yX3_isTold cX3_isTold 2 (some .boolean) :: gw) rX3_isTold (va_Pc [.ref (ad (5 * i0)), .int a1] (wv shX nX D cy ad u)) (qI shX nX D cy ad (bz out) u) 0 0 (rA ad nX) := by
  refine met_of (cc := cX3_isTold) (nL := 2) (by decide) (Nat.le_of_ble_eq_true rfl) (fun p e s m below meth c C hr hlk => ?_)
  unfold fX3_isTold at h
  show V shX nX D cy ad 2 p l e rX3_isTold s m _ below meth c (MQ below (qI shX nX D cy ad (bz out) u) _ s 0 0 (rA ad nX)) 0 [(0, .ref (ad (5 * i0))), (1, .int a1)] [] u
  refine v_aload_n C 0 dX3_isTold_0 rfl rfl ?_
  refine v_iload_n C 1 dX3_isTold_1 rfl rfl ?_
  refine v_iconst C (v := 1) dX3_isTold_2 (by decide) ?_
  obtain ⟨r2, hc1, h⟩ := bnd h
  refine v_callVi C [.int a1, .int 1] (cX3_ofChain_ct l D cy ad i0 a1 1 u hi0 r2 hc1) ml_X3_30 (pL_0 i0 hi0) ⟨Nat.le_of_ble_eq_true rfl, Nat.le_of_ble_eq_true rfl⟩ ⟨rfl, rfl⟩ rfl rfl (Nat.le_of_ble_eq_true rfl) dX3_isTold_3 ?_
  refine v_dia 14 (.int (bz (if r2 ≤ 0 then false else true))) [] ?_ (fun hj => ?_)
  · cases h
    exact v_zret (b := (if r2 ≤ 0 then false else true)) C hr hlk dX3_isTold_14
  · refine p_if_le C 13 dX3_isTold_6 (by decide) (fun z3 => ?_) (fun z3 => ?_)
    · refine v_iconst C (v := 0) dX3_isTold_13 (by decide) ?_
      exact v_top (by rw [if_pos z3]; first | done | rfl) hj
    · refine v_iconst C (v := 1) dX3_isTold_9 (by decide) ?_
      refine v_goto C 14 dX3_isTold_10 (by decide) ?_
      exact v_top (by rw [if_neg z3]; first | done | rfl) hj
def rX3_isBalanced : Room := { frames := 1, cells := 0, slots := 0, locals := 22 }
def fX3_isBalanced_L2 (a0 : Nat) (u : Mem) : Nat → Int32 → Option Bool
  | 0, _ => none
  | t + 1, a1 => (if 5 ≤ a1 then (some true) else ((fX3_ofChain a0 a1 1 u).bind fun r3 => ((fX3_ofChain a0 a1 0 u).bind fun r5 => (if inB r5 6 then ((fX3_ofChain a0 a1 3 u).bind fun r7 => ((fX3_ofChain a0 a1 2 u).bind fun r9 => (if inB r9 6 then (if (r3 * (u.1 (5 * a0 + 1) r5.toNatClampNeg)) = (r7 * (u.1 (5 * a0 + 1) r9.toNatClampNeg)) then fX3_isBalanced_L2 a0 u t (a1 + 1) else (some false)) else none))) else none))))
def fX3_isBalanced (i0 : Nat) (u : Mem) : Option Bool := fX3_isBalanced_L2 i0 u fu0 0
set_option maxHeartbeats 4000000 in
set_option maxRecDepth 100000 in
theorem kX3_isBalanced_L2 {l : Launch} {D : va_G} {cy : Nat → ClassId} {ad : Nat → Nat} {p : Program} {e : Env} {s : State} {m : MethodId} {args : Array Value} {below : List Frame} {meth : Method} {c : Code} (C : Cx nX D cy ad 4 cX3_isBalanced RX3 rX3_isBalanced p s m args c) (hr : meth.sig.returnType = some .boolean) (hlk : meth.locks = false) (a0 : Nat) (ha0 : a0 < 32) (u : Mem) {out : Bool}  : ∀ (t : Nat) (a1 : Int32), fX3_isBalanced_L2 a0 u t a1 = some out → V shX nX D cy ad 4 p l e rX3_isBalanced s m args below meth c (MQ below (qI shX nX D cy ad (bz out) u) args s 0 0 (rA ad nX)) 2 [(0, .ref (ad (5 * a0))), (1, .int a1)] [] u := by
  intro t
  induction t with
  | zero => intro a1 h; rw [fX3_isBalanced_L2] at h; cases h
  | succ t ih =>
    intro a1 h
    rw [fX3_isBalanced_L2] at h
    refine v_iload_n C 1 dX3_isBalanced_2 rfl rfl ?_
    refine v_iconst C (v := 5) dX3_isBalanced_3 (by decide) ?_
    refine v_icmp_ge C 58 dX3_isBalanced_4 (by decide) h (fun h => ?_) (fun h => ?_)
    · refine v_iconst C (v := 1) dX3_isBalanced_58 (by decide) ?_
      cases h
      exact v_zret (b := true) C hr hlk dX3_isBalanced_59
    · refine v_aload_n C 0 dX3_isBalanced_7 rfl rfl ?_
      refine v_iload_n C 1 dX3_isBalanced_8 rfl rfl ?_
      refine v_iconst C (v := 1) dX3_isBalanced_9 (by decide) ?_
      obtain ⟨r3, hc2, h⟩ := bnd h
      refine v_callVi C [.int a1, .int 1] (cX3_ofChain_ct l D cy ad a0 a1 1 u ha0 r3 hc2) ml_X3_30 (pL_0 a0 ha0) ⟨Nat.le_of_ble_eq_true rfl, Nat.le_of_ble_eq_true rfl⟩ ⟨rfl, rfl⟩ rfl rfl (Nat.le_of_ble_eq_true rfl) dX3_isBalanced_10 ?_
      refine v_aload_n C 0 dX3_isBalanced_13 rfl rfl ?_
      refine v_getr C (pL_0 a0 ha0) fd_X3_9 rfl dX3_isBalanced_14 ?_
      refine v_aload_n C 0 dX3_isBalanced_17 rfl rfl ?_
      refine v_iload_n C 1 dX3_isBalanced_18 rfl rfl ?_
      refine v_iconst C (v := 0) dX3_isBalanced_19 (by decide) ?_
      obtain ⟨r5, hc4, h⟩ := bnd h
      refine v_callVi C [.int a1, .int 0] (cX3_ofChain_ct l D cy ad a0 a1 0 u ha0 r5 hc4) ml_X3_30 (pL_0 a0 ha0) ⟨Nat.le_of_ble_eq_true rfl, Nat.le_of_ble_eq_true rfl⟩ ⟨rfl, rfl⟩ rfl rfl (Nat.le_of_ble_eq_true rfl) dX3_isBalanced_20 ?_
      refine v_iald C (pL_1 a0 ha0) dX3_isBalanced_23 h (fun h => ?_)
      refine v_imul C dX3_isBalanced_24 ?_
      refine v_istore_n C [(2, .int (r3 * (u.1 (5 * a0 + 1) r5.toNatClampNeg))), (0, .ref (ad (5 * a0))), (1, .int a1)] dX3_isBalanced_25 rfl (by decide) rfl ?_
      refine v_aload_n C 1 dX3_isBalanced_26 rfl rfl ?_
      refine v_iload_n C 2 dX3_isBalanced_27 rfl rfl ?_
      refine v_iconst C (v := 3) dX3_isBalanced_28 (by decide) ?_
      obtain ⟨r7, hc6, h⟩ := bnd h
      refine v_callVi C [.int a1, .int 3] (cX3_ofChain_ct l D cy ad a0 a1 3 u ha0 r7 hc6) ml_X3_30 (pL_0 a0 ha0) ⟨Nat.le_of_ble_eq_true rfl, Nat.le_of_ble_eq_true rfl⟩ ⟨rfl, rfl⟩ rfl rfl (Nat.le_of_ble_eq_true rfl) dX3_isBalanced_29 ?_
      refine v_aload_n C 1 dX3_isBalanced_32 rfl rfl ?_
      refine v_getr C (pL_0 a0 ha0) fd_X3_9 rfl dX3_isBalanced_33 ?_
      refine v_aload_n C 1 dX3_isBalanced_36 rfl rfl ?_
      refine v_iload_n C 2 dX3_isBalanced_37 rfl rfl ?_
      refine v_iconst C (v := 2) dX3_isBalanced_38 (by decide) ?_
      obtain ⟨r9, hc8, h⟩ := bnd h
      refine v_callVi C [.int a1, .int 2] (cX3_ofChain_ct l D cy ad a0 a1 2 u ha0 r9 hc8) ml_X3_30 (pL_0 a0 ha0) ⟨Nat.le_of_ble_eq_true rfl, Nat.le_of_ble_eq_true rfl⟩ ⟨rfl, rfl⟩ rfl rfl (Nat.le_of_ble_eq_true rfl) dX3_isBalanced_39 ?_
      refine v_iald C (pL_1 a0 ha0) dX3_isBalanced_42 h (fun h => ?_)
      refine v_imul C dX3_isBalanced_43 ?_
      refine v_istore_n C [(3, .int (r7 * (u.1 (5 * a0 + 1) r9.toNatClampNeg))), (2, .int (r3 * (u.1 (5 * a0 + 1) r5.toNatClampNeg))), (0, .ref (ad (5 * a0))), (1, .int a1)] dX3_isBalanced_44 rfl (by decide) rfl ?_
      refine v_iload_n C 1 dX3_isBalanced_45 rfl rfl ?_
      refine v_iload_n C 0 dX3_isBalanced_46 rfl rfl ?_
      refine v_icmp_eq C 52 dX3_isBalanced_47 (by decide) h (fun h => ?_) (fun h => ?_)
      · refine v_iinc C 3 (v := a1 + 1) [(1, .int (a1 + 1)), (3, .int (r7 * (u.1 (5 * a0 + 1) r9.toNatClampNeg))), (2, .int (r3 * (u.1 (5 * a0 + 1) r5.toNatClampNeg))), (0, .ref (ad (5 * a0)))] dX3_isBalanced_52 rfl rfl (by decide) rfl ?_
        refine v_goto C 2 dX3_isBalanced_55 (by decide) ?_
        refine v_sub [3, 0] rfl ?_
        exact ih (a1 + 1) h
      · refine v_iconst C (v := 0) dX3_isBalanced_50 (by decide) ?_
        cases h
        exact v_zret (b := false) C hr hlk dX3_isBalanced_51
set_option maxHeartbeats 4000000 in
set_option maxRecDepth 100000 in
theorem cX3_isBalanced_ct (l : Launch) (D : va_G) (cy : Nat → ClassId) (ad : Nat → Nat) (i0 : Nat) (u : Mem) (hi0 : i0 < 32) (out : Bool) (h : fX3_isBalanced i0 u = some out) : Met l yX3_isBalanced (.code yX3_isBalanced cX3_isBalanced 4 (some .boolean) :: gw) rX3_isBalanced (va_Pc [.ref (ad (5 * i0))] (wv shX nX D cy ad u)) (qI shX nX D cy ad (bz out) u) 0 0 (rA ad nX) := by
  refine met_of (cc := cX3_isBalanced) (nL := 4) (by decide) (Nat.le_of_ble_eq_true rfl) (fun p e s m below meth c C hr hlk => ?_)
  unfold fX3_isBalanced at h
  show V shX nX D cy ad 4 p l e rX3_isBalanced s m _ below meth c (MQ below (qI shX nX D cy ad (bz out) u) _ s 0 0 (rA ad nX)) 0 [(0, .ref (ad (5 * i0)))] [] u
  refine v_iconst C (v := 0) dX3_isBalanced_0 (by decide) ?_
  refine v_istore_n C [(1, .int 0), (0, .ref (ad (5 * i0)))] dX3_isBalanced_1 rfl (by decide) rfl ?_
  refine v_sub [1, 0] rfl ?_
  refine kX3_isBalanced_L2 C hr hlk i0 hi0 u   fu0 0 h
def rX3_ofPoint : Room := { frames := 0, cells := 0, slots := 0, locals := 0 }
def fX3_ofPoint (i0 : Nat) (a1 : Int32) (a2 : Int32) (a3 : Int32) (u : Mem) : Option Int32 := (if inB ((((a1 * 8) + a2) * 3) + a3) 168 then (some (u.1 (5 * i0 + 4) ((((a1 * 8) + a2) * 3) + a3).toNatClampNeg)) else none)
set_option maxHeartbeats 4000000 in
set_option maxRecDepth 100000 in
theorem cX3_ofPoint_ct (l : Launch) (D : va_G) (cy : Nat → ClassId) (ad : Nat → Nat) (i0 : Nat) (a1 : Int32) (a2 : Int32) (a3 : Int32) (u : Mem) (hi0 : i0 < 32) (out : Int32) (h : fX3_ofPoint i0 a1 a2 a3 u = some out) : Met l yX3_ofPoint (.code yX3_ofPoint cX3_ofPoint 4 (some .int) :: gw) rX3_ofPoint (va_Pc [.ref (ad (5 * i0)), .int a1, .int a2, .int a3] (wv shX nX D cy ad u)) (qI shX nX D cy ad out u) 0 0 (rA ad nX) := by
  refine met_of (cc := cX3_ofPoint) (nL := 4) (by decide) (Nat.le_of_ble_eq_true rfl) (fun p e s m below meth c C hr hlk => ?_)
  unfold fX3_ofPoint at h
  show V shX nX D cy ad 4 p l e rX3_ofPoint s m _ below meth c (MQ below (qI shX nX D cy ad out u) _ s 0 0 (rA ad nX)) 0 [(0, .ref (ad (5 * i0))), (1, .int a1), (2, .int a2), (3, .int a3)] [] u
  refine v_aload_n C 0 dX3_ofPoint_0 rfl rfl ?_
  refine v_getr C (pL_0 i0 hi0) fd_X3_21 rfl dX3_ofPoint_1 ?_
  refine v_iload_n C 1 dX3_ofPoint_4 rfl rfl ?_
  refine v_bipush C (v := 8) dX3_ofPoint_5 (by decide) ?_
  refine v_imul C dX3_ofPoint_7 ?_
  refine v_iload_n C 2 dX3_ofPoint_8 rfl rfl ?_
  refine v_iadd C dX3_ofPoint_9 ?_
  refine v_iconst C (v := 3) dX3_ofPoint_10 (by decide) ?_
  refine v_imul C dX3_ofPoint_11 ?_
  refine v_iload_n C 3 dX3_ofPoint_12 rfl rfl ?_
  refine v_iadd C dX3_ofPoint_13 ?_
  refine v_iald C (pL_4 i0 hi0) dX3_ofPoint_14 h (fun h => ?_)
  cases h
  exact v_iret C hr hlk dX3_ofPoint_15
def rX3_addPoint : Room := { frames := 0, cells := 0, slots := 0, locals := 0 }
def fX3_addPoint (i0 : Nat) (a1 : Int32) (a2 : Int32) (a3 : Int32) (a4 : Int32) (u : Mem) : Option Mem := (if inB a1 7 then (if (u.1 (5 * i0 + 3) a1.toNatClampNeg) < 8 then (if inB a1 7 then (if inB ((((a1 * 8) + (u.1 (5 * i0 + 3) a1.toNatClampNeg)) * 3) + 0) 168 then ((some (si u (5 * i0 + 4) ((((a1 * 8) + (u.1 (5 * i0 + 3) a1.toNatClampNeg)) * 3) + 0).toNatClampNeg a2)).bind fun u2 => (if inB ((((a1 * 8) + (u.1 (5 * i0 + 3) a1.toNatClampNeg)) * 3) + 1) 168 then ((some (si u2 (5 * i0 + 4) ((((a1 * 8) + (u.1 (5 * i0 + 3) a1.toNatClampNeg)) * 3) + 1).toNatClampNeg a3)).bind fun u3 => (if inB ((((a1 * 8) + (u.1 (5 * i0 + 3) a1.toNatClampNeg)) * 3) + 2) 168 then ((some (si u3 (5 * i0 + 4) ((((a1 * 8) + (u.1 (5 * i0 + 3) a1.toNatClampNeg)) * 3) + 2).toNatClampNeg a4)).bind fun u4 => (if inB a1 7 then (if inB a1 7 then (some (si u4 (5 * i0 + 3) a1.toNatClampNeg ((u4.1 (5 * i0 + 3) a1.toNatClampNeg) + 1))) else none) else none)) else none)) else none)) else none) else none) else (some u)) else none)
set_option maxHeartbeats 4000000 in
set_option maxRecDepth 100000 in
theorem cX3_addPoint_ct (l : Launch) (D : va_G) (cy : Nat → ClassId) (ad : Nat → Nat) (i0 : Nat) (a1 : Int32) (a2 : Int32) (a3 : Int32) (a4 : Int32) (u : Mem) (hi0 : i0 < 32) (out : Mem) (h : fX3_addPoint i0 a1 a2 a3 a4 u = some out) : Met l yX3_addPoint (.code yX3_addPoint cX3_addPoint 6 (none) :: gw) rX3_addPoint (va_Pc [.ref (ad (5 * i0)), .int a1, .int a2, .int a3, .int a4] (wv shX nX D cy ad u)) (qV shX nX D cy ad out) 0 0 (rA ad nX) := by
  refine met_of (cc := cX3_addPoint) (nL := 6) (by decide) (Nat.le_of_ble_eq_true rfl) (fun p e s m below meth c C hr hlk => ?_)
  unfold fX3_addPoint at h
  show V shX nX D cy ad 6 p l e rX3_addPoint s m _ below meth c (MQ below (qV shX nX D cy ad out) _ s 0 0 (rA ad nX)) 0 [(0, .ref (ad (5 * i0))), (1, .int a1), (2, .int a2), (3, .int a3), (4, .int a4)] [] u
  refine v_aload_n C 0 dX3_addPoint_0 rfl rfl ?_
  refine v_getr C (pL_0 i0 hi0) fd_X3_18 rfl dX3_addPoint_1 ?_
  refine v_iload_n C 1 dX3_addPoint_4 rfl rfl ?_
  refine v_iald C (pL_3 i0 hi0) dX3_addPoint_5 h (fun h => ?_)
  refine v_bipush C (v := 8) dX3_addPoint_6 (by decide) ?_
  refine v_icmp_lt C 12 dX3_addPoint_8 (by decide) h (fun h => ?_) (fun h => ?_)
  · refine v_iload_n C 1 dX3_addPoint_12 rfl rfl ?_
    refine v_bipush C (v := 8) dX3_addPoint_13 (by decide) ?_
    refine v_imul C dX3_addPoint_15 ?_
    refine v_aload_n C 0 dX3_addPoint_16 rfl rfl ?_
    refine v_getr C (pL_0 i0 hi0) fd_X3_18 rfl dX3_addPoint_17 ?_
    refine v_iload_n C 1 dX3_addPoint_20 rfl rfl ?_
    refine v_iald C (pL_3 i0 hi0) dX3_addPoint_21 h (fun h => ?_)
    refine v_iadd C dX3_addPoint_22 ?_
    refine v_iconst C (v := 3) dX3_addPoint_23 (by decide) ?_
    refine v_imul C dX3_addPoint_24 ?_
    refine v_istore C [(5, .int (((a1 * 8) + (u.1 (5 * i0 + 3) a1.toNatClampNeg)) * 3)), (0, .ref (ad (5 * i0))), (1, .int a1), (2, .int a2), (3, .int a3), (4, .int a4)] dX3_addPoint_25 (by decide) rfl ?_
    refine v_aload_n C 1 dX3_addPoint_27 rfl rfl ?_
    refine v_getr C (pL_0 i0 hi0) fd_X3_21 rfl dX3_addPoint_28 ?_
    refine v_iload C 0 dX3_addPoint_31 rfl ?_
    refine v_iconst C (v := 0) dX3_addPoint_33 (by decide) ?_
    refine v_iadd C dX3_addPoint_34 ?_
    refine v_iload_n C 3 dX3_addPoint_35 rfl rfl ?_
    refine v_iast C (pL_4 i0 hi0) dX3_addPoint_36 h (fun h => ?_)
    refine v_mem (fun u2 hu2 => ?_)
    have h := nmd hu2 h
    refine v_aload_n C 1 dX3_addPoint_37 rfl rfl ?_
    refine v_getr C (pL_0 i0 hi0) fd_X3_21 rfl dX3_addPoint_38 ?_
    refine v_iload C 0 dX3_addPoint_41 rfl ?_
    refine v_iconst C (v := 1) dX3_addPoint_43 (by decide) ?_
    refine v_iadd C dX3_addPoint_44 ?_
    refine v_iload_n C 4 dX3_addPoint_45 rfl rfl ?_
    refine v_iast C (pL_4 i0 hi0) dX3_addPoint_46 h (fun h => ?_)
    refine v_mem (fun u3 hu3 => ?_)
    have h := nmd hu3 h
    refine v_aload_n C 1 dX3_addPoint_47 rfl rfl ?_
    refine v_getr C (pL_0 i0 hi0) fd_X3_21 rfl dX3_addPoint_48 ?_
    refine v_iload C 0 dX3_addPoint_51 rfl ?_
    refine v_iconst C (v := 2) dX3_addPoint_53 (by decide) ?_
    refine v_iadd C dX3_addPoint_54 ?_
    refine v_iload C 5 dX3_addPoint_55 rfl ?_
    refine v_iast C (pL_4 i0 hi0) dX3_addPoint_57 h (fun h => ?_)
    refine v_mem (fun u4 hu4 => ?_)
    have h := nmd hu4 h
    refine v_aload_n C 1 dX3_addPoint_58 rfl rfl ?_
    refine v_getr C (pL_0 i0 hi0) fd_X3_18 rfl dX3_addPoint_59 ?_
    refine v_iload_n C 2 dX3_addPoint_62 rfl rfl ?_
    refine v_dup2 C rfl rfl dX3_addPoint_63 ?_
    refine v_iald C (pL_3 i0 hi0) dX3_addPoint_64 h (fun h => ?_)
    refine v_iconst C (v := 1) dX3_addPoint_65 (by decide) ?_
    refine v_iadd C dX3_addPoint_66 ?_
    refine v_iast C (pL_3 i0 hi0) dX3_addPoint_67 h (fun h => ?_)
    cases h
    exact v_vret C hr hlk dX3_addPoint_68
  · cases h
    exact v_vret C hr hlk dX3_addPoint_11
def rX3_span : Room := { frames := 1, cells := 0, slots := 0, locals := 23 }
def fX3_span_L18 (a0 : Nat) (a1 : Int32) (a2 : Int32) (a3 : Bool) (a4 : Int32) (u : Mem) (K43 : Int32 → Option Int32) : Nat → Int32 → Option Int32
  | 0, _ => none
  | t + 1, a5 => (if a4 ≤ a5 then K43 a5 else ((fX3_ofPoint a0 a1 a5 0 u).bind fun r4 => (if a2 < r4 then K43 a5 else fX3_span_L18 a0 a1 a2 a3 a4 u K43 t (a5 + 1))))
def fX3_span (i0 : Nat) (a1 : Int32) (a2 : Int32) (a3 : Bool) (u : Mem) : Option Int32 := (if inB a1 7 then (if (u.1 (5 * i0 + 3) a1.toNatClampNeg) = 0 then (some 0) else fX3_span_L18 i0 a1 a2 a3 (u.1 (5 * i0 + 3) a1.toNatClampNeg) u (fun v6 => ((some ((if ((u.1 (5 * i0 + 3) a1.toNatClampNeg) - 1) < v6 then ((u.1 (5 * i0 + 3) a1.toNatClampNeg) - 1) else v6))).bind fun x7 => ((fX3_ofPoint i0 a1 x7 0 u).bind fun r10 => ((fX3_ofPoint i0 a1 (if (v6 - 1) < 0 then 0 else (v6 - 1)) 0 u).bind fun r12 => (if 0 < (r10 - r12) then ((fX3_ofPoint i0 a1 (if (v6 - 1) < 0 then 0 else (v6 - 1)) 0 u).bind fun r15 => ((fX3_ofPoint i0 a1 (if (v6 - 1) < 0 then 0 else (v6 - 1)) ((if a3 = true then 2 else 1) : Int32) u).bind fun r17 => ((fX3_ofPoint i0 a1 x7 ((if a3 = true then 2 else 1) : Int32) u).bind fun r19 => ((some ((if a3 = true then (((r17 * ((r10 - r12) - (a2 - r15))) + (r19 * (a2 - r15))) + (r10 - r12)) - 1 else (r17 * ((r10 - r12) - (a2 - r15))) + (r19 * (a2 - r15))))).bind fun x21 => ((fX11_cut x21 (r10 - r12)).bind fun r23 => (some r23)))))) else ((fX3_ofPoint i0 a1 (if (v6 - 1) < 0 then 0 else (v6 - 1)) ((if a3 = true then 2 else 1) : Int32) u).bind fun r25 => (some r25))))))) fu0 0) else none)
set_option maxHeartbeats 4000000 in
set_option maxRecDepth 100000 in
theorem kX3_span_L18 {l : Launch} {D : va_G} {cy : Nat → ClassId} {ad : Nat → Nat} {p : Program} {e : Env} {s : State} {m : MethodId} {args : Array Value} {below : List Frame} {meth : Method} {c : Code} (C : Cx nX D cy ad 12 cX3_span RX3 rX3_span p s m args c) (hr : meth.sig.returnType = some .int) (hlk : meth.locks = false) (a0 : Nat) (a1 : Int32) (a2 : Int32) (a3 : Bool) (a4 : Int32) (ha0 : a0 < 32) (u : Mem) {out : Int32} (K43 : Int32 → Option Int32) (hK43 : ∀ (a5 : Int32), K43 a5 = some out → V shX nX D cy ad 12 p l e rX3_span s m args below meth c (MQ below (qI shX nX D cy ad out u) args s 0 0 (rA ad nX)) 43 [(0, .ref (ad (5 * a0))), (1, .int a1), (2, .int a2), (3, .int (bz a3)), (4, .int a4), (5, .int a5)] [] u) : ∀ (t : Nat) (a5 : Int32), fX3_span_L18 a0 a1 a2 a3 a4 u K43 t a5 = some out → V shX nX D cy ad 12 p l e rX3_span s m args below meth c (MQ below (qI shX nX D cy ad out u) args s 0 0 (rA ad nX)) 18 [(0, .ref (ad (5 * a0))), (1, .int a1), (2, .int a2), (3, .int (bz a3)), (4, .int a4), (5, .int a5)] [] u := by
  intro t
  induction t with
  | zero => intro a5 h; rw [fX3_span_L18] at h; cases h
  | succ t ih =>
    intro a5 h
    rw [fX3_span_L18] at h
    refine v_iload C 5 dX3_span_18 rfl ?_
    refine v_iload C 4 dX3_span_20 rfl ?_
    refine v_icmp_ge C 43 dX3_span_22 (by decide) h (fun h => ?_) (fun h => ?_)
    · exact hK43 a5 h
    · refine v_aload_n C 0 dX3_span_25 rfl rfl ?_
      refine v_iload_n C 1 dX3_span_26 rfl rfl ?_
      refine v_iload C 5 dX3_span_27 rfl ?_
      refine v_iconst C (v := 0) dX3_span_29 (by decide) ?_
      obtain ⟨r4, hc3, h⟩ := bnd h
      refine v_callVi C [.int a1, .int a5, .int 0] (cX3_ofPoint_ct l D cy ad a0 a1 a5 0 u ha0 r4 hc3) ml_X3_34 (pL_0 a0 ha0) ⟨Nat.le_of_ble_eq_true rfl, Nat.le_of_ble_eq_true rfl⟩ ⟨rfl, rfl⟩ rfl rfl (Nat.le_of_ble_eq_true rfl) dX3_span_30 ?_
      refine v_iload_n C 2 dX3_span_33 rfl rfl ?_
      refine v_icmp_gt C 43 dX3_span_34 (by decide) h (fun h => ?_) (fun h => ?_)
      · exact hK43 a5 h
      · refine v_iinc C 5 (v := a5 + 1) [(5, .int (a5 + 1)), (0, .ref (ad (5 * a0))), (1, .int a1), (2, .int a2), (3, .int (bz a3)), (4, .int a4)] dX3_span_37 rfl rfl (by decide) rfl ?_
        refine v_goto C 18 dX3_span_40 (by decide) ?_
        refine v_sub [1, 2, 3, 4, 5, 0] rfl ?_
        exact ih (a5 + 1) h
set_option maxHeartbeats 4000000 in
set_option maxRecDepth 100000 in
theorem cX3_span_ct (l : Launch) (D : va_G) (cy : Nat → ClassId) (ad : Nat → Nat) (i0 : Nat) (a1 : Int32) (a2 : Int32) (a3 : Bool) (u : Mem) (hi0 : i0 < 32) (out : Int32) (h : fX3_span i0 a1 a2 a3 u = some out) : Met l yX3_span (.code yX3_span cX3_span 12 (some .int) :: gw) rX3_span (va_Pc [.ref (ad (5 * i0)), .int a1, .int a2, .int (bz a3)] (wv shX nX D cy ad u)) (qI shX nX D cy ad out u) 0 0 (rA ad nX) := by
  refine met_of (cc := cX3_span) (nL := 12) (by decide) (Nat.le_of_ble_eq_true rfl) (fun p e s m below meth c C hr hlk => ?_)
  unfold fX3_span at h
  show V shX nX D cy ad 12 p l e rX3_span s m _ below meth c (MQ below (qI shX nX D cy ad out u) _ s 0 0 (rA ad nX)) 0 [(0, .ref (ad (5 * i0))), (1, .int a1), (2, .int a2), (3, .int (bz a3))] [] u
  refine v_aload_n C 0 dX3_span_0 rfl rfl ?_
  refine v_getr C (pL_0 i0 hi0) fd_X3_18 rfl dX3_span_1 ?_
  refine v_iload_n C 1 dX3_span_4 rfl rfl ?_
  refine v_iald C (pL_3 i0 hi0) dX3_span_5 h (fun h => ?_)
  refine v_istore C [(4, .int (u.1 (5 * i0 + 3) a1.toNatClampNeg)), (0, .ref (ad (5 * i0))), (1, .int a1), (2, .int a2), (3, .int (bz a3))] dX3_span_6 (by decide) rfl ?_
  refine v_iload C 0 dX3_span_8 rfl ?_
  refine v_if_ne C 15 dX3_span_10 (by decide) h (fun h => ?_) (fun h => ?_)
  · refine v_iconst C (v := 0) dX3_span_13 (by decide) ?_
    cases h
    exact v_iret C hr hlk dX3_span_14
  · refine v_iconst C (v := 0) dX3_span_15 (by decide) ?_
    refine v_istore C [(5, .int 0), (4, .int (u.1 (5 * i0 + 3) a1.toNatClampNeg)), (0, .ref (ad (5 * i0))), (1, .int a1), (2, .int a2), (3, .int (bz a3))] dX3_span_16 (by decide) rfl ?_
    refine v_sub [2, 3, 4, 5, 1, 0] rfl ?_
    refine kX3_span_L18 C hr hlk i0 a1 a2 a3 (u.1 (5 * i0 + 3) a1.toNatClampNeg) hi0 u _ (fun v6 h => ?_) fu0 0 h
    · refine v_iload C 5 dX3_span_43 rfl ?_
      refine v_iconst C (v := 1) dX3_span_45 (by decide) ?_
      refine v_isub C dX3_span_46 ?_
      refine v_iconst C (v := 0) dX3_span_47 (by decide) ?_
      refine v_mmax C ma_X3_38 (Nat.le_of_ble_eq_true rfl) (Nat.le_of_ble_eq_true rfl) (Nat.le_of_ble_eq_true rfl) dX3_span_48 ?_
      refine v_istore C [(6, .int (if (v6 - 1) < 0 then 0 else (v6 - 1))), (0, .ref (ad (5 * i0))), (1, .int a1), (2, .int a2), (3, .int (bz a3)), (4, .int (u.1 (5 * i0 + 3) a1.toNatClampNeg)), (5, .int v6)] dX3_span_51 (by decide) rfl ?_
      refine v_iload C 6 dX3_span_53 rfl ?_
      refine v_iload C 5 dX3_span_55 rfl ?_
      refine v_iconst C (v := 1) dX3_span_57 (by decide) ?_
      refine v_isub C dX3_span_58 ?_
      refine v_mmin C ma_X3_43 (Nat.le_of_ble_eq_true rfl) (Nat.le_of_ble_eq_true rfl) (Nat.le_of_ble_eq_true rfl) dX3_span_59 ?_
      refine v_nmi (fun x7 hx7 => ?_)
      have h := nmd hx7 h
      refine v_istore C [(7, .int x7), (6, .int (if (v6 - 1) < 0 then 0 else (v6 - 1))), (0, .ref (ad (5 * i0))), (1, .int a1), (2, .int a2), (3, .int (bz a3)), (4, .int (u.1 (5 * i0 + 3) a1.toNatClampNeg)), (5, .int v6)] dX3_span_62 (by decide) rfl ?_
      refine v_iload_n C 5 dX3_span_64 rfl rfl ?_
      refine v_dia 73 (.int ((if a3 = true then 2 else 1) : Int32)) [] ?_ (fun hj => ?_)
      · refine v_istore C [(8, .int ((if a3 = true then 2 else 1) : Int32)), (7, .int x7), (6, .int (if (v6 - 1) < 0 then 0 else (v6 - 1))), (0, .ref (ad (5 * i0))), (1, .int a1), (2, .int a2), (3, .int (bz a3)), (4, .int (u.1 (5 * i0 + 3) a1.toNatClampNeg)), (5, .int v6)] dX3_span_73 (by decide) rfl ?_
        refine v_aload_n C 3 dX3_span_75 rfl rfl ?_
        refine v_iload_n C 4 dX3_span_76 rfl rfl ?_
        refine v_iload C 1 dX3_span_77 rfl ?_
        refine v_iconst C (v := 0) dX3_span_79 (by decide) ?_
        obtain ⟨r10, hc9, h⟩ := bnd h
        refine v_callVi C [.int a1, .int x7, .int 0] (cX3_ofPoint_ct l D cy ad i0 a1 x7 0 u hi0 r10 hc9) ml_X3_34 (pL_0 i0 hi0) ⟨Nat.le_of_ble_eq_true rfl, Nat.le_of_ble_eq_true rfl⟩ ⟨rfl, rfl⟩ rfl rfl (Nat.le_of_ble_eq_true rfl) dX3_span_80 ?_
        refine v_aload_n C 3 dX3_span_83 rfl rfl ?_
        refine v_iload_n C 4 dX3_span_84 rfl rfl ?_
        refine v_iload C 2 dX3_span_85 rfl ?_
        refine v_iconst C (v := 0) dX3_span_87 (by decide) ?_
        obtain ⟨r12, hc11, h⟩ := bnd h
        refine v_callVi C [.int a1, .int (if (v6 - 1) < 0 then 0 else (v6 - 1)), .int 0] (cX3_ofPoint_ct l D cy ad i0 a1 (if (v6 - 1) < 0 then 0 else (v6 - 1)) 0 u hi0 r12 hc11) ml_X3_34 (pL_0 i0 hi0) ⟨Nat.le_of_ble_eq_true rfl, Nat.le_of_ble_eq_true rfl⟩ ⟨rfl, rfl⟩ rfl rfl (Nat.le_of_ble_eq_true rfl) dX3_span_88 ?_
        refine v_isub C dX3_span_91 ?_
        refine v_istore C [(9, .int (r10 - r12)), (8, .int ((if a3 = true then 2 else 1) : Int32)), (7, .int x7), (6, .int (if (v6 - 1) < 0 then 0 else (v6 - 1))), (0, .ref (ad (5 * i0))), (1, .int a1), (2, .int a2), (3, .int (bz a3)), (4, .int (u.1 (5 * i0 + 3) a1.toNatClampNeg)), (5, .int v6)] dX3_span_92 (by decide) rfl ?_
        refine v_iload C 0 dX3_span_94 rfl ?_
        refine v_if_gt C 109 dX3_span_96 (by decide) h (fun h => ?_) (fun h => ?_)
        · refine v_iload_n C 6 dX3_span_109 rfl rfl ?_
          refine v_aload_n C 4 dX3_span_110 rfl rfl ?_
          refine v_iload_n C 5 dX3_span_111 rfl rfl ?_
          refine v_iload C 3 dX3_span_112 rfl ?_
          refine v_iconst C (v := 0) dX3_span_114 (by decide) ?_
          obtain ⟨r15, hc14, h⟩ := bnd h
          refine v_callVi C [.int a1, .int (if (v6 - 1) < 0 then 0 else (v6 - 1)), .int 0] (cX3_ofPoint_ct l D cy ad i0 a1 (if (v6 - 1) < 0 then 0 else (v6 - 1)) 0 u hi0 r15 hc14) ml_X3_34 (pL_0 i0 hi0) ⟨Nat.le_of_ble_eq_true rfl, Nat.le_of_ble_eq_true rfl⟩ ⟨rfl, rfl⟩ rfl rfl (Nat.le_of_ble_eq_true rfl) dX3_span_115 ?_
          refine v_isub C dX3_span_118 ?_
          refine v_istore C [(10, .int (a2 - r15)), (9, .int (r10 - r12)), (8, .int ((if a3 = true then 2 else 1) : Int32)), (7, .int x7), (6, .int (if (v6 - 1) < 0 then 0 else (v6 - 1))), (0, .ref (ad (5 * i0))), (1, .int a1), (2, .int a2), (3, .int (bz a3)), (4, .int (u.1 (5 * i0 + 3) a1.toNatClampNeg)), (5, .int v6)] dX3_span_119 (by decide) rfl ?_
          refine v_aload_n C 5 dX3_span_121 rfl rfl ?_
          refine v_iload_n C 6 dX3_span_122 rfl rfl ?_
          refine v_iload C 4 dX3_span_123 rfl ?_
          refine v_iload C 2 dX3_span_125 rfl ?_
          obtain ⟨r17, hc16, h⟩ := bnd h
          refine v_callVi C [.int a1, .int (if (v6 - 1) < 0 then 0 else (v6 - 1)), .int ((if a3 = true then 2 else 1) : Int32)] (cX3_ofPoint_ct l D cy ad i0 a1 (if (v6 - 1) < 0 then 0 else (v6 - 1)) ((if a3 = true then 2 else 1) : Int32) u hi0 r17 hc16) ml_X3_34 (pL_0 i0 hi0) ⟨Nat.le_of_ble_eq_true rfl, Nat.le_of_ble_eq_true rfl⟩ ⟨rfl, rfl⟩ rfl rfl (Nat.le_of_ble_eq_true rfl) dX3_span_127 ?_
          refine v_iload C 1 dX3_span_130 rfl ?_
          refine v_iload C 0 dX3_span_132 rfl ?_
          refine v_isub C dX3_span_134 ?_
          refine v_imul C dX3_span_135 ?_
          refine v_aload_n C 5 dX3_span_136 rfl rfl ?_
          refine v_iload_n C 6 dX3_span_137 rfl rfl ?_
          refine v_iload C 3 dX3_span_138 rfl ?_
          refine v_iload C 2 dX3_span_140 rfl ?_
          obtain ⟨r19, hc18, h⟩ := bnd h
          refine v_callVi C [.int a1, .int x7, .int ((if a3 = true then 2 else 1) : Int32)] (cX3_ofPoint_ct l D cy ad i0 a1 x7 ((if a3 = true then 2 else 1) : Int32) u hi0 r19 hc18) ml_X3_34 (pL_0 i0 hi0) ⟨Nat.le_of_ble_eq_true rfl, Nat.le_of_ble_eq_true rfl⟩ ⟨rfl, rfl⟩ rfl rfl (Nat.le_of_ble_eq_true rfl) dX3_span_142 ?_
          refine v_iload C 0 dX3_span_145 rfl ?_
          refine v_imul C dX3_span_147 ?_
          refine v_iadd C dX3_span_148 ?_
          refine v_istore C [(11, .int ((r17 * ((r10 - r12) - (a2 - r15))) + (r19 * (a2 - r15)))), (10, .int (a2 - r15)), (9, .int (r10 - r12)), (8, .int ((if a3 = true then 2 else 1) : Int32)), (7, .int x7), (6, .int (if (v6 - 1) < 0 then 0 else (v6 - 1))), (0, .ref (ad (5 * i0))), (1, .int a1), (2, .int a2), (3, .int (bz a3)), (4, .int (u.1 (5 * i0 + 3) a1.toNatClampNeg)), (5, .int v6)] dX3_span_149 (by decide) rfl ?_
          refine v_iload_n C 9 dX3_span_151 rfl rfl ?_
          refine v_dia 167 (.int (if a3 = true then (((r17 * ((r10 - r12) - (a2 - r15))) + (r19 * (a2 - r15))) + (r10 - r12)) - 1 else (r17 * ((r10 - r12) - (a2 - r15))) + (r19 * (a2 - r15)))) [] ?_ (fun hj => ?_)
          · refine v_nmi (fun x21 hx21 => ?_)
            have h := nmd hx21 h
            refine v_iload C 2 dX3_span_167 rfl ?_
            obtain ⟨r23, hc22, h⟩ := bnd h
            refine v_callNi C [.int x21, .int (r10 - r12)] (cX11_cut_ct l D cy ad x21 (r10 - r12) _ r23 hc22) ml_X3_46 ⟨Nat.le_of_ble_eq_true rfl, Nat.le_of_ble_eq_true rfl⟩ ⟨rfl, rfl⟩ rfl rfl (Nat.le_of_ble_eq_true rfl) dX3_span_169 ?_
            cases h
            exact v_iret C hr hlk dX3_span_172
          · refine p_z_eq C 165 dX3_span_152 (by decide) (fun z20 => ?_) (fun z20 => ?_)
            · refine v_iload C 0 dX3_span_155 rfl ?_
              refine v_iload C 2 dX3_span_157 rfl ?_
              refine v_iadd C dX3_span_159 ?_
              refine v_iconst C (v := 1) dX3_span_160 (by decide) ?_
              refine v_isub C dX3_span_161 ?_
              refine v_goto C 167 dX3_span_162 (by decide) ?_
              exact v_top (by rw [if_pos z20]; first | done | rfl) hj
            · refine v_iload C 0 dX3_span_165 rfl ?_
              exact v_top (by rw [if_neg z20]; first | done | rfl) hj
        · refine v_aload_n C 4 dX3_span_99 rfl rfl ?_
          refine v_iload_n C 5 dX3_span_100 rfl rfl ?_
          refine v_iload C 3 dX3_span_101 rfl ?_
          refine v_iload C 1 dX3_span_103 rfl ?_
          obtain ⟨r25, hc24, h⟩ := bnd h
          refine v_callVi C [.int a1, .int (if (v6 - 1) < 0 then 0 else (v6 - 1)), .int ((if a3 = true then 2 else 1) : Int32)] (cX3_ofPoint_ct l D cy ad i0 a1 (if (v6 - 1) < 0 then 0 else (v6 - 1)) ((if a3 = true then 2 else 1) : Int32) u hi0 r25 hc24) ml_X3_34 (pL_0 i0 hi0) ⟨Nat.le_of_ble_eq_true rfl, Nat.le_of_ble_eq_true rfl⟩ ⟨rfl, rfl⟩ rfl rfl (Nat.le_of_ble_eq_true rfl) dX3_span_105 ?_
          cases h
          exact v_iret C hr hlk dX3_span_108
      · refine p_z_eq C 72 dX3_span_65 (by decide) (fun z8 => ?_) (fun z8 => ?_)
        · refine v_iconst C (v := 2) dX3_span_68 (by decide) ?_
          refine v_goto C 73 dX3_span_69 (by decide) ?_
          exact v_top (by rw [if_pos z8]; first | done | rfl) hj
        · refine v_iconst C (v := 1) dX3_span_72 (by decide) ?_
          exact v_top (by rw [if_neg z8]; first | done | rfl) hj
def rX3_extreme : Room := { frames := 2, cells := 0, slots := 0, locals := 54 }
def fX3_extreme_L47 (a0 : Nat) (a1 : Int32) (a2 : Int32) (a3 : Int32) (a4 : Bool) (u : Mem) : Nat → Int32 → Int32 → Option Int32
  | 0, _, _ => none
  | t + 1, a7, a8 => (if inB a1 7 then (if (u.1 (5 * a0 + 3) a1.toNatClampNeg) ≤ a8 then (some a7) else ((fX3_ofPoint a0 a1 a8 0 u).bind fun r8 => (if r8 ≤ a2 then fX3_extreme_L47 a0 a1 a2 a3 a4 u t a7 (a8 + 1) else (if a3 ≤ r8 then fX3_extreme_L47 a0 a1 a2 a3 a4 u t a7 (a8 + 1) else ((fX3_ofPoint a0 a1 a8 ((if a4 = true then 2 else 1) : Int32) u).bind fun r13 => fX3_extreme_L47 a0 a1 a2 a3 a4 u t (if a4 = true then (if a7 < r13 then r13 else a7) else (if r13 < a7 then r13 else a7)) (a8 + 1)))))) else none)
def fX3_extreme (i0 : Nat) (a1 : Int32) (a2 : Int32) (a3 : Int32) (a4 : Bool) (u : Mem) : Option Int32 := ((fX3_span i0 a1 a2 a4 u).bind fun r2 => ((fX3_span i0 a1 a3 a4 u).bind fun r4 => fX3_extreme_L47 i0 a1 a2 a3 a4 u fu0 (if a4 = true then (if r2 < r4 then r4 else r2) else (if r4 < r2 then r4 else r2)) 0))
set_option maxHeartbeats 4000000 in
set_option maxRecDepth 100000 in
theorem kX3_extreme_L47 {l : Launch} {D : va_G} {cy : Nat → ClassId} {ad : Nat → Nat} {p : Program} {e : Env} {s : State} {m : MethodId} {args : Array Value} {below : List Frame} {meth : Method} {c : Code} (C : Cx nX D cy ad 11 cX3_extreme RX3 rX3_extreme p s m args c) (hr : meth.sig.returnType = some .int) (hlk : meth.locks = false) (a0 : Nat) (a1 : Int32) (a2 : Int32) (a3 : Int32) (a4 : Bool) (ha0 : a0 < 32) (u : Mem) {out : Int32}  : ∀ (t : Nat) (a7 : Int32) (a8 : Int32), fX3_extreme_L47 a0 a1 a2 a3 a4 u t a7 a8 = some out → V shX nX D cy ad 11 p l e rX3_extreme s m args below meth c (MQ below (qI shX nX D cy ad out u) args s 0 0 (rA ad nX)) 47 [(0, .ref (ad (5 * a0))), (1, .int a1), (2, .int a2), (3, .int a3), (4, .int (bz a4)), (7, .int a7), (8, .int a8)] [] u := by
  intro t
  induction t with
  | zero => intro a7 a8 h; rw [fX3_extreme_L47] at h; cases h
  | succ t ih =>
    intro a7 a8 h
    rw [fX3_extreme_L47] at h
    refine v_iload C 6 dX3_extreme_47 rfl ?_
    refine v_aload_n C 0 dX3_extreme_49 rfl rfl ?_
    refine v_getr C (pL_0 a0 ha0) fd_X3_18 rfl dX3_extreme_50 ?_
    refine v_iload_n C 1 dX3_extreme_53 rfl rfl ?_
    refine v_iald C (pL_3 a0 ha0) dX3_extreme_54 h (fun h => ?_)
    refine v_icmp_ge C 129 dX3_extreme_55 (by decide) h (fun h => ?_) (fun h => ?_)
    · refine v_iload C 5 dX3_extreme_129 rfl ?_
      cases h
      exact v_iret C hr hlk dX3_extreme_131
    · refine v_aload_n C 0 dX3_extreme_58 rfl rfl ?_
      refine v_iload_n C 1 dX3_extreme_59 rfl rfl ?_
      refine v_iload C 6 dX3_extreme_60 rfl ?_
      refine v_iconst C (v := 0) dX3_extreme_62 (by decide) ?_
      obtain ⟨r8, hc7, h⟩ := bnd h
      refine v_callVi C [.int a1, .int a8, .int 0] (cX3_ofPoint_ct l D cy ad a0 a1 a8 0 u ha0 r8 hc7) ml_X3_34 (pL_0 a0 ha0) ⟨Nat.le_of_ble_eq_true rfl, Nat.le_of_ble_eq_true rfl⟩ ⟨rfl, rfl⟩ rfl rfl (Nat.le_of_ble_eq_true rfl) dX3_extreme_63 ?_
      refine v_istore C [(9, .int r8), (0, .ref (ad (5 * a0))), (1, .int a1), (2, .int a2), (3, .int a3), (4, .int (bz a4)), (7, .int a7), (8, .int a8)] dX3_extreme_66 (by decide) rfl ?_
      refine v_iload C 0 dX3_extreme_68 rfl ?_
      refine v_iload_n C 3 dX3_extreme_70 rfl rfl ?_
      refine v_icmp_le C 123 dX3_extreme_71 (by decide) h (fun h => ?_) (fun h => ?_)
      · refine v_iinc C 7 (v := a8 + 1) [(8, .int (a8 + 1)), (9, .int r8), (0, .ref (ad (5 * a0))), (1, .int a1), (2, .int a2), (3, .int a3), (4, .int (bz a4)), (7, .int a7)] dX3_extreme_123 rfl rfl (by decide) rfl ?_
        refine v_goto C 47 dX3_extreme_126 (by decide) ?_
        refine v_sub [2, 3, 4, 5, 6, 7, 0] rfl ?_
        exact ih a7 (a8 + 1) h
      · refine v_iload C 0 dX3_extreme_74 rfl ?_
        refine v_iload_n C 4 dX3_extreme_76 rfl rfl ?_
        refine v_icmp_ge C 123 dX3_extreme_77 (by decide) h (fun h => ?_) (fun h => ?_)
        · refine v_iinc C 7 (v := a8 + 1) [(8, .int (a8 + 1)), (9, .int r8), (0, .ref (ad (5 * a0))), (1, .int a1), (2, .int a2), (3, .int a3), (4, .int (bz a4)), (7, .int a7)] dX3_extreme_123 rfl rfl (by decide) rfl ?_
          refine v_goto C 47 dX3_extreme_126 (by decide) ?_
          refine v_sub [2, 3, 4, 5, 6, 7, 0] rfl ?_
          exact ih a7 (a8 + 1) h
        · refine v_aload_n C 1 dX3_extreme_80 rfl rfl ?_
          refine v_iload_n C 2 dX3_extreme_81 rfl rfl ?_
          refine v_iload C 7 dX3_extreme_82 rfl ?_
          refine v_iload C 5 dX3_extreme_84 rfl ?_
          refine v_dia 94 (.int ((if a4 = true then 2 else 1) : Int32)) [.int a8, .int a1, .ref (ad (5 * a0))] ?_ (fun hj => ?_)
          · obtain ⟨r13, hc12, h⟩ := bnd h
            refine v_callVi C [.int a1, .int a8, .int ((if a4 = true then 2 else 1) : Int32)] (cX3_ofPoint_ct l D cy ad a0 a1 a8 ((if a4 = true then 2 else 1) : Int32) u ha0 r13 hc12) ml_X3_34 (pL_0 a0 ha0) ⟨Nat.le_of_ble_eq_true rfl, Nat.le_of_ble_eq_true rfl⟩ ⟨rfl, rfl⟩ rfl rfl (Nat.le_of_ble_eq_true rfl) dX3_extreme_94 ?_
            refine v_istore C [(10, .int r13), (9, .int r8), (0, .ref (ad (5 * a0))), (1, .int a1), (2, .int a2), (3, .int a3), (4, .int (bz a4)), (7, .int a7), (8, .int a8)] dX3_extreme_97 (by decide) rfl ?_
            refine v_iload C 6 dX3_extreme_99 rfl ?_
            refine v_dia 121 (.int (if a4 = true then (if a7 < r13 then r13 else a7) else (if r13 < a7 then r13 else a7))) [] ?_ (fun hj => ?_)
            · refine v_istore C [(7, .int (if a4 = true then (if a7 < r13 then r13 else a7) else (if r13 < a7 then r13 else a7))), (10, .int r13), (9, .int r8), (0, .ref (ad (5 * a0))), (1, .int a1), (2, .int a2), (3, .int a3), (4, .int (bz a4)), (8, .int a8)] dX3_extreme_121 (by decide) rfl ?_
              refine v_iinc C 8 (v := a8 + 1) [(8, .int (a8 + 1)), (7, .int (if a4 = true then (if a7 < r13 then r13 else a7) else (if r13 < a7 then r13 else a7))), (10, .int r13), (9, .int r8), (0, .ref (ad (5 * a0))), (1, .int a1), (2, .int a2), (3, .int a3), (4, .int (bz a4))] dX3_extreme_123 rfl rfl (by decide) rfl ?_
              refine v_goto C 47 dX3_extreme_126 (by decide) ?_
              refine v_sub [4, 5, 6, 7, 8, 1, 0] rfl ?_
              exact ih (if a4 = true then (if a7 < r13 then r13 else a7) else (if r13 < a7 then r13 else a7)) (a8 + 1) h
            · refine p_z_eq C 114 dX3_extreme_101 (by decide) (fun z14 => ?_) (fun z14 => ?_)
              · refine v_iload C 7 dX3_extreme_104 rfl ?_
                refine v_iload C 0 dX3_extreme_106 rfl ?_
                refine v_mmax C ma_X3_38 (Nat.le_of_ble_eq_true rfl) (Nat.le_of_ble_eq_true rfl) (Nat.le_of_ble_eq_true rfl) dX3_extreme_108 ?_
                refine v_goto C 121 dX3_extreme_111 (by decide) ?_
                exact v_top (by rw [if_pos z14]; first | done | rfl) hj
              · refine v_iload C 7 dX3_extreme_114 rfl ?_
                refine v_iload C 0 dX3_extreme_116 rfl ?_
                refine v_mmin C ma_X3_43 (Nat.le_of_ble_eq_true rfl) (Nat.le_of_ble_eq_true rfl) (Nat.le_of_ble_eq_true rfl) dX3_extreme_118 ?_
                exact v_top (by rw [if_neg z14]; first | done | rfl) hj
          · refine p_z_eq C 93 dX3_extreme_86 (by decide) (fun z11 => ?_) (fun z11 => ?_)
            · refine v_iconst C (v := 2) dX3_extreme_89 (by decide) ?_
              refine v_goto C 94 dX3_extreme_90 (by decide) ?_
              exact v_top (by rw [if_pos z11]; first | done | rfl) hj
            · refine v_iconst C (v := 1) dX3_extreme_93 (by decide) ?_
              exact v_top (by rw [if_neg z11]; first | done | rfl) hj
set_option maxHeartbeats 4000000 in
set_option maxRecDepth 100000 in
theorem cX3_extreme_ct (l : Launch) (D : va_G) (cy : Nat → ClassId) (ad : Nat → Nat) (i0 : Nat) (a1 : Int32) (a2 : Int32) (a3 : Int32) (a4 : Bool) (u : Mem) (hi0 : i0 < 32) (out : Int32) (h : fX3_extreme i0 a1 a2 a3 a4 u = some out) : Met l yX3_extreme (.code yX3_extreme cX3_extreme 11 (some .int) :: gw) rX3_extreme (va_Pc [.ref (ad (5 * i0)), .int a1, .int a2, .int a3, .int (bz a4)] (wv shX nX D cy ad u)) (qI shX nX D cy ad out u) 0 0 (rA ad nX) := by
  refine met_of (cc := cX3_extreme) (nL := 11) (by decide) (Nat.le_of_ble_eq_true rfl) (fun p e s m below meth c C hr hlk => ?_)
  unfold fX3_extreme at h
  show V shX nX D cy ad 11 p l e rX3_extreme s m _ below meth c (MQ below (qI shX nX D cy ad out u) _ s 0 0 (rA ad nX)) 0 [(0, .ref (ad (5 * i0))), (1, .int a1), (2, .int a2), (3, .int a3), (4, .int (bz a4))] [] u
  refine v_aload_n C 0 dX3_extreme_0 rfl rfl ?_
  refine v_iload_n C 1 dX3_extreme_1 rfl rfl ?_
  refine v_iload_n C 2 dX3_extreme_2 rfl rfl ?_
  refine v_iload C 4 dX3_extreme_3 rfl ?_
  obtain ⟨r2, hc1, h⟩ := bnd h
  refine v_callVi C [.int a1, .int a2, .int (bz a4)] (cX3_span_ct l D cy ad i0 a1 a2 a4 u hi0 r2 hc1) ml_X3_49 (pL_0 i0 hi0) ⟨Nat.le_of_ble_eq_true rfl, Nat.le_of_ble_eq_true rfl⟩ ⟨rfl, rfl⟩ rfl rfl (Nat.le_of_ble_eq_true rfl) dX3_extreme_5 ?_
  refine v_istore C [(5, .int r2), (0, .ref (ad (5 * i0))), (1, .int a1), (2, .int a2), (3, .int a3), (4, .int (bz a4))] dX3_extreme_8 (by decide) rfl ?_
  refine v_aload_n C 1 dX3_extreme_10 rfl rfl ?_
  refine v_iload_n C 2 dX3_extreme_11 rfl rfl ?_
  refine v_iload_n C 4 dX3_extreme_12 rfl rfl ?_
  refine v_iload C 5 dX3_extreme_13 rfl ?_
  obtain ⟨r4, hc3, h⟩ := bnd h
  refine v_callVi C [.int a1, .int a3, .int (bz a4)] (cX3_span_ct l D cy ad i0 a1 a3 a4 u hi0 r4 hc3) ml_X3_49 (pL_0 i0 hi0) ⟨Nat.le_of_ble_eq_true rfl, Nat.le_of_ble_eq_true rfl⟩ ⟨rfl, rfl⟩ rfl rfl (Nat.le_of_ble_eq_true rfl) dX3_extreme_15 ?_
  refine v_istore C [(6, .int r4), (5, .int r2), (0, .ref (ad (5 * i0))), (1, .int a1), (2, .int a2), (3, .int a3), (4, .int (bz a4))] dX3_extreme_18 (by decide) rfl ?_
  refine v_iload C 6 dX3_extreme_20 rfl ?_
  refine v_dia 42 (.int (if a4 = true then (if r2 < r4 then r4 else r2) else (if r4 < r2 then r4 else r2))) [] ?_ (fun hj => ?_)
  · refine v_istore C [(7, .int (if a4 = true then (if r2 < r4 then r4 else r2) else (if r4 < r2 then r4 else r2))), (6, .int r4), (5, .int r2), (0, .ref (ad (5 * i0))), (1, .int a1), (2, .int a2), (3, .int a3), (4, .int (bz a4))] dX3_extreme_42 (by decide) rfl ?_
    refine v_iconst C (v := 0) dX3_extreme_44 (by decide) ?_
    refine v_istore C [(8, .int 0), (7, .int (if a4 = true then (if r2 < r4 then r4 else r2) else (if r4 < r2 then r4 else r2))), (6, .int r4), (5, .int r2), (0, .ref (ad (5 * i0))), (1, .int a1), (2, .int a2), (3, .int a3), (4, .int (bz a4))] dX3_extreme_45 (by decide) rfl ?_
    refine v_sub [4, 5, 6, 7, 8, 1, 0] rfl ?_
    refine kX3_extreme_L47 C hr hlk i0 a1 a2 a3 a4 hi0 u   fu0 (if a4 = true then (if r2 < r4 then r4 else r2) else (if r4 < r2 then r4 else r2)) 0 h
  · refine p_z_eq C 35 dX3_extreme_22 (by decide) (fun z5 => ?_) (fun z5 => ?_)
    · refine v_iload C 1 dX3_extreme_25 rfl ?_
      refine v_iload C 0 dX3_extreme_27 rfl ?_
      refine v_mmax C ma_X3_38 (Nat.le_of_ble_eq_true rfl) (Nat.le_of_ble_eq_true rfl) (Nat.le_of_ble_eq_true rfl) dX3_extreme_29 ?_
      refine v_goto C 42 dX3_extreme_32 (by decide) ?_
      exact v_top (by rw [if_pos z5]; first | done | rfl) hj
    · refine v_iload C 1 dX3_extreme_35 rfl ?_
      refine v_iload C 0 dX3_extreme_37 rfl ?_
      refine v_mmin C ma_X3_43 (Nat.le_of_ble_eq_true rfl) (Nat.le_of_ble_eq_true rfl) (Nat.le_of_ble_eq_true rfl) dX3_extreme_39 ?_
      exact v_top (by rw [if_neg z5]; first | done | rfl) hj
