def rX12_tells : Room := { frames := 0, cells := 0, slots := 0, locals := 0 }
def fX12_tells (a1 : Int32) (a2 : Int32) (a3 : Int32) (a4 : Int32) (u : Mem) : Option Mem := (if (u.1 1 5) = 200 then (some u) else (if inB (400 + (5 * (u.1 1 5))) 8320 then ((some (si u 1 (400 + (5 * (u.1 1 5))).toNatClampNeg (u.1 1 4))).bind fun u2 => (if inB ((400 + (5 * (u.1 1 5))) + 1) 8320 then ((some (si u2 1 ((400 + (5 * (u.1 1 5))) + 1).toNatClampNeg a1)).bind fun u3 => (if inB ((400 + (5 * (u.1 1 5))) + 2) 8320 then ((some (si u3 1 ((400 + (5 * (u.1 1 5))) + 2).toNatClampNeg a2)).bind fun u4 => (if inB ((400 + (5 * (u.1 1 5))) + 3) 8320 then ((some (si u4 1 ((400 + (5 * (u.1 1 5))) + 3).toNatClampNeg a3)).bind fun u5 => (if inB ((400 + (5 * (u.1 1 5))) + 4) 8320 then ((some (si u5 1 ((400 + (5 * (u.1 1 5))) + 4).toNatClampNeg a4)).bind fun u6 => (some (si u6 1 5 ((u6.1 1 5) + 1)))) else none)) else none)) else none)) else none)) else none))
set_option maxHeartbeats 4000000 in
set_option maxRecDepth 100000 in
theorem cX12_tells_ct (l : Launch) (D : va_G) (cy : Nat → ClassId) (ad : Nat → Nat) (a1 : Int32) (a2 : Int32) (a3 : Int32) (a4 : Int32) (u : Mem)  (out : Mem) (h : fX12_tells a1 a2 a3 a4 u = some out) : Met l yX12_tells (.code yX12_tells cX12_tells 6 (none) :: gw) rX12_tells (va_Pc [.ref (ad 0), .int a1, .int a2, .int a3, .int a4] (wv shM nM D cy ad u)) (qV shM nM D cy ad out) 0 0 (rA ad nM) := by
  refine met_of (cc := cX12_tells) (nL := 6) (by decide) (Nat.le_of_ble_eq_true rfl) (fun p e s m below meth c C hr hlk => ?_)
  unfold fX12_tells at h
  show V shM nM D cy ad 6 p l e rX12_tells s m _ below meth c (MQ below (qV shM nM D cy ad out) _ s 0 0 (rA ad nM)) 0 [(0, .ref (ad 0)), (1, .int a1), (2, .int a2), (3, .int a3), (4, .int a4)] [] u
  refine v_aload_n C 0 dX12_tells_0 rfl rfl ?_
  refine v_getr C pM_0 fd_X12_7 rfl dX12_tells_1 ?_
  refine v_iconst C (v := 5) dX12_tells_4 (by decide) ?_
  refine v_ialdN C pM_1 (j := 5) (by decide) (by decide) dX12_tells_5 ?_
  refine v_sipush C (v := 200) dX12_tells_6 (by decide) ?_
  refine v_icmp_ne C 13 dX12_tells_9 (by decide) h (fun h => ?_) (fun h => ?_)
  · cases h
    exact v_vret C hr hlk dX12_tells_12
  · refine v_sipush C (v := 400) dX12_tells_13 (by decide) ?_
    refine v_iconst C (v := 5) dX12_tells_16 (by decide) ?_
    refine v_aload_n C 0 dX12_tells_17 rfl rfl ?_
    refine v_getr C pM_0 fd_X12_7 rfl dX12_tells_18 ?_
    refine v_iconst C (v := 5) dX12_tells_21 (by decide) ?_
    refine v_ialdN C pM_1 (j := 5) (by decide) (by decide) dX12_tells_22 ?_
    refine v_imul C dX12_tells_23 ?_
    refine v_iadd C dX12_tells_24 ?_
    refine v_istore C [(5, .int (400 + (5 * (u.1 1 5)))), (0, .ref (ad 0)), (1, .int a1), (2, .int a2), (3, .int a3), (4, .int a4)] dX12_tells_25 (by decide) rfl ?_
    refine v_aload_n C 1 dX12_tells_27 rfl rfl ?_
    refine v_getr C pM_0 fd_X12_7 rfl dX12_tells_28 ?_
    refine v_iload C 0 dX12_tells_31 rfl ?_
    refine v_aload_n C 1 dX12_tells_33 rfl rfl ?_
    refine v_getr C pM_0 fd_X12_7 rfl dX12_tells_34 ?_
    refine v_iconst C (v := 4) dX12_tells_37 (by decide) ?_
    refine v_ialdN C pM_1 (j := 4) (by decide) (by decide) dX12_tells_38 ?_
    refine v_iast C pM_1 dX12_tells_39 h (fun h => ?_)
    refine v_mem (fun u2 hu2 => ?_)
    have h := nmd hu2 h
    refine v_aload_n C 1 dX12_tells_40 rfl rfl ?_
    refine v_getr C pM_0 fd_X12_7 rfl dX12_tells_41 ?_
    refine v_iload C 0 dX12_tells_44 rfl ?_
    refine v_iconst C (v := 1) dX12_tells_46 (by decide) ?_
    refine v_iadd C dX12_tells_47 ?_
    refine v_iload_n C 2 dX12_tells_48 rfl rfl ?_
    refine v_iast C pM_1 dX12_tells_49 h (fun h => ?_)
    refine v_mem (fun u3 hu3 => ?_)
    have h := nmd hu3 h
    refine v_aload_n C 1 dX12_tells_50 rfl rfl ?_
    refine v_getr C pM_0 fd_X12_7 rfl dX12_tells_51 ?_
    refine v_iload C 0 dX12_tells_54 rfl ?_
    refine v_iconst C (v := 2) dX12_tells_56 (by decide) ?_
    refine v_iadd C dX12_tells_57 ?_
    refine v_iload_n C 3 dX12_tells_58 rfl rfl ?_
    refine v_iast C pM_1 dX12_tells_59 h (fun h => ?_)
    refine v_mem (fun u4 hu4 => ?_)
    have h := nmd hu4 h
    refine v_aload_n C 1 dX12_tells_60 rfl rfl ?_
    refine v_getr C pM_0 fd_X12_7 rfl dX12_tells_61 ?_
    refine v_iload C 0 dX12_tells_64 rfl ?_
    refine v_iconst C (v := 3) dX12_tells_66 (by decide) ?_
    refine v_iadd C dX12_tells_67 ?_
    refine v_iload_n C 4 dX12_tells_68 rfl rfl ?_
    refine v_iast C pM_1 dX12_tells_69 h (fun h => ?_)
    refine v_mem (fun u5 hu5 => ?_)
    have h := nmd hu5 h
    refine v_aload_n C 1 dX12_tells_70 rfl rfl ?_
    refine v_getr C pM_0 fd_X12_7 rfl dX12_tells_71 ?_
    refine v_iload C 0 dX12_tells_74 rfl ?_
    refine v_iconst C (v := 4) dX12_tells_76 (by decide) ?_
    refine v_iadd C dX12_tells_77 ?_
    refine v_iload C 5 dX12_tells_78 rfl ?_
    refine v_iast C pM_1 dX12_tells_80 h (fun h => ?_)
    refine v_mem (fun u6 hu6 => ?_)
    have h := nmd hu6 h
    refine v_aload_n C 1 dX12_tells_81 rfl rfl ?_
    refine v_getr C pM_0 fd_X12_7 rfl dX12_tells_82 ?_
    refine v_iconst C (v := 5) dX12_tells_85 (by decide) ?_
    refine v_dup2 C rfl rfl dX12_tells_86 ?_
    refine v_ialdN C pM_1 (j := 5) (by decide) (by decide) dX12_tells_87 ?_
    refine v_iconst C (v := 1) dX12_tells_88 (by decide) ?_
    refine v_iadd C dX12_tells_89 ?_
    refine v_iastN C pM_1 (j := 5) (by decide) (by decide) dX12_tells_90 ?_
    cases h
    exact v_vret C hr hlk dX12_tells_91
def rX12_burns : Room := { frames := 2, cells := 0, slots := 0, locals := 43 }
def fX12_burns (a1 : Int32) (a2 : Int32) (a3 : Int32) (u : Mem) : Option Mem := ((fX12_chainOf a3 0 u).bind fun r2 => ((fX12_chainOf a3 1 u).bind fun r4 => ((fX12_chainOf a3 2 u).bind fun r6 => ((fX12_chainOf a3 3 u).bind fun r8 => ((fX12_partsAt a1 a2 r2 u).bind fun r10 => (if r4 = 0 then none else (if inB a2 16 then (if inB ((1000 * (2 + a3)) + (u.1 12 a2.toNatClampNeg)) 7000 then ((fX12_partsAt a1 a2 r6 u).bind fun r12 => (if r8 = 0 then none else ((some ((if (r10 / r4) ≤ (u.1 9 ((1000 * (2 + a3)) + (u.1 12 a2.toNatClampNeg)).toNatClampNeg) then r10 / r4 else u.1 9 ((1000 * (2 + a3)) + (u.1 12 a2.toNatClampNeg)).toNatClampNeg))).bind fun x14 => ((fX12_partsAt a1 a2 r2 u).bind fun r17 => ((fX12_sets a1 a2 r2 (r17 - ((if x14 ≤ ((100000 - r12) / r8) then x14 else (100000 - r12) / r8) * r4)) u).bind fun u19 => ((fX12_partsAt a1 a2 r6 u19).bind fun r21 => ((fX12_sets a1 a2 r6 (r21 + ((if x14 ≤ ((100000 - r12) / r8) then x14 else (100000 - r12) / r8) * r8)) u19).bind fun u23 => (if inB (((80 * a1) + (5 * a2)) + a3) 160 then ((fX12_chainOf a3 4 u23).bind fun r25 => ((some ((u23.2 3 (((80 * a1) + (5 * a2)) + a3).toNatClampNeg) + (((if x14 ≤ ((100000 - r12) / r8) then x14 else (100000 - r12) / r8).toInt64) * r25.toInt64))).bind fun x26 => (if inB (((80 * a1) + (5 * a2)) + a3) 160 then ((some (sl u23 3 (((80 * a1) + (5 * a2)) + a3).toNatClampNeg x26)).bind fun u27 => (if (if x14 ≤ ((100000 - r12) / r8) then x14 else (100000 - r12) / r8) ≤ 0 then (if inB a3 5 then (some (si u27 17 a3.toNatClampNeg 0)) else none) else ((fX12_chainOf a3 4 u27).bind fun r30 => (if inB a3 5 then (some (si u27 17 a3.toNatClampNeg (bz (if r30 ≤ 0 then false else true)))) else none)))) else none))) else none)))))))) else none) else none)))))))
set_option maxHeartbeats 4000000 in
set_option maxRecDepth 100000 in
theorem cX12_burns_ct (l : Launch) (D : va_G) (cy : Nat → ClassId) (ad : Nat → Nat) (a1 : Int32) (a2 : Int32) (a3 : Int32) (u : Mem)  (out : Mem) (h : fX12_burns a1 a2 a3 u = some out) : Met l yX12_burns (.code yX12_burns cX12_burns 11 (none) :: gw) rX12_burns (va_Pc [.ref (ad 0), .int a1, .int a2, .int a3] (wv shM nM D cy ad u)) (qV shM nM D cy ad out) 0 0 (rA ad nM) := by
  refine met_of (cc := cX12_burns) (nL := 11) (by decide) (Nat.le_of_ble_eq_true rfl) (fun p e s m below meth c C hr hlk => ?_)
  unfold fX12_burns at h
  show V shM nM D cy ad 11 p l e rX12_burns s m _ below meth c (MQ below (qV shM nM D cy ad out) _ s 0 0 (rA ad nM)) 0 [(0, .ref (ad 0)), (1, .int a1), (2, .int a2), (3, .int a3)] [] u
  refine v_aload_n C 0 dX12_burns_0 rfl rfl ?_
  refine v_iload_n C 3 dX12_burns_1 rfl rfl ?_
  refine v_iconst C (v := 0) dX12_burns_2 (by decide) ?_
  obtain ⟨r2, hc1, h⟩ := bnd h
  refine v_callVi C [.int a3, .int 0] (cX12_chainOf_ct l D cy ad a3 0 u r2 hc1) ml_X12_205 pM_0 ⟨Nat.le_of_ble_eq_true rfl, Nat.le_of_ble_eq_true rfl⟩ ⟨rfl, rfl⟩ rfl rfl (Nat.le_of_ble_eq_true rfl) dX12_burns_3 ?_
  refine v_istore C [(4, .int r2), (0, .ref (ad 0)), (1, .int a1), (2, .int a2), (3, .int a3)] dX12_burns_6 (by decide) rfl ?_
  refine v_aload_n C 1 dX12_burns_8 rfl rfl ?_
  refine v_iload_n C 4 dX12_burns_9 rfl rfl ?_
  refine v_iconst C (v := 1) dX12_burns_10 (by decide) ?_
  obtain ⟨r4, hc3, h⟩ := bnd h
  refine v_callVi C [.int a3, .int 1] (cX12_chainOf_ct l D cy ad a3 1 u r4 hc3) ml_X12_205 pM_0 ⟨Nat.le_of_ble_eq_true rfl, Nat.le_of_ble_eq_true rfl⟩ ⟨rfl, rfl⟩ rfl rfl (Nat.le_of_ble_eq_true rfl) dX12_burns_11 ?_
  refine v_istore C [(5, .int r4), (4, .int r2), (0, .ref (ad 0)), (1, .int a1), (2, .int a2), (3, .int a3)] dX12_burns_14 (by decide) rfl ?_
  refine v_aload_n C 2 dX12_burns_16 rfl rfl ?_
  refine v_iload_n C 5 dX12_burns_17 rfl rfl ?_
  refine v_iconst C (v := 2) dX12_burns_18 (by decide) ?_
  obtain ⟨r6, hc5, h⟩ := bnd h
  refine v_callVi C [.int a3, .int 2] (cX12_chainOf_ct l D cy ad a3 2 u r6 hc5) ml_X12_205 pM_0 ⟨Nat.le_of_ble_eq_true rfl, Nat.le_of_ble_eq_true rfl⟩ ⟨rfl, rfl⟩ rfl rfl (Nat.le_of_ble_eq_true rfl) dX12_burns_19 ?_
  refine v_istore C [(6, .int r6), (5, .int r4), (4, .int r2), (0, .ref (ad 0)), (1, .int a1), (2, .int a2), (3, .int a3)] dX12_burns_22 (by decide) rfl ?_
  refine v_aload_n C 3 dX12_burns_24 rfl rfl ?_
  refine v_iload_n C 6 dX12_burns_25 rfl rfl ?_
  refine v_iconst C (v := 3) dX12_burns_26 (by decide) ?_
  obtain ⟨r8, hc7, h⟩ := bnd h
  refine v_callVi C [.int a3, .int 3] (cX12_chainOf_ct l D cy ad a3 3 u r8 hc7) ml_X12_205 pM_0 ⟨Nat.le_of_ble_eq_true rfl, Nat.le_of_ble_eq_true rfl⟩ ⟨rfl, rfl⟩ rfl rfl (Nat.le_of_ble_eq_true rfl) dX12_burns_27 ?_
  refine v_istore C [(7, .int r8), (6, .int r6), (5, .int r4), (4, .int r2), (0, .ref (ad 0)), (1, .int a1), (2, .int a2), (3, .int a3)] dX12_burns_30 (by decide) rfl ?_
  refine v_aload_n C 4 dX12_burns_32 rfl rfl ?_
  refine v_iload_n C 5 dX12_burns_33 rfl rfl ?_
  refine v_iload_n C 6 dX12_burns_34 rfl rfl ?_
  refine v_iload C 3 dX12_burns_35 rfl ?_
  obtain ⟨r10, hc9, h⟩ := bnd h
  refine v_callVi C [.int a1, .int a2, .int r2] (cX12_partsAt_ct l D cy ad a1 a2 r2 u r10 hc9) ml_X12_228 pM_0 ⟨Nat.le_of_ble_eq_true rfl, Nat.le_of_ble_eq_true rfl⟩ ⟨rfl, rfl⟩ rfl rfl (Nat.le_of_ble_eq_true rfl) dX12_burns_37 ?_
  refine v_iload C 2 dX12_burns_40 rfl ?_
  refine v_idiv C dX12_burns_42 h (fun h => ?_)
  refine v_istore C [(8, .int (r10 / r4)), (7, .int r8), (6, .int r6), (5, .int r4), (4, .int r2), (0, .ref (ad 0)), (1, .int a1), (2, .int a2), (3, .int a3)] dX12_burns_43 (by decide) rfl ?_
  refine v_aload_n C 5 dX12_burns_45 rfl rfl ?_
  refine v_getr C pM_0 fd_X12_47 rfl dX12_burns_46 ?_
  refine v_sipush C (v := 1000) dX12_burns_49 (by decide) ?_
  refine v_iconst C (v := 2) dX12_burns_52 (by decide) ?_
  refine v_iload_n C 8 dX12_burns_53 rfl rfl ?_
  refine v_iadd C dX12_burns_54 ?_
  refine v_imul C dX12_burns_55 ?_
  refine v_aload_n C 5 dX12_burns_56 rfl rfl ?_
  refine v_getr C pM_0 fd_X12_56 rfl dX12_burns_57 ?_
  refine v_iload_n C 7 dX12_burns_60 rfl rfl ?_
  refine v_iald C pM_12 dX12_burns_61 h (fun h => ?_)
  refine v_iadd C dX12_burns_62 ?_
  refine v_iald C pM_9 dX12_burns_63 h (fun h => ?_)
  refine v_istore C [(9, .int (u.1 9 ((1000 * (2 + a3)) + (u.1 12 a2.toNatClampNeg)).toNatClampNeg)), (8, .int (r10 / r4)), (7, .int r8), (6, .int r6), (5, .int r4), (4, .int r2), (0, .ref (ad 0)), (1, .int a1), (2, .int a2), (3, .int a3)] dX12_burns_64 (by decide) rfl ?_
  refine v_ldc_w C kc_X12_267 dX12_burns_66 ?_
  refine v_aload_n C 6 dX12_burns_69 rfl rfl ?_
  refine v_iload_n C 7 dX12_burns_70 rfl rfl ?_
  refine v_iload_n C 8 dX12_burns_71 rfl rfl ?_
  refine v_iload C 3 dX12_burns_72 rfl ?_
  obtain ⟨r12, hc11, h⟩ := bnd h
  refine v_callVi C [.int a1, .int a2, .int r6] (cX12_partsAt_ct l D cy ad a1 a2 r6 u r12 hc11) ml_X12_228 pM_0 ⟨Nat.le_of_ble_eq_true rfl, Nat.le_of_ble_eq_true rfl⟩ ⟨rfl, rfl⟩ rfl rfl (Nat.le_of_ble_eq_true rfl) dX12_burns_74 ?_
  refine v_isub C dX12_burns_77 ?_
  refine v_iload C 2 dX12_burns_78 rfl ?_
  refine v_idiv C dX12_burns_80 h (fun h => ?_)
  refine v_istore C [(10, .int ((100000 - r12) / r8)), (9, .int (u.1 9 ((1000 * (2 + a3)) + (u.1 12 a2.toNatClampNeg)).toNatClampNeg)), (8, .int (r10 / r4)), (7, .int r8), (6, .int r6), (5, .int r4), (4, .int r2), (0, .ref (ad 0)), (1, .int a1), (2, .int a2), (3, .int a3)] dX12_burns_81 (by decide) rfl ?_
  refine v_iload C 1 dX12_burns_83 rfl ?_
  refine v_iload C 2 dX12_burns_85 rfl ?_
  refine v_dia 97 (.int (if (r10 / r4) ≤ (u.1 9 ((1000 * (2 + a3)) + (u.1 12 a2.toNatClampNeg)).toNatClampNeg) then r10 / r4 else u.1 9 ((1000 * (2 + a3)) + (u.1 12 a2.toNatClampNeg)).toNatClampNeg)) [] ?_ (fun hj => ?_)
  · refine v_nmi (fun x14 hx14 => ?_)
    have h := nmd hx14 h
    refine v_istore C [(8, .int x14), (10, .int ((100000 - r12) / r8)), (9, .int (u.1 9 ((1000 * (2 + a3)) + (u.1 12 a2.toNatClampNeg)).toNatClampNeg)), (7, .int r8), (6, .int r6), (5, .int r4), (4, .int r2), (0, .ref (ad 0)), (1, .int a1), (2, .int a2), (3, .int a3)] dX12_burns_97 (by decide) rfl ?_
    refine v_iload C 1 dX12_burns_99 rfl ?_
    refine v_iload C 0 dX12_burns_101 rfl ?_
    refine v_dia 113 (.int (if x14 ≤ ((100000 - r12) / r8) then x14 else (100000 - r12) / r8)) [] ?_ (fun hj => ?_)
    · refine v_istore C [(8, .int (if x14 ≤ ((100000 - r12) / r8) then x14 else (100000 - r12) / r8)), (10, .int ((100000 - r12) / r8)), (9, .int (u.1 9 ((1000 * (2 + a3)) + (u.1 12 a2.toNatClampNeg)).toNatClampNeg)), (7, .int r8), (6, .int r6), (5, .int r4), (4, .int r2), (0, .ref (ad 0)), (1, .int a1), (2, .int a2), (3, .int a3)] dX12_burns_113 (by decide) rfl ?_
      refine v_aload_n C 7 dX12_burns_115 rfl rfl ?_
      refine v_iload_n C 8 dX12_burns_116 rfl rfl ?_
      refine v_iload_n C 9 dX12_burns_117 rfl rfl ?_
      refine v_iload C 6 dX12_burns_118 rfl ?_
      refine v_aload_n C 7 dX12_burns_120 rfl rfl ?_
      refine v_iload_n C 8 dX12_burns_121 rfl rfl ?_
      refine v_iload_n C 9 dX12_burns_122 rfl rfl ?_
      refine v_iload C 6 dX12_burns_123 rfl ?_
      obtain ⟨r17, hc16, h⟩ := bnd h
      refine v_callVi C [.int a1, .int a2, .int r2] (cX12_partsAt_ct l D cy ad a1 a2 r2 u r17 hc16) ml_X12_228 pM_0 ⟨Nat.le_of_ble_eq_true rfl, Nat.le_of_ble_eq_true rfl⟩ ⟨rfl, rfl⟩ rfl rfl (Nat.le_of_ble_eq_true rfl) dX12_burns_125 ?_
      refine v_iload C 0 dX12_burns_128 rfl ?_
      refine v_iload C 5 dX12_burns_130 rfl ?_
      refine v_imul C dX12_burns_132 ?_
      refine v_isub C dX12_burns_133 ?_
      obtain ⟨u19, hc18, h⟩ := bnd h
      refine v_callVv C [.int a1, .int a2, .int r2, .int (r17 - ((if x14 ≤ ((100000 - r12) / r8) then x14 else (100000 - r12) / r8) * r4))] (cX12_sets_ct l D cy ad a1 a2 r2 (r17 - ((if x14 ≤ ((100000 - r12) / r8) then x14 else (100000 - r12) / r8) * r4)) u u19 hc18) ml_X12_224 pM_0 ⟨Nat.le_of_ble_eq_true rfl, Nat.le_of_ble_eq_true rfl⟩ ⟨rfl, rfl⟩ rfl rfl (Nat.le_of_ble_eq_true rfl) dX12_burns_134 ?_
      refine v_aload_n C 7 dX12_burns_137 rfl rfl ?_
      refine v_iload_n C 8 dX12_burns_138 rfl rfl ?_
      refine v_iload_n C 9 dX12_burns_139 rfl rfl ?_
      refine v_iload C 4 dX12_burns_140 rfl ?_
      refine v_aload_n C 7 dX12_burns_142 rfl rfl ?_
      refine v_iload_n C 8 dX12_burns_143 rfl rfl ?_
      refine v_iload_n C 9 dX12_burns_144 rfl rfl ?_
      refine v_iload C 4 dX12_burns_145 rfl ?_
      obtain ⟨r21, hc20, h⟩ := bnd h
      refine v_callVi C [.int a1, .int a2, .int r6] (cX12_partsAt_ct l D cy ad a1 a2 r6 u19 r21 hc20) ml_X12_228 pM_0 ⟨Nat.le_of_ble_eq_true rfl, Nat.le_of_ble_eq_true rfl⟩ ⟨rfl, rfl⟩ rfl rfl (Nat.le_of_ble_eq_true rfl) dX12_burns_147 ?_
      refine v_iload C 0 dX12_burns_150 rfl ?_
      refine v_iload C 3 dX12_burns_152 rfl ?_
      refine v_imul C dX12_burns_154 ?_
      refine v_iadd C dX12_burns_155 ?_
      obtain ⟨u23, hc22, h⟩ := bnd h
      refine v_callVv C [.int a1, .int a2, .int r6, .int (r21 + ((if x14 ≤ ((100000 - r12) / r8) then x14 else (100000 - r12) / r8) * r8))] (cX12_sets_ct l D cy ad a1 a2 r6 (r21 + ((if x14 ≤ ((100000 - r12) / r8) then x14 else (100000 - r12) / r8) * r8)) u19 u23 hc22) ml_X12_224 pM_0 ⟨Nat.le_of_ble_eq_true rfl, Nat.le_of_ble_eq_true rfl⟩ ⟨rfl, rfl⟩ rfl rfl (Nat.le_of_ble_eq_true rfl) dX12_burns_156 ?_
      refine v_aload_n C 7 dX12_burns_159 rfl rfl ?_
      refine v_getr C pM_0 fd_X12_16 rfl dX12_burns_160 ?_
      refine v_bipush C (v := 80) dX12_burns_163 (by decide) ?_
      refine v_iload_n C 8 dX12_burns_165 rfl rfl ?_
      refine v_imul C dX12_burns_166 ?_
      refine v_iconst C (v := 5) dX12_burns_167 (by decide) ?_
      refine v_iload_n C 9 dX12_burns_168 rfl rfl ?_
      refine v_imul C dX12_burns_169 ?_
      refine v_iadd C dX12_burns_170 ?_
      refine v_iload_n C 10 dX12_burns_171 rfl rfl ?_
      refine v_iadd C dX12_burns_172 ?_
      refine v_dup2 C rfl rfl dX12_burns_173 ?_
      refine v_lald C pM_3 dX12_burns_174 h (fun h => ?_)
      refine v_iload C 0 dX12_burns_175 rfl ?_
      refine v_i2l C dX12_burns_177 ?_
      refine v_aload_n C 7 dX12_burns_178 rfl rfl ?_
      refine v_iload_n C 10 dX12_burns_179 rfl rfl ?_
      refine v_iconst C (v := 4) dX12_burns_180 (by decide) ?_
      obtain ⟨r25, hc24, h⟩ := bnd h
      refine v_callVi C [.int a3, .int 4] (cX12_chainOf_ct l D cy ad a3 4 u23 r25 hc24) ml_X12_205 pM_0 ⟨Nat.le_of_ble_eq_true rfl, Nat.le_of_ble_eq_true rfl⟩ ⟨rfl, rfl⟩ rfl rfl (Nat.le_of_ble_eq_true rfl) dX12_burns_181 ?_
      refine v_i2l C dX12_burns_184 ?_
      refine v_lmul C dX12_burns_185 ?_
      refine v_ladd C dX12_burns_186 ?_
      refine v_nmj (fun x26 hx26 => ?_)
      have h := nmd hx26 h
      refine v_last C pM_3 dX12_burns_187 h (fun h => ?_)
      refine v_mem (fun u27 hu27 => ?_)
      have h := nmd hu27 h
      refine v_aload_n C 7 dX12_burns_188 rfl rfl ?_
      refine v_getr C pM_0 fd_X12_71 rfl dX12_burns_189 ?_
      refine v_iload_n C 10 dX12_burns_192 rfl rfl ?_
      refine v_iload C 0 dX12_burns_193 rfl ?_
      refine v_if_le C 211 dX12_burns_195 (by decide) h (fun h => ?_) (fun h => ?_)
      · refine v_iconst C (v := 0) dX12_burns_211 (by decide) ?_
        refine v_zast C pM_17 (by decide) dX12_burns_212 h (fun h => ?_)
        cases h
        exact v_vret C hr hlk dX12_burns_213
      · refine v_aload_n C 7 dX12_burns_198 rfl rfl ?_
        refine v_iload_n C 10 dX12_burns_199 rfl rfl ?_
        refine v_iconst C (v := 4) dX12_burns_200 (by decide) ?_
        obtain ⟨r30, hc29, h⟩ := bnd h
        refine v_callVi C [.int a3, .int 4] (cX12_chainOf_ct l D cy ad a3 4 u27 r30 hc29) ml_X12_205 pM_0 ⟨Nat.le_of_ble_eq_true rfl, Nat.le_of_ble_eq_true rfl⟩ ⟨rfl, rfl⟩ rfl rfl (Nat.le_of_ble_eq_true rfl) dX12_burns_201 ?_
        refine v_dia 212 (.int (bz (if r30 ≤ 0 then false else true))) [.int a3, .ref (ad 17)] ?_ (fun hj => ?_)
        · refine v_zast C pM_17 (bz_nar _) dX12_burns_212 h (fun h => ?_)
          cases h
          exact v_vret C hr hlk dX12_burns_213
        · refine p_if_le C 211 dX12_burns_204 (by decide) (fun z31 => ?_) (fun z31 => ?_)
          · refine v_iconst C (v := 0) dX12_burns_211 (by decide) ?_
            exact v_top (by rw [if_pos z31]; first | done | rfl) hj
          · refine v_iconst C (v := 1) dX12_burns_207 (by decide) ?_
            refine v_goto C 212 dX12_burns_208 (by decide) ?_
            exact v_top (by rw [if_neg z31]; first | done | rfl) hj
    · refine p_icmp_ge C 111 dX12_burns_103 (by decide) (fun z15 => ?_) (fun z15 => ?_)
      · refine v_iload C 0 dX12_burns_111 rfl ?_
        exact v_top (by rw [if_pos z15]; first | done | rfl) hj
      · refine v_iload C 1 dX12_burns_106 rfl ?_
        refine v_goto C 113 dX12_burns_108 (by decide) ?_
        exact v_top (by rw [if_neg z15]; first | done | rfl) hj
  · refine p_icmp_ge C 95 dX12_burns_87 (by decide) (fun z13 => ?_) (fun z13 => ?_)
    · refine v_iload C 2 dX12_burns_95 rfl ?_
      exact v_top (by rw [if_pos z13]; first | done | rfl) hj
    · refine v_iload C 1 dX12_burns_90 rfl ?_
      refine v_goto C 97 dX12_burns_92 (by decide) ?_
      exact v_top (by rw [if_neg z13]; first | done | rfl) hj
def rX12_looksAt : Room := { frames := 2, cells := 0, slots := 0, locals := 43 }
def fX12_looksAt_J97 (a1 : Int32) (a2 : Int32) (a3 : Int32) (a4 : Int32) (a5 : Bool) (u : Mem) : Option Mem := (if a5 = true then (if inB a4 8320 then (if (u.1 1 a4.toNatClampNeg) = 0 then ((fX12_tells a1 a2 a3 1 u).bind fun u19 => (if inB a4 8320 then (some (si u19 1 a4.toNatClampNeg ((if a5 = true then 1 else 0) : Int32))) else none)) else (if inB a4 8320 then (some (si u 1 a4.toNatClampNeg ((if a5 = true then 1 else 0) : Int32))) else none)) else none) else (if inB a4 8320 then (some (si u 1 a4.toNatClampNeg ((if a5 = true then 1 else 0) : Int32))) else none))
def fX12_looksAt_J38 (a1 : Int32) (a2 : Int32) (a3 : Int32) (a4 : Int32) (s0 : Bool) (u : Mem) : Option Mem := ((fX12_isChain a3 u).bind fun r32 => (if r32 = true then ((fX12_chainOf a3 0 u).bind fun r35 => ((fX12_partsAt a1 a2 r35 u).bind fun r37 => ((fX12_chainOf a3 1 u).bind fun r39 => (if r39 ≤ r37 then fX12_looksAt_J97 a1 a2 a3 a4 s0 u else ((fX12_chainOf a3 0 u).bind fun r43 => (if inB r43 6 then ((fX12_chainOf a3 1 u).bind fun r45 => (if (u.1 16 r43.toNatClampNeg) < r45 then fX12_looksAt_J97 a1 a2 a3 a4 s0 u else ((fX12_tells a1 a2 a3 0 u).bind fun u49 => fX12_looksAt_J97 a1 a2 a3 a4 s0 u49))) else none)))))) else fX12_looksAt_J97 a1 a2 a3 a4 s0 u))
def fX12_looksAt_J37 (a1 : Int32) (a2 : Int32) (a3 : Int32) (a4 : Int32) (u : Mem) : Option Mem := fX12_looksAt_J38 a1 a2 a3 a4 false u
def fX12_looksAt (a1 : Int32) (a2 : Int32) (a3 : Int32) (u : Mem) : Option Mem := ((fX12_isChain a3 u).bind fun r2 => (if r2 = true then (if inB a3 5 then ((fX12_isChain a3 u).bind fun r6 => (if r6 = true then ((fX12_chainOf a3 0 u).bind fun r9 => ((fX12_partsAt a1 a2 r9 u).bind fun r11 => ((fX12_chainOf a3 1 u).bind fun r13 => (if r13 ≤ r11 then fX12_looksAt_J97 a1 a2 a3 (((220 + (80 * a1)) + (5 * a2)) + a3) (if (u.1 17 a3.toNatClampNeg) = 0 then false else true) u else ((fX12_chainOf a3 0 u).bind fun r24 => (if inB r24 6 then ((fX12_chainOf a3 1 u).bind fun r26 => (if (u.1 16 r24.toNatClampNeg) < r26 then fX12_looksAt_J97 a1 a2 a3 (((220 + (80 * a1)) + (5 * a2)) + a3) (if (u.1 17 a3.toNatClampNeg) = 0 then false else true) u else ((fX12_tells a1 a2 a3 0 u).bind fun u30 => fX12_looksAt_J97 a1 a2 a3 (((220 + (80 * a1)) + (5 * a2)) + a3) (if (u.1 17 a3.toNatClampNeg) = 0 then false else true) u30))) else none)))))) else fX12_looksAt_J97 a1 a2 a3 (((220 + (80 * a1)) + (5 * a2)) + a3) (if (u.1 17 a3.toNatClampNeg) = 0 then false else true) u)) else none) else fX12_looksAt_J37 a1 a2 a3 (((220 + (80 * a1)) + (5 * a2)) + a3) u))
set_option maxHeartbeats 4000000 in
set_option maxRecDepth 100000 in
theorem kX12_looksAt_J97 {l : Launch} {D : va_G} {cy : Nat → ClassId} {ad : Nat → Nat} {p : Program} {e : Env} {s : State} {m : MethodId} {args : Array Value} {below : List Frame} {meth : Method} {c : Code} (C : Cx nM D cy ad 6 cX12_looksAt RX12 rX12_looksAt p s m args c) (hr : meth.sig.returnType = none) (hlk : meth.locks = false) {out : Mem}  (a1 : Int32) (a2 : Int32) (a3 : Int32) (a4 : Int32) (a5 : Bool) (u : Mem)   (h : fX12_looksAt_J97 a1 a2 a3 a4 a5 u = some out) : V shM nM D cy ad 6 p l e rX12_looksAt s m args below meth c (MQ below (qV shM nM D cy ad out) args s 0 0 (rA ad nM)) 97 [(0, .ref (ad 0)), (1, .int a1), (2, .int a2), (3, .int a3), (4, .int a4), (5, .int (bz a5))] [] u := by
  unfold fX12_looksAt_J97 at h
  refine v_iload C 5 dX12_looksAt_97 rfl ?_
  refine v_z_eq C 120 dX12_looksAt_99 (by decide) h (fun h => ?_) (fun h => ?_)
  · refine v_aload_n C 0 dX12_looksAt_102 rfl rfl ?_
    refine v_getr C pM_0 fd_X12_7 rfl dX12_looksAt_103 ?_
    refine v_iload C 4 dX12_looksAt_106 rfl ?_
    refine v_iald C pM_1 dX12_looksAt_108 h (fun h => ?_)
    refine v_if_ne C 120 dX12_looksAt_109 (by decide) h (fun h => ?_) (fun h => ?_)
    · refine v_aload_n C 0 dX12_looksAt_112 rfl rfl ?_
      refine v_iload_n C 1 dX12_looksAt_113 rfl rfl ?_
      refine v_iload_n C 2 dX12_looksAt_114 rfl rfl ?_
      refine v_iload_n C 3 dX12_looksAt_115 rfl rfl ?_
      refine v_iconst C (v := 1) dX12_looksAt_116 (by decide) ?_
      obtain ⟨u19, hc18, h⟩ := bnd h
      refine v_callVv C [.int a1, .int a2, .int a3, .int 1] (cX12_tells_ct l D cy ad a1 a2 a3 1 u u19 hc18) ml_X12_268 pM_0 ⟨Nat.le_of_ble_eq_true rfl, Nat.le_of_ble_eq_true rfl⟩ ⟨rfl, rfl⟩ rfl rfl (Nat.le_of_ble_eq_true rfl) dX12_looksAt_117 ?_
      refine v_aload_n C 0 dX12_looksAt_120 rfl rfl ?_
      refine v_getr C pM_0 fd_X12_7 rfl dX12_looksAt_121 ?_
      refine v_iload C 4 dX12_looksAt_124 rfl ?_
      refine v_iload C 5 dX12_looksAt_126 rfl ?_
      refine v_dia 136 (.int ((if a5 = true then 1 else 0) : Int32)) [.int a4, .ref (ad 1)] ?_ (fun hj => ?_)
      · refine v_iast C pM_1 dX12_looksAt_136 h (fun h => ?_)
        cases h
        exact v_vret C hr hlk dX12_looksAt_137
      · refine p_z_eq C 135 dX12_looksAt_128 (by decide) (fun z20 => ?_) (fun z20 => ?_)
        · refine v_iconst C (v := 1) dX12_looksAt_131 (by decide) ?_
          refine v_goto C 136 dX12_looksAt_132 (by decide) ?_
          exact v_top (by rw [if_pos z20]; first | done | rfl) hj
        · refine v_iconst C (v := 0) dX12_looksAt_135 (by decide) ?_
          exact v_top (by rw [if_neg z20]; first | done | rfl) hj
    · refine v_aload_n C 0 dX12_looksAt_120 rfl rfl ?_
      refine v_getr C pM_0 fd_X12_7 rfl dX12_looksAt_121 ?_
      refine v_iload C 4 dX12_looksAt_124 rfl ?_
      refine v_iload C 5 dX12_looksAt_126 rfl ?_
      refine v_dia 136 (.int ((if a5 = true then 1 else 0) : Int32)) [.int a4, .ref (ad 1)] ?_ (fun hj => ?_)
      · refine v_iast C pM_1 dX12_looksAt_136 h (fun h => ?_)
        cases h
        exact v_vret C hr hlk dX12_looksAt_137
      · refine p_z_eq C 135 dX12_looksAt_128 (by decide) (fun z21 => ?_) (fun z21 => ?_)
        · refine v_iconst C (v := 1) dX12_looksAt_131 (by decide) ?_
          refine v_goto C 136 dX12_looksAt_132 (by decide) ?_
          exact v_top (by rw [if_pos z21]; first | done | rfl) hj
        · refine v_iconst C (v := 0) dX12_looksAt_135 (by decide) ?_
          exact v_top (by rw [if_neg z21]; first | done | rfl) hj
  · refine v_aload_n C 0 dX12_looksAt_120 rfl rfl ?_
    refine v_getr C pM_0 fd_X12_7 rfl dX12_looksAt_121 ?_
    refine v_iload C 4 dX12_looksAt_124 rfl ?_
    refine v_iload C 5 dX12_looksAt_126 rfl ?_
    refine v_dia 136 (.int ((if a5 = true then 1 else 0) : Int32)) [.int a4, .ref (ad 1)] ?_ (fun hj => ?_)
    · refine v_iast C pM_1 dX12_looksAt_136 h (fun h => ?_)
      cases h
      exact v_vret C hr hlk dX12_looksAt_137
    · refine p_z_eq C 135 dX12_looksAt_128 (by decide) (fun z22 => ?_) (fun z22 => ?_)
      · refine v_iconst C (v := 1) dX12_looksAt_131 (by decide) ?_
        refine v_goto C 136 dX12_looksAt_132 (by decide) ?_
        exact v_top (by rw [if_pos z22]; first | done | rfl) hj
      · refine v_iconst C (v := 0) dX12_looksAt_135 (by decide) ?_
        exact v_top (by rw [if_neg z22]; first | done | rfl) hj
set_option maxHeartbeats 4000000 in
set_option maxRecDepth 100000 in
theorem kX12_looksAt_J38 {l : Launch} {D : va_G} {cy : Nat → ClassId} {ad : Nat → Nat} {p : Program} {e : Env} {s : State} {m : MethodId} {args : Array Value} {below : List Frame} {meth : Method} {c : Code} (C : Cx nM D cy ad 6 cX12_looksAt RX12 rX12_looksAt p s m args c) (hr : meth.sig.returnType = none) (hlk : meth.locks = false) {out : Mem}  (a1 : Int32) (a2 : Int32) (a3 : Int32) (a4 : Int32) (s0 : Bool) (u : Mem)   (h : fX12_looksAt_J38 a1 a2 a3 a4 s0 u = some out) : V shM nM D cy ad 6 p l e rX12_looksAt s m args below meth c (MQ below (qV shM nM D cy ad out) args s 0 0 (rA ad nM)) 38 [(0, .ref (ad 0)), (1, .int a1), (2, .int a2), (3, .int a3), (4, .int a4)] [.int (bz s0)] u := by
  unfold fX12_looksAt_J38 at h
  refine v_istore C [(5, .int (bz s0)), (0, .ref (ad 0)), (1, .int a1), (2, .int a2), (3, .int a3), (4, .int a4)] dX12_looksAt_38 (by decide) rfl ?_
  refine v_aload_n C 1 dX12_looksAt_40 rfl rfl ?_
  refine v_iload_n C 4 dX12_looksAt_41 rfl rfl ?_
  obtain ⟨r32, hc31, h⟩ := bnd h
  refine v_callVi C [.int a3] (cX12_isChain_ct l D cy ad a3 u r32 hc31) ml_X12_202 pM_0 ⟨Nat.le_of_ble_eq_true rfl, Nat.le_of_ble_eq_true rfl⟩ ⟨rfl, rfl⟩ rfl rfl (Nat.le_of_ble_eq_true rfl) dX12_looksAt_42 ?_
  refine v_z_eq C 97 dX12_looksAt_45 (by decide) h (fun h => ?_) (fun h => ?_)
  · refine v_aload_n C 1 dX12_looksAt_48 rfl rfl ?_
    refine v_iload_n C 2 dX12_looksAt_49 rfl rfl ?_
    refine v_iload_n C 3 dX12_looksAt_50 rfl rfl ?_
    refine v_aload_n C 1 dX12_looksAt_51 rfl rfl ?_
    refine v_iload_n C 4 dX12_looksAt_52 rfl rfl ?_
    refine v_iconst C (v := 0) dX12_looksAt_53 (by decide) ?_
    obtain ⟨r35, hc34, h⟩ := bnd h
    refine v_callVi C [.int a3, .int 0] (cX12_chainOf_ct l D cy ad a3 0 u r35 hc34) ml_X12_205 pM_0 ⟨Nat.le_of_ble_eq_true rfl, Nat.le_of_ble_eq_true rfl⟩ ⟨rfl, rfl⟩ rfl rfl (Nat.le_of_ble_eq_true rfl) dX12_looksAt_54 ?_
    obtain ⟨r37, hc36, h⟩ := bnd h
    refine v_callVi C [.int a1, .int a2, .int r35] (cX12_partsAt_ct l D cy ad a1 a2 r35 u r37 hc36) ml_X12_228 pM_0 ⟨Nat.le_of_ble_eq_true rfl, Nat.le_of_ble_eq_true rfl⟩ ⟨rfl, rfl⟩ rfl rfl (Nat.le_of_ble_eq_true rfl) dX12_looksAt_57 ?_
    refine v_aload_n C 1 dX12_looksAt_60 rfl rfl ?_
    refine v_iload_n C 4 dX12_looksAt_61 rfl rfl ?_
    refine v_iconst C (v := 1) dX12_looksAt_62 (by decide) ?_
    obtain ⟨r39, hc38, h⟩ := bnd h
    refine v_callVi C [.int a3, .int 1] (cX12_chainOf_ct l D cy ad a3 1 u r39 hc38) ml_X12_205 pM_0 ⟨Nat.le_of_ble_eq_true rfl, Nat.le_of_ble_eq_true rfl⟩ ⟨rfl, rfl⟩ rfl rfl (Nat.le_of_ble_eq_true rfl) dX12_looksAt_63 ?_
    refine v_icmp_ge C 97 dX12_looksAt_66 (by decide) h (fun h => ?_) (fun h => ?_)
    · refine v_sub [1, 2, 3, 4, 5, 0] rfl ?_
      exact kX12_looksAt_J97 C hr hlk a1 a2 a3 a4 s0 u h
    · refine v_aload_n C 1 dX12_looksAt_69 rfl rfl ?_
      refine v_getr C pM_0 fd_X12_68 rfl dX12_looksAt_70 ?_
      refine v_aload_n C 1 dX12_looksAt_73 rfl rfl ?_
      refine v_iload_n C 4 dX12_looksAt_74 rfl rfl ?_
      refine v_iconst C (v := 0) dX12_looksAt_75 (by decide) ?_
      obtain ⟨r43, hc42, h⟩ := bnd h
      refine v_callVi C [.int a3, .int 0] (cX12_chainOf_ct l D cy ad a3 0 u r43 hc42) ml_X12_205 pM_0 ⟨Nat.le_of_ble_eq_true rfl, Nat.le_of_ble_eq_true rfl⟩ ⟨rfl, rfl⟩ rfl rfl (Nat.le_of_ble_eq_true rfl) dX12_looksAt_76 ?_
      refine v_iald C pM_16 dX12_looksAt_79 h (fun h => ?_)
      refine v_aload_n C 1 dX12_looksAt_80 rfl rfl ?_
      refine v_iload_n C 4 dX12_looksAt_81 rfl rfl ?_
      refine v_iconst C (v := 1) dX12_looksAt_82 (by decide) ?_
      obtain ⟨r45, hc44, h⟩ := bnd h
      refine v_callVi C [.int a3, .int 1] (cX12_chainOf_ct l D cy ad a3 1 u r45 hc44) ml_X12_205 pM_0 ⟨Nat.le_of_ble_eq_true rfl, Nat.le_of_ble_eq_true rfl⟩ ⟨rfl, rfl⟩ rfl rfl (Nat.le_of_ble_eq_true rfl) dX12_looksAt_83 ?_
      refine v_icmp_lt C 97 dX12_looksAt_86 (by decide) h (fun h => ?_) (fun h => ?_)
      · refine v_sub [1, 2, 3, 4, 5, 0] rfl ?_
        exact kX12_looksAt_J97 C hr hlk a1 a2 a3 a4 s0 u h
      · refine v_aload_n C 1 dX12_looksAt_89 rfl rfl ?_
        refine v_iload_n C 2 dX12_looksAt_90 rfl rfl ?_
        refine v_iload_n C 3 dX12_looksAt_91 rfl rfl ?_
        refine v_iload_n C 4 dX12_looksAt_92 rfl rfl ?_
        refine v_iconst C (v := 0) dX12_looksAt_93 (by decide) ?_
        obtain ⟨u49, hc48, h⟩ := bnd h
        refine v_callVv C [.int a1, .int a2, .int a3, .int 0] (cX12_tells_ct l D cy ad a1 a2 a3 0 u u49 hc48) ml_X12_268 pM_0 ⟨Nat.le_of_ble_eq_true rfl, Nat.le_of_ble_eq_true rfl⟩ ⟨rfl, rfl⟩ rfl rfl (Nat.le_of_ble_eq_true rfl) dX12_looksAt_94 ?_
        refine v_sub [1, 2, 3, 4, 5, 0] rfl ?_
        exact kX12_looksAt_J97 C hr hlk a1 a2 a3 a4 s0 u49 h
  · refine v_sub [1, 2, 3, 4, 5, 0] rfl ?_
    exact kX12_looksAt_J97 C hr hlk a1 a2 a3 a4 s0 u h
set_option maxHeartbeats 4000000 in
set_option maxRecDepth 100000 in
theorem kX12_looksAt_J37 {l : Launch} {D : va_G} {cy : Nat → ClassId} {ad : Nat → Nat} {p : Program} {e : Env} {s : State} {m : MethodId} {args : Array Value} {below : List Frame} {meth : Method} {c : Code} (C : Cx nM D cy ad 6 cX12_looksAt RX12 rX12_looksAt p s m args c) (hr : meth.sig.returnType = none) (hlk : meth.locks = false) {out : Mem}  (a1 : Int32) (a2 : Int32) (a3 : Int32) (a4 : Int32) (u : Mem)   (h : fX12_looksAt_J37 a1 a2 a3 a4 u = some out) : V shM nM D cy ad 6 p l e rX12_looksAt s m args below meth c (MQ below (qV shM nM D cy ad out) args s 0 0 (rA ad nM)) 37 [(0, .ref (ad 0)), (1, .int a1), (2, .int a2), (3, .int a3), (4, .int a4)] [] u := by
  unfold fX12_looksAt_J37 at h
  refine v_iconst C (v := 0) dX12_looksAt_37 (by decide) ?_
  exact kX12_looksAt_J38 C hr hlk a1 a2 a3 a4 false u h
set_option maxHeartbeats 4000000 in
set_option maxRecDepth 100000 in
theorem cX12_looksAt_ct (l : Launch) (D : va_G) (cy : Nat → ClassId) (ad : Nat → Nat) (a1 : Int32) (a2 : Int32) (a3 : Int32) (u : Mem)  (out : Mem) (h : fX12_looksAt a1 a2 a3 u = some out) : Met l yX12_looksAt (.code yX12_looksAt cX12_looksAt 6 (none) :: gw) rX12_looksAt (va_Pc [.ref (ad 0), .int a1, .int a2, .int a3] (wv shM nM D cy ad u)) (qV shM nM D cy ad out) 0 0 (rA ad nM) := by
  refine met_of (cc := cX12_looksAt) (nL := 6) (by decide) (Nat.le_of_ble_eq_true rfl) (fun p e s m below meth c C hr hlk => ?_)
  unfold fX12_looksAt at h
  show V shM nM D cy ad 6 p l e rX12_looksAt s m _ below meth c (MQ below (qV shM nM D cy ad out) _ s 0 0 (rA ad nM)) 0 [(0, .ref (ad 0)), (1, .int a1), (2, .int a2), (3, .int a3)] [] u
  refine v_sipush C (v := 220) dX12_looksAt_0 (by decide) ?_
  refine v_bipush C (v := 80) dX12_looksAt_3 (by decide) ?_
  refine v_iload_n C 1 dX12_looksAt_5 rfl rfl ?_
  refine v_imul C dX12_looksAt_6 ?_
  refine v_iadd C dX12_looksAt_7 ?_
  refine v_iconst C (v := 5) dX12_looksAt_8 (by decide) ?_
  refine v_iload_n C 2 dX12_looksAt_9 rfl rfl ?_
  refine v_imul C dX12_looksAt_10 ?_
  refine v_iadd C dX12_looksAt_11 ?_
  refine v_iload_n C 3 dX12_looksAt_12 rfl rfl ?_
  refine v_iadd C dX12_looksAt_13 ?_
  refine v_istore C [(4, .int (((220 + (80 * a1)) + (5 * a2)) + a3)), (0, .ref (ad 0)), (1, .int a1), (2, .int a2), (3, .int a3)] dX12_looksAt_14 (by decide) rfl ?_
  refine v_aload_n C 1 dX12_looksAt_16 rfl rfl ?_
  refine v_iload_n C 4 dX12_looksAt_17 rfl rfl ?_
  obtain ⟨r2, hc1, h⟩ := bnd h
  refine v_callVi C [.int a3] (cX12_isChain_ct l D cy ad a3 u r2 hc1) ml_X12_202 pM_0 ⟨Nat.le_of_ble_eq_true rfl, Nat.le_of_ble_eq_true rfl⟩ ⟨rfl, rfl⟩ rfl rfl (Nat.le_of_ble_eq_true rfl) dX12_looksAt_18 ?_
  refine v_z_eq C 37 dX12_looksAt_21 (by decide) h (fun h => ?_) (fun h => ?_)
  · refine v_aload_n C 1 dX12_looksAt_24 rfl rfl ?_
    refine v_getr C pM_0 fd_X12_71 rfl dX12_looksAt_25 ?_
    refine v_iload_n C 4 dX12_looksAt_28 rfl rfl ?_
    refine v_zald C pM_17 dX12_looksAt_29 h (fun h => ?_)
    refine v_dia 38 (.int (bz (if (u.1 17 a3.toNatClampNeg) = 0 then false else true))) [] ?_ (fun hj => ?_)
    · refine v_istore C [(5, .int (bz (if (u.1 17 a3.toNatClampNeg) = 0 then false else true))), (4, .int (((220 + (80 * a1)) + (5 * a2)) + a3)), (0, .ref (ad 0)), (1, .int a1), (2, .int a2), (3, .int a3)] dX12_looksAt_38 (by decide) rfl ?_
      refine v_aload_n C 2 dX12_looksAt_40 rfl rfl ?_
      refine v_iload_n C 5 dX12_looksAt_41 rfl rfl ?_
      obtain ⟨r6, hc5, h⟩ := bnd h
      refine v_callVi C [.int a3] (cX12_isChain_ct l D cy ad a3 u r6 hc5) ml_X12_202 pM_0 ⟨Nat.le_of_ble_eq_true rfl, Nat.le_of_ble_eq_true rfl⟩ ⟨rfl, rfl⟩ rfl rfl (Nat.le_of_ble_eq_true rfl) dX12_looksAt_42 ?_
      refine v_z_eq C 97 dX12_looksAt_45 (by decide) h (fun h => ?_) (fun h => ?_)
      · refine v_aload_n C 2 dX12_looksAt_48 rfl rfl ?_
        refine v_iload_n C 3 dX12_looksAt_49 rfl rfl ?_
        refine v_iload_n C 4 dX12_looksAt_50 rfl rfl ?_
        refine v_aload_n C 2 dX12_looksAt_51 rfl rfl ?_
        refine v_iload_n C 5 dX12_looksAt_52 rfl rfl ?_
        refine v_iconst C (v := 0) dX12_looksAt_53 (by decide) ?_
        obtain ⟨r9, hc8, h⟩ := bnd h
        refine v_callVi C [.int a3, .int 0] (cX12_chainOf_ct l D cy ad a3 0 u r9 hc8) ml_X12_205 pM_0 ⟨Nat.le_of_ble_eq_true rfl, Nat.le_of_ble_eq_true rfl⟩ ⟨rfl, rfl⟩ rfl rfl (Nat.le_of_ble_eq_true rfl) dX12_looksAt_54 ?_
        obtain ⟨r11, hc10, h⟩ := bnd h
        refine v_callVi C [.int a1, .int a2, .int r9] (cX12_partsAt_ct l D cy ad a1 a2 r9 u r11 hc10) ml_X12_228 pM_0 ⟨Nat.le_of_ble_eq_true rfl, Nat.le_of_ble_eq_true rfl⟩ ⟨rfl, rfl⟩ rfl rfl (Nat.le_of_ble_eq_true rfl) dX12_looksAt_57 ?_
        refine v_aload_n C 2 dX12_looksAt_60 rfl rfl ?_
        refine v_iload_n C 5 dX12_looksAt_61 rfl rfl ?_
        refine v_iconst C (v := 1) dX12_looksAt_62 (by decide) ?_
        obtain ⟨r13, hc12, h⟩ := bnd h
        refine v_callVi C [.int a3, .int 1] (cX12_chainOf_ct l D cy ad a3 1 u r13 hc12) ml_X12_205 pM_0 ⟨Nat.le_of_ble_eq_true rfl, Nat.le_of_ble_eq_true rfl⟩ ⟨rfl, rfl⟩ rfl rfl (Nat.le_of_ble_eq_true rfl) dX12_looksAt_63 ?_
        refine v_icmp_ge C 97 dX12_looksAt_66 (by decide) h (fun h => ?_) (fun h => ?_)
        · refine v_sub [2, 3, 4, 5, 1, 0] rfl ?_
          exact kX12_looksAt_J97 C hr hlk a1 a2 a3 (((220 + (80 * a1)) + (5 * a2)) + a3) (if (u.1 17 a3.toNatClampNeg) = 0 then false else true) u h
        · refine v_aload_n C 2 dX12_looksAt_69 rfl rfl ?_
          refine v_getr C pM_0 fd_X12_68 rfl dX12_looksAt_70 ?_
          refine v_aload_n C 2 dX12_looksAt_73 rfl rfl ?_
          refine v_iload_n C 5 dX12_looksAt_74 rfl rfl ?_
          refine v_iconst C (v := 0) dX12_looksAt_75 (by decide) ?_
          obtain ⟨r24, hc23, h⟩ := bnd h
          refine v_callVi C [.int a3, .int 0] (cX12_chainOf_ct l D cy ad a3 0 u r24 hc23) ml_X12_205 pM_0 ⟨Nat.le_of_ble_eq_true rfl, Nat.le_of_ble_eq_true rfl⟩ ⟨rfl, rfl⟩ rfl rfl (Nat.le_of_ble_eq_true rfl) dX12_looksAt_76 ?_
          refine v_iald C pM_16 dX12_looksAt_79 h (fun h => ?_)
          refine v_aload_n C 2 dX12_looksAt_80 rfl rfl ?_
          refine v_iload_n C 5 dX12_looksAt_81 rfl rfl ?_
          refine v_iconst C (v := 1) dX12_looksAt_82 (by decide) ?_
          obtain ⟨r26, hc25, h⟩ := bnd h
          refine v_callVi C [.int a3, .int 1] (cX12_chainOf_ct l D cy ad a3 1 u r26 hc25) ml_X12_205 pM_0 ⟨Nat.le_of_ble_eq_true rfl, Nat.le_of_ble_eq_true rfl⟩ ⟨rfl, rfl⟩ rfl rfl (Nat.le_of_ble_eq_true rfl) dX12_looksAt_83 ?_
          refine v_icmp_lt C 97 dX12_looksAt_86 (by decide) h (fun h => ?_) (fun h => ?_)
          · refine v_sub [2, 3, 4, 5, 1, 0] rfl ?_
            exact kX12_looksAt_J97 C hr hlk a1 a2 a3 (((220 + (80 * a1)) + (5 * a2)) + a3) (if (u.1 17 a3.toNatClampNeg) = 0 then false else true) u h
          · refine v_aload_n C 2 dX12_looksAt_89 rfl rfl ?_
            refine v_iload_n C 3 dX12_looksAt_90 rfl rfl ?_
            refine v_iload_n C 4 dX12_looksAt_91 rfl rfl ?_
            refine v_iload_n C 5 dX12_looksAt_92 rfl rfl ?_
            refine v_iconst C (v := 0) dX12_looksAt_93 (by decide) ?_
            obtain ⟨u30, hc29, h⟩ := bnd h
            refine v_callVv C [.int a1, .int a2, .int a3, .int 0] (cX12_tells_ct l D cy ad a1 a2 a3 0 u u30 hc29) ml_X12_268 pM_0 ⟨Nat.le_of_ble_eq_true rfl, Nat.le_of_ble_eq_true rfl⟩ ⟨rfl, rfl⟩ rfl rfl (Nat.le_of_ble_eq_true rfl) dX12_looksAt_94 ?_
            refine v_sub [2, 3, 4, 5, 1, 0] rfl ?_
            exact kX12_looksAt_J97 C hr hlk a1 a2 a3 (((220 + (80 * a1)) + (5 * a2)) + a3) (if (u.1 17 a3.toNatClampNeg) = 0 then false else true) u30 h
      · refine v_sub [2, 3, 4, 5, 1, 0] rfl ?_
        exact kX12_looksAt_J97 C hr hlk a1 a2 a3 (((220 + (80 * a1)) + (5 * a2)) + a3) (if (u.1 17 a3.toNatClampNeg) = 0 then false else true) u h
    · refine p_if_eq C 37 dX12_looksAt_30 (by decide) (fun z4 => ?_) (fun z4 => ?_)
      · refine v_iconst C (v := 0) dX12_looksAt_37 (by decide) ?_
        exact v_top (by rw [if_pos z4]; first | done | rfl) hj
      · refine v_iconst C (v := 1) dX12_looksAt_33 (by decide) ?_
        refine v_goto C 38 dX12_looksAt_34 (by decide) ?_
        exact v_top (by rw [if_neg z4]; first | done | rfl) hj
  · refine v_sub [1, 2, 3, 4, 0] rfl ?_
    exact kX12_looksAt_J37 C hr hlk a1 a2 a3 (((220 + (80 * a1)) + (5 * a2)) + a3) u h
def rX12_mixes : Room := { frames := 1, cells := 0, slots := 0, locals := 24 }
def fX12_mixes_L23 (a1 : Int32) (a2 : Int32) (a3 : Int32) (a4 : Int32) (a5 : Int32) (u : Mem) (K49 : Int32 → Option Mem) : Nat → Int32 → Int32 → Option Mem
  | 0, _, _ => none
  | t + 1, a6, a7 => (if a3 < a7 then K49 a6 else ((fX12_partsAt a1 a7 a5 u).bind fun r4 => fX12_mixes_L23 a1 a2 a3 a4 a5 u K49 t (a6 + r4) (a7 + 1)))
def fX12_mixes_L52 (a1 : Int32) (a2 : Int32) (a3 : Int32) (a4 : Int32) (a5 : Int32) (a6 : Int32) (Rc10 : Int32 → Mem → Option Mem) : Nat → Int32 → Mem → Option Mem
  | 0, _, _ => none
  | t + 1, a7, u => (if a3 < a7 then Rc10 (a5 + 1) u else (if a4 = 0 then none else (if a4 = 0 then none else ((fX12_sets a1 a7 a5 ((a6 / a4) + ((if (a6 - a6 / a4 * a4) ≤ (a7 - a2) then 0 else 1) : Int32)) u).bind fun u9 => fX12_mixes_L52 a1 a2 a3 a4 a5 a6 Rc10 t (a7 + 1) u9))))
def fX12_mixes_L10 (a1 : Int32) (a2 : Int32) (a3 : Int32) (a4 : Int32) : Nat → Int32 → Mem → Option Mem
  | 0, _, _ => none
  | t + 1, a5, u => (if 6 ≤ a5 then (some u) else fX12_mixes_L23 a1 a2 a3 a4 a5 u (fun v5 => fX12_mixes_L52 a1 a2 a3 a4 a5 v5 (fX12_mixes_L10 a1 a2 a3 a4 t) fu0 a2 u) fu0 0 a2)
def fX12_mixes (a1 : Int32) (a2 : Int32) (a3 : Int32) (u : Mem) : Option Mem := fX12_mixes_L10 a1 a2 a3 ((a3 - a2) + 1) fu0 0 u
set_option maxHeartbeats 4000000 in
set_option maxRecDepth 100000 in
theorem kX12_mixes_L23 {l : Launch} {D : va_G} {cy : Nat → ClassId} {ad : Nat → Nat} {p : Program} {e : Env} {s : State} {m : MethodId} {args : Array Value} {below : List Frame} {meth : Method} {c : Code} (C : Cx nM D cy ad 8 cX12_mixes RX12 rX12_mixes p s m args c) (hr : meth.sig.returnType = none) (hlk : meth.locks = false) (a1 : Int32) (a2 : Int32) (a3 : Int32) (a4 : Int32) (a5 : Int32)  (u : Mem) {out : Mem} (K49 : Int32 → Option Mem) (hK49 : ∀ (a6 : Int32), K49 a6 = some out → V shM nM D cy ad 8 p l e rX12_mixes s m args below meth c (MQ below (qV shM nM D cy ad out) args s 0 0 (rA ad nM)) 49 [(0, .ref (ad 0)), (1, .int a1), (2, .int a2), (3, .int a3), (4, .int a4), (5, .int a5), (6, .int a6)] [] u) : ∀ (t : Nat) (a6 : Int32) (a7 : Int32), fX12_mixes_L23 a1 a2 a3 a4 a5 u K49 t a6 a7 = some out → V shM nM D cy ad 8 p l e rX12_mixes s m args below meth c (MQ below (qV shM nM D cy ad out) args s 0 0 (rA ad nM)) 23 [(0, .ref (ad 0)), (1, .int a1), (2, .int a2), (3, .int a3), (4, .int a4), (5, .int a5), (6, .int a6), (7, .int a7)] [] u := by
  intro t
  induction t with
  | zero => intro a6 a7 h; rw [fX12_mixes_L23] at h; cases h
  | succ t ih =>
    intro a6 a7 h
    rw [fX12_mixes_L23] at h
    refine v_iload C 7 dX12_mixes_23 rfl ?_
    refine v_iload_n C 3 dX12_mixes_25 rfl rfl ?_
    refine v_icmp_gt C 49 dX12_mixes_26 (by decide) h (fun h => ?_) (fun h => ?_)
    · refine v_sub [0, 1, 2, 3, 4, 5, 6] rfl ?_
      exact hK49 a6 h
    · refine v_iload C 6 dX12_mixes_29 rfl ?_
      refine v_aload_n C 0 dX12_mixes_31 rfl rfl ?_
      refine v_iload_n C 1 dX12_mixes_32 rfl rfl ?_
      refine v_iload C 7 dX12_mixes_33 rfl ?_
      refine v_iload C 5 dX12_mixes_35 rfl ?_
      obtain ⟨r4, hc3, h⟩ := bnd h
      refine v_callVi C [.int a1, .int a7, .int a5] (cX12_partsAt_ct l D cy ad a1 a7 a5 u r4 hc3) ml_X12_228 pM_0 ⟨Nat.le_of_ble_eq_true rfl, Nat.le_of_ble_eq_true rfl⟩ ⟨rfl, rfl⟩ rfl rfl (Nat.le_of_ble_eq_true rfl) dX12_mixes_37 ?_
      refine v_iadd C dX12_mixes_40 ?_
      refine v_istore C [(6, .int (a6 + r4)), (0, .ref (ad 0)), (1, .int a1), (2, .int a2), (3, .int a3), (4, .int a4), (5, .int a5), (7, .int a7)] dX12_mixes_41 (by decide) rfl ?_
      refine v_iinc C 7 (v := a7 + 1) [(7, .int (a7 + 1)), (6, .int (a6 + r4)), (0, .ref (ad 0)), (1, .int a1), (2, .int a2), (3, .int a3), (4, .int a4), (5, .int a5)] dX12_mixes_43 rfl rfl (by decide) rfl ?_
      refine v_goto C 23 dX12_mixes_46 (by decide) ?_
      refine v_sub [2, 3, 4, 5, 6, 7, 1, 0] rfl ?_
      exact ih (a6 + r4) (a7 + 1) h
set_option maxHeartbeats 4000000 in
set_option maxRecDepth 100000 in
theorem kX12_mixes_L52 {l : Launch} {D : va_G} {cy : Nat → ClassId} {ad : Nat → Nat} {p : Program} {e : Env} {s : State} {m : MethodId} {args : Array Value} {below : List Frame} {meth : Method} {c : Code} (C : Cx nM D cy ad 8 cX12_mixes RX12 rX12_mixes p s m args c) (hr : meth.sig.returnType = none) (hlk : meth.locks = false) (a1 : Int32) (a2 : Int32) (a3 : Int32) (a4 : Int32) (a5 : Int32) (a6 : Int32)  {out : Mem} (Rc10 : Int32 → Mem → Option Mem) (hRc10 : ∀ (a5 : Int32) (w : Mem), Rc10 a5 w = some out → V shM nM D cy ad 8 p l e rX12_mixes s m args below meth c (MQ below (qV shM nM D cy ad out) args s 0 0 (rA ad nM)) 10 [(0, .ref (ad 0)), (1, .int a1), (2, .int a2), (3, .int a3), (4, .int a4), (5, .int a5)] [] w) : ∀ (t : Nat) (a7 : Int32) (u : Mem), fX12_mixes_L52 a1 a2 a3 a4 a5 a6 Rc10 t a7 u = some out → V shM nM D cy ad 8 p l e rX12_mixes s m args below meth c (MQ below (qV shM nM D cy ad out) args s 0 0 (rA ad nM)) 52 [(0, .ref (ad 0)), (1, .int a1), (2, .int a2), (3, .int a3), (4, .int a4), (5, .int a5), (6, .int a6), (7, .int a7)] [] u := by
  intro t
  induction t with
  | zero => intro a7 u h; rw [fX12_mixes_L52] at h; cases h
  | succ t ih =>
    intro a7 u h
    rw [fX12_mixes_L52] at h
    refine v_iload C 7 dX12_mixes_52 rfl ?_
    refine v_iload_n C 3 dX12_mixes_54 rfl rfl ?_
    refine v_icmp_gt C 96 dX12_mixes_55 (by decide) h (fun h => ?_) (fun h => ?_)
    · refine v_iinc C 5 (v := a5 + 1) [(5, .int (a5 + 1)), (0, .ref (ad 0)), (1, .int a1), (2, .int a2), (3, .int a3), (4, .int a4), (6, .int a6), (7, .int a7)] dX12_mixes_96 rfl rfl (by decide) rfl ?_
      refine v_goto C 10 dX12_mixes_99 (by decide) ?_
      refine v_sub [1, 2, 3, 4, 5, 0] rfl ?_
      exact hRc10 (a5 + 1) u h
    · refine v_aload_n C 0 dX12_mixes_58 rfl rfl ?_
      refine v_iload_n C 1 dX12_mixes_59 rfl rfl ?_
      refine v_iload C 7 dX12_mixes_60 rfl ?_
      refine v_iload C 5 dX12_mixes_62 rfl ?_
      refine v_iload C 6 dX12_mixes_64 rfl ?_
      refine v_iload C 4 dX12_mixes_66 rfl ?_
      refine v_idiv C dX12_mixes_68 h (fun h => ?_)
      refine v_iload C 7 dX12_mixes_69 rfl ?_
      refine v_iload_n C 2 dX12_mixes_71 rfl rfl ?_
      refine v_isub C dX12_mixes_72 ?_
      refine v_iload C 6 dX12_mixes_73 rfl ?_
      refine v_iload C 4 dX12_mixes_75 rfl ?_
      refine v_irem C dX12_mixes_77 h (fun h => ?_)
      refine v_dia 86 (.int ((if (a6 - a6 / a4 * a4) ≤ (a7 - a2) then 0 else 1) : Int32)) [.int (a6 / a4), .int a5, .int a7, .int a1, .ref (ad 0)] ?_ (fun hj => ?_)
      · refine v_iadd C dX12_mixes_86 ?_
        obtain ⟨u9, hc8, h⟩ := bnd h
        refine v_callVv C [.int a1, .int a7, .int a5, .int ((a6 / a4) + ((if (a6 - a6 / a4 * a4) ≤ (a7 - a2) then 0 else 1) : Int32))] (cX12_sets_ct l D cy ad a1 a7 a5 ((a6 / a4) + ((if (a6 - a6 / a4 * a4) ≤ (a7 - a2) then 0 else 1) : Int32)) u u9 hc8) ml_X12_224 pM_0 ⟨Nat.le_of_ble_eq_true rfl, Nat.le_of_ble_eq_true rfl⟩ ⟨rfl, rfl⟩ rfl rfl (Nat.le_of_ble_eq_true rfl) dX12_mixes_87 ?_
        refine v_iinc C 7 (v := a7 + 1) [(7, .int (a7 + 1)), (0, .ref (ad 0)), (1, .int a1), (2, .int a2), (3, .int a3), (4, .int a4), (5, .int a5), (6, .int a6)] dX12_mixes_90 rfl rfl (by decide) rfl ?_
        refine v_goto C 52 dX12_mixes_93 (by decide) ?_
        refine v_sub [1, 2, 3, 4, 5, 6, 7, 0] rfl ?_
        exact ih (a7 + 1) u9 h
      · refine p_icmp_ge C 85 dX12_mixes_78 (by decide) (fun z7 => ?_) (fun z7 => ?_)
        · refine v_iconst C (v := 0) dX12_mixes_85 (by decide) ?_
          exact v_top (by rw [if_pos z7]; first | done | rfl) hj
        · refine v_iconst C (v := 1) dX12_mixes_81 (by decide) ?_
          refine v_goto C 86 dX12_mixes_82 (by decide) ?_
          exact v_top (by rw [if_neg z7]; first | done | rfl) hj
set_option maxHeartbeats 4000000 in
set_option maxRecDepth 100000 in
theorem kX12_mixes_L10 {l : Launch} {D : va_G} {cy : Nat → ClassId} {ad : Nat → Nat} {p : Program} {e : Env} {s : State} {m : MethodId} {args : Array Value} {below : List Frame} {meth : Method} {c : Code} (C : Cx nM D cy ad 8 cX12_mixes RX12 rX12_mixes p s m args c) (hr : meth.sig.returnType = none) (hlk : meth.locks = false) (a1 : Int32) (a2 : Int32) (a3 : Int32) (a4 : Int32)  {out : Mem}  : ∀ (t : Nat) (a5 : Int32) (u : Mem), fX12_mixes_L10 a1 a2 a3 a4 t a5 u = some out → V shM nM D cy ad 8 p l e rX12_mixes s m args below meth c (MQ below (qV shM nM D cy ad out) args s 0 0 (rA ad nM)) 10 [(0, .ref (ad 0)), (1, .int a1), (2, .int a2), (3, .int a3), (4, .int a4), (5, .int a5)] [] u := by
  intro t
  induction t with
  | zero => intro a5 u h; rw [fX12_mixes_L10] at h; cases h
  | succ t ih =>
    intro a5 u h
    rw [fX12_mixes_L10] at h
    refine v_iload C 5 dX12_mixes_10 rfl ?_
    refine v_bipush C (v := 6) dX12_mixes_12 (by decide) ?_
    refine v_icmp_ge C 102 dX12_mixes_14 (by decide) h (fun h => ?_) (fun h => ?_)
    · cases h
      exact v_vret C hr hlk dX12_mixes_102
    · refine v_iconst C (v := 0) dX12_mixes_17 (by decide) ?_
      refine v_istore C [(6, .int 0), (0, .ref (ad 0)), (1, .int a1), (2, .int a2), (3, .int a3), (4, .int a4), (5, .int a5)] dX12_mixes_18 (by decide) rfl ?_
      refine v_iload_n C 3 dX12_mixes_20 rfl rfl ?_
      refine v_istore C [(7, .int a2), (6, .int 0), (0, .ref (ad 0)), (1, .int a1), (2, .int a2), (3, .int a3), (4, .int a4), (5, .int a5)] dX12_mixes_21 (by decide) rfl ?_
      refine v_sub [2, 3, 4, 5, 6, 7, 1, 0] rfl ?_
      refine kX12_mixes_L23 C hr hlk a1 a2 a3 a4 a5 u _ (fun v5 h => ?_) fu0 0 a2 h
      · refine v_iload_n C 2 dX12_mixes_49 rfl rfl ?_
        refine v_istore C [(7, .int a2), (0, .ref (ad 0)), (1, .int a1), (2, .int a2), (3, .int a3), (4, .int a4), (5, .int a5), (6, .int v5)] dX12_mixes_50 (by decide) rfl ?_
        refine v_sub [1, 2, 3, 4, 5, 6, 7, 0] rfl ?_
        refine kX12_mixes_L52 C hr hlk a1 a2 a3 a4 a5 v5 (fX12_mixes_L10 a1 a2 a3 a4 t) ih fu0 a2 u h
set_option maxHeartbeats 4000000 in
set_option maxRecDepth 100000 in
theorem cX12_mixes_ct (l : Launch) (D : va_G) (cy : Nat → ClassId) (ad : Nat → Nat) (a1 : Int32) (a2 : Int32) (a3 : Int32) (u : Mem)  (out : Mem) (h : fX12_mixes a1 a2 a3 u = some out) : Met l yX12_mixes (.code yX12_mixes cX12_mixes 8 (none) :: gw) rX12_mixes (va_Pc [.ref (ad 0), .int a1, .int a2, .int a3] (wv shM nM D cy ad u)) (qV shM nM D cy ad out) 0 0 (rA ad nM) := by
  refine met_of (cc := cX12_mixes) (nL := 8) (by decide) (Nat.le_of_ble_eq_true rfl) (fun p e s m below meth c C hr hlk => ?_)
  unfold fX12_mixes at h
  show V shM nM D cy ad 8 p l e rX12_mixes s m _ below meth c (MQ below (qV shM nM D cy ad out) _ s 0 0 (rA ad nM)) 0 [(0, .ref (ad 0)), (1, .int a1), (2, .int a2), (3, .int a3)] [] u
  refine v_iload_n C 3 dX12_mixes_0 rfl rfl ?_
  refine v_iload_n C 2 dX12_mixes_1 rfl rfl ?_
  refine v_isub C dX12_mixes_2 ?_
  refine v_iconst C (v := 1) dX12_mixes_3 (by decide) ?_
  refine v_iadd C dX12_mixes_4 ?_
  refine v_istore C [(4, .int ((a3 - a2) + 1)), (0, .ref (ad 0)), (1, .int a1), (2, .int a2), (3, .int a3)] dX12_mixes_5 (by decide) rfl ?_
  refine v_iconst C (v := 0) dX12_mixes_7 (by decide) ?_
  refine v_istore C [(5, .int 0), (4, .int ((a3 - a2) + 1)), (0, .ref (ad 0)), (1, .int a1), (2, .int a2), (3, .int a3)] dX12_mixes_8 (by decide) rfl ?_
  refine v_sub [2, 3, 4, 5, 1, 0] rfl ?_
  refine kX12_mixes_L10 C hr hlk a1 a2 a3 ((a3 - a2) + 1)   fu0 0 u h
def rX12_goes : Room := { frames := 4, cells := 0, slots := 0, locals := 102 }
def fX12_goes_L11 (a1 : Int32) (a2 : Int32) (K43 : Mem → Option Mem) : Nat → Int32 → Mem → Option Mem
  | 0, _, _ => none
  | t + 1, a3, u => (if a2 ≤ a3 then K43 u else ((fX12_churns a1 a3 u).bind fun r3 => (if inB a3 16 then ((some (si u 15 a3.toNatClampNeg (bz (if r3 = 1 then true else false)))).bind fun u5 => fX12_goes_L11 a1 a2 K43 t (a3 + 1) u5) else none)))
def fX12_goes_L53 (a1 : Int32) (a2 : Int32) (a3 : Int32) (K81 : Mem → Option Mem) : Nat → Int32 → Mem → Option Mem
  | 0, _, _ => none
  | t + 1, a4, u => (if 6 ≤ a4 then K81 u else ((fX12_partsAt a1 a3 a4 u).bind fun r10 => (if inB a4 6 then fX12_goes_L53 a1 a2 a3 K81 t (a4 + 1) (si u 16 a4.toNatClampNeg r10) else none)))
def fX12_goes_L84 (a1 : Int32) (a2 : Int32) (a3 : Int32) (K113 : Mem → Option Mem) : Nat → Int32 → Mem → Option Mem
  | 0, _, _ => none
  | t + 1, a4, u => (if 5 ≤ a4 then K113 u else ((fX12_isChain a4 u).bind fun r14 => (if r14 = true then ((fX12_burns a1 a3 a4 u).bind fun u17 => fX12_goes_L84 a1 a2 a3 K113 t (a4 + 1) u17) else fX12_goes_L84 a1 a2 a3 K113 t (a4 + 1) u)))
def fX12_goes_L116 (a1 : Int32) (a2 : Int32) (a3 : Int32) (Rc45 : Int32 → Mem → Option Mem) : Nat → Int32 → Mem → Option Mem
  | 0, _, _ => none
  | t + 1, a4, u => (if 5 ≤ a4 then Rc45 (a3 + 1) u else ((fX12_looksAt a1 a3 a4 u).bind fun u21 => fX12_goes_L116 a1 a2 a3 Rc45 t (a4 + 1) u21))
def fX12_goes_L45 (a1 : Int32) (a2 : Int32) (K142 : Mem → Option Mem) : Nat → Int32 → Mem → Option Mem
  | 0, _, _ => none
  | t + 1, a3, u => (if a2 ≤ a3 then K142 u else fX12_goes_L53 a1 a2 a3 (fun u11 => fX12_goes_L84 a1 a2 a3 (fun u18 => fX12_goes_L116 a1 a2 a3 (fX12_goes_L45 a1 a2 K142 t) fu0 0 u18) fu0 0 u11) fu0 0 u)
def fX12_goes_L152 (a1 : Int32) (a2 : Int32) (a3 : Int32) (u : Mem) (K187 : Int32 → Option Mem) : Nat → Int32 → Option Mem
  | 0, _ => none
  | t + 1, a4 => (if inB a3 16 then (if (u.1 15 a3.toNatClampNeg) = 0 then K187 a4 else (if a2 ≤ (a4 + 1) then K187 a4 else (if inB (a4 + 1) 16 then (if (u.1 15 (a4 + 1).toNatClampNeg) = 0 then K187 a4 else fX12_goes_L152 a1 a2 a3 u K187 t (a4 + 1)) else none))) else none)
def fX12_goes_L144 (a1 : Int32) (a2 : Int32) : Nat → Int32 → Mem → Option Mem
  | 0, _, _ => none
  | t + 1, a3, u => (if a2 ≤ a3 then (some (si u 1 4 ((u.1 1 4) + 1))) else fX12_goes_L152 a1 a2 a3 u (fun v27 => ((fX12_mixes a1 a3 v27 u).bind fun u29 => fX12_goes_L144 a1 a2 t (v27 + 1) u29)) fu0 a3)
def fX12_goes (a1 : Int32) (u : Mem) : Option Mem := (if inB (2 + a1) 8320 then fX12_goes_L11 a1 (u.1 1 (2 + a1).toNatClampNeg) (fun u6 => fX12_goes_L45 a1 (u.1 1 (2 + a1).toNatClampNeg) (fun u22 => fX12_goes_L144 a1 (u.1 1 (2 + a1).toNatClampNeg) fu0 0 u22) fu0 0 u6) fu0 0 u else none)
set_option maxHeartbeats 4000000 in
set_option maxRecDepth 100000 in
theorem kX12_goes_L11 {l : Launch} {D : va_G} {cy : Nat → ClassId} {ad : Nat → Nat} {p : Program} {e : Env} {s : State} {m : MethodId} {args : Array Value} {below : List Frame} {meth : Method} {c : Code} (C : Cx nM D cy ad 5 cX12_goes RX12 rX12_goes p s m args c) (hr : meth.sig.returnType = none) (hlk : meth.locks = false) (a1 : Int32) (a2 : Int32)  {out : Mem} (K43 : Mem → Option Mem) (hK43 : ∀ (w : Mem), K43 w = some out → V shM nM D cy ad 5 p l e rX12_goes s m args below meth c (MQ below (qV shM nM D cy ad out) args s 0 0 (rA ad nM)) 43 [(0, .ref (ad 0)), (1, .int a1), (2, .int a2)] [] w) : ∀ (t : Nat) (a3 : Int32) (u : Mem), fX12_goes_L11 a1 a2 K43 t a3 u = some out → V shM nM D cy ad 5 p l e rX12_goes s m args below meth c (MQ below (qV shM nM D cy ad out) args s 0 0 (rA ad nM)) 11 [(0, .ref (ad 0)), (1, .int a1), (2, .int a2), (3, .int a3)] [] u := by
  intro t
  induction t with
  | zero => intro a3 u h; rw [fX12_goes_L11] at h; cases h
  | succ t ih =>
    intro a3 u h
    rw [fX12_goes_L11] at h
    refine v_iload_n C 3 dX12_goes_11 rfl rfl ?_
    refine v_iload_n C 2 dX12_goes_12 rfl rfl ?_
    refine v_icmp_ge C 43 dX12_goes_13 (by decide) h (fun h => ?_) (fun h => ?_)
    · refine v_sub [0, 1, 2] rfl ?_
      exact hK43 u h
    · refine v_aload_n C 0 dX12_goes_16 rfl rfl ?_
      refine v_getr C pM_0 fd_X12_65 rfl dX12_goes_17 ?_
      refine v_iload_n C 3 dX12_goes_20 rfl rfl ?_
      refine v_aload_n C 0 dX12_goes_21 rfl rfl ?_
      refine v_iload_n C 1 dX12_goes_22 rfl rfl ?_
      refine v_iload_n C 3 dX12_goes_23 rfl rfl ?_
      obtain ⟨r3, hc2, h⟩ := bnd h
      refine v_callVi C [.int a1, .int a3] (cX12_churns_ct l D cy ad a1 a3 u r3 hc2) ml_X12_262 pM_0 ⟨Nat.le_of_ble_eq_true rfl, Nat.le_of_ble_eq_true rfl⟩ ⟨rfl, rfl⟩ rfl rfl (Nat.le_of_ble_eq_true rfl) dX12_goes_24 ?_
      refine v_iconst C (v := 1) dX12_goes_27 (by decide) ?_
      refine v_dia 36 (.int (bz (if r3 = 1 then true else false))) [.int a3, .ref (ad 15)] ?_ (fun hj => ?_)
      · refine v_zast C pM_15 (bz_nar _) dX12_goes_36 h (fun h => ?_)
        refine v_mem (fun u5 hu5 => ?_)
        have h := nmd hu5 h
        refine v_iinc C 3 (v := a3 + 1) [(3, .int (a3 + 1)), (0, .ref (ad 0)), (1, .int a1), (2, .int a2)] dX12_goes_37 rfl rfl (by decide) rfl ?_
        refine v_goto C 11 dX12_goes_40 (by decide) ?_
        refine v_sub [1, 2, 3, 0] rfl ?_
        exact ih (a3 + 1) u5 h
      · refine p_icmp_ne C 35 dX12_goes_28 (by decide) (fun z4 => ?_) (fun z4 => ?_)
        · refine v_iconst C (v := 1) dX12_goes_31 (by decide) ?_
          refine v_goto C 36 dX12_goes_32 (by decide) ?_
          exact v_top (by rw [if_pos z4]; first | done | rfl) hj
        · refine v_iconst C (v := 0) dX12_goes_35 (by decide) ?_
          exact v_top (by rw [if_neg z4]; first | done | rfl) hj
set_option maxHeartbeats 4000000 in
set_option maxRecDepth 100000 in
theorem kX12_goes_L53 {l : Launch} {D : va_G} {cy : Nat → ClassId} {ad : Nat → Nat} {p : Program} {e : Env} {s : State} {m : MethodId} {args : Array Value} {below : List Frame} {meth : Method} {c : Code} (C : Cx nM D cy ad 5 cX12_goes RX12 rX12_goes p s m args c) (hr : meth.sig.returnType = none) (hlk : meth.locks = false) (a1 : Int32) (a2 : Int32) (a3 : Int32)  {out : Mem} (K81 : Mem → Option Mem) (hK81 : ∀ (w : Mem), K81 w = some out → V shM nM D cy ad 5 p l e rX12_goes s m args below meth c (MQ below (qV shM nM D cy ad out) args s 0 0 (rA ad nM)) 81 [(0, .ref (ad 0)), (1, .int a1), (2, .int a2), (3, .int a3)] [] w) : ∀ (t : Nat) (a4 : Int32) (u : Mem), fX12_goes_L53 a1 a2 a3 K81 t a4 u = some out → V shM nM D cy ad 5 p l e rX12_goes s m args below meth c (MQ below (qV shM nM D cy ad out) args s 0 0 (rA ad nM)) 53 [(0, .ref (ad 0)), (1, .int a1), (2, .int a2), (3, .int a3), (4, .int a4)] [] u := by
  intro t
  induction t with
  | zero => intro a4 u h; rw [fX12_goes_L53] at h; cases h
  | succ t ih =>
    intro a4 u h
    rw [fX12_goes_L53] at h
    refine v_iload C 4 dX12_goes_53 rfl ?_
    refine v_bipush C (v := 6) dX12_goes_55 (by decide) ?_
    refine v_icmp_ge C 81 dX12_goes_57 (by decide) h (fun h => ?_) (fun h => ?_)
    · refine v_sub [0, 1, 2, 3] rfl ?_
      exact hK81 u h
    · refine v_aload_n C 0 dX12_goes_60 rfl rfl ?_
      refine v_getr C pM_0 fd_X12_68 rfl dX12_goes_61 ?_
      refine v_iload C 4 dX12_goes_64 rfl ?_
      refine v_aload_n C 0 dX12_goes_66 rfl rfl ?_
      refine v_iload_n C 1 dX12_goes_67 rfl rfl ?_
      refine v_iload_n C 3 dX12_goes_68 rfl rfl ?_
      refine v_iload C 4 dX12_goes_69 rfl ?_
      obtain ⟨r10, hc9, h⟩ := bnd h
      refine v_callVi C [.int a1, .int a3, .int a4] (cX12_partsAt_ct l D cy ad a1 a3 a4 u r10 hc9) ml_X12_228 pM_0 ⟨Nat.le_of_ble_eq_true rfl, Nat.le_of_ble_eq_true rfl⟩ ⟨rfl, rfl⟩ rfl rfl (Nat.le_of_ble_eq_true rfl) dX12_goes_71 ?_
      refine v_iast C pM_16 dX12_goes_74 h (fun h => ?_)
      refine v_iinc C 4 (v := a4 + 1) [(4, .int (a4 + 1)), (0, .ref (ad 0)), (1, .int a1), (2, .int a2), (3, .int a3)] dX12_goes_75 rfl rfl (by decide) rfl ?_
      refine v_goto C 53 dX12_goes_78 (by decide) ?_
      refine v_sub [1, 2, 3, 4, 0] rfl ?_
      exact ih (a4 + 1) (si u 16 a4.toNatClampNeg r10) h
set_option maxHeartbeats 4000000 in
set_option maxRecDepth 100000 in
theorem kX12_goes_L84 {l : Launch} {D : va_G} {cy : Nat → ClassId} {ad : Nat → Nat} {p : Program} {e : Env} {s : State} {m : MethodId} {args : Array Value} {below : List Frame} {meth : Method} {c : Code} (C : Cx nM D cy ad 5 cX12_goes RX12 rX12_goes p s m args c) (hr : meth.sig.returnType = none) (hlk : meth.locks = false) (a1 : Int32) (a2 : Int32) (a3 : Int32)  {out : Mem} (K113 : Mem → Option Mem) (hK113 : ∀ (w : Mem), K113 w = some out → V shM nM D cy ad 5 p l e rX12_goes s m args below meth c (MQ below (qV shM nM D cy ad out) args s 0 0 (rA ad nM)) 113 [(0, .ref (ad 0)), (1, .int a1), (2, .int a2), (3, .int a3)] [] w) : ∀ (t : Nat) (a4 : Int32) (u : Mem), fX12_goes_L84 a1 a2 a3 K113 t a4 u = some out → V shM nM D cy ad 5 p l e rX12_goes s m args below meth c (MQ below (qV shM nM D cy ad out) args s 0 0 (rA ad nM)) 84 [(0, .ref (ad 0)), (1, .int a1), (2, .int a2), (3, .int a3), (4, .int a4)] [] u := by
  intro t
  induction t with
  | zero => intro a4 u h; rw [fX12_goes_L84] at h; cases h
  | succ t ih =>
    intro a4 u h
    rw [fX12_goes_L84] at h
    refine v_iload C 4 dX12_goes_84 rfl ?_
    refine v_iconst C (v := 5) dX12_goes_86 (by decide) ?_
    refine v_icmp_ge C 113 dX12_goes_87 (by decide) h (fun h => ?_) (fun h => ?_)
    · refine v_sub [0, 1, 2, 3] rfl ?_
      exact hK113 u h
    · refine v_aload_n C 0 dX12_goes_90 rfl rfl ?_
      refine v_iload C 4 dX12_goes_91 rfl ?_
      obtain ⟨r14, hc13, h⟩ := bnd h
      refine v_callVi C [.int a4] (cX12_isChain_ct l D cy ad a4 u r14 hc13) ml_X12_202 pM_0 ⟨Nat.le_of_ble_eq_true rfl, Nat.le_of_ble_eq_true rfl⟩ ⟨rfl, rfl⟩ rfl rfl (Nat.le_of_ble_eq_true rfl) dX12_goes_93 ?_
      refine v_z_eq C 107 dX12_goes_96 (by decide) h (fun h => ?_) (fun h => ?_)
      · refine v_aload_n C 0 dX12_goes_99 rfl rfl ?_
        refine v_iload_n C 1 dX12_goes_100 rfl rfl ?_
        refine v_iload_n C 3 dX12_goes_101 rfl rfl ?_
        refine v_iload C 4 dX12_goes_102 rfl ?_
        obtain ⟨u17, hc16, h⟩ := bnd h
        refine v_callVv C [.int a1, .int a3, .int a4] (cX12_burns_ct l D cy ad a1 a3 a4 u u17 hc16) ml_X12_271 pM_0 ⟨Nat.le_of_ble_eq_true rfl, Nat.le_of_ble_eq_true rfl⟩ ⟨rfl, rfl⟩ rfl rfl (Nat.le_of_ble_eq_true rfl) dX12_goes_104 ?_
        refine v_iinc C 4 (v := a4 + 1) [(4, .int (a4 + 1)), (0, .ref (ad 0)), (1, .int a1), (2, .int a2), (3, .int a3)] dX12_goes_107 rfl rfl (by decide) rfl ?_
        refine v_goto C 84 dX12_goes_110 (by decide) ?_
        refine v_sub [1, 2, 3, 4, 0] rfl ?_
        exact ih (a4 + 1) u17 h
      · refine v_iinc C 4 (v := a4 + 1) [(4, .int (a4 + 1)), (0, .ref (ad 0)), (1, .int a1), (2, .int a2), (3, .int a3)] dX12_goes_107 rfl rfl (by decide) rfl ?_
        refine v_goto C 84 dX12_goes_110 (by decide) ?_
        refine v_sub [1, 2, 3, 4, 0] rfl ?_
        exact ih (a4 + 1) u h
set_option maxHeartbeats 4000000 in
set_option maxRecDepth 100000 in
theorem kX12_goes_L116 {l : Launch} {D : va_G} {cy : Nat → ClassId} {ad : Nat → Nat} {p : Program} {e : Env} {s : State} {m : MethodId} {args : Array Value} {below : List Frame} {meth : Method} {c : Code} (C : Cx nM D cy ad 5 cX12_goes RX12 rX12_goes p s m args c) (hr : meth.sig.returnType = none) (hlk : meth.locks = false) (a1 : Int32) (a2 : Int32) (a3 : Int32)  {out : Mem} (Rc45 : Int32 → Mem → Option Mem) (hRc45 : ∀ (a3 : Int32) (w : Mem), Rc45 a3 w = some out → V shM nM D cy ad 5 p l e rX12_goes s m args below meth c (MQ below (qV shM nM D cy ad out) args s 0 0 (rA ad nM)) 45 [(0, .ref (ad 0)), (1, .int a1), (2, .int a2), (3, .int a3)] [] w) : ∀ (t : Nat) (a4 : Int32) (u : Mem), fX12_goes_L116 a1 a2 a3 Rc45 t a4 u = some out → V shM nM D cy ad 5 p l e rX12_goes s m args below meth c (MQ below (qV shM nM D cy ad out) args s 0 0 (rA ad nM)) 116 [(0, .ref (ad 0)), (1, .int a1), (2, .int a2), (3, .int a3), (4, .int a4)] [] u := by
  intro t
  induction t with
  | zero => intro a4 u h; rw [fX12_goes_L116] at h; cases h
  | succ t ih =>
    intro a4 u h
    rw [fX12_goes_L116] at h
    refine v_iload C 4 dX12_goes_116 rfl ?_
    refine v_iconst C (v := 5) dX12_goes_118 (by decide) ?_
    refine v_icmp_ge C 136 dX12_goes_119 (by decide) h (fun h => ?_) (fun h => ?_)
    · refine v_iinc C 3 (v := a3 + 1) [(3, .int (a3 + 1)), (0, .ref (ad 0)), (1, .int a1), (2, .int a2), (4, .int a4)] dX12_goes_136 rfl rfl (by decide) rfl ?_
      refine v_goto C 45 dX12_goes_139 (by decide) ?_
      refine v_sub [1, 2, 3, 0] rfl ?_
      exact hRc45 (a3 + 1) u h
    · refine v_aload_n C 0 dX12_goes_122 rfl rfl ?_
      refine v_iload_n C 1 dX12_goes_123 rfl rfl ?_
      refine v_iload_n C 3 dX12_goes_124 rfl rfl ?_
      refine v_iload C 4 dX12_goes_125 rfl ?_
      obtain ⟨u21, hc20, h⟩ := bnd h
      refine v_callVv C [.int a1, .int a3, .int a4] (cX12_looksAt_ct l D cy ad a1 a3 a4 u u21 hc20) ml_X12_275 pM_0 ⟨Nat.le_of_ble_eq_true rfl, Nat.le_of_ble_eq_true rfl⟩ ⟨rfl, rfl⟩ rfl rfl (Nat.le_of_ble_eq_true rfl) dX12_goes_127 ?_
      refine v_iinc C 4 (v := a4 + 1) [(4, .int (a4 + 1)), (0, .ref (ad 0)), (1, .int a1), (2, .int a2), (3, .int a3)] dX12_goes_130 rfl rfl (by decide) rfl ?_
      refine v_goto C 116 dX12_goes_133 (by decide) ?_
      refine v_sub [1, 2, 3, 4, 0] rfl ?_
      exact ih (a4 + 1) u21 h
set_option maxHeartbeats 4000000 in
set_option maxRecDepth 100000 in
theorem kX12_goes_L45 {l : Launch} {D : va_G} {cy : Nat → ClassId} {ad : Nat → Nat} {p : Program} {e : Env} {s : State} {m : MethodId} {args : Array Value} {below : List Frame} {meth : Method} {c : Code} (C : Cx nM D cy ad 5 cX12_goes RX12 rX12_goes p s m args c) (hr : meth.sig.returnType = none) (hlk : meth.locks = false) (a1 : Int32) (a2 : Int32)  {out : Mem} (K142 : Mem → Option Mem) (hK142 : ∀ (w : Mem), K142 w = some out → V shM nM D cy ad 5 p l e rX12_goes s m args below meth c (MQ below (qV shM nM D cy ad out) args s 0 0 (rA ad nM)) 142 [(0, .ref (ad 0)), (1, .int a1), (2, .int a2)] [] w) : ∀ (t : Nat) (a3 : Int32) (u : Mem), fX12_goes_L45 a1 a2 K142 t a3 u = some out → V shM nM D cy ad 5 p l e rX12_goes s m args below meth c (MQ below (qV shM nM D cy ad out) args s 0 0 (rA ad nM)) 45 [(0, .ref (ad 0)), (1, .int a1), (2, .int a2), (3, .int a3)] [] u := by
  intro t
  induction t with
  | zero => intro a3 u h; rw [fX12_goes_L45] at h; cases h
  | succ t ih =>
    intro a3 u h
    rw [fX12_goes_L45] at h
    refine v_iload_n C 3 dX12_goes_45 rfl rfl ?_
    refine v_iload_n C 2 dX12_goes_46 rfl rfl ?_
    refine v_icmp_ge C 142 dX12_goes_47 (by decide) h (fun h => ?_) (fun h => ?_)
    · refine v_sub [0, 1, 2] rfl ?_
      exact hK142 u h
    · refine v_iconst C (v := 0) dX12_goes_50 (by decide) ?_
      refine v_istore C [(4, .int 0), (0, .ref (ad 0)), (1, .int a1), (2, .int a2), (3, .int a3)] dX12_goes_51 (by decide) rfl ?_
      refine v_sub [1, 2, 3, 4, 0] rfl ?_
      refine kX12_goes_L53 C hr hlk a1 a2 a3 _ (fun u11 h => ?_) fu0 0 u h
      · refine v_iconst C (v := 0) dX12_goes_81 (by decide) ?_
        refine v_istore C [(4, .int 0), (0, .ref (ad 0)), (1, .int a1), (2, .int a2), (3, .int a3)] dX12_goes_82 (by decide) rfl ?_
        refine v_sub [1, 2, 3, 4, 0] rfl ?_
        refine kX12_goes_L84 C hr hlk a1 a2 a3 _ (fun u18 h => ?_) fu0 0 u11 h
        · refine v_iconst C (v := 0) dX12_goes_113 (by decide) ?_
          refine v_istore C [(4, .int 0), (0, .ref (ad 0)), (1, .int a1), (2, .int a2), (3, .int a3)] dX12_goes_114 (by decide) rfl ?_
          refine v_sub [1, 2, 3, 4, 0] rfl ?_
          refine kX12_goes_L116 C hr hlk a1 a2 a3 (fX12_goes_L45 a1 a2 K142 t) ih fu0 0 u18 h
set_option maxHeartbeats 4000000 in
set_option maxRecDepth 100000 in
theorem kX12_goes_L152 {l : Launch} {D : va_G} {cy : Nat → ClassId} {ad : Nat → Nat} {p : Program} {e : Env} {s : State} {m : MethodId} {args : Array Value} {below : List Frame} {meth : Method} {c : Code} (C : Cx nM D cy ad 5 cX12_goes RX12 rX12_goes p s m args c) (hr : meth.sig.returnType = none) (hlk : meth.locks = false) (a1 : Int32) (a2 : Int32) (a3 : Int32)  (u : Mem) {out : Mem} (K187 : Int32 → Option Mem) (hK187 : ∀ (a4 : Int32), K187 a4 = some out → V shM nM D cy ad 5 p l e rX12_goes s m args below meth c (MQ below (qV shM nM D cy ad out) args s 0 0 (rA ad nM)) 187 [(0, .ref (ad 0)), (1, .int a1), (2, .int a2), (3, .int a3), (4, .int a4)] [] u) : ∀ (t : Nat) (a4 : Int32), fX12_goes_L152 a1 a2 a3 u K187 t a4 = some out → V shM nM D cy ad 5 p l e rX12_goes s m args below meth c (MQ below (qV shM nM D cy ad out) args s 0 0 (rA ad nM)) 152 [(0, .ref (ad 0)), (1, .int a1), (2, .int a2), (3, .int a3), (4, .int a4)] [] u := by
  intro t
  induction t with
  | zero => intro a4 h; rw [fX12_goes_L152] at h; cases h
  | succ t ih =>
    intro a4 h
    rw [fX12_goes_L152] at h
    refine v_aload_n C 0 dX12_goes_152 rfl rfl ?_
    refine v_getr C pM_0 fd_X12_65 rfl dX12_goes_153 ?_
    refine v_iload_n C 3 dX12_goes_156 rfl rfl ?_
    refine v_zald C pM_15 dX12_goes_157 h (fun h => ?_)
    refine v_if_eq C 187 dX12_goes_158 (by decide) h (fun h => ?_) (fun h => ?_)
    · exact hK187 a4 h
    · refine v_iload C 4 dX12_goes_161 rfl ?_
      refine v_iconst C (v := 1) dX12_goes_163 (by decide) ?_
      refine v_iadd C dX12_goes_164 ?_
      refine v_iload_n C 2 dX12_goes_165 rfl rfl ?_
      refine v_icmp_ge C 187 dX12_goes_166 (by decide) h (fun h => ?_) (fun h => ?_)
      · exact hK187 a4 h
      · refine v_aload_n C 0 dX12_goes_169 rfl rfl ?_
        refine v_getr C pM_0 fd_X12_65 rfl dX12_goes_170 ?_
        refine v_iload C 4 dX12_goes_173 rfl ?_
        refine v_iconst C (v := 1) dX12_goes_175 (by decide) ?_
        refine v_iadd C dX12_goes_176 ?_
        refine v_zald C pM_15 dX12_goes_177 h (fun h => ?_)
        refine v_if_eq C 187 dX12_goes_178 (by decide) h (fun h => ?_) (fun h => ?_)
        · exact hK187 a4 h
        · refine v_iinc C 4 (v := a4 + 1) [(4, .int (a4 + 1)), (0, .ref (ad 0)), (1, .int a1), (2, .int a2), (3, .int a3)] dX12_goes_181 rfl rfl (by decide) rfl ?_
          refine v_goto C 152 dX12_goes_184 (by decide) ?_
          refine v_sub [1, 2, 3, 4, 0] rfl ?_
          exact ih (a4 + 1) h
set_option maxHeartbeats 4000000 in
set_option maxRecDepth 100000 in
theorem kX12_goes_L144 {l : Launch} {D : va_G} {cy : Nat → ClassId} {ad : Nat → Nat} {p : Program} {e : Env} {s : State} {m : MethodId} {args : Array Value} {below : List Frame} {meth : Method} {c : Code} (C : Cx nM D cy ad 5 cX12_goes RX12 rX12_goes p s m args c) (hr : meth.sig.returnType = none) (hlk : meth.locks = false) (a1 : Int32) (a2 : Int32)  {out : Mem}  : ∀ (t : Nat) (a3 : Int32) (u : Mem), fX12_goes_L144 a1 a2 t a3 u = some out → V shM nM D cy ad 5 p l e rX12_goes s m args below meth c (MQ below (qV shM nM D cy ad out) args s 0 0 (rA ad nM)) 144 [(0, .ref (ad 0)), (1, .int a1), (2, .int a2), (3, .int a3)] [] u := by
  intro t
  induction t with
  | zero => intro a3 u h; rw [fX12_goes_L144] at h; cases h
  | succ t ih =>
    intro a3 u h
    rw [fX12_goes_L144] at h
    refine v_iload_n C 3 dX12_goes_144 rfl rfl ?_
    refine v_iload_n C 2 dX12_goes_145 rfl rfl ?_
    refine v_icmp_ge C 203 dX12_goes_146 (by decide) h (fun h => ?_) (fun h => ?_)
    · refine v_aload_n C 0 dX12_goes_203 rfl rfl ?_
      refine v_getr C pM_0 fd_X12_7 rfl dX12_goes_204 ?_
      refine v_iconst C (v := 4) dX12_goes_207 (by decide) ?_
      refine v_dup2 C rfl rfl dX12_goes_208 ?_
      refine v_ialdN C pM_1 (j := 4) (by decide) (by decide) dX12_goes_209 ?_
      refine v_iconst C (v := 1) dX12_goes_210 (by decide) ?_
      refine v_iadd C dX12_goes_211 ?_
      refine v_iastN C pM_1 (j := 4) (by decide) (by decide) dX12_goes_212 ?_
      cases h
      exact v_vret C hr hlk dX12_goes_213
    · refine v_iload_n C 3 dX12_goes_149 rfl rfl ?_
      refine v_istore C [(4, .int a3), (0, .ref (ad 0)), (1, .int a1), (2, .int a2), (3, .int a3)] dX12_goes_150 (by decide) rfl ?_
      refine v_sub [1, 2, 3, 4, 0] rfl ?_
      refine kX12_goes_L152 C hr hlk a1 a2 a3 u _ (fun v27 h => ?_) fu0 a3 h
      · refine v_aload_n C 0 dX12_goes_187 rfl rfl ?_
        refine v_iload_n C 1 dX12_goes_188 rfl rfl ?_
        refine v_iload_n C 3 dX12_goes_189 rfl rfl ?_
        refine v_iload C 4 dX12_goes_190 rfl ?_
        obtain ⟨u29, hc28, h⟩ := bnd h
        refine v_callVv C [.int a1, .int a3, .int v27] (cX12_mixes_ct l D cy ad a1 a3 v27 u u29 hc28) ml_X12_278 pM_0 ⟨Nat.le_of_ble_eq_true rfl, Nat.le_of_ble_eq_true rfl⟩ ⟨rfl, rfl⟩ rfl rfl (Nat.le_of_ble_eq_true rfl) dX12_goes_192 ?_
        refine v_iload C 4 dX12_goes_195 rfl ?_
        refine v_iconst C (v := 1) dX12_goes_197 (by decide) ?_
        refine v_iadd C dX12_goes_198 ?_
        refine v_istore_n C [(3, .int (v27 + 1)), (0, .ref (ad 0)), (1, .int a1), (2, .int a2), (4, .int v27)] dX12_goes_199 rfl (by decide) rfl ?_
        refine v_goto C 144 dX12_goes_200 (by decide) ?_
        refine v_sub [1, 2, 3, 0] rfl ?_
        exact ih (v27 + 1) u29 h
set_option maxHeartbeats 4000000 in
set_option maxRecDepth 100000 in
theorem cX12_goes_ct (l : Launch) (D : va_G) (cy : Nat → ClassId) (ad : Nat → Nat) (a1 : Int32) (u : Mem)  (out : Mem) (h : fX12_goes a1 u = some out) : Met l yX12_goes (.code yX12_goes cX12_goes 5 (none) :: gw) rX12_goes (va_Pc [.ref (ad 0), .int a1] (wv shM nM D cy ad u)) (qV shM nM D cy ad out) 0 0 (rA ad nM) := by
  refine met_of (cc := cX12_goes) (nL := 5) (by decide) (Nat.le_of_ble_eq_true rfl) (fun p e s m below meth c C hr hlk => ?_)
  unfold fX12_goes at h
  show V shM nM D cy ad 5 p l e rX12_goes s m _ below meth c (MQ below (qV shM nM D cy ad out) _ s 0 0 (rA ad nM)) 0 [(0, .ref (ad 0)), (1, .int a1)] [] u
  refine v_aload_n C 0 dX12_goes_0 rfl rfl ?_
  refine v_getr C pM_0 fd_X12_7 rfl dX12_goes_1 ?_
  refine v_iconst C (v := 2) dX12_goes_4 (by decide) ?_
  refine v_iload_n C 1 dX12_goes_5 rfl rfl ?_
  refine v_iadd C dX12_goes_6 ?_
  refine v_iald C pM_1 dX12_goes_7 h (fun h => ?_)
  refine v_istore_n C [(2, .int (u.1 1 (2 + a1).toNatClampNeg)), (0, .ref (ad 0)), (1, .int a1)] dX12_goes_8 rfl (by decide) rfl ?_
  refine v_iconst C (v := 0) dX12_goes_9 (by decide) ?_
  refine v_istore_n C [(3, .int 0), (2, .int (u.1 1 (2 + a1).toNatClampNeg)), (0, .ref (ad 0)), (1, .int a1)] dX12_goes_10 rfl (by decide) rfl ?_
  refine v_sub [2, 3, 1, 0] rfl ?_
  refine kX12_goes_L11 C hr hlk a1 (u.1 1 (2 + a1).toNatClampNeg) _ (fun u6 h => ?_) fu0 0 u h
  · refine v_iconst C (v := 0) dX12_goes_43 (by decide) ?_
    refine v_istore_n C [(3, .int 0), (0, .ref (ad 0)), (1, .int a1), (2, .int (u.1 1 (2 + a1).toNatClampNeg))] dX12_goes_44 rfl (by decide) rfl ?_
    refine v_sub [1, 2, 3, 0] rfl ?_
    refine kX12_goes_L45 C hr hlk a1 (u.1 1 (2 + a1).toNatClampNeg) _ (fun u22 h => ?_) fu0 0 u6 h
    · refine v_iconst C (v := 0) dX12_goes_142 (by decide) ?_
      refine v_istore_n C [(3, .int 0), (0, .ref (ad 0)), (1, .int a1), (2, .int (u.1 1 (2 + a1).toNatClampNeg))] dX12_goes_143 rfl (by decide) rfl ?_
      refine v_sub [1, 2, 3, 0] rfl ?_
      refine kX12_goes_L144 C hr hlk a1 (u.1 1 (2 + a1).toNatClampNeg)   fu0 0 u22 h
def rX12_steps : Room := { frames := 5, cells := 0, slots := 0, locals := 126 }
def fX12_steps_L27 (a1 : Int32) (a2 : Int32) : Nat → Int32 → Mem → Option (Int32 × Mem)
  | 0, _, _ => none
  | t + 1, a3, u => (if a2 ≤ a3 then (some (a3, u)) else (if 300 ≤ (u.1 1 4) then (some (a3, u)) else (if inB (8 + a1) 8320 then ((fX12_settles a1 (u.1 1 (8 + a1).toNatClampNeg) u).bind fun q12 => (if q12.1 = true then ((fX12_goes a1 q12.2).bind fun u15 => fX12_steps_L27 a1 a2 t (a3 + 1) u15) else (some (a3, q12.2)))) else none)))
def fX12_steps (a1 : Int32) (a2 : Int32) (u : Mem) : Option (Int32 × Mem) := ((fX12_isStar a1).bind fun r2 => (if r2 = true then ((fX12_in a2.toInt64 1 50).bind fun r5 => (if r5 = true then ((fX12_spans u).bind fun u8 => fX12_steps_L27 a1 a2 fu0 0 u8) else (some ((-1), u)))) else (some ((-1), u))))
set_option maxHeartbeats 4000000 in
set_option maxRecDepth 100000 in
theorem kX12_steps_L27 {l : Launch} {D : va_G} {cy : Nat → ClassId} {ad : Nat → Nat} {p : Program} {e : Env} {s : State} {m : MethodId} {args : Array Value} {below : List Frame} {meth : Method} {c : Code} (C : Cx nM D cy ad 4 cX12_steps RX12 rX12_steps p s m args c) (hr : meth.sig.returnType = some .int) (hlk : meth.locks = false) (a1 : Int32) (a2 : Int32)  {out : (Int32 × Mem)}  : ∀ (t : Nat) (a3 : Int32) (u : Mem), fX12_steps_L27 a1 a2 t a3 u = some out → V shM nM D cy ad 4 p l e rX12_steps s m args below meth c (MQ below (qI shM nM D cy ad out.1 out.2) args s 0 0 (rA ad nM)) 27 [(0, .ref (ad 0)), (1, .int a1), (2, .int a2), (3, .int a3)] [] u := by
  intro t
  induction t with
  | zero => intro a3 u h; rw [fX12_steps_L27] at h; cases h
  | succ t ih =>
    intro a3 u h
    rw [fX12_steps_L27] at h
    refine v_iload_n C 3 dX12_steps_27 rfl rfl ?_
    refine v_iload_n C 2 dX12_steps_28 rfl rfl ?_
    refine v_icmp_ge C 72 dX12_steps_29 (by decide) h (fun h => ?_) (fun h => ?_)
    · refine v_iload_n C 3 dX12_steps_72 rfl rfl ?_
      cases h
      exact v_iret C hr hlk dX12_steps_73
    · refine v_aload_n C 0 dX12_steps_32 rfl rfl ?_
      refine v_getr C pM_0 fd_X12_7 rfl dX12_steps_33 ?_
      refine v_iconst C (v := 4) dX12_steps_36 (by decide) ?_
      refine v_ialdN C pM_1 (j := 4) (by decide) (by decide) dX12_steps_37 ?_
      refine v_sipush C (v := 300) dX12_steps_38 (by decide) ?_
      refine v_icmp_ge C 72 dX12_steps_41 (by decide) h (fun h => ?_) (fun h => ?_)
      · refine v_iload_n C 3 dX12_steps_72 rfl rfl ?_
        cases h
        exact v_iret C hr hlk dX12_steps_73
      · refine v_aload_n C 0 dX12_steps_44 rfl rfl ?_
        refine v_iload_n C 1 dX12_steps_45 rfl rfl ?_
        refine v_aload_n C 0 dX12_steps_46 rfl rfl ?_
        refine v_getr C pM_0 fd_X12_7 rfl dX12_steps_47 ?_
        refine v_bipush C (v := 8) dX12_steps_50 (by decide) ?_
        refine v_iload_n C 1 dX12_steps_52 rfl rfl ?_
        refine v_iadd C dX12_steps_53 ?_
        refine v_iald C pM_1 dX12_steps_54 h (fun h => ?_)
        obtain ⟨q12, hc11, h⟩ := bnd h
        refine v_callVi C [.int a1, .int (u.1 1 (8 + a1).toNatClampNeg)] (cX12_settles_ct l D cy ad a1 (u.1 1 (8 + a1).toNatClampNeg) u q12 hc11) ml_X12_259 pM_0 ⟨Nat.le_of_ble_eq_true rfl, Nat.le_of_ble_eq_true rfl⟩ ⟨rfl, rfl⟩ rfl rfl (Nat.le_of_ble_eq_true rfl) dX12_steps_55 ?_
        refine v_z_eq C 72 dX12_steps_58 (by decide) h (fun h => ?_) (fun h => ?_)
        · refine v_aload_n C 0 dX12_steps_61 rfl rfl ?_
          refine v_iload_n C 1 dX12_steps_62 rfl rfl ?_
          obtain ⟨u15, hc14, h⟩ := bnd h
          refine v_callVv C [.int a1] (cX12_goes_ct l D cy ad a1 q12.2 u15 hc14) ml_X12_283 pM_0 ⟨Nat.le_of_ble_eq_true rfl, Nat.le_of_ble_eq_true rfl⟩ ⟨rfl, rfl⟩ rfl rfl (Nat.le_of_ble_eq_true rfl) dX12_steps_63 ?_
          refine v_iinc C 3 (v := a3 + 1) [(3, .int (a3 + 1)), (0, .ref (ad 0)), (1, .int a1), (2, .int a2)] dX12_steps_66 rfl rfl (by decide) rfl ?_
          refine v_goto C 27 dX12_steps_69 (by decide) ?_
          refine v_sub [1, 2, 3, 0] rfl ?_
          exact ih (a3 + 1) u15 h
        · refine v_iload_n C 3 dX12_steps_72 rfl rfl ?_
          cases h
          exact v_iret C hr hlk dX12_steps_73
set_option maxHeartbeats 4000000 in
set_option maxRecDepth 100000 in
theorem cX12_steps_ct (l : Launch) (D : va_G) (cy : Nat → ClassId) (ad : Nat → Nat) (a1 : Int32) (a2 : Int32) (u : Mem)  (out : (Int32 × Mem)) (h : fX12_steps a1 a2 u = some out) : Met l yX12_steps (.code yX12_steps cX12_steps 4 (some .int) :: gw) rX12_steps (va_Pc [.ref (ad 0), .int a1, .int a2] (wv shM nM D cy ad u)) (qI shM nM D cy ad out.1 out.2) 0 0 (rA ad nM) := by
  refine met_of (cc := cX12_steps) (nL := 4) (by decide) (Nat.le_of_ble_eq_true rfl) (fun p e s m below meth c C hr hlk => ?_)
  unfold fX12_steps at h
  show V shM nM D cy ad 4 p l e rX12_steps s m _ below meth c (MQ below (qI shM nM D cy ad out.1 out.2) _ s 0 0 (rA ad nM)) 0 [(0, .ref (ad 0)), (1, .int a1), (2, .int a2)] [] u
  refine v_iload_n C 1 dX12_steps_0 rfl rfl ?_
  obtain ⟨r2, hc1, h⟩ := bnd h
  refine v_callSi C [.int a1] (cX12_isStar_ct l D cy ad a1 _ r2 hc1) ml_X12_82 ⟨Nat.le_of_ble_eq_true rfl, Nat.le_of_ble_eq_true rfl⟩ ⟨rfl, rfl⟩ rfl rfl (Nat.le_of_ble_eq_true rfl) dX12_steps_1 ?_
  refine v_z_eq C 19 dX12_steps_4 (by decide) h (fun h => ?_) (fun h => ?_)
  · refine v_iload_n C 2 dX12_steps_7 rfl rfl ?_
    refine v_i2l C dX12_steps_8 ?_
    refine v_lconst C (v := 1) dX12_steps_9 (by decide) ?_
    refine v_ldc2 C kc_X12_281 dX12_steps_10 ?_
    obtain ⟨r5, hc4, h⟩ := bnd h
    refine v_callSi C [.long a2.toInt64, .long 1, .long 50] (cX12_in_ct l D cy ad a2.toInt64 1 50 _ r5 hc4) ml_X12_78 ⟨Nat.le_of_ble_eq_true rfl, Nat.le_of_ble_eq_true rfl⟩ ⟨rfl, rfl⟩ rfl rfl (Nat.le_of_ble_eq_true rfl) dX12_steps_13 ?_
    refine v_z_ne C 21 dX12_steps_16 (by decide) h (fun h => ?_) (fun h => ?_)
    · refine v_aload_n C 0 dX12_steps_21 rfl rfl ?_
      obtain ⟨u8, hc7, h⟩ := bnd h
      refine v_callVv C [] (cX12_spans_ct l D cy ad u u8 hc7) ml_X12_256 pM_0 ⟨Nat.le_of_ble_eq_true rfl, Nat.le_of_ble_eq_true rfl⟩ ⟨rfl, rfl⟩ rfl rfl (Nat.le_of_ble_eq_true rfl) dX12_steps_22 ?_
      refine v_iconst C (v := 0) dX12_steps_25 (by decide) ?_
      refine v_istore_n C [(3, .int 0), (0, .ref (ad 0)), (1, .int a1), (2, .int a2)] dX12_steps_26 rfl (by decide) rfl ?_
      refine v_sub [1, 2, 3, 0] rfl ?_
      refine kX12_steps_L27 C hr hlk a1 a2   fu0 0 u8 h
    · refine v_iconst C (v := (-1)) dX12_steps_19 (by decide) ?_
      cases h
      exact v_iret C hr hlk dX12_steps_20
  · refine v_iconst C (v := (-1)) dX12_steps_19 (by decide) ?_
    cases h
    exact v_iret C hr hlk dX12_steps_20
def rX12_event : Room := { frames := 1, cells := 0, slots := 0, locals := 25 }
def fX12_event (a1 : Int32) (a2 : Int32) (u : Mem) : Option Int32 := ((fX12_in a1.toInt64 0 (((u.1 1 5) - 1).toInt64)).bind fun r2 => (if r2 = true then ((fX12_in a2.toInt64 0 4).bind fun r5 => (if r5 = true then (if inB ((400 + (5 * a1)) + a2) 8320 then (some (u.1 1 ((400 + (5 * a1)) + a2).toNatClampNeg)) else none) else (some (-1)))) else (some (-1))))
set_option maxHeartbeats 4000000 in
set_option maxRecDepth 100000 in
theorem cX12_event_ct (l : Launch) (D : va_G) (cy : Nat → ClassId) (ad : Nat → Nat) (a1 : Int32) (a2 : Int32) (u : Mem)  (out : Int32) (h : fX12_event a1 a2 u = some out) : Met l yX12_event (.code yX12_event cX12_event 3 (some .int) :: gw) rX12_event (va_Pc [.ref (ad 0), .int a1, .int a2] (wv shM nM D cy ad u)) (qI shM nM D cy ad out u) 0 0 (rA ad nM) := by
  refine met_of (cc := cX12_event) (nL := 3) (by decide) (Nat.le_of_ble_eq_true rfl) (fun p e s m below meth c C hr hlk => ?_)
  unfold fX12_event at h
  show V shM nM D cy ad 3 p l e rX12_event s m _ below meth c (MQ below (qI shM nM D cy ad out u) _ s 0 0 (rA ad nM)) 0 [(0, .ref (ad 0)), (1, .int a1), (2, .int a2)] [] u
  refine v_iload_n C 1 dX12_event_0 rfl rfl ?_
  refine v_i2l C dX12_event_1 ?_
  refine v_lconst C (v := 0) dX12_event_2 (by decide) ?_
  refine v_aload_n C 0 dX12_event_3 rfl rfl ?_
  refine v_getr C pM_0 fd_X12_7 rfl dX12_event_4 ?_
  refine v_iconst C (v := 5) dX12_event_7 (by decide) ?_
  refine v_ialdN C pM_1 (j := 5) (by decide) (by decide) dX12_event_8 ?_
  refine v_iconst C (v := 1) dX12_event_9 (by decide) ?_
  refine v_isub C dX12_event_10 ?_
  refine v_i2l C dX12_event_11 ?_
  obtain ⟨r2, hc1, h⟩ := bnd h
  refine v_callSi C [.long a1.toInt64, .long 0, .long (((u.1 1 5) - 1).toInt64)] (cX12_in_ct l D cy ad a1.toInt64 0 (((u.1 1 5) - 1).toInt64) _ r2 hc1) ml_X12_78 ⟨Nat.le_of_ble_eq_true rfl, Nat.le_of_ble_eq_true rfl⟩ ⟨rfl, rfl⟩ rfl rfl (Nat.le_of_ble_eq_true rfl) dX12_event_12 ?_
  refine v_z_eq C 47 dX12_event_15 (by decide) h (fun h => ?_) (fun h => ?_)
  · refine v_iload_n C 2 dX12_event_18 rfl rfl ?_
    refine v_i2l C dX12_event_19 ?_
    refine v_lconst C (v := 0) dX12_event_20 (by decide) ?_
    refine v_ldc2 C kc_X12_169 dX12_event_21 ?_
    obtain ⟨r5, hc4, h⟩ := bnd h
    refine v_callSi C [.long a2.toInt64, .long 0, .long 4] (cX12_in_ct l D cy ad a2.toInt64 0 4 _ r5 hc4) ml_X12_78 ⟨Nat.le_of_ble_eq_true rfl, Nat.le_of_ble_eq_true rfl⟩ ⟨rfl, rfl⟩ rfl rfl (Nat.le_of_ble_eq_true rfl) dX12_event_24 ?_
    refine v_z_eq C 47 dX12_event_27 (by decide) h (fun h => ?_) (fun h => ?_)
    · refine v_aload_n C 0 dX12_event_30 rfl rfl ?_
      refine v_getr C pM_0 fd_X12_7 rfl dX12_event_31 ?_
      refine v_sipush C (v := 400) dX12_event_34 (by decide) ?_
      refine v_iconst C (v := 5) dX12_event_37 (by decide) ?_
      refine v_iload_n C 1 dX12_event_38 rfl rfl ?_
      refine v_imul C dX12_event_39 ?_
      refine v_iadd C dX12_event_40 ?_
      refine v_iload_n C 2 dX12_event_41 rfl rfl ?_
      refine v_iadd C dX12_event_42 ?_
      refine v_iald C pM_1 dX12_event_43 h (fun h => ?_)
      refine v_goto C 48 dX12_event_44 (by decide) ?_
      cases h
      exact v_iret C hr hlk dX12_event_48
    · refine v_iconst C (v := (-1)) dX12_event_47 (by decide) ?_
      cases h
      exact v_iret C hr hlk dX12_event_48
  · refine v_iconst C (v := (-1)) dX12_event_47 (by decide) ?_
    cases h
    exact v_iret C hr hlk dX12_event_48
def rX12_hand : Room := { frames := 2, cells := 0, slots := 0, locals := 45 }
def fX12_hand_J111 (Rc76 : Int32 → Bool → Int32 → Option (Bool × Mem)) (a1 : Int32) (a2 : Int32) (a3 : Int32) (a4 : Int32) (a5 : Int32) (a6 : Int32) (a7 : Bool) (a8 : Int32) (s0 : Int32) (u : Mem) : Option (Bool × Mem) := (if a7 = true then ((fX12_partsAt a3 a5 a8 u).bind fun r15 => Rc76 (a6 - s0) (if 100000 < (r15 + s0) then false else true) (a8 + 1)) else Rc76 (a6 - s0) false (a8 + 1))
def fX12_hand_L76 (a1 : Int32) (a2 : Int32) (a3 : Int32) (a4 : Int32) (a5 : Int32) (u : Mem) (K156 : Int32 → Bool → Option (Bool × Mem)) : Nat → Int32 → Bool → Int32 → Option (Bool × Mem)
  | 0, _, _, _ => none
  | t + 1, a6, a7, a8 => (if 6 ≤ a8 then K156 a6 a7 else ((fX12_partsAt a1 a4 a8 u).bind fun r11 => (if a6 ≤ r11 then fX12_hand_J111 (fX12_hand_L76 a1 a2 a3 a4 a5 u K156 t) a1 a2 a3 a4 a5 a6 a7 a8 a6 u else ((fX12_partsAt a1 a4 a8 u).bind fun r18 => fX12_hand_J111 (fX12_hand_L76 a1 a2 a3 a4 a5 u K156 t) a1 a2 a3 a4 a5 a6 a7 a8 r18 u))))
def fX12_hand_J209 (Rc174 : Int32 → Int32 → Mem → Option (Bool × Mem)) (a1 : Int32) (a3 : Int32) (a4 : Int32) (a5 : Int32) (a6 : Int32) (a8 : Int32) (s0 : Int32) (u : Mem) : Option (Bool × Mem) := ((fX12_partsAt a1 a4 a8 u).bind fun r29 => ((fX12_sets a1 a4 a8 (r29 - s0) u).bind fun u31 => ((fX12_partsAt a3 a5 a8 u31).bind fun r33 => ((fX12_sets a3 a5 a8 (r33 + s0) u31).bind fun u35 => Rc174 (a6 - s0) (a8 + 1) u35))))
def fX12_hand_L174 (a1 : Int32) (a3 : Int32) (a4 : Int32) (a5 : Int32) : Nat → Int32 → Int32 → Mem → Option (Bool × Mem)
  | 0, _, _, _ => none
  | t + 1, a6, a8, u => (if 6 ≤ a8 then (some (true, u)) else ((fX12_partsAt a1 a4 a8 u).bind fun r26 => (if a6 ≤ r26 then fX12_hand_J209 (fX12_hand_L174 a1 a3 a4 a5 t) a1 a3 a4 a5 a6 a8 a6 u else ((fX12_partsAt a1 a4 a8 u).bind fun r37 => fX12_hand_J209 (fX12_hand_L174 a1 a3 a4 a5 t) a1 a3 a4 a5 a6 a8 r37 u))))
def fX12_hand (a1 : Int32) (a2 : Int32) (u : Mem) : Option (Bool × Mem) := ((fX12_isStar a1).bind fun r2 => (if r2 = true then ((fX12_in a2.toInt64 1 100000).bind fun r5 => (if r5 = true then (if (u.1 1 2) = 0 then (some (false, u)) else (if (u.1 1 3) = 0 then (some (false, u)) else (if inB (2 + a1) 8320 then (if inB (2 + (1 - a1)) 8320 then fX12_hand_L76 a1 a2 (1 - a1) ((u.1 1 (2 + a1).toNatClampNeg) - 1) ((u.1 1 (2 + (1 - a1)).toNatClampNeg) - 1) u (fun v19 v20 => (if v20 = true then (if v19 ≤ 0 then fX12_hand_L174 a1 (1 - a1) ((u.1 1 (2 + a1).toNatClampNeg) - 1) ((u.1 1 (2 + (1 - a1)).toNatClampNeg) - 1) fu0 a2 0 u else (some (false, u))) else (some (false, u)))) fu0 a2 true 0 else none) else none))) else (some (false, u)))) else (some (false, u))))
set_option maxHeartbeats 4000000 in
set_option maxRecDepth 100000 in
theorem kX12_hand_J111 {l : Launch} {D : va_G} {cy : Nat → ClassId} {ad : Nat → Nat} {p : Program} {e : Env} {s : State} {m : MethodId} {args : Array Value} {below : List Frame} {meth : Method} {c : Code} (C : Cx nM D cy ad 10 cX12_hand RX12 rX12_hand p s m args c) (hr : meth.sig.returnType = some .boolean) (hlk : meth.locks = false) {out : (Bool × Mem)} (Rc76 : Int32 → Bool → Int32 → Option (Bool × Mem))  (a1 : Int32) (a2 : Int32) (a3 : Int32) (a4 : Int32) (a5 : Int32) (a6 : Int32) (a7 : Bool) (a8 : Int32) (s0 : Int32) (u : Mem)  (hRc76 : ∀ (a6 : Int32) (a7 : Bool) (a8 : Int32), Rc76 a6 a7 a8 = some out → V shM nM D cy ad 10 p l e rX12_hand s m args below meth c (MQ below (qI shM nM D cy ad (bz out.1) out.2) args s 0 0 (rA ad nM)) 76 [(0, .ref (ad 0)), (1, .int a1), (2, .int a2), (3, .int a3), (4, .int a4), (5, .int a5), (6, .int a6), (7, .int (bz a7)), (8, .int a8)] [] u) (h : fX12_hand_J111 Rc76 a1 a2 a3 a4 a5 a6 a7 a8 s0 u = some out) : V shM nM D cy ad 10 p l e rX12_hand s m args below meth c (MQ below (qI shM nM D cy ad (bz out.1) out.2) args s 0 0 (rA ad nM)) 111 [(0, .ref (ad 0)), (1, .int a1), (2, .int a2), (3, .int a3), (4, .int a4), (5, .int a5), (6, .int a6), (7, .int (bz a7)), (8, .int a8)] [.int s0] u := by
  unfold fX12_hand_J111 at h
  refine v_istore C [(9, .int s0), (0, .ref (ad 0)), (1, .int a1), (2, .int a2), (3, .int a3), (4, .int a4), (5, .int a5), (6, .int a6), (7, .int (bz a7)), (8, .int a8)] dX12_hand_111 (by decide) rfl ?_
  refine v_iload C 8 dX12_hand_113 rfl ?_
  refine v_z_eq C 140 dX12_hand_115 (by decide) h (fun h => ?_) (fun h => ?_)
  · refine v_aload_n C 1 dX12_hand_118 rfl rfl ?_
    refine v_iload_n C 4 dX12_hand_119 rfl rfl ?_
    refine v_iload C 6 dX12_hand_120 rfl ?_
    refine v_iload C 9 dX12_hand_122 rfl ?_
    obtain ⟨r15, hc14, h⟩ := bnd h
    refine v_callVi C [.int a3, .int a5, .int a8] (cX12_partsAt_ct l D cy ad a3 a5 a8 u r15 hc14) ml_X12_228 pM_0 ⟨Nat.le_of_ble_eq_true rfl, Nat.le_of_ble_eq_true rfl⟩ ⟨rfl, rfl⟩ rfl rfl (Nat.le_of_ble_eq_true rfl) dX12_hand_124 ?_
    refine v_iload C 0 dX12_hand_127 rfl ?_
    refine v_iadd C dX12_hand_129 ?_
    refine v_ldc_w C kc_X12_267 dX12_hand_130 ?_
    refine v_dia 141 (.int (bz (if 100000 < (r15 + s0) then false else true))) [] ?_ (fun hj => ?_)
    · refine v_istore C [(7, .int (bz (if 100000 < (r15 + s0) then false else true))), (9, .int s0), (0, .ref (ad 0)), (1, .int a1), (2, .int a2), (3, .int a3), (4, .int a4), (5, .int a5), (6, .int a6), (8, .int a8)] dX12_hand_141 (by decide) rfl ?_
      refine v_iload C 8 dX12_hand_143 rfl ?_
      refine v_iload C 1 dX12_hand_145 rfl ?_
      refine v_isub C dX12_hand_147 ?_
      refine v_istore C [(6, .int (a6 - s0)), (7, .int (bz (if 100000 < (r15 + s0) then false else true))), (9, .int s0), (0, .ref (ad 0)), (1, .int a1), (2, .int a2), (3, .int a3), (4, .int a4), (5, .int a5), (8, .int a8)] dX12_hand_148 (by decide) rfl ?_
      refine v_iinc C 9 (v := a8 + 1) [(8, .int (a8 + 1)), (6, .int (a6 - s0)), (7, .int (bz (if 100000 < (r15 + s0) then false else true))), (9, .int s0), (0, .ref (ad 0)), (1, .int a1), (2, .int a2), (3, .int a3), (4, .int a4), (5, .int a5)] dX12_hand_150 rfl rfl (by decide) rfl ?_
      refine v_goto C 76 dX12_hand_153 (by decide) ?_
      refine v_sub [4, 5, 6, 7, 8, 9, 1, 2, 0] rfl ?_
      exact hRc76 (a6 - s0) (if 100000 < (r15 + s0) then false else true) (a8 + 1) h
    · refine p_icmp_gt C 140 dX12_hand_133 (by decide) (fun z16 => ?_) (fun z16 => ?_)
      · refine v_iconst C (v := 0) dX12_hand_140 (by decide) ?_
        exact v_top (by rw [if_pos z16]; first | done | rfl) hj
      · refine v_iconst C (v := 1) dX12_hand_136 (by decide) ?_
        refine v_goto C 141 dX12_hand_137 (by decide) ?_
        exact v_top (by rw [if_neg z16]; first | done | rfl) hj
  · refine v_iconst C (v := 0) dX12_hand_140 (by decide) ?_
    refine v_istore C [(7, .int 0), (9, .int s0), (0, .ref (ad 0)), (1, .int a1), (2, .int a2), (3, .int a3), (4, .int a4), (5, .int a5), (6, .int a6), (8, .int a8)] dX12_hand_141 (by decide) rfl ?_
    refine v_iload C 8 dX12_hand_143 rfl ?_
    refine v_iload C 1 dX12_hand_145 rfl ?_
    refine v_isub C dX12_hand_147 ?_
    refine v_istore C [(6, .int (a6 - s0)), (7, .int 0), (9, .int s0), (0, .ref (ad 0)), (1, .int a1), (2, .int a2), (3, .int a3), (4, .int a4), (5, .int a5), (8, .int a8)] dX12_hand_148 (by decide) rfl ?_
    refine v_iinc C 9 (v := a8 + 1) [(8, .int (a8 + 1)), (6, .int (a6 - s0)), (7, .int 0), (9, .int s0), (0, .ref (ad 0)), (1, .int a1), (2, .int a2), (3, .int a3), (4, .int a4), (5, .int a5)] dX12_hand_150 rfl rfl (by decide) rfl ?_
    refine v_goto C 76 dX12_hand_153 (by decide) ?_
    refine v_sub [4, 5, 6, 7, 8, 9, 1, 2, 0] rfl ?_
    exact hRc76 (a6 - s0) false (a8 + 1) h
set_option maxHeartbeats 4000000 in
set_option maxRecDepth 100000 in
theorem kX12_hand_L76 {l : Launch} {D : va_G} {cy : Nat → ClassId} {ad : Nat → Nat} {p : Program} {e : Env} {s : State} {m : MethodId} {args : Array Value} {below : List Frame} {meth : Method} {c : Code} (C : Cx nM D cy ad 10 cX12_hand RX12 rX12_hand p s m args c) (hr : meth.sig.returnType = some .boolean) (hlk : meth.locks = false) (a1 : Int32) (a2 : Int32) (a3 : Int32) (a4 : Int32) (a5 : Int32)  (u : Mem) {out : (Bool × Mem)} (K156 : Int32 → Bool → Option (Bool × Mem)) (hK156 : ∀ (a6 : Int32) (a7 : Bool), K156 a6 a7 = some out → V shM nM D cy ad 10 p l e rX12_hand s m args below meth c (MQ below (qI shM nM D cy ad (bz out.1) out.2) args s 0 0 (rA ad nM)) 156 [(0, .ref (ad 0)), (1, .int a1), (2, .int a2), (3, .int a3), (4, .int a4), (5, .int a5), (6, .int a6), (7, .int (bz a7))] [] u) : ∀ (t : Nat) (a6 : Int32) (a7 : Bool) (a8 : Int32), fX12_hand_L76 a1 a2 a3 a4 a5 u K156 t a6 a7 a8 = some out → V shM nM D cy ad 10 p l e rX12_hand s m args below meth c (MQ below (qI shM nM D cy ad (bz out.1) out.2) args s 0 0 (rA ad nM)) 76 [(0, .ref (ad 0)), (1, .int a1), (2, .int a2), (3, .int a3), (4, .int a4), (5, .int a5), (6, .int a6), (7, .int (bz a7)), (8, .int a8)] [] u := by
  intro t
  induction t with
  | zero => intro a6 a7 a8 h; rw [fX12_hand_L76] at h; cases h
  | succ t ih =>
    intro a6 a7 a8 h
    rw [fX12_hand_L76] at h
    refine v_iload C 8 dX12_hand_76 rfl ?_
    refine v_bipush C (v := 6) dX12_hand_78 (by decide) ?_
    refine v_icmp_ge C 156 dX12_hand_80 (by decide) h (fun h => ?_) (fun h => ?_)
    · refine v_sub [0, 1, 2, 3, 4, 5, 6, 7] rfl ?_
      exact hK156 a6 a7 h
    · refine v_aload_n C 0 dX12_hand_83 rfl rfl ?_
      refine v_iload_n C 1 dX12_hand_84 rfl rfl ?_
      refine v_iload C 4 dX12_hand_85 rfl ?_
      refine v_iload C 8 dX12_hand_87 rfl ?_
      obtain ⟨r11, hc10, h⟩ := bnd h
      refine v_callVi C [.int a1, .int a4, .int a8] (cX12_partsAt_ct l D cy ad a1 a4 a8 u r11 hc10) ml_X12_228 pM_0 ⟨Nat.le_of_ble_eq_true rfl, Nat.le_of_ble_eq_true rfl⟩ ⟨rfl, rfl⟩ rfl rfl (Nat.le_of_ble_eq_true rfl) dX12_hand_89 ?_
      refine v_iload C 6 dX12_hand_92 rfl ?_
      refine v_icmp_ge C 109 dX12_hand_94 (by decide) h (fun h => ?_) (fun h => ?_)
      · refine v_iload C 6 dX12_hand_109 rfl ?_
        exact kX12_hand_J111 C hr hlk (fX12_hand_L76 a1 a2 a3 a4 a5 u K156 t) a1 a2 a3 a4 a5 a6 a7 a8 a6 u ih h
      · refine v_aload_n C 0 dX12_hand_97 rfl rfl ?_
        refine v_iload_n C 1 dX12_hand_98 rfl rfl ?_
        refine v_iload C 4 dX12_hand_99 rfl ?_
        refine v_iload C 8 dX12_hand_101 rfl ?_
        obtain ⟨r18, hc17, h⟩ := bnd h
        refine v_callVi C [.int a1, .int a4, .int a8] (cX12_partsAt_ct l D cy ad a1 a4 a8 u r18 hc17) ml_X12_228 pM_0 ⟨Nat.le_of_ble_eq_true rfl, Nat.le_of_ble_eq_true rfl⟩ ⟨rfl, rfl⟩ rfl rfl (Nat.le_of_ble_eq_true rfl) dX12_hand_103 ?_
        refine v_goto C 111 dX12_hand_106 (by decide) ?_
        exact kX12_hand_J111 C hr hlk (fX12_hand_L76 a1 a2 a3 a4 a5 u K156 t) a1 a2 a3 a4 a5 a6 a7 a8 r18 u ih h
set_option maxHeartbeats 4000000 in
set_option maxRecDepth 100000 in
theorem kX12_hand_J209 {l : Launch} {D : va_G} {cy : Nat → ClassId} {ad : Nat → Nat} {p : Program} {e : Env} {s : State} {m : MethodId} {args : Array Value} {below : List Frame} {meth : Method} {c : Code} (C : Cx nM D cy ad 10 cX12_hand RX12 rX12_hand p s m args c) (hr : meth.sig.returnType = some .boolean) (hlk : meth.locks = false) {out : (Bool × Mem)} (Rc174 : Int32 → Int32 → Mem → Option (Bool × Mem))  (a1 : Int32) (a3 : Int32) (a4 : Int32) (a5 : Int32) (a6 : Int32) (a8 : Int32) (s0 : Int32) (u : Mem)  (hRc174 : ∀ (a6 : Int32) (a8 : Int32) (w : Mem), Rc174 a6 a8 w = some out → V shM nM D cy ad 10 p l e rX12_hand s m args below meth c (MQ below (qI shM nM D cy ad (bz out.1) out.2) args s 0 0 (rA ad nM)) 174 [(0, .ref (ad 0)), (1, .int a1), (3, .int a3), (4, .int a4), (5, .int a5), (6, .int a6), (8, .int a8)] [] w) (h : fX12_hand_J209 Rc174 a1 a3 a4 a5 a6 a8 s0 u = some out) : V shM nM D cy ad 10 p l e rX12_hand s m args below meth c (MQ below (qI shM nM D cy ad (bz out.1) out.2) args s 0 0 (rA ad nM)) 209 [(0, .ref (ad 0)), (1, .int a1), (3, .int a3), (4, .int a4), (5, .int a5), (6, .int a6), (8, .int a8)] [.int s0] u := by
  unfold fX12_hand_J209 at h
  refine v_istore C [(9, .int s0), (0, .ref (ad 0)), (1, .int a1), (3, .int a3), (4, .int a4), (5, .int a5), (6, .int a6), (8, .int a8)] dX12_hand_209 (by decide) rfl ?_
  refine v_aload_n C 1 dX12_hand_211 rfl rfl ?_
  refine v_iload_n C 2 dX12_hand_212 rfl rfl ?_
  refine v_iload C 4 dX12_hand_213 rfl ?_
  refine v_iload C 7 dX12_hand_215 rfl ?_
  refine v_aload_n C 1 dX12_hand_217 rfl rfl ?_
  refine v_iload_n C 2 dX12_hand_218 rfl rfl ?_
  refine v_iload C 4 dX12_hand_219 rfl ?_
  refine v_iload C 7 dX12_hand_221 rfl ?_
  obtain ⟨r29, hc28, h⟩ := bnd h
  refine v_callVi C [.int a1, .int a4, .int a8] (cX12_partsAt_ct l D cy ad a1 a4 a8 u r29 hc28) ml_X12_228 pM_0 ⟨Nat.le_of_ble_eq_true rfl, Nat.le_of_ble_eq_true rfl⟩ ⟨rfl, rfl⟩ rfl rfl (Nat.le_of_ble_eq_true rfl) dX12_hand_223 ?_
  refine v_iload C 0 dX12_hand_226 rfl ?_
  refine v_isub C dX12_hand_228 ?_
  obtain ⟨u31, hc30, h⟩ := bnd h
  refine v_callVv C [.int a1, .int a4, .int a8, .int (r29 - s0)] (cX12_sets_ct l D cy ad a1 a4 a8 (r29 - s0) u u31 hc30) ml_X12_224 pM_0 ⟨Nat.le_of_ble_eq_true rfl, Nat.le_of_ble_eq_true rfl⟩ ⟨rfl, rfl⟩ rfl rfl (Nat.le_of_ble_eq_true rfl) dX12_hand_229 ?_
  refine v_aload_n C 1 dX12_hand_232 rfl rfl ?_
  refine v_iload_n C 3 dX12_hand_233 rfl rfl ?_
  refine v_iload C 5 dX12_hand_234 rfl ?_
  refine v_iload C 7 dX12_hand_236 rfl ?_
  refine v_aload_n C 1 dX12_hand_238 rfl rfl ?_
  refine v_iload_n C 3 dX12_hand_239 rfl rfl ?_
  refine v_iload C 5 dX12_hand_240 rfl ?_
  refine v_iload C 7 dX12_hand_242 rfl ?_
  obtain ⟨r33, hc32, h⟩ := bnd h
  refine v_callVi C [.int a3, .int a5, .int a8] (cX12_partsAt_ct l D cy ad a3 a5 a8 u31 r33 hc32) ml_X12_228 pM_0 ⟨Nat.le_of_ble_eq_true rfl, Nat.le_of_ble_eq_true rfl⟩ ⟨rfl, rfl⟩ rfl rfl (Nat.le_of_ble_eq_true rfl) dX12_hand_244 ?_
  refine v_iload C 0 dX12_hand_247 rfl ?_
  refine v_iadd C dX12_hand_249 ?_
  obtain ⟨u35, hc34, h⟩ := bnd h
  refine v_callVv C [.int a3, .int a5, .int a8, .int (r33 + s0)] (cX12_sets_ct l D cy ad a3 a5 a8 (r33 + s0) u31 u35 hc34) ml_X12_224 pM_0 ⟨Nat.le_of_ble_eq_true rfl, Nat.le_of_ble_eq_true rfl⟩ ⟨rfl, rfl⟩ rfl rfl (Nat.le_of_ble_eq_true rfl) dX12_hand_250 ?_
  refine v_iload C 6 dX12_hand_253 rfl ?_
  refine v_iload C 0 dX12_hand_255 rfl ?_
  refine v_isub C dX12_hand_257 ?_
  refine v_istore C [(6, .int (a6 - s0)), (9, .int s0), (0, .ref (ad 0)), (1, .int a1), (3, .int a3), (4, .int a4), (5, .int a5), (8, .int a8)] dX12_hand_258 (by decide) rfl ?_
  refine v_iinc C 7 (v := a8 + 1) [(8, .int (a8 + 1)), (6, .int (a6 - s0)), (9, .int s0), (0, .ref (ad 0)), (1, .int a1), (3, .int a3), (4, .int a4), (5, .int a5)] dX12_hand_260 rfl rfl (by decide) rfl ?_
  refine v_goto C 174 dX12_hand_263 (by decide) ?_
  refine v_sub [3, 4, 5, 6, 7, 1, 0] rfl ?_
  exact hRc174 (a6 - s0) (a8 + 1) u35 h
set_option maxHeartbeats 4000000 in
set_option maxRecDepth 100000 in
theorem kX12_hand_L174 {l : Launch} {D : va_G} {cy : Nat → ClassId} {ad : Nat → Nat} {p : Program} {e : Env} {s : State} {m : MethodId} {args : Array Value} {below : List Frame} {meth : Method} {c : Code} (C : Cx nM D cy ad 10 cX12_hand RX12 rX12_hand p s m args c) (hr : meth.sig.returnType = some .boolean) (hlk : meth.locks = false) (a1 : Int32) (a3 : Int32) (a4 : Int32) (a5 : Int32)  {out : (Bool × Mem)}  : ∀ (t : Nat) (a6 : Int32) (a8 : Int32) (u : Mem), fX12_hand_L174 a1 a3 a4 a5 t a6 a8 u = some out → V shM nM D cy ad 10 p l e rX12_hand s m args below meth c (MQ below (qI shM nM D cy ad (bz out.1) out.2) args s 0 0 (rA ad nM)) 174 [(0, .ref (ad 0)), (1, .int a1), (3, .int a3), (4, .int a4), (5, .int a5), (6, .int a6), (8, .int a8)] [] u := by
  intro t
  induction t with
  | zero => intro a6 a8 u h; rw [fX12_hand_L174] at h; cases h
  | succ t ih =>
    intro a6 a8 u h
    rw [fX12_hand_L174] at h
    refine v_iload C 6 dX12_hand_174 rfl ?_
    refine v_bipush C (v := 6) dX12_hand_176 (by decide) ?_
    refine v_icmp_ge C 266 dX12_hand_178 (by decide) h (fun h => ?_) (fun h => ?_)
    · refine v_iconst C (v := 1) dX12_hand_266 (by decide) ?_
      cases h
      exact v_zret (b := true) C hr hlk dX12_hand_267
    · refine v_aload_n C 0 dX12_hand_181 rfl rfl ?_
      refine v_iload_n C 1 dX12_hand_182 rfl rfl ?_
      refine v_iload C 3 dX12_hand_183 rfl ?_
      refine v_iload C 6 dX12_hand_185 rfl ?_
      obtain ⟨r26, hc25, h⟩ := bnd h
      refine v_callVi C [.int a1, .int a4, .int a8] (cX12_partsAt_ct l D cy ad a1 a4 a8 u r26 hc25) ml_X12_228 pM_0 ⟨Nat.le_of_ble_eq_true rfl, Nat.le_of_ble_eq_true rfl⟩ ⟨rfl, rfl⟩ rfl rfl (Nat.le_of_ble_eq_true rfl) dX12_hand_187 ?_
      refine v_iload C 5 dX12_hand_190 rfl ?_
      refine v_icmp_ge C 207 dX12_hand_192 (by decide) h (fun h => ?_) (fun h => ?_)
      · refine v_iload C 5 dX12_hand_207 rfl ?_
        exact kX12_hand_J209 C hr hlk (fX12_hand_L174 a1 a3 a4 a5 t) a1 a3 a4 a5 a6 a8 a6 u ih h
      · refine v_aload_n C 0 dX12_hand_195 rfl rfl ?_
        refine v_iload_n C 1 dX12_hand_196 rfl rfl ?_
        refine v_iload C 3 dX12_hand_197 rfl ?_
        refine v_iload C 6 dX12_hand_199 rfl ?_
        obtain ⟨r37, hc36, h⟩ := bnd h
        refine v_callVi C [.int a1, .int a4, .int a8] (cX12_partsAt_ct l D cy ad a1 a4 a8 u r37 hc36) ml_X12_228 pM_0 ⟨Nat.le_of_ble_eq_true rfl, Nat.le_of_ble_eq_true rfl⟩ ⟨rfl, rfl⟩ rfl rfl (Nat.le_of_ble_eq_true rfl) dX12_hand_201 ?_
        refine v_goto C 209 dX12_hand_204 (by decide) ?_
        exact kX12_hand_J209 C hr hlk (fX12_hand_L174 a1 a3 a4 a5 t) a1 a3 a4 a5 a6 a8 r37 u ih h
set_option maxHeartbeats 4000000 in
set_option maxRecDepth 100000 in
theorem cX12_hand_ct (l : Launch) (D : va_G) (cy : Nat → ClassId) (ad : Nat → Nat) (a1 : Int32) (a2 : Int32) (u : Mem)  (out : (Bool × Mem)) (h : fX12_hand a1 a2 u = some out) : Met l yX12_hand (.code yX12_hand cX12_hand 10 (some .boolean) :: gw) rX12_hand (va_Pc [.ref (ad 0), .int a1, .int a2] (wv shM nM D cy ad u)) (qI shM nM D cy ad (bz out.1) out.2) 0 0 (rA ad nM) := by
  refine met_of (cc := cX12_hand) (nL := 10) (by decide) (Nat.le_of_ble_eq_true rfl) (fun p e s m below meth c C hr hlk => ?_)
  unfold fX12_hand at h
  show V shM nM D cy ad 10 p l e rX12_hand s m _ below meth c (MQ below (qI shM nM D cy ad (bz out.1) out.2) _ s 0 0 (rA ad nM)) 0 [(0, .ref (ad 0)), (1, .int a1), (2, .int a2)] [] u
  refine v_iload_n C 1 dX12_hand_0 rfl rfl ?_
  obtain ⟨r2, hc1, h⟩ := bnd h
  refine v_callSi C [.int a1] (cX12_isStar_ct l D cy ad a1 _ r2 hc1) ml_X12_82 ⟨Nat.le_of_ble_eq_true rfl, Nat.le_of_ble_eq_true rfl⟩ ⟨rfl, rfl⟩ rfl rfl (Nat.le_of_ble_eq_true rfl) dX12_hand_1 ?_
  refine v_z_eq C 37 dX12_hand_4 (by decide) h (fun h => ?_) (fun h => ?_)
  · refine v_iload_n C 2 dX12_hand_7 rfl rfl ?_
    refine v_i2l C dX12_hand_8 ?_
    refine v_lconst C (v := 1) dX12_hand_9 (by decide) ?_
    refine v_ldc2 C kc_X12_222 dX12_hand_10 ?_
    obtain ⟨r5, hc4, h⟩ := bnd h
    refine v_callSi C [.long a2.toInt64, .long 1, .long 100000] (cX12_in_ct l D cy ad a2.toInt64 1 100000 _ r5 hc4) ml_X12_78 ⟨Nat.le_of_ble_eq_true rfl, Nat.le_of_ble_eq_true rfl⟩ ⟨rfl, rfl⟩ rfl rfl (Nat.le_of_ble_eq_true rfl) dX12_hand_13 ?_
    refine v_z_eq C 37 dX12_hand_16 (by decide) h (fun h => ?_) (fun h => ?_)
    · refine v_aload_n C 0 dX12_hand_19 rfl rfl ?_
      refine v_getr C pM_0 fd_X12_7 rfl dX12_hand_20 ?_
      refine v_iconst C (v := 2) dX12_hand_23 (by decide) ?_
      refine v_ialdN C pM_1 (j := 2) (by decide) (by decide) dX12_hand_24 ?_
      refine v_if_eq C 37 dX12_hand_25 (by decide) h (fun h => ?_) (fun h => ?_)
      · refine v_iconst C (v := 0) dX12_hand_37 (by decide) ?_
        cases h
        exact v_zret (b := false) C hr hlk dX12_hand_38
      · refine v_aload_n C 0 dX12_hand_28 rfl rfl ?_
        refine v_getr C pM_0 fd_X12_7 rfl dX12_hand_29 ?_
        refine v_iconst C (v := 3) dX12_hand_32 (by decide) ?_
        refine v_ialdN C pM_1 (j := 3) (by decide) (by decide) dX12_hand_33 ?_
        refine v_if_ne C 39 dX12_hand_34 (by decide) h (fun h => ?_) (fun h => ?_)
        · refine v_iconst C (v := 0) dX12_hand_37 (by decide) ?_
          cases h
          exact v_zret (b := false) C hr hlk dX12_hand_38
        · refine v_iconst C (v := 1) dX12_hand_39 (by decide) ?_
          refine v_iload_n C 1 dX12_hand_40 rfl rfl ?_
          refine v_isub C dX12_hand_41 ?_
          refine v_istore_n C [(3, .int (1 - a1)), (0, .ref (ad 0)), (1, .int a1), (2, .int a2)] dX12_hand_42 rfl (by decide) rfl ?_
          refine v_aload_n C 1 dX12_hand_43 rfl rfl ?_
          refine v_getr C pM_0 fd_X12_7 rfl dX12_hand_44 ?_
          refine v_iconst C (v := 2) dX12_hand_47 (by decide) ?_
          refine v_iload_n C 2 dX12_hand_48 rfl rfl ?_
          refine v_iadd C dX12_hand_49 ?_
          refine v_iald C pM_1 dX12_hand_50 h (fun h => ?_)
          refine v_iconst C (v := 1) dX12_hand_51 (by decide) ?_
          refine v_isub C dX12_hand_52 ?_
          refine v_istore C [(4, .int ((u.1 1 (2 + a1).toNatClampNeg) - 1)), (3, .int (1 - a1)), (0, .ref (ad 0)), (1, .int a1), (2, .int a2)] dX12_hand_53 (by decide) rfl ?_
          refine v_aload_n C 2 dX12_hand_55 rfl rfl ?_
          refine v_getr C pM_0 fd_X12_7 rfl dX12_hand_56 ?_
          refine v_iconst C (v := 2) dX12_hand_59 (by decide) ?_
          refine v_iload_n C 1 dX12_hand_60 rfl rfl ?_
          refine v_iadd C dX12_hand_61 ?_
          refine v_iald C pM_1 dX12_hand_62 h (fun h => ?_)
          refine v_iconst C (v := 1) dX12_hand_63 (by decide) ?_
          refine v_isub C dX12_hand_64 ?_
          refine v_istore C [(5, .int ((u.1 1 (2 + (1 - a1)).toNatClampNeg) - 1)), (4, .int ((u.1 1 (2 + a1).toNatClampNeg) - 1)), (3, .int (1 - a1)), (0, .ref (ad 0)), (1, .int a1), (2, .int a2)] dX12_hand_65 (by decide) rfl ?_
          refine v_iload_n C 5 dX12_hand_67 rfl rfl ?_
          refine v_istore C [(6, .int a2), (5, .int ((u.1 1 (2 + (1 - a1)).toNatClampNeg) - 1)), (4, .int ((u.1 1 (2 + a1).toNatClampNeg) - 1)), (3, .int (1 - a1)), (0, .ref (ad 0)), (1, .int a1), (2, .int a2)] dX12_hand_68 (by decide) rfl ?_
          refine v_iconst C (v := 1) dX12_hand_70 (by decide) ?_
          refine v_istore C [(7, .int 1), (6, .int a2), (5, .int ((u.1 1 (2 + (1 - a1)).toNatClampNeg) - 1)), (4, .int ((u.1 1 (2 + a1).toNatClampNeg) - 1)), (3, .int (1 - a1)), (0, .ref (ad 0)), (1, .int a1), (2, .int a2)] dX12_hand_71 (by decide) rfl ?_
          refine v_iconst C (v := 0) dX12_hand_73 (by decide) ?_
          refine v_istore C [(8, .int 0), (7, .int 1), (6, .int a2), (5, .int ((u.1 1 (2 + (1 - a1)).toNatClampNeg) - 1)), (4, .int ((u.1 1 (2 + a1).toNatClampNeg) - 1)), (3, .int (1 - a1)), (0, .ref (ad 0)), (1, .int a1), (2, .int a2)] dX12_hand_74 (by decide) rfl ?_
          refine v_sub [6, 7, 8, 5, 4, 3, 2, 1, 0] rfl ?_
          refine kX12_hand_L76 C hr hlk a1 a2 (1 - a1) ((u.1 1 (2 + a1).toNatClampNeg) - 1) ((u.1 1 (2 + (1 - a1)).toNatClampNeg) - 1) u _ (fun v19 v20 h => ?_) fu0 a2 true 0 h
          · refine v_iload C 7 dX12_hand_156 rfl ?_
            refine v_z_eq C 166 dX12_hand_158 (by decide) h (fun h => ?_) (fun h => ?_)
            · refine v_iload C 6 dX12_hand_161 rfl ?_
              refine v_if_le C 168 dX12_hand_163 (by decide) h (fun h => ?_) (fun h => ?_)
              · refine v_iload_n C 2 dX12_hand_168 rfl rfl ?_
                refine v_istore C [(6, .int a2), (0, .ref (ad 0)), (1, .int a1), (2, .int a2), (3, .int (1 - a1)), (4, .int ((u.1 1 (2 + a1).toNatClampNeg) - 1)), (5, .int ((u.1 1 (2 + (1 - a1)).toNatClampNeg) - 1)), (7, .int (bz v20))] dX12_hand_169 (by decide) rfl ?_
                refine v_iconst C (v := 0) dX12_hand_171 (by decide) ?_
                refine v_istore C [(8, .int 0), (6, .int a2), (0, .ref (ad 0)), (1, .int a1), (2, .int a2), (3, .int (1 - a1)), (4, .int ((u.1 1 (2 + a1).toNatClampNeg) - 1)), (5, .int ((u.1 1 (2 + (1 - a1)).toNatClampNeg) - 1)), (7, .int (bz v20))] dX12_hand_172 (by decide) rfl ?_
                refine v_sub [2, 3, 5, 6, 7, 1, 0] rfl ?_
                refine kX12_hand_L174 C hr hlk a1 (1 - a1) ((u.1 1 (2 + a1).toNatClampNeg) - 1) ((u.1 1 (2 + (1 - a1)).toNatClampNeg) - 1)   fu0 a2 0 u h
              · refine v_iconst C (v := 0) dX12_hand_166 (by decide) ?_
                cases h
                exact v_zret (b := false) C hr hlk dX12_hand_167
            · refine v_iconst C (v := 0) dX12_hand_166 (by decide) ?_
              cases h
              exact v_zret (b := false) C hr hlk dX12_hand_167
    · refine v_iconst C (v := 0) dX12_hand_37 (by decide) ?_
      cases h
      exact v_zret (b := false) C hr hlk dX12_hand_38
  · refine v_iconst C (v := 0) dX12_hand_37 (by decide) ?_
    cases h
    exact v_zret (b := false) C hr hlk dX12_hand_38
def rX12_light : Room := { frames := 3, cells := 0, slots := 0, locals := 67 }
def fX12_light (a1 : Int32) (a2 : Int32) (a3 : Int32) (u : Mem) : Option Int64 := ((fX12_isShell a1 a2 u).bind fun r2 => (if r2 = true then ((fX12_in a3.toInt64 0 4).bind fun r5 => (if r5 = true then (if inB (((80 * a1) + (5 * a2)) + a3) 160 then (some (u.2 3 (((80 * a1) + (5 * a2)) + a3).toNatClampNeg)) else none) else (some (-1)))) else (some (-1))))
set_option maxHeartbeats 4000000 in
set_option maxRecDepth 100000 in
theorem cX12_light_ct (l : Launch) (D : va_G) (cy : Nat → ClassId) (ad : Nat → Nat) (a1 : Int32) (a2 : Int32) (a3 : Int32) (u : Mem)  (out : Int64) (h : fX12_light a1 a2 a3 u = some out) : Met l yX12_light (.code yX12_light cX12_light 4 (some .long) :: gw) rX12_light (va_Pc [.ref (ad 0), .int a1, .int a2, .int a3] (wv shM nM D cy ad u)) (qL shM nM D cy ad out u) 0 0 (rA ad nM) := by
  refine met_of (cc := cX12_light) (nL := 4) (by decide) (Nat.le_of_ble_eq_true rfl) (fun p e s m below meth c C hr hlk => ?_)
  unfold fX12_light at h
  show V shM nM D cy ad 4 p l e rX12_light s m _ below meth c (MQ below (qL shM nM D cy ad out u) _ s 0 0 (rA ad nM)) 0 [(0, .ref (ad 0)), (1, .int a1), (2, .int a2), (3, .int a3)] [] u
  refine v_aload_n C 0 dX12_light_0 rfl rfl ?_
  refine v_iload_n C 1 dX12_light_1 rfl rfl ?_
  refine v_iload_n C 2 dX12_light_2 rfl rfl ?_
  obtain ⟨r2, hc1, h⟩ := bnd h
  refine v_callVi C [.int a1, .int a2] (cX12_isShell_ct l D cy ad a1 a2 u r2 hc1) ml_X12_218 pM_0 ⟨Nat.le_of_ble_eq_true rfl, Nat.le_of_ble_eq_true rfl⟩ ⟨rfl, rfl⟩ rfl rfl (Nat.le_of_ble_eq_true rfl) dX12_light_3 ?_
  refine v_z_eq C 39 dX12_light_6 (by decide) h (fun h => ?_) (fun h => ?_)
  · refine v_iload_n C 3 dX12_light_9 rfl rfl ?_
    refine v_i2l C dX12_light_10 ?_
    refine v_lconst C (v := 0) dX12_light_11 (by decide) ?_
    refine v_ldc2 C kc_X12_169 dX12_light_12 ?_
    obtain ⟨r5, hc4, h⟩ := bnd h
    refine v_callSi C [.long a3.toInt64, .long 0, .long 4] (cX12_in_ct l D cy ad a3.toInt64 0 4 _ r5 hc4) ml_X12_78 ⟨Nat.le_of_ble_eq_true rfl, Nat.le_of_ble_eq_true rfl⟩ ⟨rfl, rfl⟩ rfl rfl (Nat.le_of_ble_eq_true rfl) dX12_light_15 ?_
    refine v_z_eq C 39 dX12_light_18 (by decide) h (fun h => ?_) (fun h => ?_)
    · refine v_aload_n C 0 dX12_light_21 rfl rfl ?_
      refine v_getr C pM_0 fd_X12_16 rfl dX12_light_22 ?_
      refine v_bipush C (v := 80) dX12_light_25 (by decide) ?_
      refine v_iload_n C 1 dX12_light_27 rfl rfl ?_
      refine v_imul C dX12_light_28 ?_
      refine v_iconst C (v := 5) dX12_light_29 (by decide) ?_
      refine v_iload_n C 2 dX12_light_30 rfl rfl ?_
      refine v_imul C dX12_light_31 ?_
      refine v_iadd C dX12_light_32 ?_
      refine v_iload_n C 3 dX12_light_33 rfl rfl ?_
      refine v_iadd C dX12_light_34 ?_
      refine v_lald C pM_3 dX12_light_35 h (fun h => ?_)
      refine v_goto C 42 dX12_light_36 (by decide) ?_
      cases h
      exact v_lret C hr hlk dX12_light_42
    · refine v_ldc2 C kc_X12_265 dX12_light_39 ?_
      cases h
      exact v_lret C hr hlk dX12_light_42
  · refine v_ldc2 C kc_X12_265 dX12_light_39 ?_
    cases h
    exact v_lret C hr hlk dX12_light_42
def rX12_sheet : Room := { frames := 2, cells := 0, slots := 0, locals := 45 }
def fX12_sheet_L16 (a1 : Int32) : Nat → Int32 → Mem → Option (Bool × Mem)
  | 0, _, _ => none
  | t + 1, a2, u => (if 80 ≤ a2 then (some (true, u)) else (if inB ((80 * a1) + a2) 160 then (if inB a2 80 then ((some (sl u 5 a2.toNatClampNeg (u.2 3 ((80 * a1) + a2).toNatClampNeg))).bind fun u5 => fX12_sheet_L16 a1 t (a2 + 1) u5) else none) else none))
def fX12_sheet (a1 : Int32) (u : Mem) : Option (Bool × Mem) := ((fX12_isStar a1).bind fun r2 => (if r2 = true then fX12_sheet_L16 a1 fu0 0 (si u 0 5 a1) else (some (false, u))))
set_option maxHeartbeats 4000000 in
set_option maxRecDepth 100000 in
theorem kX12_sheet_L16 {l : Launch} {D : va_G} {cy : Nat → ClassId} {ad : Nat → Nat} {p : Program} {e : Env} {s : State} {m : MethodId} {args : Array Value} {below : List Frame} {meth : Method} {c : Code} (C : Cx nM D cy ad 3 cX12_sheet RX12 rX12_sheet p s m args c) (hr : meth.sig.returnType = some .boolean) (hlk : meth.locks = false) (a1 : Int32)  {out : (Bool × Mem)}  : ∀ (t : Nat) (a2 : Int32) (u : Mem), fX12_sheet_L16 a1 t a2 u = some out → V shM nM D cy ad 3 p l e rX12_sheet s m args below meth c (MQ below (qI shM nM D cy ad (bz out.1) out.2) args s 0 0 (rA ad nM)) 16 [(0, .ref (ad 0)), (1, .int a1), (2, .int a2)] [] u := by
  intro t
  induction t with
  | zero => intro a2 u h; rw [fX12_sheet_L16] at h; cases h
  | succ t ih =>
    intro a2 u h
    rw [fX12_sheet_L16] at h
    refine v_iload_n C 2 dX12_sheet_16 rfl rfl ?_
    refine v_bipush C (v := 80) dX12_sheet_17 (by decide) ?_
    refine v_icmp_ge C 45 dX12_sheet_19 (by decide) h (fun h => ?_) (fun h => ?_)
    · refine v_iconst C (v := 1) dX12_sheet_45 (by decide) ?_
      cases h
      exact v_zret (b := true) C hr hlk dX12_sheet_46
    · refine v_aload_n C 0 dX12_sheet_22 rfl rfl ?_
      refine v_getr C pM_0 fd_X12_23 rfl dX12_sheet_23 ?_
      refine v_iload_n C 2 dX12_sheet_26 rfl rfl ?_
      refine v_aload_n C 0 dX12_sheet_27 rfl rfl ?_
      refine v_getr C pM_0 fd_X12_16 rfl dX12_sheet_28 ?_
      refine v_bipush C (v := 80) dX12_sheet_31 (by decide) ?_
      refine v_iload_n C 1 dX12_sheet_33 rfl rfl ?_
      refine v_imul C dX12_sheet_34 ?_
      refine v_iload_n C 2 dX12_sheet_35 rfl rfl ?_
      refine v_iadd C dX12_sheet_36 ?_
      refine v_lald C pM_3 dX12_sheet_37 h (fun h => ?_)
      refine v_last C pM_5 dX12_sheet_38 h (fun h => ?_)
      refine v_mem (fun u5 hu5 => ?_)
      have h := nmd hu5 h
      refine v_iinc C 2 (v := a2 + 1) [(2, .int (a2 + 1)), (0, .ref (ad 0)), (1, .int a1)] dX12_sheet_39 rfl rfl (by decide) rfl ?_
      refine v_goto C 16 dX12_sheet_42 (by decide) ?_
      refine v_sub [1, 2, 0] rfl ?_
      exact ih (a2 + 1) u5 h
set_option maxHeartbeats 4000000 in
set_option maxRecDepth 100000 in
theorem cX12_sheet_ct (l : Launch) (D : va_G) (cy : Nat → ClassId) (ad : Nat → Nat) (a1 : Int32) (u : Mem)  (out : (Bool × Mem)) (h : fX12_sheet a1 u = some out) : Met l yX12_sheet (.code yX12_sheet cX12_sheet 3 (some .boolean) :: gw) rX12_sheet (va_Pc [.ref (ad 0), .int a1] (wv shM nM D cy ad u)) (qI shM nM D cy ad (bz out.1) out.2) 0 0 (rA ad nM) := by
  refine met_of (cc := cX12_sheet) (nL := 3) (by decide) (Nat.le_of_ble_eq_true rfl) (fun p e s m below meth c C hr hlk => ?_)
  unfold fX12_sheet at h
  show V shM nM D cy ad 3 p l e rX12_sheet s m _ below meth c (MQ below (qI shM nM D cy ad (bz out.1) out.2) _ s 0 0 (rA ad nM)) 0 [(0, .ref (ad 0)), (1, .int a1)] [] u
  refine v_iload_n C 1 dX12_sheet_0 rfl rfl ?_
  obtain ⟨r2, hc1, h⟩ := bnd h
  refine v_callSi C [.int a1] (cX12_isStar_ct l D cy ad a1 _ r2 hc1) ml_X12_82 ⟨Nat.le_of_ble_eq_true rfl, Nat.le_of_ble_eq_true rfl⟩ ⟨rfl, rfl⟩ rfl rfl (Nat.le_of_ble_eq_true rfl) dX12_sheet_1 ?_
  refine v_z_ne C 9 dX12_sheet_4 (by decide) h (fun h => ?_) (fun h => ?_)
  · refine v_aload_n C 0 dX12_sheet_9 rfl rfl ?_
    refine v_iload_n C 1 dX12_sheet_10 rfl rfl ?_
    refine v_puti C pM_0 fp_X12_26 rfl rfl rfl dX12_sheet_11 ?_
    refine v_iconst C (v := 0) dX12_sheet_14 (by decide) ?_
    refine v_istore_n C [(2, .int 0), (0, .ref (ad 0)), (1, .int a1)] dX12_sheet_15 rfl (by decide) rfl ?_
    refine v_sub [1, 2, 0] rfl ?_
    refine kX12_sheet_L16 C hr hlk a1   fu0 0 (si u 0 5 a1) h
  · refine v_iconst C (v := 0) dX12_sheet_7 (by decide) ?_
    cases h
    exact v_zret (b := false) C hr hlk dX12_sheet_8
def rX12_alter : Room := { frames := 1, cells := 0, slots := 0, locals := 25 }
def fX12_alter (a1 : Int32) (a2 : Int32) (a3 : Int64) (u : Mem) : Option (Bool × Mem) := (if (u.1 0 5) < 0 then (some (false, u)) else ((fX12_in a1.toInt64 0 15).bind fun r3 => (if r3 = true then ((fX12_in a2.toInt64 0 4).bind fun r6 => (if r6 = true then (if a3 = 0 then (some (false, u)) else (if inB ((5 * a1) + a2) 80 then (if inB ((5 * a1) + a2) 80 then ((some (sl u 5 ((5 * a1) + a2).toNatClampNeg ((u.2 5 ((5 * a1) + a2).toNatClampNeg) ^^^ a3))).bind fun u10 => (some (true, u10))) else none) else none)) else (some (false, u)))) else (some (false, u)))))
set_option maxHeartbeats 4000000 in
set_option maxRecDepth 100000 in
theorem cX12_alter_ct (l : Launch) (D : va_G) (cy : Nat → ClassId) (ad : Nat → Nat) (a1 : Int32) (a2 : Int32) (a3 : Int64) (u : Mem)  (out : (Bool × Mem)) (h : fX12_alter a1 a2 a3 u = some out) : Met l yX12_alter (.code yX12_alter cX12_alter 5 (some .boolean) :: gw) rX12_alter (va_Pc [.ref (ad 0), .int a1, .int a2, .long a3] (wv shM nM D cy ad u)) (qI shM nM D cy ad (bz out.1) out.2) 0 0 (rA ad nM) := by
  refine met_of (cc := cX12_alter) (nL := 5) (by decide) (Nat.le_of_ble_eq_true rfl) (fun p e s m below meth c C hr hlk => ?_)
  unfold fX12_alter at h
  show V shM nM D cy ad 5 p l e rX12_alter s m _ below meth c (MQ below (qI shM nM D cy ad (bz out.1) out.2) _ s 0 0 (rA ad nM)) 0 [(0, .ref (ad 0)), (1, .int a1), (2, .int a2), (3, .long a3)] [] u
  refine v_aload_n C 0 dX12_alter_0 rfl rfl ?_
  refine v_geti C pM_0 fd_X12_26 rfl dX12_alter_1 ?_
  refine v_if_lt C 37 dX12_alter_4 (by decide) h (fun h => ?_) (fun h => ?_)
  · refine v_iconst C (v := 0) dX12_alter_37 (by decide) ?_
    cases h
    exact v_zret (b := false) C hr hlk dX12_alter_38
  · refine v_iload_n C 1 dX12_alter_7 rfl rfl ?_
    refine v_i2l C dX12_alter_8 ?_
    refine v_lconst C (v := 0) dX12_alter_9 (by decide) ?_
    refine v_ldc2 C kc_X12_286 dX12_alter_10 ?_
    obtain ⟨r3, hc2, h⟩ := bnd h
    refine v_callSi C [.long a1.toInt64, .long 0, .long 15] (cX12_in_ct l D cy ad a1.toInt64 0 15 _ r3 hc2) ml_X12_78 ⟨Nat.le_of_ble_eq_true rfl, Nat.le_of_ble_eq_true rfl⟩ ⟨rfl, rfl⟩ rfl rfl (Nat.le_of_ble_eq_true rfl) dX12_alter_13 ?_
    refine v_z_eq C 37 dX12_alter_16 (by decide) h (fun h => ?_) (fun h => ?_)
    · refine v_iload_n C 2 dX12_alter_19 rfl rfl ?_
      refine v_i2l C dX12_alter_20 ?_
      refine v_lconst C (v := 0) dX12_alter_21 (by decide) ?_
      refine v_ldc2 C kc_X12_169 dX12_alter_22 ?_
      obtain ⟨r6, hc5, h⟩ := bnd h
      refine v_callSi C [.long a2.toInt64, .long 0, .long 4] (cX12_in_ct l D cy ad a2.toInt64 0 4 _ r6 hc5) ml_X12_78 ⟨Nat.le_of_ble_eq_true rfl, Nat.le_of_ble_eq_true rfl⟩ ⟨rfl, rfl⟩ rfl rfl (Nat.le_of_ble_eq_true rfl) dX12_alter_25 ?_
      refine v_z_eq C 37 dX12_alter_28 (by decide) h (fun h => ?_) (fun h => ?_)
      · refine v_lload_n C 3 dX12_alter_31 rfl rfl ?_
        refine v_lconst C (v := 0) dX12_alter_32 (by decide) ?_
        refine v_lcmp_ne C 39 dX12_alter_33 dX12_alter_34 (by decide) h (fun h => ?_) (fun h => ?_)
        · refine v_iconst C (v := 0) dX12_alter_37 (by decide) ?_
          cases h
          exact v_zret (b := false) C hr hlk dX12_alter_38
        · refine v_aload_n C 0 dX12_alter_39 rfl rfl ?_
          refine v_getr C pM_0 fd_X12_23 rfl dX12_alter_40 ?_
          refine v_iconst C (v := 5) dX12_alter_43 (by decide) ?_
          refine v_iload_n C 1 dX12_alter_44 rfl rfl ?_
          refine v_imul C dX12_alter_45 ?_
          refine v_iload_n C 2 dX12_alter_46 rfl rfl ?_
          refine v_iadd C dX12_alter_47 ?_
          refine v_dup2 C rfl rfl dX12_alter_48 ?_
          refine v_lald C pM_5 dX12_alter_49 h (fun h => ?_)
          refine v_lload_n C 3 dX12_alter_50 rfl rfl ?_
          refine v_lxor C dX12_alter_51 ?_
          refine v_last C pM_5 dX12_alter_52 h (fun h => ?_)
          refine v_mem (fun u10 hu10 => ?_)
          have h := nmd hu10 h
          refine v_iconst C (v := 1) dX12_alter_53 (by decide) ?_
          cases h
          exact v_zret (b := true) C hr hlk dX12_alter_54
      · refine v_iconst C (v := 0) dX12_alter_37 (by decide) ?_
        cases h
        exact v_zret (b := false) C hr hlk dX12_alter_38
    · refine v_iconst C (v := 0) dX12_alter_37 (by decide) ?_
      cases h
      exact v_zret (b := false) C hr hlk dX12_alter_38
def rX12_check : Room := { frames := 1, cells := 0, slots := 0, locals := 25 }
def fX12_check_L28 (a1 : Int32) (u : Mem) (K73 : Int32 → Int32 → Option Int32) : Nat → Int32 → Int32 → Int32 → Option Int32
  | 0, _, _, _ => none
  | t + 1, a2, a3, a4 => (if 80 ≤ a4 then K73 a2 a3 else (if inB a4 80 then (if inB ((80 * (u.1 0 5)) + a4) 160 then (if (u.2 5 a4.toNatClampNeg) = (u.2 3 ((80 * (u.1 0 5)) + a4).toNatClampNeg) then fX12_check_L28 a1 u K73 t a2 a3 (a4 + 1) else fX12_check_L28 a1 u K73 t (a2 + 1) a4 (a4 + 1)) else none) else none))
def fX12_check (a1 : Int32) (u : Mem) : Option Int32 := (if (u.1 0 5) < 0 then (some (-1)) else ((fX12_in a1.toInt64 0 2).bind fun r3 => (if r3 = true then fX12_check_L28 a1 u (fun v7 v8 => (if a1 = 0 then (some v7) else (if v7 = 1 then (if a1 = 1 then (some (v8 / 5)) else (some (v8 - v8 / 5 * 5))) else (some (-1))))) fu0 0 0 0 else (some (-1)))))
set_option maxHeartbeats 4000000 in
set_option maxRecDepth 100000 in
theorem kX12_check_L28 {l : Launch} {D : va_G} {cy : Nat → ClassId} {ad : Nat → Nat} {p : Program} {e : Env} {s : State} {m : MethodId} {args : Array Value} {below : List Frame} {meth : Method} {c : Code} (C : Cx nM D cy ad 5 cX12_check RX12 rX12_check p s m args c) (hr : meth.sig.returnType = some .int) (hlk : meth.locks = false) (a1 : Int32)  (u : Mem) {out : Int32} (K73 : Int32 → Int32 → Option Int32) (hK73 : ∀ (a2 : Int32) (a3 : Int32), K73 a2 a3 = some out → V shM nM D cy ad 5 p l e rX12_check s m args below meth c (MQ below (qI shM nM D cy ad out u) args s 0 0 (rA ad nM)) 73 [(1, .int a1), (2, .int a2), (3, .int a3)] [] u) : ∀ (t : Nat) (a2 : Int32) (a3 : Int32) (a4 : Int32), fX12_check_L28 a1 u K73 t a2 a3 a4 = some out → V shM nM D cy ad 5 p l e rX12_check s m args below meth c (MQ below (qI shM nM D cy ad out u) args s 0 0 (rA ad nM)) 28 [(0, .ref (ad 0)), (1, .int a1), (2, .int a2), (3, .int a3), (4, .int a4)] [] u := by
  intro t
  induction t with
  | zero => intro a2 a3 a4 h; rw [fX12_check_L28] at h; cases h
  | succ t ih =>
    intro a2 a3 a4 h
    rw [fX12_check_L28] at h
    refine v_iload C 4 dX12_check_28 rfl ?_
    refine v_bipush C (v := 80) dX12_check_30 (by decide) ?_
    refine v_icmp_ge C 73 dX12_check_32 (by decide) h (fun h => ?_) (fun h => ?_)
    · refine v_sub [1, 2, 3] rfl ?_
      exact hK73 a2 a3 h
    · refine v_aload_n C 0 dX12_check_35 rfl rfl ?_
      refine v_getr C pM_0 fd_X12_23 rfl dX12_check_36 ?_
      refine v_iload C 4 dX12_check_39 rfl ?_
      refine v_lald C pM_5 dX12_check_41 h (fun h => ?_)
      refine v_aload_n C 0 dX12_check_42 rfl rfl ?_
      refine v_getr C pM_0 fd_X12_16 rfl dX12_check_43 ?_
      refine v_bipush C (v := 80) dX12_check_46 (by decide) ?_
      refine v_aload_n C 0 dX12_check_48 rfl rfl ?_
      refine v_geti C pM_0 fd_X12_26 rfl dX12_check_49 ?_
      refine v_imul C dX12_check_52 ?_
      refine v_iload C 4 dX12_check_53 rfl ?_
      refine v_iadd C dX12_check_55 ?_
      refine v_lald C pM_3 dX12_check_56 h (fun h => ?_)
      refine v_lcmp_eq C 67 dX12_check_57 dX12_check_58 (by decide) h (fun h => ?_) (fun h => ?_)
      · refine v_iinc C 4 (v := a4 + 1) [(4, .int (a4 + 1)), (0, .ref (ad 0)), (1, .int a1), (2, .int a2), (3, .int a3)] dX12_check_67 rfl rfl (by decide) rfl ?_
        refine v_goto C 28 dX12_check_70 (by decide) ?_
        refine v_sub [1, 2, 3, 4, 0] rfl ?_
        exact ih a2 a3 (a4 + 1) h
      · refine v_iinc C 2 (v := a2 + 1) [(2, .int (a2 + 1)), (0, .ref (ad 0)), (1, .int a1), (3, .int a3), (4, .int a4)] dX12_check_61 rfl rfl (by decide) rfl ?_
        refine v_iload C 4 dX12_check_64 rfl ?_
        refine v_istore_n C [(3, .int a4), (2, .int (a2 + 1)), (0, .ref (ad 0)), (1, .int a1), (4, .int a4)] dX12_check_66 rfl (by decide) rfl ?_
        refine v_iinc C 4 (v := a4 + 1) [(4, .int (a4 + 1)), (3, .int a4), (2, .int (a2 + 1)), (0, .ref (ad 0)), (1, .int a1)] dX12_check_67 rfl rfl (by decide) rfl ?_
        refine v_goto C 28 dX12_check_70 (by decide) ?_
        refine v_sub [3, 4, 2, 1, 0] rfl ?_
        exact ih (a2 + 1) a4 (a4 + 1) h
set_option maxHeartbeats 4000000 in
set_option maxRecDepth 100000 in
theorem cX12_check_ct (l : Launch) (D : va_G) (cy : Nat → ClassId) (ad : Nat → Nat) (a1 : Int32) (u : Mem)  (out : Int32) (h : fX12_check a1 u = some out) : Met l yX12_check (.code yX12_check cX12_check 5 (some .int) :: gw) rX12_check (va_Pc [.ref (ad 0), .int a1] (wv shM nM D cy ad u)) (qI shM nM D cy ad out u) 0 0 (rA ad nM) := by
  refine met_of (cc := cX12_check) (nL := 5) (by decide) (Nat.le_of_ble_eq_true rfl) (fun p e s m below meth c C hr hlk => ?_)
  unfold fX12_check at h
  show V shM nM D cy ad 5 p l e rX12_check s m _ below meth c (MQ below (qI shM nM D cy ad out u) _ s 0 0 (rA ad nM)) 0 [(0, .ref (ad 0)), (1, .int a1)] [] u
  refine v_aload_n C 0 dX12_check_0 rfl rfl ?_
  refine v_geti C pM_0 fd_X12_26 rfl dX12_check_1 ?_
  refine v_if_lt C 19 dX12_check_4 (by decide) h (fun h => ?_) (fun h => ?_)
  · refine v_iconst C (v := (-1)) dX12_check_19 (by decide) ?_
    cases h
    exact v_iret C hr hlk dX12_check_20
  · refine v_iload_n C 1 dX12_check_7 rfl rfl ?_
    refine v_i2l C dX12_check_8 ?_
    refine v_lconst C (v := 0) dX12_check_9 (by decide) ?_
    refine v_ldc2 C kc_X12_288 dX12_check_10 ?_
    obtain ⟨r3, hc2, h⟩ := bnd h
    refine v_callSi C [.long a1.toInt64, .long 0, .long 2] (cX12_in_ct l D cy ad a1.toInt64 0 2 _ r3 hc2) ml_X12_78 ⟨Nat.le_of_ble_eq_true rfl, Nat.le_of_ble_eq_true rfl⟩ ⟨rfl, rfl⟩ rfl rfl (Nat.le_of_ble_eq_true rfl) dX12_check_13 ?_
    refine v_z_ne C 21 dX12_check_16 (by decide) h (fun h => ?_) (fun h => ?_)
    · refine v_iconst C (v := 0) dX12_check_21 (by decide) ?_
      refine v_istore_n C [(2, .int 0), (0, .ref (ad 0)), (1, .int a1)] dX12_check_22 rfl (by decide) rfl ?_
      refine v_iconst C (v := 0) dX12_check_23 (by decide) ?_
      refine v_istore_n C [(3, .int 0), (2, .int 0), (0, .ref (ad 0)), (1, .int a1)] dX12_check_24 rfl (by decide) rfl ?_
      refine v_iconst C (v := 0) dX12_check_25 (by decide) ?_
      refine v_istore C [(4, .int 0), (3, .int 0), (2, .int 0), (0, .ref (ad 0)), (1, .int a1)] dX12_check_26 (by decide) rfl ?_
      refine v_sub [3, 4, 2, 1, 0] rfl ?_
      refine kX12_check_L28 C hr hlk a1 u _ (fun v7 v8 h => ?_) fu0 0 0 0 h
      · refine v_iload_n C 0 dX12_check_73 rfl rfl ?_
        refine v_if_ne C 81 dX12_check_74 (by decide) h (fun h => ?_) (fun h => ?_)
        · refine v_iload_n C 1 dX12_check_77 rfl rfl ?_
          refine v_goto C 104 dX12_check_78 (by decide) ?_
          cases h
          exact v_iret C hr hlk dX12_check_104
        · refine v_iload_n C 1 dX12_check_81 rfl rfl ?_
          refine v_iconst C (v := 1) dX12_check_82 (by decide) ?_
          refine v_icmp_eq C 90 dX12_check_83 (by decide) h (fun h => ?_) (fun h => ?_)
          · refine v_iload_n C 0 dX12_check_90 rfl rfl ?_
            refine v_iconst C (v := 1) dX12_check_91 (by decide) ?_
            refine v_icmp_ne C 101 dX12_check_92 (by decide) h (fun h => ?_) (fun h => ?_)
            · refine v_iload_n C 2 dX12_check_95 rfl rfl ?_
              refine v_iconst C (v := 5) dX12_check_96 (by decide) ?_
              refine v_idivN C dX12_check_97 (by decide) ?_
              refine v_goto C 104 dX12_check_98 (by decide) ?_
              cases h
              exact v_iret C hr hlk dX12_check_104
            · refine v_iload_n C 2 dX12_check_101 rfl rfl ?_
              refine v_iconst C (v := 5) dX12_check_102 (by decide) ?_
              refine v_iremN C dX12_check_103 (by decide) ?_
              cases h
              exact v_iret C hr hlk dX12_check_104
          · refine v_iconst C (v := (-1)) dX12_check_86 (by decide) ?_
            refine v_goto C 104 dX12_check_87 (by decide) ?_
            cases h
            exact v_iret C hr hlk dX12_check_104
    · refine v_iconst C (v := (-1)) dX12_check_19 (by decide) ?_
      cases h
      exact v_iret C hr hlk dX12_check_20
