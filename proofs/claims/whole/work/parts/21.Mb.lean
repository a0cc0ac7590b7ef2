def rX12_copies : Room := { frames := 0, cells := 0, slots := 0, locals := 0 }
def fX12_copies_L2 (a1 : Bool) (K46 : Mem → Option Mem) : Nat → Int32 → Mem → Option Mem
  | 0, _, _ => none
  | t + 1, a2, u => (if 8320 ≤ a2 then K46 u else (if a1 = true then (if inB a2 8320 then (if inB a2 8320 then ((some (si u 2 a2.toNatClampNeg (u.1 1 a2.toNatClampNeg))).bind fun u3 => fX12_copies_L2 a1 K46 t (a2 + 1) u3) else none) else none) else (if inB a2 8320 then (if inB a2 8320 then ((some (si u 1 a2.toNatClampNeg (u.1 2 a2.toNatClampNeg))).bind fun u4 => fX12_copies_L2 a1 K46 t (a2 + 1) u4) else none) else none)))
def fX12_copies_L48 (a1 : Bool) : Nat → Int32 → Mem → Option Mem
  | 0, _, _ => none
  | t + 1, a2, u => (if 160 ≤ a2 then (some u) else (if a1 = true then (if inB a2 160 then (if inB a2 160 then ((some (sl u 4 a2.toNatClampNeg (u.2 3 a2.toNatClampNeg))).bind fun u8 => fX12_copies_L48 a1 t (a2 + 1) u8) else none) else none) else (if inB a2 160 then (if inB a2 160 then ((some (sl u 3 a2.toNatClampNeg (u.2 4 a2.toNatClampNeg))).bind fun u9 => fX12_copies_L48 a1 t (a2 + 1) u9) else none) else none)))
def fX12_copies (a1 : Bool) (u : Mem) : Option Mem := fX12_copies_L2 a1 (fun u5 => fX12_copies_L48 a1 fu0 0 u5) fu0 0 u
set_option maxHeartbeats 4000000 in
set_option maxRecDepth 100000 in
theorem kX12_copies_L2 {l : Launch} {D : va_G} {cy : Nat → ClassId} {ad : Nat → Nat} {p : Program} {e : Env} {s : State} {m : MethodId} {args : Array Value} {below : List Frame} {meth : Method} {c : Code} (C : Cx nM D cy ad 3 cX12_copies RX12 rX12_copies p s m args c) (hr : meth.sig.returnType = none) (hlk : meth.locks = false) (a1 : Bool)  {out : Mem} (K46 : Mem → Option Mem) (hK46 : ∀ (w : Mem), K46 w = some out → V shM nM D cy ad 3 p l e rX12_copies s m args below meth c (MQ below (qV shM nM D cy ad out) args s 0 0 (rA ad nM)) 46 [(0, .ref (ad 0)), (1, .int (bz a1))] [] w) : ∀ (t : Nat) (a2 : Int32) (u : Mem), fX12_copies_L2 a1 K46 t a2 u = some out → V shM nM D cy ad 3 p l e rX12_copies s m args below meth c (MQ below (qV shM nM D cy ad out) args s 0 0 (rA ad nM)) 2 [(0, .ref (ad 0)), (1, .int (bz a1)), (2, .int a2)] [] u := by
  intro t
  induction t with
  | zero => intro a2 u h; rw [fX12_copies_L2] at h; cases h
  | succ t ih =>
    intro a2 u h
    rw [fX12_copies_L2] at h
    refine v_iload_n C 2 dX12_copies_2 rfl rfl ?_
    refine v_sipush C (v := 8320) dX12_copies_3 (by decide) ?_
    refine v_icmp_ge C 46 dX12_copies_6 (by decide) h (fun h => ?_) (fun h => ?_)
    · refine v_sub [0, 1] rfl ?_
      exact hK46 u h
    · refine v_iload_n C 1 dX12_copies_9 rfl rfl ?_
      refine v_z_eq C 28 dX12_copies_10 (by decide) h (fun h => ?_) (fun h => ?_)
      · refine v_aload_n C 0 dX12_copies_13 rfl rfl ?_
        refine v_getr C pM_0 fd_X12_13 rfl dX12_copies_14 ?_
        refine v_iload_n C 2 dX12_copies_17 rfl rfl ?_
        refine v_aload_n C 0 dX12_copies_18 rfl rfl ?_
        refine v_getr C pM_0 fd_X12_7 rfl dX12_copies_19 ?_
        refine v_iload_n C 2 dX12_copies_22 rfl rfl ?_
        refine v_iald C pM_1 dX12_copies_23 h (fun h => ?_)
        refine v_iast C pM_2 dX12_copies_24 h (fun h => ?_)
        refine v_mem (fun u3 hu3 => ?_)
        have h := nmd hu3 h
        refine v_goto C 40 dX12_copies_25 (by decide) ?_
        refine v_iinc C 2 (v := a2 + 1) [(2, .int (a2 + 1)), (0, .ref (ad 0)), (1, .int (bz a1))] dX12_copies_40 rfl rfl (by decide) rfl ?_
        refine v_goto C 2 dX12_copies_43 (by decide) ?_
        refine v_sub [1, 2, 0] rfl ?_
        exact ih (a2 + 1) u3 h
      · refine v_aload_n C 0 dX12_copies_28 rfl rfl ?_
        refine v_getr C pM_0 fd_X12_7 rfl dX12_copies_29 ?_
        refine v_iload_n C 2 dX12_copies_32 rfl rfl ?_
        refine v_aload_n C 0 dX12_copies_33 rfl rfl ?_
        refine v_getr C pM_0 fd_X12_13 rfl dX12_copies_34 ?_
        refine v_iload_n C 2 dX12_copies_37 rfl rfl ?_
        refine v_iald C pM_2 dX12_copies_38 h (fun h => ?_)
        refine v_iast C pM_1 dX12_copies_39 h (fun h => ?_)
        refine v_mem (fun u4 hu4 => ?_)
        have h := nmd hu4 h
        refine v_iinc C 2 (v := a2 + 1) [(2, .int (a2 + 1)), (0, .ref (ad 0)), (1, .int (bz a1))] dX12_copies_40 rfl rfl (by decide) rfl ?_
        refine v_goto C 2 dX12_copies_43 (by decide) ?_
        refine v_sub [1, 2, 0] rfl ?_
        exact ih (a2 + 1) u4 h
set_option maxHeartbeats 4000000 in
set_option maxRecDepth 100000 in
theorem kX12_copies_L48 {l : Launch} {D : va_G} {cy : Nat → ClassId} {ad : Nat → Nat} {p : Program} {e : Env} {s : State} {m : MethodId} {args : Array Value} {below : List Frame} {meth : Method} {c : Code} (C : Cx nM D cy ad 3 cX12_copies RX12 rX12_copies p s m args c) (hr : meth.sig.returnType = none) (hlk : meth.locks = false) (a1 : Bool)  {out : Mem}  : ∀ (t : Nat) (a2 : Int32) (u : Mem), fX12_copies_L48 a1 t a2 u = some out → V shM nM D cy ad 3 p l e rX12_copies s m args below meth c (MQ below (qV shM nM D cy ad out) args s 0 0 (rA ad nM)) 48 [(0, .ref (ad 0)), (1, .int (bz a1)), (2, .int a2)] [] u := by
  intro t
  induction t with
  | zero => intro a2 u h; rw [fX12_copies_L48] at h; cases h
  | succ t ih =>
    intro a2 u h
    rw [fX12_copies_L48] at h
    refine v_iload_n C 2 dX12_copies_48 rfl rfl ?_
    refine v_sipush C (v := 160) dX12_copies_49 (by decide) ?_
    refine v_icmp_ge C 92 dX12_copies_52 (by decide) h (fun h => ?_) (fun h => ?_)
    · cases h
      exact v_vret C hr hlk dX12_copies_92
    · refine v_iload_n C 1 dX12_copies_55 rfl rfl ?_
      refine v_z_eq C 74 dX12_copies_56 (by decide) h (fun h => ?_) (fun h => ?_)
      · refine v_aload_n C 0 dX12_copies_59 rfl rfl ?_
        refine v_getr C pM_0 fd_X12_20 rfl dX12_copies_60 ?_
        refine v_iload_n C 2 dX12_copies_63 rfl rfl ?_
        refine v_aload_n C 0 dX12_copies_64 rfl rfl ?_
        refine v_getr C pM_0 fd_X12_16 rfl dX12_copies_65 ?_
        refine v_iload_n C 2 dX12_copies_68 rfl rfl ?_
        refine v_lald C pM_3 dX12_copies_69 h (fun h => ?_)
        refine v_last C pM_4 dX12_copies_70 h (fun h => ?_)
        refine v_mem (fun u8 hu8 => ?_)
        have h := nmd hu8 h
        refine v_goto C 86 dX12_copies_71 (by decide) ?_
        refine v_iinc C 2 (v := a2 + 1) [(2, .int (a2 + 1)), (0, .ref (ad 0)), (1, .int (bz a1))] dX12_copies_86 rfl rfl (by decide) rfl ?_
        refine v_goto C 48 dX12_copies_89 (by decide) ?_
        refine v_sub [1, 2, 0] rfl ?_
        exact ih (a2 + 1) u8 h
      · refine v_aload_n C 0 dX12_copies_74 rfl rfl ?_
        refine v_getr C pM_0 fd_X12_16 rfl dX12_copies_75 ?_
        refine v_iload_n C 2 dX12_copies_78 rfl rfl ?_
        refine v_aload_n C 0 dX12_copies_79 rfl rfl ?_
        refine v_getr C pM_0 fd_X12_20 rfl dX12_copies_80 ?_
        refine v_iload_n C 2 dX12_copies_83 rfl rfl ?_
        refine v_lald C pM_4 dX12_copies_84 h (fun h => ?_)
        refine v_last C pM_3 dX12_copies_85 h (fun h => ?_)
        refine v_mem (fun u9 hu9 => ?_)
        have h := nmd hu9 h
        refine v_iinc C 2 (v := a2 + 1) [(2, .int (a2 + 1)), (0, .ref (ad 0)), (1, .int (bz a1))] dX12_copies_86 rfl rfl (by decide) rfl ?_
        refine v_goto C 48 dX12_copies_89 (by decide) ?_
        refine v_sub [1, 2, 0] rfl ?_
        exact ih (a2 + 1) u9 h
set_option maxHeartbeats 4000000 in
set_option maxRecDepth 100000 in
theorem cX12_copies_ct (l : Launch) (D : va_G) (cy : Nat → ClassId) (ad : Nat → Nat) (a1 : Bool) (u : Mem)  (out : Mem) (h : fX12_copies a1 u = some out) : Met l yX12_copies (.code yX12_copies cX12_copies 3 (none) :: gw) rX12_copies (va_Pc [.ref (ad 0), .int (bz a1)] (wv shM nM D cy ad u)) (qV shM nM D cy ad out) 0 0 (rA ad nM) := by
  refine met_of (cc := cX12_copies) (nL := 3) (by decide) (Nat.le_of_ble_eq_true rfl) (fun p e s m below meth c C hr hlk => ?_)
  unfold fX12_copies at h
  show V shM nM D cy ad 3 p l e rX12_copies s m _ below meth c (MQ below (qV shM nM D cy ad out) _ s 0 0 (rA ad nM)) 0 [(0, .ref (ad 0)), (1, .int (bz a1))] [] u
  refine v_iconst C (v := 0) dX12_copies_0 (by decide) ?_
  refine v_istore_n C [(2, .int 0), (0, .ref (ad 0)), (1, .int (bz a1))] dX12_copies_1 rfl (by decide) rfl ?_
  refine v_sub [1, 2, 0] rfl ?_
  refine kX12_copies_L2 C hr hlk a1 _ (fun u5 h => ?_) fu0 0 u h
  · refine v_iconst C (v := 0) dX12_copies_46 (by decide) ?_
    refine v_istore_n C [(2, .int 0), (0, .ref (ad 0)), (1, .int (bz a1))] dX12_copies_47 rfl (by decide) rfl ?_
    refine v_sub [1, 2, 0] rfl ?_
    refine kX12_copies_L48 C hr hlk a1   fu0 0 u5 h
def rX12_fault : Room := { frames := 0, cells := 0, slots := 0, locals := 0 }
def fX12_fault (a1 : Int32) (u : Mem) : Option Int32 := (some (if a1 = 0 then u.1 0 8 else (if a1 = 1 then u.1 0 9 else (-1))))
set_option maxHeartbeats 4000000 in
set_option maxRecDepth 100000 in
theorem cX12_fault_ct (l : Launch) (D : va_G) (cy : Nat → ClassId) (ad : Nat → Nat) (a1 : Int32) (u : Mem)  (out : Int32) (h : fX12_fault a1 u = some out) : Met l yX12_fault (.code yX12_fault cX12_fault 2 (some .int) :: gw) rX12_fault (va_Pc [.ref (ad 0), .int a1] (wv shM nM D cy ad u)) (qI shM nM D cy ad out u) 0 0 (rA ad nM) := by
  refine met_of (cc := cX12_fault) (nL := 2) (by decide) (Nat.le_of_ble_eq_true rfl) (fun p e s m below meth c C hr hlk => ?_)
  unfold fX12_fault at h
  show V shM nM D cy ad 2 p l e rX12_fault s m _ below meth c (MQ below (qI shM nM D cy ad out u) _ s 0 0 (rA ad nM)) 0 [(0, .ref (ad 0)), (1, .int a1)] [] u
  refine v_iload_n C 1 dX12_fault_0 rfl rfl ?_
  refine v_dia 24 (.int (if a1 = 0 then u.1 0 8 else (if a1 = 1 then u.1 0 9 else (-1)))) [] ?_ (fun hj => ?_)
  · cases h
    exact v_iret C hr hlk dX12_fault_24
  · refine p_if_ne C 11 dX12_fault_1 (by decide) (fun z1 => ?_) (fun z1 => ?_)
    · refine v_aload_n C 0 dX12_fault_4 rfl rfl ?_
      refine v_geti C pM_0 fd_X12_34 rfl dX12_fault_5 ?_
      refine v_goto C 24 dX12_fault_8 (by decide) ?_
      exact v_top (by rw [if_pos z1]; first | done | rfl) hj
    · refine v_iload_n C 1 dX12_fault_11 rfl rfl ?_
      refine v_iconst C (v := 1) dX12_fault_12 (by decide) ?_
      refine p_icmp_ne C 23 dX12_fault_13 (by decide) (fun z2 => ?_) (fun z2 => ?_)
      · refine v_aload_n C 0 dX12_fault_16 rfl rfl ?_
        refine v_geti C pM_0 fd_X12_37 rfl dX12_fault_17 ?_
        refine v_goto C 24 dX12_fault_20 (by decide) ?_
        exact v_top (by rw [if_neg z1, if_pos z2]; first | done | rfl) hj
      · refine v_iconst C (v := (-1)) dX12_fault_23 (by decide) ?_
        exact v_top (by rw [if_neg z1, if_neg z2]; first | done | rfl) hj
def rX12_look : Room := { frames := 1, cells := 0, slots := 0, locals := 25 }
def fX12_look (a1 : Int32) (u : Mem) : Option (Bool × Mem) := ((fX12_in a1.toInt64 0 ((u.1 1 0).toInt64)).bind fun r2 => (if r2 = true then (some (true, si u 1 1 a1)) else (some (false, u))))
set_option maxHeartbeats 4000000 in
set_option maxRecDepth 100000 in
theorem cX12_look_ct (l : Launch) (D : va_G) (cy : Nat → ClassId) (ad : Nat → Nat) (a1 : Int32) (u : Mem)  (out : (Bool × Mem)) (h : fX12_look a1 u = some out) : Met l yX12_look (.code yX12_look cX12_look 2 (some .boolean) :: gw) rX12_look (va_Pc [.ref (ad 0), .int a1] (wv shM nM D cy ad u)) (qI shM nM D cy ad (bz out.1) out.2) 0 0 (rA ad nM) := by
  refine met_of (cc := cX12_look) (nL := 2) (by decide) (Nat.le_of_ble_eq_true rfl) (fun p e s m below meth c C hr hlk => ?_)
  unfold fX12_look at h
  show V shM nM D cy ad 2 p l e rX12_look s m _ below meth c (MQ below (qI shM nM D cy ad (bz out.1) out.2) _ s 0 0 (rA ad nM)) 0 [(0, .ref (ad 0)), (1, .int a1)] [] u
  refine v_iload_n C 1 dX12_look_0 rfl rfl ?_
  refine v_i2l C dX12_look_1 ?_
  refine v_lconst C (v := 0) dX12_look_2 (by decide) ?_
  refine v_aload_n C 0 dX12_look_3 rfl rfl ?_
  refine v_getr C pM_0 fd_X12_7 rfl dX12_look_4 ?_
  refine v_iconst C (v := 0) dX12_look_7 (by decide) ?_
  refine v_ialdN C pM_1 (j := 0) (by decide) (by decide) dX12_look_8 ?_
  refine v_i2l C dX12_look_9 ?_
  obtain ⟨r2, hc1, h⟩ := bnd h
  refine v_callSi C [.long a1.toInt64, .long 0, .long ((u.1 1 0).toInt64)] (cX12_in_ct l D cy ad a1.toInt64 0 ((u.1 1 0).toInt64) _ r2 hc1) ml_X12_78 ⟨Nat.le_of_ble_eq_true rfl, Nat.le_of_ble_eq_true rfl⟩ ⟨rfl, rfl⟩ rfl rfl (Nat.le_of_ble_eq_true rfl) dX12_look_10 ?_
  refine v_z_ne C 18 dX12_look_13 (by decide) h (fun h => ?_) (fun h => ?_)
  · refine v_aload_n C 0 dX12_look_18 rfl rfl ?_
    refine v_getr C pM_0 fd_X12_7 rfl dX12_look_19 ?_
    refine v_iconst C (v := 1) dX12_look_22 (by decide) ?_
    refine v_iload_n C 1 dX12_look_23 rfl rfl ?_
    refine v_iastN C pM_1 (j := 1) (by decide) (by decide) dX12_look_24 ?_
    refine v_iconst C (v := 1) dX12_look_25 (by decide) ?_
    cases h
    exact v_zret (b := true) C hr hlk dX12_look_26
  · refine v_iconst C (v := 0) dX12_look_16 (by decide) ?_
    cases h
    exact v_zret (b := false) C hr hlk dX12_look_17
def rX12_says : Room := { frames := 0, cells := 0, slots := 0, locals := 0 }
def fX12_says (a1 : Int32) (u : Mem) : Option Int32 := (if inB ((1500 + (220 * (u.1 1 1))) + a1) 8320 then (some (u.1 1 ((1500 + (220 * (u.1 1 1))) + a1).toNatClampNeg)) else none)
set_option maxHeartbeats 4000000 in
set_option maxRecDepth 100000 in
theorem cX12_says_ct (l : Launch) (D : va_G) (cy : Nat → ClassId) (ad : Nat → Nat) (a1 : Int32) (u : Mem)  (out : Int32) (h : fX12_says a1 u = some out) : Met l yX12_says (.code yX12_says cX12_says 2 (some .int) :: gw) rX12_says (va_Pc [.ref (ad 0), .int a1] (wv shM nM D cy ad u)) (qI shM nM D cy ad out u) 0 0 (rA ad nM) := by
  refine met_of (cc := cX12_says) (nL := 2) (by decide) (Nat.le_of_ble_eq_true rfl) (fun p e s m below meth c C hr hlk => ?_)
  unfold fX12_says at h
  show V shM nM D cy ad 2 p l e rX12_says s m _ below meth c (MQ below (qI shM nM D cy ad out u) _ s 0 0 (rA ad nM)) 0 [(0, .ref (ad 0)), (1, .int a1)] [] u
  refine v_aload_n C 0 dX12_says_0 rfl rfl ?_
  refine v_getr C pM_0 fd_X12_7 rfl dX12_says_1 ?_
  refine v_sipush C (v := 1500) dX12_says_4 (by decide) ?_
  refine v_sipush C (v := 220) dX12_says_7 (by decide) ?_
  refine v_aload_n C 0 dX12_says_10 rfl rfl ?_
  refine v_getr C pM_0 fd_X12_7 rfl dX12_says_11 ?_
  refine v_iconst C (v := 1) dX12_says_14 (by decide) ?_
  refine v_ialdN C pM_1 (j := 1) (by decide) (by decide) dX12_says_15 ?_
  refine v_imul C dX12_says_16 ?_
  refine v_iadd C dX12_says_17 ?_
  refine v_iload_n C 1 dX12_says_18 rfl rfl ?_
  refine v_iadd C dX12_says_19 ?_
  refine v_iald C pM_1 dX12_says_20 h (fun h => ?_)
  cases h
  exact v_iret C hr hlk dX12_says_21
def rX12_weightOf : Room := { frames := 1, cells := 0, slots := 0, locals := 21 }
def fX12_weightOf (a1 : Int32) (u : Mem) : Option Int32 := ((fX12_says a1 u).bind fun r2 => (if r2 = 0 then (some 1) else ((fX12_says a1 u).bind fun r5 => (some r5))))
set_option maxHeartbeats 4000000 in
set_option maxRecDepth 100000 in
theorem cX12_weightOf_ct (l : Launch) (D : va_G) (cy : Nat → ClassId) (ad : Nat → Nat) (a1 : Int32) (u : Mem)  (out : Int32) (h : fX12_weightOf a1 u = some out) : Met l yX12_weightOf (.code yX12_weightOf cX12_weightOf 2 (some .int) :: gw) rX12_weightOf (va_Pc [.ref (ad 0), .int a1] (wv shM nM D cy ad u)) (qI shM nM D cy ad out u) 0 0 (rA ad nM) := by
  refine met_of (cc := cX12_weightOf) (nL := 2) (by decide) (Nat.le_of_ble_eq_true rfl) (fun p e s m below meth c C hr hlk => ?_)
  unfold fX12_weightOf at h
  show V shM nM D cy ad 2 p l e rX12_weightOf s m _ below meth c (MQ below (qI shM nM D cy ad out u) _ s 0 0 (rA ad nM)) 0 [(0, .ref (ad 0)), (1, .int a1)] [] u
  refine v_aload_n C 0 dX12_weightOf_0 rfl rfl ?_
  refine v_iload_n C 1 dX12_weightOf_1 rfl rfl ?_
  obtain ⟨r2, hc1, h⟩ := bnd h
  refine v_callVi C [.int a1] (cX12_says_ct l D cy ad a1 u r2 hc1) ml_X12_193 pM_0 ⟨Nat.le_of_ble_eq_true rfl, Nat.le_of_ble_eq_true rfl⟩ ⟨rfl, rfl⟩ rfl rfl (Nat.le_of_ble_eq_true rfl) dX12_weightOf_2 ?_
  refine v_if_ne C 12 dX12_weightOf_5 (by decide) h (fun h => ?_) (fun h => ?_)
  · refine v_iconst C (v := 1) dX12_weightOf_8 (by decide) ?_
    refine v_goto C 17 dX12_weightOf_9 (by decide) ?_
    cases h
    exact v_iret C hr hlk dX12_weightOf_17
  · refine v_aload_n C 0 dX12_weightOf_12 rfl rfl ?_
    refine v_iload_n C 1 dX12_weightOf_13 rfl rfl ?_
    obtain ⟨r5, hc4, h⟩ := bnd h
    refine v_callVi C [.int a1] (cX12_says_ct l D cy ad a1 u r5 hc4) ml_X12_193 pM_0 ⟨Nat.le_of_ble_eq_true rfl, Nat.le_of_ble_eq_true rfl⟩ ⟨rfl, rfl⟩ rfl rfl (Nat.le_of_ble_eq_true rfl) dX12_weightOf_14 ?_
    cases h
    exact v_iret C hr hlk dX12_weightOf_17
def rX12_weight : Room := { frames := 2, cells := 0, slots := 0, locals := 42 }
def fX12_weight (a1 : Int32) (u : Mem) : Option Int32 := ((fX12_in a1.toInt64 0 5).bind fun r2 => (if r2 = true then ((fX12_weightOf a1 u).bind fun r5 => (some r5)) else (some (-1))))
set_option maxHeartbeats 4000000 in
set_option maxRecDepth 100000 in
theorem cX12_weight_ct (l : Launch) (D : va_G) (cy : Nat → ClassId) (ad : Nat → Nat) (a1 : Int32) (u : Mem)  (out : Int32) (h : fX12_weight a1 u = some out) : Met l yX12_weight (.code yX12_weight cX12_weight 2 (some .int) :: gw) rX12_weight (va_Pc [.ref (ad 0), .int a1] (wv shM nM D cy ad u)) (qI shM nM D cy ad out u) 0 0 (rA ad nM) := by
  refine met_of (cc := cX12_weight) (nL := 2) (by decide) (Nat.le_of_ble_eq_true rfl) (fun p e s m below meth c C hr hlk => ?_)
  unfold fX12_weight at h
  show V shM nM D cy ad 2 p l e rX12_weight s m _ below meth c (MQ below (qI shM nM D cy ad out u) _ s 0 0 (rA ad nM)) 0 [(0, .ref (ad 0)), (1, .int a1)] [] u
  refine v_iload_n C 1 dX12_weight_0 rfl rfl ?_
  refine v_i2l C dX12_weight_1 ?_
  refine v_lconst C (v := 0) dX12_weight_2 (by decide) ?_
  refine v_ldc2 C kc_X12_197 dX12_weight_3 ?_
  obtain ⟨r2, hc1, h⟩ := bnd h
  refine v_callSi C [.long a1.toInt64, .long 0, .long 5] (cX12_in_ct l D cy ad a1.toInt64 0 5 _ r2 hc1) ml_X12_78 ⟨Nat.le_of_ble_eq_true rfl, Nat.le_of_ble_eq_true rfl⟩ ⟨rfl, rfl⟩ rfl rfl (Nat.le_of_ble_eq_true rfl) dX12_weight_6 ?_
  refine v_z_eq C 20 dX12_weight_9 (by decide) h (fun h => ?_) (fun h => ?_)
  · refine v_aload_n C 0 dX12_weight_12 rfl rfl ?_
    refine v_iload_n C 1 dX12_weight_13 rfl rfl ?_
    obtain ⟨r5, hc4, h⟩ := bnd h
    refine v_callVi C [.int a1] (cX12_weightOf_ct l D cy ad a1 u r5 hc4) ml_X12_199 pM_0 ⟨Nat.le_of_ble_eq_true rfl, Nat.le_of_ble_eq_true rfl⟩ ⟨rfl, rfl⟩ rfl rfl (Nat.le_of_ble_eq_true rfl) dX12_weight_14 ?_
    refine v_goto C 21 dX12_weight_17 (by decide) ?_
    cases h
    exact v_iret C hr hlk dX12_weight_21
  · refine v_iconst C (v := (-1)) dX12_weight_20 (by decide) ?_
    cases h
    exact v_iret C hr hlk dX12_weight_21
def rX12_isChain : Room := { frames := 1, cells := 0, slots := 0, locals := 21 }
def fX12_isChain (a1 : Int32) (u : Mem) : Option Bool := ((fX12_says (6 + (6 * a1)) u).bind fun r2 => (some (if r2 = 1 then true else false)))
set_option maxHeartbeats 4000000 in
set_option maxRecDepth 100000 in
theorem cX12_isChain_ct (l : Launch) (D : va_G) (cy : Nat → ClassId) (ad : Nat → Nat) (a1 : Int32) (u : Mem)  (out : Bool) (h : fX12_isChain a1 u = some out) : Met l yX12_isChain (.code yX12_isChain cX12_isChain 2 (some .boolean) :: gw) rX12_isChain (va_Pc [.ref (ad 0), .int a1] (wv shM nM D cy ad u)) (qI shM nM D cy ad (bz out) u) 0 0 (rA ad nM) := by
  refine met_of (cc := cX12_isChain) (nL := 2) (by decide) (Nat.le_of_ble_eq_true rfl) (fun p e s m below meth c C hr hlk => ?_)
  unfold fX12_isChain at h
  show V shM nM D cy ad 2 p l e rX12_isChain s m _ below meth c (MQ below (qI shM nM D cy ad (bz out) u) _ s 0 0 (rA ad nM)) 0 [(0, .ref (ad 0)), (1, .int a1)] [] u
  refine v_aload_n C 0 dX12_isChain_0 rfl rfl ?_
  refine v_bipush C (v := 6) dX12_isChain_1 (by decide) ?_
  refine v_bipush C (v := 6) dX12_isChain_3 (by decide) ?_
  refine v_iload_n C 1 dX12_isChain_5 rfl rfl ?_
  refine v_imul C dX12_isChain_6 ?_
  refine v_iadd C dX12_isChain_7 ?_
  obtain ⟨r2, hc1, h⟩ := bnd h
  refine v_callVi C [.int (6 + (6 * a1))] (cX12_says_ct l D cy ad (6 + (6 * a1)) u r2 hc1) ml_X12_193 pM_0 ⟨Nat.le_of_ble_eq_true rfl, Nat.le_of_ble_eq_true rfl⟩ ⟨rfl, rfl⟩ rfl rfl (Nat.le_of_ble_eq_true rfl) dX12_isChain_8 ?_
  refine v_iconst C (v := 1) dX12_isChain_11 (by decide) ?_
  refine v_dia 20 (.int (bz (if r2 = 1 then true else false))) [] ?_ (fun hj => ?_)
  · cases h
    exact v_zret (b := (if r2 = 1 then true else false)) C hr hlk dX12_isChain_20
  · refine p_icmp_ne C 19 dX12_isChain_12 (by decide) (fun z3 => ?_) (fun z3 => ?_)
    · refine v_iconst C (v := 1) dX12_isChain_15 (by decide) ?_
      refine v_goto C 20 dX12_isChain_16 (by decide) ?_
      exact v_top (by rw [if_pos z3]; first | done | rfl) hj
    · refine v_iconst C (v := 0) dX12_isChain_19 (by decide) ?_
      exact v_top (by rw [if_neg z3]; first | done | rfl) hj
def rX12_chainOf : Room := { frames := 1, cells := 0, slots := 0, locals := 21 }
def fX12_chainOf (a1 : Int32) (a2 : Int32) (u : Mem) : Option Int32 := ((fX12_says (((6 + (6 * a1)) + 1) + a2) u).bind fun r2 => (some r2))
set_option maxHeartbeats 4000000 in
set_option maxRecDepth 100000 in
theorem cX12_chainOf_ct (l : Launch) (D : va_G) (cy : Nat → ClassId) (ad : Nat → Nat) (a1 : Int32) (a2 : Int32) (u : Mem)  (out : Int32) (h : fX12_chainOf a1 a2 u = some out) : Met l yX12_chainOf (.code yX12_chainOf cX12_chainOf 3 (some .int) :: gw) rX12_chainOf (va_Pc [.ref (ad 0), .int a1, .int a2] (wv shM nM D cy ad u)) (qI shM nM D cy ad out u) 0 0 (rA ad nM) := by
  refine met_of (cc := cX12_chainOf) (nL := 3) (by decide) (Nat.le_of_ble_eq_true rfl) (fun p e s m below meth c C hr hlk => ?_)
  unfold fX12_chainOf at h
  show V shM nM D cy ad 3 p l e rX12_chainOf s m _ below meth c (MQ below (qI shM nM D cy ad out u) _ s 0 0 (rA ad nM)) 0 [(0, .ref (ad 0)), (1, .int a1), (2, .int a2)] [] u
  refine v_aload_n C 0 dX12_chainOf_0 rfl rfl ?_
  refine v_bipush C (v := 6) dX12_chainOf_1 (by decide) ?_
  refine v_bipush C (v := 6) dX12_chainOf_3 (by decide) ?_
  refine v_iload_n C 1 dX12_chainOf_5 rfl rfl ?_
  refine v_imul C dX12_chainOf_6 ?_
  refine v_iadd C dX12_chainOf_7 ?_
  refine v_iconst C (v := 1) dX12_chainOf_8 (by decide) ?_
  refine v_iadd C dX12_chainOf_9 ?_
  refine v_iload_n C 2 dX12_chainOf_10 rfl rfl ?_
  refine v_iadd C dX12_chainOf_11 ?_
  obtain ⟨r2, hc1, h⟩ := bnd h
  refine v_callVi C [.int (((6 + (6 * a1)) + 1) + a2)] (cX12_says_ct l D cy ad (((6 + (6 * a1)) + 1) + a2) u r2 hc1) ml_X12_193 pM_0 ⟨Nat.le_of_ble_eq_true rfl, Nat.le_of_ble_eq_true rfl⟩ ⟨rfl, rfl⟩ rfl rfl (Nat.le_of_ble_eq_true rfl) dX12_chainOf_12 ?_
  cases h
  exact v_iret C hr hlk dX12_chainOf_15
def rX12_chain : Room := { frames := 2, cells := 0, slots := 0, locals := 43 }
def fX12_chain (a1 : Int32) (a2 : Int32) (u : Mem) : Option Int32 := ((fX12_in a1.toInt64 0 4).bind fun r2 => (if r2 = true then ((fX12_in a2.toInt64 0 4).bind fun r5 => (if r5 = true then ((fX12_isChain a1 u).bind fun r8 => (if r8 = true then ((fX12_chainOf a1 a2 u).bind fun r11 => (some r11)) else (some (-1)))) else (some (-1)))) else (some (-1))))
set_option maxHeartbeats 4000000 in
set_option maxRecDepth 100000 in
theorem cX12_chain_ct (l : Launch) (D : va_G) (cy : Nat → ClassId) (ad : Nat → Nat) (a1 : Int32) (a2 : Int32) (u : Mem)  (out : Int32) (h : fX12_chain a1 a2 u = some out) : Met l yX12_chain (.code yX12_chain cX12_chain 3 (some .int) :: gw) rX12_chain (va_Pc [.ref (ad 0), .int a1, .int a2] (wv shM nM D cy ad u)) (qI shM nM D cy ad out u) 0 0 (rA ad nM) := by
  refine met_of (cc := cX12_chain) (nL := 3) (by decide) (Nat.le_of_ble_eq_true rfl) (fun p e s m below meth c C hr hlk => ?_)
  unfold fX12_chain at h
  show V shM nM D cy ad 3 p l e rX12_chain s m _ below meth c (MQ below (qI shM nM D cy ad out u) _ s 0 0 (rA ad nM)) 0 [(0, .ref (ad 0)), (1, .int a1), (2, .int a2)] [] u
  refine v_iload_n C 1 dX12_chain_0 rfl rfl ?_
  refine v_i2l C dX12_chain_1 ?_
  refine v_lconst C (v := 0) dX12_chain_2 (by decide) ?_
  refine v_ldc2 C kc_X12_169 dX12_chain_3 ?_
  obtain ⟨r2, hc1, h⟩ := bnd h
  refine v_callSi C [.long a1.toInt64, .long 0, .long 4] (cX12_in_ct l D cy ad a1.toInt64 0 4 _ r2 hc1) ml_X12_78 ⟨Nat.le_of_ble_eq_true rfl, Nat.le_of_ble_eq_true rfl⟩ ⟨rfl, rfl⟩ rfl rfl (Nat.le_of_ble_eq_true rfl) dX12_chain_6 ?_
  refine v_z_eq C 41 dX12_chain_9 (by decide) h (fun h => ?_) (fun h => ?_)
  · refine v_iload_n C 2 dX12_chain_12 rfl rfl ?_
    refine v_i2l C dX12_chain_13 ?_
    refine v_lconst C (v := 0) dX12_chain_14 (by decide) ?_
    refine v_ldc2 C kc_X12_169 dX12_chain_15 ?_
    obtain ⟨r5, hc4, h⟩ := bnd h
    refine v_callSi C [.long a2.toInt64, .long 0, .long 4] (cX12_in_ct l D cy ad a2.toInt64 0 4 _ r5 hc4) ml_X12_78 ⟨Nat.le_of_ble_eq_true rfl, Nat.le_of_ble_eq_true rfl⟩ ⟨rfl, rfl⟩ rfl rfl (Nat.le_of_ble_eq_true rfl) dX12_chain_18 ?_
    refine v_z_eq C 41 dX12_chain_21 (by decide) h (fun h => ?_) (fun h => ?_)
    · refine v_aload_n C 0 dX12_chain_24 rfl rfl ?_
      refine v_iload_n C 1 dX12_chain_25 rfl rfl ?_
      obtain ⟨r8, hc7, h⟩ := bnd h
      refine v_callVi C [.int a1] (cX12_isChain_ct l D cy ad a1 u r8 hc7) ml_X12_202 pM_0 ⟨Nat.le_of_ble_eq_true rfl, Nat.le_of_ble_eq_true rfl⟩ ⟨rfl, rfl⟩ rfl rfl (Nat.le_of_ble_eq_true rfl) dX12_chain_26 ?_
      refine v_z_eq C 41 dX12_chain_29 (by decide) h (fun h => ?_) (fun h => ?_)
      · refine v_aload_n C 0 dX12_chain_32 rfl rfl ?_
        refine v_iload_n C 1 dX12_chain_33 rfl rfl ?_
        refine v_iload_n C 2 dX12_chain_34 rfl rfl ?_
        obtain ⟨r11, hc10, h⟩ := bnd h
        refine v_callVi C [.int a1, .int a2] (cX12_chainOf_ct l D cy ad a1 a2 u r11 hc10) ml_X12_205 pM_0 ⟨Nat.le_of_ble_eq_true rfl, Nat.le_of_ble_eq_true rfl⟩ ⟨rfl, rfl⟩ rfl rfl (Nat.le_of_ble_eq_true rfl) dX12_chain_35 ?_
        refine v_goto C 42 dX12_chain_38 (by decide) ?_
        cases h
        exact v_iret C hr hlk dX12_chain_42
      · refine v_iconst C (v := (-1)) dX12_chain_41 (by decide) ?_
        cases h
        exact v_iret C hr hlk dX12_chain_42
    · refine v_iconst C (v := (-1)) dX12_chain_41 (by decide) ?_
      cases h
      exact v_iret C hr hlk dX12_chain_42
  · refine v_iconst C (v := (-1)) dX12_chain_41 (by decide) ?_
    cases h
    exact v_iret C hr hlk dX12_chain_42
def rX12_down : Room := { frames := 0, cells := 0, slots := 0, locals := 0 }
def fX12_down (a0 : Int64) (a2 : Int64) : Option Int64 := (if a0 < 0 then (if a2 = 0 then none else (some (-(((a2 - 1) - a0) / a2)))) else (if a2 = 0 then none else (some (a0 / a2))))
set_option maxHeartbeats 4000000 in
set_option maxRecDepth 100000 in
theorem cX12_down_ct (l : Launch) (D : va_G) (cy : Nat → ClassId) (ad : Nat → Nat) (a0 : Int64) (a2 : Int64) (u : Mem)  (out : Int64) (h : fX12_down a0 a2 = some out) : Met l yX12_down (.code yX12_down cX12_down 4 (some .long) :: gw) rX12_down (va_Pc [.long a0, .long a2] (wv shM nM D cy ad u)) (qL shM nM D cy ad out u) 0 0 (rA ad nM) := by
  refine met_of (cc := cX12_down) (nL := 4) (by decide) (Nat.le_of_ble_eq_true rfl) (fun p e s m below meth c C hr hlk => ?_)
  unfold fX12_down at h
  show V shM nM D cy ad 4 p l e rX12_down s m _ below meth c (MQ below (qL shM nM D cy ad out u) _ s 0 0 (rA ad nM)) 0 [(0, .long a0), (2, .long a2)] [] u
  refine v_lload_n C 0 dX12_down_0 rfl rfl ?_
  refine v_lconst C (v := 0) dX12_down_1 (by decide) ?_
  refine v_lcmp_lt C 12 dX12_down_2 dX12_down_3 (by decide) h (fun h => ?_) (fun h => ?_)
  · refine v_lload_n C 1 dX12_down_12 rfl rfl ?_
    refine v_lconst C (v := 1) dX12_down_13 (by decide) ?_
    refine v_lsub C dX12_down_14 ?_
    refine v_lload_n C 0 dX12_down_15 rfl rfl ?_
    refine v_lsub C dX12_down_16 ?_
    refine v_lload_n C 1 dX12_down_17 rfl rfl ?_
    refine v_ldiv C dX12_down_18 h (fun h => ?_)
    refine v_lneg C dX12_down_19 ?_
    cases h
    exact v_lret C hr hlk dX12_down_20
  · refine v_lload_n C 0 dX12_down_6 rfl rfl ?_
    refine v_lload_n C 1 dX12_down_7 rfl rfl ?_
    refine v_ldiv C dX12_down_8 h (fun h => ?_)
    refine v_goto C 20 dX12_down_9 (by decide) ?_
    cases h
    exact v_lret C hr hlk dX12_down_20
def rX12_spanOf : Room := { frames := 1, cells := 0, slots := 0, locals := 23 }
def fX12_spanOf_L27 (a2 : Int32) (a3 : Bool) (a4 : Int32) (a5 : Int32) (u : Mem) (K57 : Int32 → Option Int32) : Nat → Int32 → Option Int32
  | 0, _ => none
  | t + 1, a6 => (if a5 ≤ a6 then K57 a6 else ((fX12_says ((a4 + 1) + (3 * a6)) u).bind fun r6 => (if a2 < r6 then K57 a6 else fX12_spanOf_L27 a2 a3 a4 a5 u K57 t (a6 + 1))))
def fX12_spanOf (a1 : Int32) (a2 : Int32) (a3 : Bool) (u : Mem) : Option Int32 := ((fX12_says (36 + (25 * a1)) u).bind fun r2 => (if r2 = 0 then (some 0) else fX12_spanOf_L27 a2 a3 (36 + (25 * a1)) r2 u (fun v8 => (if v8 = 0 then ((fX12_says ((36 + (25 * a1)) + ((if a3 = true then 3 else 2) : Int32)) u).bind fun r12 => (some r12)) else ((fX12_says (((36 + (25 * a1)) + 1) + (3 * (v8 - 1))) u).bind fun r14 => ((fX12_says (((36 + (25 * a1)) + ((if a3 = true then 3 else 2) : Int32)) + (3 * (v8 - 1))) u).bind fun r16 => (if v8 = r2 then (some r16) else (if r14 = a2 then (some r16) else ((fX12_says (((36 + (25 * a1)) + 1) + (3 * v8)) u).bind fun r20 => ((fX12_says (((36 + (25 * a1)) + ((if a3 = true then 3 else 2) : Int32)) + (3 * v8)) u).bind fun r22 => (if a3 = true then ((fX12_down (-(((r22 - r16).toInt64) * ((a2 - r14).toInt64))) ((r20 - r14).toInt64)).bind fun r25 => (some ((r16.toInt64 + (-r25)).toInt32))) else ((fX12_down (((r22 - r16).toInt64) * ((a2 - r14).toInt64)) ((r20 - r14).toInt64)).bind fun r27 => (some ((r16.toInt64 + r27).toInt32)))))))))))) fu0 0))
set_option maxHeartbeats 4000000 in
set_option maxRecDepth 100000 in
theorem kX12_spanOf_L27 {l : Launch} {D : va_G} {cy : Nat → ClassId} {ad : Nat → Nat} {p : Program} {e : Env} {s : State} {m : MethodId} {args : Array Value} {below : List Frame} {meth : Method} {c : Code} (C : Cx nM D cy ad 14 cX12_spanOf RX12 rX12_spanOf p s m args c) (hr : meth.sig.returnType = some .int) (hlk : meth.locks = false) (a2 : Int32) (a3 : Bool) (a4 : Int32) (a5 : Int32)  (u : Mem) {out : Int32} (K57 : Int32 → Option Int32) (hK57 : ∀ (a6 : Int32), K57 a6 = some out → V shM nM D cy ad 14 p l e rX12_spanOf s m args below meth c (MQ below (qI shM nM D cy ad out u) args s 0 0 (rA ad nM)) 57 [(0, .ref (ad 0)), (2, .int a2), (3, .int (bz a3)), (4, .int a4), (5, .int a5), (6, .int a6)] [] u) : ∀ (t : Nat) (a6 : Int32), fX12_spanOf_L27 a2 a3 a4 a5 u K57 t a6 = some out → V shM nM D cy ad 14 p l e rX12_spanOf s m args below meth c (MQ below (qI shM nM D cy ad out u) args s 0 0 (rA ad nM)) 27 [(0, .ref (ad 0)), (2, .int a2), (3, .int (bz a3)), (4, .int a4), (5, .int a5), (6, .int a6)] [] u := by
  intro t
  induction t with
  | zero => intro a6 h; rw [fX12_spanOf_L27] at h; cases h
  | succ t ih =>
    intro a6 h
    rw [fX12_spanOf_L27] at h
    refine v_iload C 5 dX12_spanOf_27 rfl ?_
    refine v_iload C 4 dX12_spanOf_29 rfl ?_
    refine v_icmp_ge C 57 dX12_spanOf_31 (by decide) h (fun h => ?_) (fun h => ?_)
    · exact hK57 a6 h
    · refine v_aload_n C 0 dX12_spanOf_34 rfl rfl ?_
      refine v_iload C 3 dX12_spanOf_35 rfl ?_
      refine v_iconst C (v := 1) dX12_spanOf_37 (by decide) ?_
      refine v_iadd C dX12_spanOf_38 ?_
      refine v_iconst C (v := 3) dX12_spanOf_39 (by decide) ?_
      refine v_iload C 5 dX12_spanOf_40 rfl ?_
      refine v_imul C dX12_spanOf_42 ?_
      refine v_iadd C dX12_spanOf_43 ?_
      obtain ⟨r6, hc5, h⟩ := bnd h
      refine v_callVi C [.int ((a4 + 1) + (3 * a6))] (cX12_says_ct l D cy ad ((a4 + 1) + (3 * a6)) u r6 hc5) ml_X12_193 pM_0 ⟨Nat.le_of_ble_eq_true rfl, Nat.le_of_ble_eq_true rfl⟩ ⟨rfl, rfl⟩ rfl rfl (Nat.le_of_ble_eq_true rfl) dX12_spanOf_44 ?_
      refine v_iload_n C 1 dX12_spanOf_47 rfl rfl ?_
      refine v_icmp_gt C 57 dX12_spanOf_48 (by decide) h (fun h => ?_) (fun h => ?_)
      · exact hK57 a6 h
      · refine v_iinc C 5 (v := a6 + 1) [(6, .int (a6 + 1)), (0, .ref (ad 0)), (2, .int a2), (3, .int (bz a3)), (4, .int a4), (5, .int a5)] dX12_spanOf_51 rfl rfl (by decide) rfl ?_
        refine v_goto C 27 dX12_spanOf_54 (by decide) ?_
        refine v_sub [1, 2, 3, 4, 5, 0] rfl ?_
        exact ih (a6 + 1) h
set_option maxHeartbeats 4000000 in
set_option maxRecDepth 100000 in
theorem cX12_spanOf_ct (l : Launch) (D : va_G) (cy : Nat → ClassId) (ad : Nat → Nat) (a1 : Int32) (a2 : Int32) (a3 : Bool) (u : Mem)  (out : Int32) (h : fX12_spanOf a1 a2 a3 u = some out) : Met l yX12_spanOf (.code yX12_spanOf cX12_spanOf 14 (some .int) :: gw) rX12_spanOf (va_Pc [.ref (ad 0), .int a1, .int a2, .int (bz a3)] (wv shM nM D cy ad u)) (qI shM nM D cy ad out u) 0 0 (rA ad nM) := by
  refine met_of (cc := cX12_spanOf) (nL := 14) (by decide) (Nat.le_of_ble_eq_true rfl) (fun p e s m below meth c C hr hlk => ?_)
  unfold fX12_spanOf at h
  show V shM nM D cy ad 14 p l e rX12_spanOf s m _ below meth c (MQ below (qI shM nM D cy ad out u) _ s 0 0 (rA ad nM)) 0 [(0, .ref (ad 0)), (1, .int a1), (2, .int a2), (3, .int (bz a3))] [] u
  refine v_bipush C (v := 36) dX12_spanOf_0 (by decide) ?_
  refine v_bipush C (v := 25) dX12_spanOf_2 (by decide) ?_
  refine v_iload_n C 1 dX12_spanOf_4 rfl rfl ?_
  refine v_imul C dX12_spanOf_5 ?_
  refine v_iadd C dX12_spanOf_6 ?_
  refine v_istore C [(4, .int (36 + (25 * a1))), (0, .ref (ad 0)), (1, .int a1), (2, .int a2), (3, .int (bz a3))] dX12_spanOf_7 (by decide) rfl ?_
  refine v_aload_n C 1 dX12_spanOf_9 rfl rfl ?_
  refine v_iload C 0 dX12_spanOf_10 rfl ?_
  obtain ⟨r2, hc1, h⟩ := bnd h
  refine v_callVi C [.int (36 + (25 * a1))] (cX12_says_ct l D cy ad (36 + (25 * a1)) u r2 hc1) ml_X12_193 pM_0 ⟨Nat.le_of_ble_eq_true rfl, Nat.le_of_ble_eq_true rfl⟩ ⟨rfl, rfl⟩ rfl rfl (Nat.le_of_ble_eq_true rfl) dX12_spanOf_12 ?_
  refine v_istore C [(5, .int r2), (4, .int (36 + (25 * a1))), (0, .ref (ad 0)), (1, .int a1), (2, .int a2), (3, .int (bz a3))] dX12_spanOf_15 (by decide) rfl ?_
  refine v_iload C 0 dX12_spanOf_17 rfl ?_
  refine v_if_ne C 24 dX12_spanOf_19 (by decide) h (fun h => ?_) (fun h => ?_)
  · refine v_iconst C (v := 0) dX12_spanOf_22 (by decide) ?_
    cases h
    exact v_iret C hr hlk dX12_spanOf_23
  · refine v_iconst C (v := 0) dX12_spanOf_24 (by decide) ?_
    refine v_istore C [(6, .int 0), (5, .int r2), (4, .int (36 + (25 * a1))), (0, .ref (ad 0)), (1, .int a1), (2, .int a2), (3, .int (bz a3))] dX12_spanOf_25 (by decide) rfl ?_
    refine v_sub [3, 5, 6, 2, 1, 0] rfl ?_
    refine kX12_spanOf_L27 C hr hlk a2 a3 (36 + (25 * a1)) r2 u _ (fun v8 h => ?_) fu0 0 h
    · refine v_iload_n C 2 dX12_spanOf_57 rfl rfl ?_
      refine v_dia 66 (.int ((if a3 = true then 3 else 2) : Int32)) [] ?_ (fun hj => ?_)
      · refine v_istore C [(7, .int ((if a3 = true then 3 else 2) : Int32)), (0, .ref (ad 0)), (2, .int a2), (3, .int (bz a3)), (4, .int (36 + (25 * a1))), (5, .int r2), (6, .int v8)] dX12_spanOf_66 (by decide) rfl ?_
        refine v_iload C 6 dX12_spanOf_68 rfl ?_
        refine v_if_ne C 83 dX12_spanOf_70 (by decide) h (fun h => ?_) (fun h => ?_)
        · refine v_aload_n C 1 dX12_spanOf_73 rfl rfl ?_
          refine v_iload C 4 dX12_spanOf_74 rfl ?_
          refine v_iload C 0 dX12_spanOf_76 rfl ?_
          refine v_iadd C dX12_spanOf_78 ?_
          obtain ⟨r12, hc11, h⟩ := bnd h
          refine v_callVi C [.int ((36 + (25 * a1)) + ((if a3 = true then 3 else 2) : Int32))] (cX12_says_ct l D cy ad ((36 + (25 * a1)) + ((if a3 = true then 3 else 2) : Int32)) u r12 hc11) ml_X12_193 pM_0 ⟨Nat.le_of_ble_eq_true rfl, Nat.le_of_ble_eq_true rfl⟩ ⟨rfl, rfl⟩ rfl rfl (Nat.le_of_ble_eq_true rfl) dX12_spanOf_79 ?_
          cases h
          exact v_iret C hr hlk dX12_spanOf_82
        · refine v_aload_n C 1 dX12_spanOf_83 rfl rfl ?_
          refine v_iload C 4 dX12_spanOf_84 rfl ?_
          refine v_iconst C (v := 1) dX12_spanOf_86 (by decide) ?_
          refine v_iadd C dX12_spanOf_87 ?_
          refine v_iconst C (v := 3) dX12_spanOf_88 (by decide) ?_
          refine v_iload C 6 dX12_spanOf_89 rfl ?_
          refine v_iconst C (v := 1) dX12_spanOf_91 (by decide) ?_
          refine v_isub C dX12_spanOf_92 ?_
          refine v_imul C dX12_spanOf_93 ?_
          refine v_iadd C dX12_spanOf_94 ?_
          obtain ⟨r14, hc13, h⟩ := bnd h
          refine v_callVi C [.int (((36 + (25 * a1)) + 1) + (3 * (v8 - 1)))] (cX12_says_ct l D cy ad (((36 + (25 * a1)) + 1) + (3 * (v8 - 1))) u r14 hc13) ml_X12_193 pM_0 ⟨Nat.le_of_ble_eq_true rfl, Nat.le_of_ble_eq_true rfl⟩ ⟨rfl, rfl⟩ rfl rfl (Nat.le_of_ble_eq_true rfl) dX12_spanOf_95 ?_
          refine v_istore C [(8, .int r14), (7, .int ((if a3 = true then 3 else 2) : Int32)), (0, .ref (ad 0)), (2, .int a2), (3, .int (bz a3)), (4, .int (36 + (25 * a1))), (5, .int r2), (6, .int v8)] dX12_spanOf_98 (by decide) rfl ?_
          refine v_aload_n C 2 dX12_spanOf_100 rfl rfl ?_
          refine v_iload C 5 dX12_spanOf_101 rfl ?_
          refine v_iload C 1 dX12_spanOf_103 rfl ?_
          refine v_iadd C dX12_spanOf_105 ?_
          refine v_iconst C (v := 3) dX12_spanOf_106 (by decide) ?_
          refine v_iload C 7 dX12_spanOf_107 rfl ?_
          refine v_iconst C (v := 1) dX12_spanOf_109 (by decide) ?_
          refine v_isub C dX12_spanOf_110 ?_
          refine v_imul C dX12_spanOf_111 ?_
          refine v_iadd C dX12_spanOf_112 ?_
          obtain ⟨r16, hc15, h⟩ := bnd h
          refine v_callVi C [.int (((36 + (25 * a1)) + ((if a3 = true then 3 else 2) : Int32)) + (3 * (v8 - 1)))] (cX12_says_ct l D cy ad (((36 + (25 * a1)) + ((if a3 = true then 3 else 2) : Int32)) + (3 * (v8 - 1))) u r16 hc15) ml_X12_193 pM_0 ⟨Nat.le_of_ble_eq_true rfl, Nat.le_of_ble_eq_true rfl⟩ ⟨rfl, rfl⟩ rfl rfl (Nat.le_of_ble_eq_true rfl) dX12_spanOf_113 ?_
          refine v_istore C [(9, .int r16), (8, .int r14), (7, .int ((if a3 = true then 3 else 2) : Int32)), (0, .ref (ad 0)), (2, .int a2), (3, .int (bz a3)), (4, .int (36 + (25 * a1))), (5, .int r2), (6, .int v8)] dX12_spanOf_116 (by decide) rfl ?_
          refine v_iload C 8 dX12_spanOf_118 rfl ?_
          refine v_iload C 7 dX12_spanOf_120 rfl ?_
          refine v_icmp_eq C 131 dX12_spanOf_122 (by decide) h (fun h => ?_) (fun h => ?_)
          · refine v_iload C 0 dX12_spanOf_131 rfl ?_
            cases h
            exact v_iret C hr hlk dX12_spanOf_133
          · refine v_iload C 1 dX12_spanOf_125 rfl ?_
            refine v_iload_n C 4 dX12_spanOf_127 rfl rfl ?_
            refine v_icmp_ne C 134 dX12_spanOf_128 (by decide) h (fun h => ?_) (fun h => ?_)
            · refine v_iload C 0 dX12_spanOf_131 rfl ?_
              cases h
              exact v_iret C hr hlk dX12_spanOf_133
            · refine v_aload_n C 3 dX12_spanOf_134 rfl rfl ?_
              refine v_iload C 6 dX12_spanOf_135 rfl ?_
              refine v_iconst C (v := 1) dX12_spanOf_137 (by decide) ?_
              refine v_iadd C dX12_spanOf_138 ?_
              refine v_iconst C (v := 3) dX12_spanOf_139 (by decide) ?_
              refine v_iload C 8 dX12_spanOf_140 rfl ?_
              refine v_imul C dX12_spanOf_142 ?_
              refine v_iadd C dX12_spanOf_143 ?_
              obtain ⟨r20, hc19, h⟩ := bnd h
              refine v_callVi C [.int (((36 + (25 * a1)) + 1) + (3 * v8))] (cX12_says_ct l D cy ad (((36 + (25 * a1)) + 1) + (3 * v8)) u r20 hc19) ml_X12_193 pM_0 ⟨Nat.le_of_ble_eq_true rfl, Nat.le_of_ble_eq_true rfl⟩ ⟨rfl, rfl⟩ rfl rfl (Nat.le_of_ble_eq_true rfl) dX12_spanOf_144 ?_
              refine v_iload C 1 dX12_spanOf_147 rfl ?_
              refine v_isub C dX12_spanOf_149 ?_
              refine v_i2l C dX12_spanOf_150 ?_
              refine v_lstore C [(10, .long ((r20 - r14).toInt64)), (9, .int r16), (8, .int r14), (7, .int ((if a3 = true then 3 else 2) : Int32)), (0, .ref (ad 0)), (2, .int a2), (3, .int (bz a3)), (4, .int (36 + (25 * a1))), (5, .int r2), (6, .int v8)] dX12_spanOf_151 (by decide) rfl ?_
              refine v_aload_n C 4 dX12_spanOf_153 rfl rfl ?_
              refine v_iload C 7 dX12_spanOf_154 rfl ?_
              refine v_iload C 3 dX12_spanOf_156 rfl ?_
              refine v_iadd C dX12_spanOf_158 ?_
              refine v_iconst C (v := 3) dX12_spanOf_159 (by decide) ?_
              refine v_iload C 9 dX12_spanOf_160 rfl ?_
              refine v_imul C dX12_spanOf_162 ?_
              refine v_iadd C dX12_spanOf_163 ?_
              obtain ⟨r22, hc21, h⟩ := bnd h
              refine v_callVi C [.int (((36 + (25 * a1)) + ((if a3 = true then 3 else 2) : Int32)) + (3 * v8))] (cX12_says_ct l D cy ad (((36 + (25 * a1)) + ((if a3 = true then 3 else 2) : Int32)) + (3 * v8)) u r22 hc21) ml_X12_193 pM_0 ⟨Nat.le_of_ble_eq_true rfl, Nat.le_of_ble_eq_true rfl⟩ ⟨rfl, rfl⟩ rfl rfl (Nat.le_of_ble_eq_true rfl) dX12_spanOf_164 ?_
              refine v_iload C 1 dX12_spanOf_167 rfl ?_
              refine v_isub C dX12_spanOf_169 ?_
              refine v_i2l C dX12_spanOf_170 ?_
              refine v_iload_n C 5 dX12_spanOf_171 rfl rfl ?_
              refine v_iload C 2 dX12_spanOf_172 rfl ?_
              refine v_isub C dX12_spanOf_174 ?_
              refine v_i2l C dX12_spanOf_175 ?_
              refine v_lmul C dX12_spanOf_176 ?_
              refine v_lstore C [(12, .long (((r22 - r16).toInt64) * ((a2 - r14).toInt64))), (10, .long ((r20 - r14).toInt64)), (9, .int r16), (8, .int r14), (7, .int ((if a3 = true then 3 else 2) : Int32)), (0, .ref (ad 0)), (2, .int a2), (3, .int (bz a3)), (4, .int (36 + (25 * a1))), (5, .int r2), (6, .int v8)] dX12_spanOf_177 (by decide) rfl ?_
              refine v_iload C 2 dX12_spanOf_179 rfl ?_
              refine v_i2l C dX12_spanOf_181 ?_
              refine v_iload_n C 7 dX12_spanOf_182 rfl rfl ?_
              refine v_z_eq C 198 dX12_spanOf_183 (by decide) h (fun h => ?_) (fun h => ?_)
              · refine v_lload C 0 dX12_spanOf_186 rfl ?_
                refine v_lneg C dX12_spanOf_188 ?_
                refine v_lload C 1 dX12_spanOf_189 rfl ?_
                obtain ⟨r25, hc24, h⟩ := bnd h
                refine v_callSl C [.long (-(((r22 - r16).toInt64) * ((a2 - r14).toInt64))), .long ((r20 - r14).toInt64)] (cX12_down_ct l D cy ad (-(((r22 - r16).toInt64) * ((a2 - r14).toInt64))) ((r20 - r14).toInt64) _ r25 hc24) ml_X12_208 ⟨Nat.le_of_ble_eq_true rfl, Nat.le_of_ble_eq_true rfl⟩ ⟨rfl, rfl⟩ rfl rfl (Nat.le_of_ble_eq_true rfl) dX12_spanOf_191 ?_
                refine v_lneg C dX12_spanOf_194 ?_
                refine v_goto C 205 dX12_spanOf_195 (by decide) ?_
                refine v_ladd C dX12_spanOf_205 ?_
                refine v_l2i C dX12_spanOf_206 ?_
                cases h
                exact v_iret C hr hlk dX12_spanOf_207
              · refine v_lload C 0 dX12_spanOf_198 rfl ?_
                refine v_lload C 1 dX12_spanOf_200 rfl ?_
                obtain ⟨r27, hc26, h⟩ := bnd h
                refine v_callSl C [.long (((r22 - r16).toInt64) * ((a2 - r14).toInt64)), .long ((r20 - r14).toInt64)] (cX12_down_ct l D cy ad (((r22 - r16).toInt64) * ((a2 - r14).toInt64)) ((r20 - r14).toInt64) _ r27 hc26) ml_X12_208 ⟨Nat.le_of_ble_eq_true rfl, Nat.le_of_ble_eq_true rfl⟩ ⟨rfl, rfl⟩ rfl rfl (Nat.le_of_ble_eq_true rfl) dX12_spanOf_202 ?_
                refine v_ladd C dX12_spanOf_205 ?_
                refine v_l2i C dX12_spanOf_206 ?_
                cases h
                exact v_iret C hr hlk dX12_spanOf_207
      · refine p_z_eq C 65 dX12_spanOf_58 (by decide) (fun z9 => ?_) (fun z9 => ?_)
        · refine v_iconst C (v := 3) dX12_spanOf_61 (by decide) ?_
          refine v_goto C 66 dX12_spanOf_62 (by decide) ?_
          exact v_top (by rw [if_pos z9]; first | done | rfl) hj
        · refine v_iconst C (v := 2) dX12_spanOf_65 (by decide) ?_
          exact v_top (by rw [if_neg z9]; first | done | rfl) hj
def rX12_law : Room := { frames := 2, cells := 0, slots := 0, locals := 56 }
def fX12_law (a1 : Int32) (a2 : Int32) (a3 : Bool) (u : Mem) : Option Int32 := ((fX12_in a1.toInt64 0 6).bind fun r2 => (if r2 = true then ((fX12_in a2.toInt64 0 999).bind fun r5 => (if r5 = true then ((fX12_spanOf a1 a2 a3 u).bind fun r8 => (some r8)) else (some (-1)))) else (some (-1))))
set_option maxHeartbeats 4000000 in
set_option maxRecDepth 100000 in
theorem cX12_law_ct (l : Launch) (D : va_G) (cy : Nat → ClassId) (ad : Nat → Nat) (a1 : Int32) (a2 : Int32) (a3 : Bool) (u : Mem)  (out : Int32) (h : fX12_law a1 a2 a3 u = some out) : Met l yX12_law (.code yX12_law cX12_law 4 (some .int) :: gw) rX12_law (va_Pc [.ref (ad 0), .int a1, .int a2, .int (bz a3)] (wv shM nM D cy ad u)) (qI shM nM D cy ad out u) 0 0 (rA ad nM) := by
  refine met_of (cc := cX12_law) (nL := 4) (by decide) (Nat.le_of_ble_eq_true rfl) (fun p e s m below meth c C hr hlk => ?_)
  unfold fX12_law at h
  show V shM nM D cy ad 4 p l e rX12_law s m _ below meth c (MQ below (qI shM nM D cy ad out u) _ s 0 0 (rA ad nM)) 0 [(0, .ref (ad 0)), (1, .int a1), (2, .int a2), (3, .int (bz a3))] [] u
  refine v_iload_n C 1 dX12_law_0 rfl rfl ?_
  refine v_i2l C dX12_law_1 ?_
  refine v_lconst C (v := 0) dX12_law_2 (by decide) ?_
  refine v_ldc2 C kc_X12_212 dX12_law_3 ?_
  obtain ⟨r2, hc1, h⟩ := bnd h
  refine v_callSi C [.long a1.toInt64, .long 0, .long 6] (cX12_in_ct l D cy ad a1.toInt64 0 6 _ r2 hc1) ml_X12_78 ⟨Nat.le_of_ble_eq_true rfl, Nat.le_of_ble_eq_true rfl⟩ ⟨rfl, rfl⟩ rfl rfl (Nat.le_of_ble_eq_true rfl) dX12_law_6 ?_
  refine v_z_eq C 34 dX12_law_9 (by decide) h (fun h => ?_) (fun h => ?_)
  · refine v_iload_n C 2 dX12_law_12 rfl rfl ?_
    refine v_i2l C dX12_law_13 ?_
    refine v_lconst C (v := 0) dX12_law_14 (by decide) ?_
    refine v_ldc2 C kc_X12_175 dX12_law_15 ?_
    obtain ⟨r5, hc4, h⟩ := bnd h
    refine v_callSi C [.long a2.toInt64, .long 0, .long 999] (cX12_in_ct l D cy ad a2.toInt64 0 999 _ r5 hc4) ml_X12_78 ⟨Nat.le_of_ble_eq_true rfl, Nat.le_of_ble_eq_true rfl⟩ ⟨rfl, rfl⟩ rfl rfl (Nat.le_of_ble_eq_true rfl) dX12_law_18 ?_
    refine v_z_eq C 34 dX12_law_21 (by decide) h (fun h => ?_) (fun h => ?_)
    · refine v_aload_n C 0 dX12_law_24 rfl rfl ?_
      refine v_iload_n C 1 dX12_law_25 rfl rfl ?_
      refine v_iload_n C 2 dX12_law_26 rfl rfl ?_
      refine v_iload_n C 3 dX12_law_27 rfl rfl ?_
      obtain ⟨r8, hc7, h⟩ := bnd h
      refine v_callVi C [.int a1, .int a2, .int (bz a3)] (cX12_spanOf_ct l D cy ad a1 a2 a3 u r8 hc7) ml_X12_214 pM_0 ⟨Nat.le_of_ble_eq_true rfl, Nat.le_of_ble_eq_true rfl⟩ ⟨rfl, rfl⟩ rfl rfl (Nat.le_of_ble_eq_true rfl) dX12_law_28 ?_
      refine v_goto C 35 dX12_law_31 (by decide) ?_
      cases h
      exact v_iret C hr hlk dX12_law_35
    · refine v_iconst C (v := (-1)) dX12_law_34 (by decide) ?_
      cases h
      exact v_iret C hr hlk dX12_law_35
  · refine v_iconst C (v := (-1)) dX12_law_34 (by decide) ?_
    cases h
    exact v_iret C hr hlk dX12_law_35
def rX12_partsAt : Room := { frames := 0, cells := 0, slots := 0, locals := 0 }
def fX12_partsAt (a1 : Int32) (a2 : Int32) (a3 : Int32) (u : Mem) : Option Int32 := (if inB (((20 + (96 * a1)) + (6 * a2)) + a3) 8320 then (some (u.1 1 (((20 + (96 * a1)) + (6 * a2)) + a3).toNatClampNeg)) else none)
set_option maxHeartbeats 4000000 in
set_option maxRecDepth 100000 in
theorem cX12_partsAt_ct (l : Launch) (D : va_G) (cy : Nat → ClassId) (ad : Nat → Nat) (a1 : Int32) (a2 : Int32) (a3 : Int32) (u : Mem)  (out : Int32) (h : fX12_partsAt a1 a2 a3 u = some out) : Met l yX12_partsAt (.code yX12_partsAt cX12_partsAt 4 (some .int) :: gw) rX12_partsAt (va_Pc [.ref (ad 0), .int a1, .int a2, .int a3] (wv shM nM D cy ad u)) (qI shM nM D cy ad out u) 0 0 (rA ad nM) := by
  refine met_of (cc := cX12_partsAt) (nL := 4) (by decide) (Nat.le_of_ble_eq_true rfl) (fun p e s m below meth c C hr hlk => ?_)
  unfold fX12_partsAt at h
  show V shM nM D cy ad 4 p l e rX12_partsAt s m _ below meth c (MQ below (qI shM nM D cy ad out u) _ s 0 0 (rA ad nM)) 0 [(0, .ref (ad 0)), (1, .int a1), (2, .int a2), (3, .int a3)] [] u
  refine v_aload_n C 0 dX12_partsAt_0 rfl rfl ?_
  refine v_getr C pM_0 fd_X12_7 rfl dX12_partsAt_1 ?_
  refine v_bipush C (v := 20) dX12_partsAt_4 (by decide) ?_
  refine v_bipush C (v := 96) dX12_partsAt_6 (by decide) ?_
  refine v_iload_n C 1 dX12_partsAt_8 rfl rfl ?_
  refine v_imul C dX12_partsAt_9 ?_
  refine v_iadd C dX12_partsAt_10 ?_
  refine v_bipush C (v := 6) dX12_partsAt_11 (by decide) ?_
  refine v_iload_n C 2 dX12_partsAt_13 rfl rfl ?_
  refine v_imul C dX12_partsAt_14 ?_
  refine v_iadd C dX12_partsAt_15 ?_
  refine v_iload_n C 3 dX12_partsAt_16 rfl rfl ?_
  refine v_iadd C dX12_partsAt_17 ?_
  refine v_iald C pM_1 dX12_partsAt_18 h (fun h => ?_)
  cases h
  exact v_iret C hr hlk dX12_partsAt_19
def rX12_sets : Room := { frames := 0, cells := 0, slots := 0, locals := 0 }
def fX12_sets (a1 : Int32) (a2 : Int32) (a3 : Int32) (a4 : Int32) (u : Mem) : Option Mem := (if inB (((20 + (96 * a1)) + (6 * a2)) + a3) 8320 then (some (si u 1 (((20 + (96 * a1)) + (6 * a2)) + a3).toNatClampNeg a4)) else none)
set_option maxHeartbeats 4000000 in
set_option maxRecDepth 100000 in
theorem cX12_sets_ct (l : Launch) (D : va_G) (cy : Nat → ClassId) (ad : Nat → Nat) (a1 : Int32) (a2 : Int32) (a3 : Int32) (a4 : Int32) (u : Mem)  (out : Mem) (h : fX12_sets a1 a2 a3 a4 u = some out) : Met l yX12_sets (.code yX12_sets cX12_sets 5 (none) :: gw) rX12_sets (va_Pc [.ref (ad 0), .int a1, .int a2, .int a3, .int a4] (wv shM nM D cy ad u)) (qV shM nM D cy ad out) 0 0 (rA ad nM) := by
  refine met_of (cc := cX12_sets) (nL := 5) (by decide) (Nat.le_of_ble_eq_true rfl) (fun p e s m below meth c C hr hlk => ?_)
  unfold fX12_sets at h
  show V shM nM D cy ad 5 p l e rX12_sets s m _ below meth c (MQ below (qV shM nM D cy ad out) _ s 0 0 (rA ad nM)) 0 [(0, .ref (ad 0)), (1, .int a1), (2, .int a2), (3, .int a3), (4, .int a4)] [] u
  refine v_aload_n C 0 dX12_sets_0 rfl rfl ?_
  refine v_getr C pM_0 fd_X12_7 rfl dX12_sets_1 ?_
  refine v_bipush C (v := 20) dX12_sets_4 (by decide) ?_
  refine v_bipush C (v := 96) dX12_sets_6 (by decide) ?_
  refine v_iload_n C 1 dX12_sets_8 rfl rfl ?_
  refine v_imul C dX12_sets_9 ?_
  refine v_iadd C dX12_sets_10 ?_
  refine v_bipush C (v := 6) dX12_sets_11 (by decide) ?_
  refine v_iload_n C 2 dX12_sets_13 rfl rfl ?_
  refine v_imul C dX12_sets_14 ?_
  refine v_iadd C dX12_sets_15 ?_
  refine v_iload_n C 3 dX12_sets_16 rfl rfl ?_
  refine v_iadd C dX12_sets_17 ?_
  refine v_iload C 4 dX12_sets_18 rfl ?_
  refine v_iast C pM_1 dX12_sets_20 h (fun h => ?_)
  cases h
  exact v_vret C hr hlk dX12_sets_21
def rX12_shell : Room := { frames := 2, cells := 0, slots := 0, locals := 45 }
def fX12_shell (a1 : Int32) (u : Mem) : Option (Int32 × Mem) := ((fX12_isStar a1).bind fun r2 => (if r2 = true then (if inB (2 + a1) 8320 then (if (u.1 1 (2 + a1).toNatClampNeg) = 16 then (some ((-1), u)) else (if inB (2 + a1) 8320 then (if inB (2 + a1) 8320 then ((some (si u 1 (2 + a1).toNatClampNeg ((u.1 1 (2 + a1).toNatClampNeg) + 1))).bind fun u5 => (if inB (2 + a1) 8320 then (some ((u5.1 1 (2 + a1).toNatClampNeg) - 1, u5)) else none)) else none) else none)) else none) else (some ((-1), u))))
set_option maxHeartbeats 4000000 in
set_option maxRecDepth 100000 in
theorem cX12_shell_ct (l : Launch) (D : va_G) (cy : Nat → ClassId) (ad : Nat → Nat) (a1 : Int32) (u : Mem)  (out : (Int32 × Mem)) (h : fX12_shell a1 u = some out) : Met l yX12_shell (.code yX12_shell cX12_shell 2 (some .int) :: gw) rX12_shell (va_Pc [.ref (ad 0), .int a1] (wv shM nM D cy ad u)) (qI shM nM D cy ad out.1 out.2) 0 0 (rA ad nM) := by
  refine met_of (cc := cX12_shell) (nL := 2) (by decide) (Nat.le_of_ble_eq_true rfl) (fun p e s m below meth c C hr hlk => ?_)
  unfold fX12_shell at h
  show V shM nM D cy ad 2 p l e rX12_shell s m _ below meth c (MQ below (qI shM nM D cy ad out.1 out.2) _ s 0 0 (rA ad nM)) 0 [(0, .ref (ad 0)), (1, .int a1)] [] u
  refine v_iload_n C 1 dX12_shell_0 rfl rfl ?_
  obtain ⟨r2, hc1, h⟩ := bnd h
  refine v_callSi C [.int a1] (cX12_isStar_ct l D cy ad a1 _ r2 hc1) ml_X12_82 ⟨Nat.le_of_ble_eq_true rfl, Nat.le_of_ble_eq_true rfl⟩ ⟨rfl, rfl⟩ rfl rfl (Nat.le_of_ble_eq_true rfl) dX12_shell_1 ?_
  refine v_z_eq C 20 dX12_shell_4 (by decide) h (fun h => ?_) (fun h => ?_)
  · refine v_aload_n C 0 dX12_shell_7 rfl rfl ?_
    refine v_getr C pM_0 fd_X12_7 rfl dX12_shell_8 ?_
    refine v_iconst C (v := 2) dX12_shell_11 (by decide) ?_
    refine v_iload_n C 1 dX12_shell_12 rfl rfl ?_
    refine v_iadd C dX12_shell_13 ?_
    refine v_iald C pM_1 dX12_shell_14 h (fun h => ?_)
    refine v_bipush C (v := 16) dX12_shell_15 (by decide) ?_
    refine v_icmp_ne C 22 dX12_shell_17 (by decide) h (fun h => ?_) (fun h => ?_)
    · refine v_iconst C (v := (-1)) dX12_shell_20 (by decide) ?_
      cases h
      exact v_iret C hr hlk dX12_shell_21
    · refine v_aload_n C 0 dX12_shell_22 rfl rfl ?_
      refine v_getr C pM_0 fd_X12_7 rfl dX12_shell_23 ?_
      refine v_iconst C (v := 2) dX12_shell_26 (by decide) ?_
      refine v_iload_n C 1 dX12_shell_27 rfl rfl ?_
      refine v_iadd C dX12_shell_28 ?_
      refine v_dup2 C rfl rfl dX12_shell_29 ?_
      refine v_iald C pM_1 dX12_shell_30 h (fun h => ?_)
      refine v_iconst C (v := 1) dX12_shell_31 (by decide) ?_
      refine v_iadd C dX12_shell_32 ?_
      refine v_iast C pM_1 dX12_shell_33 h (fun h => ?_)
      refine v_mem (fun u5 hu5 => ?_)
      have h := nmd hu5 h
      refine v_aload_n C 0 dX12_shell_34 rfl rfl ?_
      refine v_getr C pM_0 fd_X12_7 rfl dX12_shell_35 ?_
      refine v_iconst C (v := 2) dX12_shell_38 (by decide) ?_
      refine v_iload_n C 1 dX12_shell_39 rfl rfl ?_
      refine v_iadd C dX12_shell_40 ?_
      refine v_iald C pM_1 dX12_shell_41 h (fun h => ?_)
      refine v_iconst C (v := 1) dX12_shell_42 (by decide) ?_
      refine v_isub C dX12_shell_43 ?_
      cases h
      exact v_iret C hr hlk dX12_shell_44
  · refine v_iconst C (v := (-1)) dX12_shell_20 (by decide) ?_
    cases h
    exact v_iret C hr hlk dX12_shell_21
def rX12_fill : Room := { frames := 3, cells := 0, slots := 0, locals := 67 }
def fX12_fill (a1 : Int32) (a2 : Int32) (a3 : Int32) (a4 : Int32) (u : Mem) : Option (Bool × Mem) := ((fX12_isShell a1 a2 u).bind fun r2 => (if r2 = true then ((fX12_in a3.toInt64 0 5).bind fun r5 => (if r5 = true then ((fX12_in a4.toInt64 0 100000).bind fun r8 => (if r8 = true then ((fX12_sets a1 a2 a3 a4 u).bind fun u11 => (some (true, u11))) else (some (false, u)))) else (some (false, u)))) else (some (false, u))))
set_option maxHeartbeats 4000000 in
set_option maxRecDepth 100000 in
theorem cX12_fill_ct (l : Launch) (D : va_G) (cy : Nat → ClassId) (ad : Nat → Nat) (a1 : Int32) (a2 : Int32) (a3 : Int32) (a4 : Int32) (u : Mem)  (out : (Bool × Mem)) (h : fX12_fill a1 a2 a3 a4 u = some out) : Met l yX12_fill (.code yX12_fill cX12_fill 5 (some .boolean) :: gw) rX12_fill (va_Pc [.ref (ad 0), .int a1, .int a2, .int a3, .int a4] (wv shM nM D cy ad u)) (qI shM nM D cy ad (bz out.1) out.2) 0 0 (rA ad nM) := by
  refine met_of (cc := cX12_fill) (nL := 5) (by decide) (Nat.le_of_ble_eq_true rfl) (fun p e s m below meth c C hr hlk => ?_)
  unfold fX12_fill at h
  show V shM nM D cy ad 5 p l e rX12_fill s m _ below meth c (MQ below (qI shM nM D cy ad (bz out.1) out.2) _ s 0 0 (rA ad nM)) 0 [(0, .ref (ad 0)), (1, .int a1), (2, .int a2), (3, .int a3), (4, .int a4)] [] u
  refine v_aload_n C 0 dX12_fill_0 rfl rfl ?_
  refine v_iload_n C 1 dX12_fill_1 rfl rfl ?_
  refine v_iload_n C 2 dX12_fill_2 rfl rfl ?_
  obtain ⟨r2, hc1, h⟩ := bnd h
  refine v_callVi C [.int a1, .int a2] (cX12_isShell_ct l D cy ad a1 a2 u r2 hc1) ml_X12_218 pM_0 ⟨Nat.le_of_ble_eq_true rfl, Nat.le_of_ble_eq_true rfl⟩ ⟨rfl, rfl⟩ rfl rfl (Nat.le_of_ble_eq_true rfl) dX12_fill_3 ?_
  refine v_z_eq C 34 dX12_fill_6 (by decide) h (fun h => ?_) (fun h => ?_)
  · refine v_iload_n C 3 dX12_fill_9 rfl rfl ?_
    refine v_i2l C dX12_fill_10 ?_
    refine v_lconst C (v := 0) dX12_fill_11 (by decide) ?_
    refine v_ldc2 C kc_X12_197 dX12_fill_12 ?_
    obtain ⟨r5, hc4, h⟩ := bnd h
    refine v_callSi C [.long a3.toInt64, .long 0, .long 5] (cX12_in_ct l D cy ad a3.toInt64 0 5 _ r5 hc4) ml_X12_78 ⟨Nat.le_of_ble_eq_true rfl, Nat.le_of_ble_eq_true rfl⟩ ⟨rfl, rfl⟩ rfl rfl (Nat.le_of_ble_eq_true rfl) dX12_fill_15 ?_
    refine v_z_eq C 34 dX12_fill_18 (by decide) h (fun h => ?_) (fun h => ?_)
    · refine v_iload C 4 dX12_fill_21 rfl ?_
      refine v_i2l C dX12_fill_23 ?_
      refine v_lconst C (v := 0) dX12_fill_24 (by decide) ?_
      refine v_ldc2 C kc_X12_222 dX12_fill_25 ?_
      obtain ⟨r8, hc7, h⟩ := bnd h
      refine v_callSi C [.long a4.toInt64, .long 0, .long 100000] (cX12_in_ct l D cy ad a4.toInt64 0 100000 _ r8 hc7) ml_X12_78 ⟨Nat.le_of_ble_eq_true rfl, Nat.le_of_ble_eq_true rfl⟩ ⟨rfl, rfl⟩ rfl rfl (Nat.le_of_ble_eq_true rfl) dX12_fill_28 ?_
      refine v_z_ne C 36 dX12_fill_31 (by decide) h (fun h => ?_) (fun h => ?_)
      · refine v_aload_n C 0 dX12_fill_36 rfl rfl ?_
        refine v_iload_n C 1 dX12_fill_37 rfl rfl ?_
        refine v_iload_n C 2 dX12_fill_38 rfl rfl ?_
        refine v_iload_n C 3 dX12_fill_39 rfl rfl ?_
        refine v_iload C 4 dX12_fill_40 rfl ?_
        obtain ⟨u11, hc10, h⟩ := bnd h
        refine v_callVv C [.int a1, .int a2, .int a3, .int a4] (cX12_sets_ct l D cy ad a1 a2 a3 a4 u u11 hc10) ml_X12_224 pM_0 ⟨Nat.le_of_ble_eq_true rfl, Nat.le_of_ble_eq_true rfl⟩ ⟨rfl, rfl⟩ rfl rfl (Nat.le_of_ble_eq_true rfl) dX12_fill_42 ?_
        refine v_iconst C (v := 1) dX12_fill_45 (by decide) ?_
        cases h
        exact v_zret (b := true) C hr hlk dX12_fill_46
      · refine v_iconst C (v := 0) dX12_fill_34 (by decide) ?_
        cases h
        exact v_zret (b := false) C hr hlk dX12_fill_35
    · refine v_iconst C (v := 0) dX12_fill_34 (by decide) ?_
      cases h
      exact v_zret (b := false) C hr hlk dX12_fill_35
  · refine v_iconst C (v := 0) dX12_fill_34 (by decide) ?_
    cases h
    exact v_zret (b := false) C hr hlk dX12_fill_35
def rX12_parts : Room := { frames := 3, cells := 0, slots := 0, locals := 67 }
def fX12_parts (a1 : Int32) (a2 : Int32) (a3 : Int32) (u : Mem) : Option Int32 := ((fX12_isShell a1 a2 u).bind fun r2 => (if r2 = true then ((fX12_in a3.toInt64 0 5).bind fun r5 => (if r5 = true then ((fX12_partsAt a1 a2 a3 u).bind fun r8 => (some r8)) else (some (-1)))) else (some (-1))))
set_option maxHeartbeats 4000000 in
set_option maxRecDepth 100000 in
theorem cX12_parts_ct (l : Launch) (D : va_G) (cy : Nat → ClassId) (ad : Nat → Nat) (a1 : Int32) (a2 : Int32) (a3 : Int32) (u : Mem)  (out : Int32) (h : fX12_parts a1 a2 a3 u = some out) : Met l yX12_parts (.code yX12_parts cX12_parts 4 (some .int) :: gw) rX12_parts (va_Pc [.ref (ad 0), .int a1, .int a2, .int a3] (wv shM nM D cy ad u)) (qI shM nM D cy ad out u) 0 0 (rA ad nM) := by
  refine met_of (cc := cX12_parts) (nL := 4) (by decide) (Nat.le_of_ble_eq_true rfl) (fun p e s m below meth c C hr hlk => ?_)
  unfold fX12_parts at h
  show V shM nM D cy ad 4 p l e rX12_parts s m _ below meth c (MQ below (qI shM nM D cy ad out u) _ s 0 0 (rA ad nM)) 0 [(0, .ref (ad 0)), (1, .int a1), (2, .int a2), (3, .int a3)] [] u
  refine v_aload_n C 0 dX12_parts_0 rfl rfl ?_
  refine v_iload_n C 1 dX12_parts_1 rfl rfl ?_
  refine v_iload_n C 2 dX12_parts_2 rfl rfl ?_
  obtain ⟨r2, hc1, h⟩ := bnd h
  refine v_callVi C [.int a1, .int a2] (cX12_isShell_ct l D cy ad a1 a2 u r2 hc1) ml_X12_218 pM_0 ⟨Nat.le_of_ble_eq_true rfl, Nat.le_of_ble_eq_true rfl⟩ ⟨rfl, rfl⟩ rfl rfl (Nat.le_of_ble_eq_true rfl) dX12_parts_3 ?_
  refine v_z_eq C 31 dX12_parts_6 (by decide) h (fun h => ?_) (fun h => ?_)
  · refine v_iload_n C 3 dX12_parts_9 rfl rfl ?_
    refine v_i2l C dX12_parts_10 ?_
    refine v_lconst C (v := 0) dX12_parts_11 (by decide) ?_
    refine v_ldc2 C kc_X12_197 dX12_parts_12 ?_
    obtain ⟨r5, hc4, h⟩ := bnd h
    refine v_callSi C [.long a3.toInt64, .long 0, .long 5] (cX12_in_ct l D cy ad a3.toInt64 0 5 _ r5 hc4) ml_X12_78 ⟨Nat.le_of_ble_eq_true rfl, Nat.le_of_ble_eq_true rfl⟩ ⟨rfl, rfl⟩ rfl rfl (Nat.le_of_ble_eq_true rfl) dX12_parts_15 ?_
    refine v_z_eq C 31 dX12_parts_18 (by decide) h (fun h => ?_) (fun h => ?_)
    · refine v_aload_n C 0 dX12_parts_21 rfl rfl ?_
      refine v_iload_n C 1 dX12_parts_22 rfl rfl ?_
      refine v_iload_n C 2 dX12_parts_23 rfl rfl ?_
      refine v_iload_n C 3 dX12_parts_24 rfl rfl ?_
      obtain ⟨r8, hc7, h⟩ := bnd h
      refine v_callVi C [.int a1, .int a2, .int a3] (cX12_partsAt_ct l D cy ad a1 a2 a3 u r8 hc7) ml_X12_228 pM_0 ⟨Nat.le_of_ble_eq_true rfl, Nat.le_of_ble_eq_true rfl⟩ ⟨rfl, rfl⟩ rfl rfl (Nat.le_of_ble_eq_true rfl) dX12_parts_25 ?_
      refine v_goto C 32 dX12_parts_28 (by decide) ?_
      cases h
      exact v_iret C hr hlk dX12_parts_32
    · refine v_iconst C (v := (-1)) dX12_parts_31 (by decide) ?_
      cases h
      exact v_iret C hr hlk dX12_parts_32
  · refine v_iconst C (v := (-1)) dX12_parts_31 (by decide) ?_
    cases h
    exact v_iret C hr hlk dX12_parts_32
def rX12_rules : Room := { frames := 2, cells := 0, slots := 0, locals := 45 }
def fX12_rules (a1 : Int32) (a2 : Int32) (a3 : Int32) (u : Mem) : Option (Bool × Mem) := ((fX12_isStar a1).bind fun r2 => (if r2 = true then ((fX12_in a2.toInt64 1 100000).bind fun r5 => (if r5 = true then ((fX12_in a3.toInt64 0 1000000).bind fun r8 => (if r8 = true then (if inB (8 + a1) 8320 then (if inB (10 + a1) 8320 then ((some (si (si u 1 (8 + a1).toNatClampNeg a2) 1 (10 + a1).toNatClampNeg a3)).bind fun u10 => (some (true, u10))) else none) else none) else (some (false, u)))) else (some (false, u)))) else (some (false, u))))
set_option maxHeartbeats 4000000 in
set_option maxRecDepth 100000 in
theorem cX12_rules_ct (l : Launch) (D : va_G) (cy : Nat → ClassId) (ad : Nat → Nat) (a1 : Int32) (a2 : Int32) (a3 : Int32) (u : Mem)  (out : (Bool × Mem)) (h : fX12_rules a1 a2 a3 u = some out) : Met l yX12_rules (.code yX12_rules cX12_rules 4 (some .boolean) :: gw) rX12_rules (va_Pc [.ref (ad 0), .int a1, .int a2, .int a3] (wv shM nM D cy ad u)) (qI shM nM D cy ad (bz out.1) out.2) 0 0 (rA ad nM) := by
  refine met_of (cc := cX12_rules) (nL := 4) (by decide) (Nat.le_of_ble_eq_true rfl) (fun p e s m below meth c C hr hlk => ?_)
  unfold fX12_rules at h
  show V shM nM D cy ad 4 p l e rX12_rules s m _ below meth c (MQ below (qI shM nM D cy ad (bz out.1) out.2) _ s 0 0 (rA ad nM)) 0 [(0, .ref (ad 0)), (1, .int a1), (2, .int a2), (3, .int a3)] [] u
  refine v_iload_n C 1 dX12_rules_0 rfl rfl ?_
  obtain ⟨r2, hc1, h⟩ := bnd h
  refine v_callSi C [.int a1] (cX12_isStar_ct l D cy ad a1 _ r2 hc1) ml_X12_82 ⟨Nat.le_of_ble_eq_true rfl, Nat.le_of_ble_eq_true rfl⟩ ⟨rfl, rfl⟩ rfl rfl (Nat.le_of_ble_eq_true rfl) dX12_rules_1 ?_
  refine v_z_eq C 31 dX12_rules_4 (by decide) h (fun h => ?_) (fun h => ?_)
  · refine v_iload_n C 2 dX12_rules_7 rfl rfl ?_
    refine v_i2l C dX12_rules_8 ?_
    refine v_lconst C (v := 1) dX12_rules_9 (by decide) ?_
    refine v_ldc2 C kc_X12_222 dX12_rules_10 ?_
    obtain ⟨r5, hc4, h⟩ := bnd h
    refine v_callSi C [.long a2.toInt64, .long 1, .long 100000] (cX12_in_ct l D cy ad a2.toInt64 1 100000 _ r5 hc4) ml_X12_78 ⟨Nat.le_of_ble_eq_true rfl, Nat.le_of_ble_eq_true rfl⟩ ⟨rfl, rfl⟩ rfl rfl (Nat.le_of_ble_eq_true rfl) dX12_rules_13 ?_
    refine v_z_eq C 31 dX12_rules_16 (by decide) h (fun h => ?_) (fun h => ?_)
    · refine v_iload_n C 3 dX12_rules_19 rfl rfl ?_
      refine v_i2l C dX12_rules_20 ?_
      refine v_lconst C (v := 0) dX12_rules_21 (by decide) ?_
      refine v_ldc2 C kc_X12_232 dX12_rules_22 ?_
      obtain ⟨r8, hc7, h⟩ := bnd h
      refine v_callSi C [.long a3.toInt64, .long 0, .long 1000000] (cX12_in_ct l D cy ad a3.toInt64 0 1000000 _ r8 hc7) ml_X12_78 ⟨Nat.le_of_ble_eq_true rfl, Nat.le_of_ble_eq_true rfl⟩ ⟨rfl, rfl⟩ rfl rfl (Nat.le_of_ble_eq_true rfl) dX12_rules_25 ?_
      refine v_z_ne C 33 dX12_rules_28 (by decide) h (fun h => ?_) (fun h => ?_)
      · refine v_aload_n C 0 dX12_rules_33 rfl rfl ?_
        refine v_getr C pM_0 fd_X12_7 rfl dX12_rules_34 ?_
        refine v_bipush C (v := 8) dX12_rules_37 (by decide) ?_
        refine v_iload_n C 1 dX12_rules_39 rfl rfl ?_
        refine v_iadd C dX12_rules_40 ?_
        refine v_iload_n C 2 dX12_rules_41 rfl rfl ?_
        refine v_iast C pM_1 dX12_rules_42 h (fun h => ?_)
        refine v_aload_n C 0 dX12_rules_43 rfl rfl ?_
        refine v_getr C pM_0 fd_X12_7 rfl dX12_rules_44 ?_
        refine v_bipush C (v := 10) dX12_rules_47 (by decide) ?_
        refine v_iload_n C 1 dX12_rules_49 rfl rfl ?_
        refine v_iadd C dX12_rules_50 ?_
        refine v_iload_n C 3 dX12_rules_51 rfl rfl ?_
        refine v_iast C pM_1 dX12_rules_52 h (fun h => ?_)
        refine v_mem (fun u10 hu10 => ?_)
        have h := nmd hu10 h
        refine v_iconst C (v := 1) dX12_rules_53 (by decide) ?_
        cases h
        exact v_zret (b := true) C hr hlk dX12_rules_54
      · refine v_iconst C (v := 0) dX12_rules_31 (by decide) ?_
        cases h
        exact v_zret (b := false) C hr hlk dX12_rules_32
    · refine v_iconst C (v := 0) dX12_rules_31 (by decide) ?_
      cases h
      exact v_zret (b := false) C hr hlk dX12_rules_32
  · refine v_iconst C (v := 0) dX12_rules_31 (by decide) ?_
    cases h
    exact v_zret (b := false) C hr hlk dX12_rules_32
def rX12_weighs : Room := { frames := 2, cells := 0, slots := 0, locals := 42 }
def fX12_weighs_L5 (a1 : Int32) (a2 : Int32) (u : Mem) : Nat → Int32 → Int32 → Option Int32
  | 0, _, _ => none
  | t + 1, a3, a4 => (if 6 ≤ a4 then (some a3) else ((fX12_weightOf a4 u).bind fun r3 => ((fX12_partsAt a1 a2 a4 u).bind fun r5 => fX12_weighs_L5 a1 a2 u t (a3 + (r3 * r5)) (a4 + 1))))
def fX12_weighs (a1 : Int32) (a2 : Int32) (u : Mem) : Option Int32 := fX12_weighs_L5 a1 a2 u fu0 0 0
set_option maxHeartbeats 4000000 in
set_option maxRecDepth 100000 in
theorem kX12_weighs_L5 {l : Launch} {D : va_G} {cy : Nat → ClassId} {ad : Nat → Nat} {p : Program} {e : Env} {s : State} {m : MethodId} {args : Array Value} {below : List Frame} {meth : Method} {c : Code} (C : Cx nM D cy ad 5 cX12_weighs RX12 rX12_weighs p s m args c) (hr : meth.sig.returnType = some .int) (hlk : meth.locks = false) (a1 : Int32) (a2 : Int32)  (u : Mem) {out : Int32}  : ∀ (t : Nat) (a3 : Int32) (a4 : Int32), fX12_weighs_L5 a1 a2 u t a3 a4 = some out → V shM nM D cy ad 5 p l e rX12_weighs s m args below meth c (MQ below (qI shM nM D cy ad out u) args s 0 0 (rA ad nM)) 5 [(0, .ref (ad 0)), (1, .int a1), (2, .int a2), (3, .int a3), (4, .int a4)] [] u := by
  intro t
  induction t with
  | zero => intro a3 a4 h; rw [fX12_weighs_L5] at h; cases h
  | succ t ih =>
    intro a3 a4 h
    rw [fX12_weighs_L5] at h
    refine v_iload C 4 dX12_weighs_5 rfl ?_
    refine v_bipush C (v := 6) dX12_weighs_7 (by decide) ?_
    refine v_icmp_ge C 36 dX12_weighs_9 (by decide) h (fun h => ?_) (fun h => ?_)
    · refine v_iload_n C 3 dX12_weighs_36 rfl rfl ?_
      cases h
      exact v_iret C hr hlk dX12_weighs_37
    · refine v_iload_n C 3 dX12_weighs_12 rfl rfl ?_
      refine v_aload_n C 0 dX12_weighs_13 rfl rfl ?_
      refine v_iload C 4 dX12_weighs_14 rfl ?_
      obtain ⟨r3, hc2, h⟩ := bnd h
      refine v_callVi C [.int a4] (cX12_weightOf_ct l D cy ad a4 u r3 hc2) ml_X12_199 pM_0 ⟨Nat.le_of_ble_eq_true rfl, Nat.le_of_ble_eq_true rfl⟩ ⟨rfl, rfl⟩ rfl rfl (Nat.le_of_ble_eq_true rfl) dX12_weighs_16 ?_
      refine v_aload_n C 0 dX12_weighs_19 rfl rfl ?_
      refine v_iload_n C 1 dX12_weighs_20 rfl rfl ?_
      refine v_iload_n C 2 dX12_weighs_21 rfl rfl ?_
      refine v_iload C 4 dX12_weighs_22 rfl ?_
      obtain ⟨r5, hc4, h⟩ := bnd h
      refine v_callVi C [.int a1, .int a2, .int a4] (cX12_partsAt_ct l D cy ad a1 a2 a4 u r5 hc4) ml_X12_228 pM_0 ⟨Nat.le_of_ble_eq_true rfl, Nat.le_of_ble_eq_true rfl⟩ ⟨rfl, rfl⟩ rfl rfl (Nat.le_of_ble_eq_true rfl) dX12_weighs_24 ?_
      refine v_imul C dX12_weighs_27 ?_
      refine v_iadd C dX12_weighs_28 ?_
      refine v_istore_n C [(3, .int (a3 + (r3 * r5))), (0, .ref (ad 0)), (1, .int a1), (2, .int a2), (4, .int a4)] dX12_weighs_29 rfl (by decide) rfl ?_
      refine v_iinc C 4 (v := a4 + 1) [(4, .int (a4 + 1)), (3, .int (a3 + (r3 * r5))), (0, .ref (ad 0)), (1, .int a1), (2, .int a2)] dX12_weighs_30 rfl rfl (by decide) rfl ?_
      refine v_goto C 5 dX12_weighs_33 (by decide) ?_
      refine v_sub [2, 3, 4, 1, 0] rfl ?_
      exact ih (a3 + (r3 * r5)) (a4 + 1) h
set_option maxHeartbeats 4000000 in
set_option maxRecDepth 100000 in
theorem cX12_weighs_ct (l : Launch) (D : va_G) (cy : Nat → ClassId) (ad : Nat → Nat) (a1 : Int32) (a2 : Int32) (u : Mem)  (out : Int32) (h : fX12_weighs a1 a2 u = some out) : Met l yX12_weighs (.code yX12_weighs cX12_weighs 5 (some .int) :: gw) rX12_weighs (va_Pc [.ref (ad 0), .int a1, .int a2] (wv shM nM D cy ad u)) (qI shM nM D cy ad out u) 0 0 (rA ad nM) := by
  refine met_of (cc := cX12_weighs) (nL := 5) (by decide) (Nat.le_of_ble_eq_true rfl) (fun p e s m below meth c C hr hlk => ?_)
  unfold fX12_weighs at h
  show V shM nM D cy ad 5 p l e rX12_weighs s m _ below meth c (MQ below (qI shM nM D cy ad out u) _ s 0 0 (rA ad nM)) 0 [(0, .ref (ad 0)), (1, .int a1), (2, .int a2)] [] u
  refine v_iconst C (v := 0) dX12_weighs_0 (by decide) ?_
  refine v_istore_n C [(3, .int 0), (0, .ref (ad 0)), (1, .int a1), (2, .int a2)] dX12_weighs_1 rfl (by decide) rfl ?_
  refine v_iconst C (v := 0) dX12_weighs_2 (by decide) ?_
  refine v_istore C [(4, .int 0), (3, .int 0), (0, .ref (ad 0)), (1, .int a1), (2, .int a2)] dX12_weighs_3 (by decide) rfl ?_
  refine v_sub [2, 3, 4, 1, 0] rfl ?_
  refine kX12_weighs_L5 C hr hlk a1 a2 u   fu0 0 0 h
def rX12_needOf : Room := { frames := 3, cells := 0, slots := 0, locals := 66 }
def fX12_needOf_L15 (a1 : Int32) (a3 : Int32) (u : Mem) : Nat → Int32 → Int32 → Option Int32
  | 0, _, _ => none
  | t + 1, a4, a5 => (if inB (2 + a1) 8320 then (if (u.1 1 (2 + a1).toNatClampNeg) ≤ a5 then (if a3 = 0 then none else (some (a4 / a3))) else ((fX12_weighs a1 a5 u).bind fun r5 => fX12_needOf_L15 a1 a3 u t (a4 + r5) (a5 + 1))) else none)
def fX12_needOf (a1 : Int32) (a2 : Int32) (a3 : Int32) (u : Mem) : Option Int32 := ((fX12_weighs a1 a2 u).bind fun r2 => fX12_needOf_L15 a1 a3 u fu0 (r2 / 2) (a2 + 1))
set_option maxHeartbeats 4000000 in
set_option maxRecDepth 100000 in
theorem kX12_needOf_L15 {l : Launch} {D : va_G} {cy : Nat → ClassId} {ad : Nat → Nat} {p : Program} {e : Env} {s : State} {m : MethodId} {args : Array Value} {below : List Frame} {meth : Method} {c : Code} (C : Cx nM D cy ad 6 cX12_needOf RX12 rX12_needOf p s m args c) (hr : meth.sig.returnType = some .int) (hlk : meth.locks = false) (a1 : Int32) (a3 : Int32)  (u : Mem) {out : Int32}  : ∀ (t : Nat) (a4 : Int32) (a5 : Int32), fX12_needOf_L15 a1 a3 u t a4 a5 = some out → V shM nM D cy ad 6 p l e rX12_needOf s m args below meth c (MQ below (qI shM nM D cy ad out u) args s 0 0 (rA ad nM)) 15 [(0, .ref (ad 0)), (1, .int a1), (3, .int a3), (4, .int a4), (5, .int a5)] [] u := by
  intro t
  induction t with
  | zero => intro a4 a5 h; rw [fX12_needOf_L15] at h; cases h
  | succ t ih =>
    intro a4 a5 h
    rw [fX12_needOf_L15] at h
    refine v_iload C 4 dX12_needOf_15 rfl ?_
    refine v_aload_n C 0 dX12_needOf_17 rfl rfl ?_
    refine v_getr C pM_0 fd_X12_7 rfl dX12_needOf_18 ?_
    refine v_iconst C (v := 2) dX12_needOf_21 (by decide) ?_
    refine v_iload_n C 1 dX12_needOf_22 rfl rfl ?_
    refine v_iadd C dX12_needOf_23 ?_
    refine v_iald C pM_1 dX12_needOf_24 h (fun h => ?_)
    refine v_icmp_ge C 46 dX12_needOf_25 (by decide) h (fun h => ?_) (fun h => ?_)
    · refine v_iload C 3 dX12_needOf_46 rfl ?_
      refine v_iload_n C 2 dX12_needOf_48 rfl rfl ?_
      refine v_idiv C dX12_needOf_49 h (fun h => ?_)
      cases h
      exact v_iret C hr hlk dX12_needOf_50
    · refine v_iload C 3 dX12_needOf_28 rfl ?_
      refine v_aload_n C 0 dX12_needOf_30 rfl rfl ?_
      refine v_iload_n C 1 dX12_needOf_31 rfl rfl ?_
      refine v_iload C 4 dX12_needOf_32 rfl ?_
      obtain ⟨r5, hc4, h⟩ := bnd h
      refine v_callVi C [.int a1, .int a5] (cX12_weighs_ct l D cy ad a1 a5 u r5 hc4) ml_X12_234 pM_0 ⟨Nat.le_of_ble_eq_true rfl, Nat.le_of_ble_eq_true rfl⟩ ⟨rfl, rfl⟩ rfl rfl (Nat.le_of_ble_eq_true rfl) dX12_needOf_34 ?_
      refine v_iadd C dX12_needOf_37 ?_
      refine v_istore C [(4, .int (a4 + r5)), (0, .ref (ad 0)), (1, .int a1), (3, .int a3), (5, .int a5)] dX12_needOf_38 (by decide) rfl ?_
      refine v_iinc C 4 (v := a5 + 1) [(5, .int (a5 + 1)), (4, .int (a4 + r5)), (0, .ref (ad 0)), (1, .int a1), (3, .int a3)] dX12_needOf_40 rfl rfl (by decide) rfl ?_
      refine v_goto C 15 dX12_needOf_43 (by decide) ?_
      refine v_sub [2, 3, 4, 1, 0] rfl ?_
      exact ih (a4 + r5) (a5 + 1) h
set_option maxHeartbeats 4000000 in
set_option maxRecDepth 100000 in
theorem cX12_needOf_ct (l : Launch) (D : va_G) (cy : Nat → ClassId) (ad : Nat → Nat) (a1 : Int32) (a2 : Int32) (a3 : Int32) (u : Mem)  (out : Int32) (h : fX12_needOf a1 a2 a3 u = some out) : Met l yX12_needOf (.code yX12_needOf cX12_needOf 6 (some .int) :: gw) rX12_needOf (va_Pc [.ref (ad 0), .int a1, .int a2, .int a3] (wv shM nM D cy ad u)) (qI shM nM D cy ad out u) 0 0 (rA ad nM) := by
  refine met_of (cc := cX12_needOf) (nL := 6) (by decide) (Nat.le_of_ble_eq_true rfl) (fun p e s m below meth c C hr hlk => ?_)
  unfold fX12_needOf at h
  show V shM nM D cy ad 6 p l e rX12_needOf s m _ below meth c (MQ below (qI shM nM D cy ad out u) _ s 0 0 (rA ad nM)) 0 [(0, .ref (ad 0)), (1, .int a1), (2, .int a2), (3, .int a3)] [] u
  refine v_aload_n C 0 dX12_needOf_0 rfl rfl ?_
  refine v_iload_n C 1 dX12_needOf_1 rfl rfl ?_
  refine v_iload_n C 2 dX12_needOf_2 rfl rfl ?_
  obtain ⟨r2, hc1, h⟩ := bnd h
  refine v_callVi C [.int a1, .int a2] (cX12_weighs_ct l D cy ad a1 a2 u r2 hc1) ml_X12_234 pM_0 ⟨Nat.le_of_ble_eq_true rfl, Nat.le_of_ble_eq_true rfl⟩ ⟨rfl, rfl⟩ rfl rfl (Nat.le_of_ble_eq_true rfl) dX12_needOf_3 ?_
  refine v_iconst C (v := 2) dX12_needOf_6 (by decide) ?_
  refine v_idivN C dX12_needOf_7 (by decide) ?_
  refine v_istore C [(4, .int (r2 / 2)), (0, .ref (ad 0)), (1, .int a1), (2, .int a2), (3, .int a3)] dX12_needOf_8 (by decide) rfl ?_
  refine v_iload_n C 3 dX12_needOf_10 rfl rfl ?_
  refine v_iconst C (v := 1) dX12_needOf_11 (by decide) ?_
  refine v_iadd C dX12_needOf_12 ?_
  refine v_istore C [(5, .int (a2 + 1)), (4, .int (r2 / 2)), (0, .ref (ad 0)), (1, .int a1), (2, .int a2), (3, .int a3)] dX12_needOf_13 (by decide) rfl ?_
  refine v_sub [2, 3, 5, 1, 0] rfl ?_
  refine kX12_needOf_L15 C hr hlk a1 a3 u   fu0 (r2 / 2) (a2 + 1) h
