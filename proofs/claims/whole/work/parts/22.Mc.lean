def rX12_spans : Room := { frames := 2, cells := 0, slots := 0, locals := 56 }
def fX12_spans_L10 (a1 : Int32) (Rc2 : Int32 → Mem → Option Mem) : Nat → Int32 → Mem → Option Mem
  | 0, _, _ => none
  | t + 1, a2, u => (if 1000 ≤ a2 then Rc2 (a1 + 1) u else ((fX12_spanOf a1 a2 false u).bind fun r4 => (if inB ((1000 * a1) + a2) 7000 then ((fX12_spanOf a1 a2 true (si u 9 ((1000 * a1) + a2).toNatClampNeg r4)).bind fun r6 => (if inB ((1000 * a1) + a2) 7000 then ((some (si (si u 9 ((1000 * a1) + a2).toNatClampNeg r4) 10 ((1000 * a1) + a2).toNatClampNeg r6)).bind fun u7 => fX12_spans_L10 a1 Rc2 t (a2 + 1) u7) else none)) else none)))
def fX12_spans_L2  : Nat → Int32 → Mem → Option Mem
  | 0, _, _ => none
  | t + 1, a1, u => (if 7 ≤ a1 then (some u) else fX12_spans_L10 a1 (fX12_spans_L2 t) fu0 0 u)
def fX12_spans (u : Mem) : Option Mem := fX12_spans_L2 fu0 0 u
set_option maxHeartbeats 4000000 in
set_option maxRecDepth 100000 in
theorem kX12_spans_L10 {l : Launch} {D : va_G} {cy : Nat → ClassId} {ad : Nat → Nat} {p : Program} {e : Env} {s : State} {m : MethodId} {args : Array Value} {below : List Frame} {meth : Method} {c : Code} (C : Cx nM D cy ad 3 cX12_spans RX12 rX12_spans p s m args c) (hr : meth.sig.returnType = none) (hlk : meth.locks = false) (a1 : Int32)  {out : Mem} (Rc2 : Int32 → Mem → Option Mem) (hRc2 : ∀ (a1 : Int32) (w : Mem), Rc2 a1 w = some out → V shM nM D cy ad 3 p l e rX12_spans s m args below meth c (MQ below (qV shM nM D cy ad out) args s 0 0 (rA ad nM)) 2 [(0, .ref (ad 0)), (1, .int a1)] [] w) : ∀ (t : Nat) (a2 : Int32) (u : Mem), fX12_spans_L10 a1 Rc2 t a2 u = some out → V shM nM D cy ad 3 p l e rX12_spans s m args below meth c (MQ below (qV shM nM D cy ad out) args s 0 0 (rA ad nM)) 10 [(0, .ref (ad 0)), (1, .int a1), (2, .int a2)] [] u := by
  intro t
  induction t with
  | zero => intro a2 u h; rw [fX12_spans_L10] at h; cases h
  | succ t ih =>
    intro a2 u h
    rw [fX12_spans_L10] at h
    refine v_iload_n C 2 dX12_spans_10 rfl rfl ?_
    refine v_sipush C (v := 1000) dX12_spans_11 (by decide) ?_
    refine v_icmp_ge C 61 dX12_spans_14 (by decide) h (fun h => ?_) (fun h => ?_)
    · refine v_iinc C 1 (v := a1 + 1) [(1, .int (a1 + 1)), (0, .ref (ad 0)), (2, .int a2)] dX12_spans_61 rfl rfl (by decide) rfl ?_
      refine v_goto C 2 dX12_spans_64 (by decide) ?_
      refine v_sub [1, 0] rfl ?_
      exact hRc2 (a1 + 1) u h
    · refine v_aload_n C 0 dX12_spans_17 rfl rfl ?_
      refine v_getr C pM_0 fd_X12_47 rfl dX12_spans_18 ?_
      refine v_sipush C (v := 1000) dX12_spans_21 (by decide) ?_
      refine v_iload_n C 1 dX12_spans_24 rfl rfl ?_
      refine v_imul C dX12_spans_25 ?_
      refine v_iload_n C 2 dX12_spans_26 rfl rfl ?_
      refine v_iadd C dX12_spans_27 ?_
      refine v_aload_n C 0 dX12_spans_28 rfl rfl ?_
      refine v_iload_n C 1 dX12_spans_29 rfl rfl ?_
      refine v_iload_n C 2 dX12_spans_30 rfl rfl ?_
      refine v_iconst C (v := 0) dX12_spans_31 (by decide) ?_
      obtain ⟨r4, hc3, h⟩ := bnd h
      refine v_callVi C [.int a1, .int a2, .int (bz false)] (cX12_spanOf_ct l D cy ad a1 a2 false u r4 hc3) ml_X12_214 pM_0 ⟨Nat.le_of_ble_eq_true rfl, Nat.le_of_ble_eq_true rfl⟩ ⟨rfl, rfl⟩ rfl rfl (Nat.le_of_ble_eq_true rfl) dX12_spans_32 ?_
      refine v_iast C pM_9 dX12_spans_35 h (fun h => ?_)
      refine v_aload_n C 0 dX12_spans_36 rfl rfl ?_
      refine v_getr C pM_0 fd_X12_50 rfl dX12_spans_37 ?_
      refine v_sipush C (v := 1000) dX12_spans_40 (by decide) ?_
      refine v_iload_n C 1 dX12_spans_43 rfl rfl ?_
      refine v_imul C dX12_spans_44 ?_
      refine v_iload_n C 2 dX12_spans_45 rfl rfl ?_
      refine v_iadd C dX12_spans_46 ?_
      refine v_aload_n C 0 dX12_spans_47 rfl rfl ?_
      refine v_iload_n C 1 dX12_spans_48 rfl rfl ?_
      refine v_iload_n C 2 dX12_spans_49 rfl rfl ?_
      refine v_iconst C (v := 1) dX12_spans_50 (by decide) ?_
      obtain ⟨r6, hc5, h⟩ := bnd h
      refine v_callVi C [.int a1, .int a2, .int (bz true)] (cX12_spanOf_ct l D cy ad a1 a2 true (si u 9 ((1000 * a1) + a2).toNatClampNeg r4) r6 hc5) ml_X12_214 pM_0 ⟨Nat.le_of_ble_eq_true rfl, Nat.le_of_ble_eq_true rfl⟩ ⟨rfl, rfl⟩ rfl rfl (Nat.le_of_ble_eq_true rfl) dX12_spans_51 ?_
      refine v_iast C pM_10 dX12_spans_54 h (fun h => ?_)
      refine v_mem (fun u7 hu7 => ?_)
      have h := nmd hu7 h
      refine v_iinc C 2 (v := a2 + 1) [(2, .int (a2 + 1)), (0, .ref (ad 0)), (1, .int a1)] dX12_spans_55 rfl rfl (by decide) rfl ?_
      refine v_goto C 10 dX12_spans_58 (by decide) ?_
      refine v_sub [1, 2, 0] rfl ?_
      exact ih (a2 + 1) u7 h
set_option maxHeartbeats 4000000 in
set_option maxRecDepth 100000 in
theorem kX12_spans_L2 {l : Launch} {D : va_G} {cy : Nat → ClassId} {ad : Nat → Nat} {p : Program} {e : Env} {s : State} {m : MethodId} {args : Array Value} {below : List Frame} {meth : Method} {c : Code} (C : Cx nM D cy ad 3 cX12_spans RX12 rX12_spans p s m args c) (hr : meth.sig.returnType = none) (hlk : meth.locks = false)   {out : Mem}  : ∀ (t : Nat) (a1 : Int32) (u : Mem), fX12_spans_L2 t a1 u = some out → V shM nM D cy ad 3 p l e rX12_spans s m args below meth c (MQ below (qV shM nM D cy ad out) args s 0 0 (rA ad nM)) 2 [(0, .ref (ad 0)), (1, .int a1)] [] u := by
  intro t
  induction t with
  | zero => intro a1 u h; rw [fX12_spans_L2] at h; cases h
  | succ t ih =>
    intro a1 u h
    rw [fX12_spans_L2] at h
    refine v_iload_n C 1 dX12_spans_2 rfl rfl ?_
    refine v_bipush C (v := 7) dX12_spans_3 (by decide) ?_
    refine v_icmp_ge C 67 dX12_spans_5 (by decide) h (fun h => ?_) (fun h => ?_)
    · cases h
      exact v_vret C hr hlk dX12_spans_67
    · refine v_iconst C (v := 0) dX12_spans_8 (by decide) ?_
      refine v_istore_n C [(2, .int 0), (0, .ref (ad 0)), (1, .int a1)] dX12_spans_9 rfl (by decide) rfl ?_
      refine v_sub [1, 2, 0] rfl ?_
      refine kX12_spans_L10 C hr hlk a1 (fX12_spans_L2 t) ih fu0 0 u h
set_option maxHeartbeats 4000000 in
set_option maxRecDepth 100000 in
theorem cX12_spans_ct (l : Launch) (D : va_G) (cy : Nat → ClassId) (ad : Nat → Nat) (u : Mem)  (out : Mem) (h : fX12_spans u = some out) : Met l yX12_spans (.code yX12_spans cX12_spans 3 (none) :: gw) rX12_spans (va_Pc [.ref (ad 0)] (wv shM nM D cy ad u)) (qV shM nM D cy ad out) 0 0 (rA ad nM) := by
  refine met_of (cc := cX12_spans) (nL := 3) (by decide) (Nat.le_of_ble_eq_true rfl) (fun p e s m below meth c C hr hlk => ?_)
  unfold fX12_spans at h
  show V shM nM D cy ad 3 p l e rX12_spans s m _ below meth c (MQ below (qV shM nM D cy ad out) _ s 0 0 (rA ad nM)) 0 [(0, .ref (ad 0))] [] u
  refine v_iconst C (v := 0) dX12_spans_0 (by decide) ?_
  refine v_istore_n C [(1, .int 0), (0, .ref (ad 0))] dX12_spans_1 rfl (by decide) rfl ?_
  refine v_sub [1, 0] rfl ?_
  refine kX12_spans_L2 C hr hlk    fu0 0 u h
def rX12_canBe : Room := { frames := 1, cells := 0, slots := 0, locals := 25 }
def fX12_canBe (a1 : Int32) (a2 : Int32) (u : Mem) : Option Bool := (if inB a1 16 then (if inB a2 7000 then (if inB a2 7000 then ((fX12_in ((u.1 14 a1.toNatClampNeg).toInt64) ((u.1 9 a2.toNatClampNeg).toInt64) ((u.1 10 a2.toNatClampNeg).toInt64)).bind fun r2 => (some r2)) else none) else none) else none)
set_option maxHeartbeats 4000000 in
set_option maxRecDepth 100000 in
theorem cX12_canBe_ct (l : Launch) (D : va_G) (cy : Nat → ClassId) (ad : Nat → Nat) (a1 : Int32) (a2 : Int32) (u : Mem)  (out : Bool) (h : fX12_canBe a1 a2 u = some out) : Met l yX12_canBe (.code yX12_canBe cX12_canBe 3 (some .boolean) :: gw) rX12_canBe (va_Pc [.ref (ad 0), .int a1, .int a2] (wv shM nM D cy ad u)) (qI shM nM D cy ad (bz out) u) 0 0 (rA ad nM) := by
  refine met_of (cc := cX12_canBe) (nL := 3) (by decide) (Nat.le_of_ble_eq_true rfl) (fun p e s m below meth c C hr hlk => ?_)
  unfold fX12_canBe at h
  show V shM nM D cy ad 3 p l e rX12_canBe s m _ below meth c (MQ below (qI shM nM D cy ad (bz out) u) _ s 0 0 (rA ad nM)) 0 [(0, .ref (ad 0)), (1, .int a1), (2, .int a2)] [] u
  refine v_aload_n C 0 dX12_canBe_0 rfl rfl ?_
  refine v_getr C pM_0 fd_X12_62 rfl dX12_canBe_1 ?_
  refine v_iload_n C 1 dX12_canBe_4 rfl rfl ?_
  refine v_iald C pM_14 dX12_canBe_5 h (fun h => ?_)
  refine v_i2l C dX12_canBe_6 ?_
  refine v_aload_n C 0 dX12_canBe_7 rfl rfl ?_
  refine v_getr C pM_0 fd_X12_47 rfl dX12_canBe_8 ?_
  refine v_iload_n C 2 dX12_canBe_11 rfl rfl ?_
  refine v_iald C pM_9 dX12_canBe_12 h (fun h => ?_)
  refine v_i2l C dX12_canBe_13 ?_
  refine v_aload_n C 0 dX12_canBe_14 rfl rfl ?_
  refine v_getr C pM_0 fd_X12_50 rfl dX12_canBe_15 ?_
  refine v_iload_n C 2 dX12_canBe_18 rfl rfl ?_
  refine v_iald C pM_10 dX12_canBe_19 h (fun h => ?_)
  refine v_i2l C dX12_canBe_20 ?_
  obtain ⟨r2, hc1, h⟩ := bnd h
  refine v_callSi C [.long ((u.1 14 a1.toNatClampNeg).toInt64), .long ((u.1 9 a2.toNatClampNeg).toInt64), .long ((u.1 10 a2.toNatClampNeg).toInt64)] (cX12_in_ct l D cy ad ((u.1 14 a1.toNatClampNeg).toInt64) ((u.1 9 a2.toNatClampNeg).toInt64) ((u.1 10 a2.toNatClampNeg).toInt64) _ r2 hc1) ml_X12_78 ⟨Nat.le_of_ble_eq_true rfl, Nat.le_of_ble_eq_true rfl⟩ ⟨rfl, rfl⟩ rfl rfl (Nat.le_of_ble_eq_true rfl) dX12_canBe_21 ?_
  cases h
  exact v_zret C hr hlk dX12_canBe_24
def rX12_settles : Room := { frames := 4, cells := 0, slots := 0, locals := 91 }
def fX12_settles_J153 (Rc75 : Int32 → Mem → Option (Bool × Mem)) (a1 : Int32) (a2 : Int32) (a3 : Bool) (a4 : Int32) (a5 : Int32) (u : Mem) : Option (Bool × Mem) := (if inB a4 16 then (if (u.1 11 a4.toNatClampNeg) = 1 then (if inB a4 16 then Rc75 (a5 + 1) (si u 13 a4.toNatClampNeg a5) else none) else (if inB a4 16 then (if inB a4 16 then ((some (si u 13 a4.toNatClampNeg (u.1 13 a4.toNatClampNeg))).bind fun u16 => Rc75 (a5 + 1) u16) else none) else none)) else none)
def fX12_settles_J152 (Rc75 : Int32 → Mem → Option (Bool × Mem)) (a1 : Int32) (a2 : Int32) (a3 : Bool) (a4 : Int32) (a5 : Int32) (s0 : Int32) (s1 : Int32) (u : Mem) : Option (Bool × Mem) := (if inB s1 16 then fX12_settles_J153 Rc75 a1 a2 a3 a4 a5 (si u 12 s1.toNatClampNeg s0) else none)
def fX12_settles_J112 (Rc75 : Int32 → Mem → Option (Bool × Mem)) (a1 : Int32) (a2 : Int32) (a3 : Bool) (a4 : Int32) (a5 : Int32) (u : Mem) : Option (Bool × Mem) := (if inB a4 16 then (if inB a4 16 then ((some (si u 11 a4.toNatClampNeg ((u.1 11 a4.toNatClampNeg) + 1))).bind fun u13 => (if inB a4 16 then (if (u13.1 11 a4.toNatClampNeg) = 1 then fX12_settles_J152 Rc75 a1 a2 a3 a4 a5 a5 a4 u13 else (if inB a4 16 then fX12_settles_J152 Rc75 a1 a2 a3 a4 a5 (u13.1 12 a4.toNatClampNeg) a4 u13 else none)) else none)) else none) else none)
def fX12_settles_L75 (a1 : Int32) (a2 : Int32) (a3 : Bool) (a4 : Int32) (K189 : Mem → Option (Bool × Mem)) : Nat → Int32 → Mem → Option (Bool × Mem)
  | 0, _, _ => none
  | t + 1, a5, u => (if 1000 ≤ a5 then K189 u else ((fX12_canBe a4 a5 u).bind fun r9 => (if r9 = true then (if a5 = 0 then fX12_settles_J112 (fX12_settles_L75 a1 a2 a3 a4 K189 t) a1 a2 a3 a4 a5 u else ((fX12_canBe a4 (a5 - 1) u).bind fun r18 => (if r18 = true then fX12_settles_J153 (fX12_settles_L75 a1 a2 a3 a4 K189 t) a1 a2 a3 a4 a5 u else fX12_settles_J112 (fX12_settles_L75 a1 a2 a3 a4 K189 t) a1 a2 a3 a4 a5 u))) else fX12_settles_L75 a1 a2 a3 a4 K189 t (a5 + 1) u)))
def fX12_settles_L20 (a1 : Int32) (a2 : Int32) : Nat → Bool → Int32 → Mem → Option (Bool × Mem)
  | 0, _, _, _ => none
  | t + 1, a3, a4, u => (if inB (2 + a1) 8320 then (if (u.1 1 (2 + a1).toNatClampNeg) ≤ a4 then (some (a3, u)) else ((fX12_needOf a1 a4 a2 u).bind fun r4 => (if inB a4 16 then (if inB a4 16 then ((some (si (si u 14 a4.toNatClampNeg r4) 11 a4.toNatClampNeg 0)).bind fun u5 => (if inB a4 16 then (if inB a4 16 then ((some (si (si u5 12 a4.toNatClampNeg 0) 13 a4.toNatClampNeg 0)).bind fun u6 => fX12_settles_L75 a1 a2 a3 a4 (fun u20 => (if a3 = true then (if inB a4 16 then fX12_settles_L20 a1 a2 t (if (u20.1 11 a4.toNatClampNeg) ≤ 0 then false else true) (a4 + 1) u20 else none) else fX12_settles_L20 a1 a2 t false (a4 + 1) u20)) fu0 0 u6) else none) else none)) else none) else none))) else none)
def fX12_settles (a1 : Int32) (a2 : Int32) (u : Mem) : Option (Bool × Mem) := (if inB (2 + a1) 8320 then fX12_settles_L20 a1 a2 fu0 (if (u.1 1 (2 + a1).toNatClampNeg) ≤ 0 then false else true) 0 u else none)
set_option maxHeartbeats 4000000 in
set_option maxRecDepth 100000 in
theorem kX12_settles_J153 {l : Launch} {D : va_G} {cy : Nat → ClassId} {ad : Nat → Nat} {p : Program} {e : Env} {s : State} {m : MethodId} {args : Array Value} {below : List Frame} {meth : Method} {c : Code} (C : Cx nM D cy ad 6 cX12_settles RX12 rX12_settles p s m args c) (hr : meth.sig.returnType = some .boolean) (hlk : meth.locks = false) {out : (Bool × Mem)} (Rc75 : Int32 → Mem → Option (Bool × Mem))  (a1 : Int32) (a2 : Int32) (a3 : Bool) (a4 : Int32) (a5 : Int32) (u : Mem)  (hRc75 : ∀ (a5 : Int32) (w : Mem), Rc75 a5 w = some out → V shM nM D cy ad 6 p l e rX12_settles s m args below meth c (MQ below (qI shM nM D cy ad (bz out.1) out.2) args s 0 0 (rA ad nM)) 75 [(0, .ref (ad 0)), (1, .int a1), (2, .int a2), (3, .int (bz a3)), (4, .int a4), (5, .int a5)] [] w) (h : fX12_settles_J153 Rc75 a1 a2 a3 a4 a5 u = some out) : V shM nM D cy ad 6 p l e rX12_settles s m args below meth c (MQ below (qI shM nM D cy ad (bz out.1) out.2) args s 0 0 (rA ad nM)) 153 [(0, .ref (ad 0)), (1, .int a1), (2, .int a2), (3, .int (bz a3)), (4, .int a4), (5, .int a5)] [] u := by
  unfold fX12_settles_J153 at h
  refine v_aload_n C 0 dX12_settles_153 rfl rfl ?_
  refine v_getr C pM_0 fd_X12_59 rfl dX12_settles_154 ?_
  refine v_iload C 4 dX12_settles_157 rfl ?_
  refine v_aload_n C 0 dX12_settles_159 rfl rfl ?_
  refine v_getr C pM_0 fd_X12_53 rfl dX12_settles_160 ?_
  refine v_iload C 4 dX12_settles_163 rfl ?_
  refine v_iald C pM_11 dX12_settles_165 h (fun h => ?_)
  refine v_iconst C (v := 1) dX12_settles_166 (by decide) ?_
  refine v_icmp_ne C 175 dX12_settles_167 (by decide) h (fun h => ?_) (fun h => ?_)
  · refine v_iload C 5 dX12_settles_170 rfl ?_
    refine v_goto C 182 dX12_settles_172 (by decide) ?_
    refine v_iast C pM_13 dX12_settles_182 h (fun h => ?_)
    refine v_iinc C 5 (v := a5 + 1) [(5, .int (a5 + 1)), (0, .ref (ad 0)), (1, .int a1), (2, .int a2), (3, .int (bz a3)), (4, .int a4)] dX12_settles_183 rfl rfl (by decide) rfl ?_
    refine v_goto C 75 dX12_settles_186 (by decide) ?_
    refine v_sub [1, 2, 3, 4, 5, 0] rfl ?_
    exact hRc75 (a5 + 1) (si u 13 a4.toNatClampNeg a5) h
  · refine v_aload_n C 0 dX12_settles_175 rfl rfl ?_
    refine v_getr C pM_0 fd_X12_59 rfl dX12_settles_176 ?_
    refine v_iload C 4 dX12_settles_179 rfl ?_
    refine v_iald C pM_13 dX12_settles_181 h (fun h => ?_)
    refine v_iast C pM_13 dX12_settles_182 h (fun h => ?_)
    refine v_mem (fun u16 hu16 => ?_)
    have h := nmd hu16 h
    refine v_iinc C 5 (v := a5 + 1) [(5, .int (a5 + 1)), (0, .ref (ad 0)), (1, .int a1), (2, .int a2), (3, .int (bz a3)), (4, .int a4)] dX12_settles_183 rfl rfl (by decide) rfl ?_
    refine v_goto C 75 dX12_settles_186 (by decide) ?_
    refine v_sub [1, 2, 3, 4, 5, 0] rfl ?_
    exact hRc75 (a5 + 1) u16 h
set_option maxHeartbeats 4000000 in
set_option maxRecDepth 100000 in
theorem kX12_settles_J152 {l : Launch} {D : va_G} {cy : Nat → ClassId} {ad : Nat → Nat} {p : Program} {e : Env} {s : State} {m : MethodId} {args : Array Value} {below : List Frame} {meth : Method} {c : Code} (C : Cx nM D cy ad 6 cX12_settles RX12 rX12_settles p s m args c) (hr : meth.sig.returnType = some .boolean) (hlk : meth.locks = false) {out : (Bool × Mem)} (Rc75 : Int32 → Mem → Option (Bool × Mem))  (a1 : Int32) (a2 : Int32) (a3 : Bool) (a4 : Int32) (a5 : Int32) (s0 : Int32) (s1 : Int32) (u : Mem)  (hRc75 : ∀ (a5 : Int32) (w : Mem), Rc75 a5 w = some out → V shM nM D cy ad 6 p l e rX12_settles s m args below meth c (MQ below (qI shM nM D cy ad (bz out.1) out.2) args s 0 0 (rA ad nM)) 75 [(0, .ref (ad 0)), (1, .int a1), (2, .int a2), (3, .int (bz a3)), (4, .int a4), (5, .int a5)] [] w) (h : fX12_settles_J152 Rc75 a1 a2 a3 a4 a5 s0 s1 u = some out) : V shM nM D cy ad 6 p l e rX12_settles s m args below meth c (MQ below (qI shM nM D cy ad (bz out.1) out.2) args s 0 0 (rA ad nM)) 152 [(0, .ref (ad 0)), (1, .int a1), (2, .int a2), (3, .int (bz a3)), (4, .int a4), (5, .int a5)] [.int s0, .int s1, .ref (ad 12)] u := by
  unfold fX12_settles_J152 at h
  refine v_iast C pM_12 dX12_settles_152 h (fun h => ?_)
  exact kX12_settles_J153 C hr hlk Rc75 a1 a2 a3 a4 a5 (si u 12 s1.toNatClampNeg s0) hRc75 h
set_option maxHeartbeats 4000000 in
set_option maxRecDepth 100000 in
theorem kX12_settles_J112 {l : Launch} {D : va_G} {cy : Nat → ClassId} {ad : Nat → Nat} {p : Program} {e : Env} {s : State} {m : MethodId} {args : Array Value} {below : List Frame} {meth : Method} {c : Code} (C : Cx nM D cy ad 6 cX12_settles RX12 rX12_settles p s m args c) (hr : meth.sig.returnType = some .boolean) (hlk : meth.locks = false) {out : (Bool × Mem)} (Rc75 : Int32 → Mem → Option (Bool × Mem))  (a1 : Int32) (a2 : Int32) (a3 : Bool) (a4 : Int32) (a5 : Int32) (u : Mem)  (hRc75 : ∀ (a5 : Int32) (w : Mem), Rc75 a5 w = some out → V shM nM D cy ad 6 p l e rX12_settles s m args below meth c (MQ below (qI shM nM D cy ad (bz out.1) out.2) args s 0 0 (rA ad nM)) 75 [(0, .ref (ad 0)), (1, .int a1), (2, .int a2), (3, .int (bz a3)), (4, .int a4), (5, .int a5)] [] w) (h : fX12_settles_J112 Rc75 a1 a2 a3 a4 a5 u = some out) : V shM nM D cy ad 6 p l e rX12_settles s m args below meth c (MQ below (qI shM nM D cy ad (bz out.1) out.2) args s 0 0 (rA ad nM)) 112 [(0, .ref (ad 0)), (1, .int a1), (2, .int a2), (3, .int (bz a3)), (4, .int a4), (5, .int a5)] [] u := by
  unfold fX12_settles_J112 at h
  refine v_aload_n C 0 dX12_settles_112 rfl rfl ?_
  refine v_getr C pM_0 fd_X12_53 rfl dX12_settles_113 ?_
  refine v_iload C 4 dX12_settles_116 rfl ?_
  refine v_dup2 C rfl rfl dX12_settles_118 ?_
  refine v_iald C pM_11 dX12_settles_119 h (fun h => ?_)
  refine v_iconst C (v := 1) dX12_settles_120 (by decide) ?_
  refine v_iadd C dX12_settles_121 ?_
  refine v_iast C pM_11 dX12_settles_122 h (fun h => ?_)
  refine v_mem (fun u13 hu13 => ?_)
  have h := nmd hu13 h
  refine v_aload_n C 0 dX12_settles_123 rfl rfl ?_
  refine v_getr C pM_0 fd_X12_56 rfl dX12_settles_124 ?_
  refine v_iload C 4 dX12_settles_127 rfl ?_
  refine v_aload_n C 0 dX12_settles_129 rfl rfl ?_
  refine v_getr C pM_0 fd_X12_53 rfl dX12_settles_130 ?_
  refine v_iload C 4 dX12_settles_133 rfl ?_
  refine v_iald C pM_11 dX12_settles_135 h (fun h => ?_)
  refine v_iconst C (v := 1) dX12_settles_136 (by decide) ?_
  refine v_icmp_ne C 145 dX12_settles_137 (by decide) h (fun h => ?_) (fun h => ?_)
  · refine v_iload C 5 dX12_settles_140 rfl ?_
    refine v_goto C 152 dX12_settles_142 (by decide) ?_
    exact kX12_settles_J152 C hr hlk Rc75 a1 a2 a3 a4 a5 a5 a4 u13 hRc75 h
  · refine v_aload_n C 0 dX12_settles_145 rfl rfl ?_
    refine v_getr C pM_0 fd_X12_56 rfl dX12_settles_146 ?_
    refine v_iload C 4 dX12_settles_149 rfl ?_
    refine v_iald C pM_12 dX12_settles_151 h (fun h => ?_)
    exact kX12_settles_J152 C hr hlk Rc75 a1 a2 a3 a4 a5 (u13.1 12 a4.toNatClampNeg) a4 u13 hRc75 h
set_option maxHeartbeats 4000000 in
set_option maxRecDepth 100000 in
theorem kX12_settles_L75 {l : Launch} {D : va_G} {cy : Nat → ClassId} {ad : Nat → Nat} {p : Program} {e : Env} {s : State} {m : MethodId} {args : Array Value} {below : List Frame} {meth : Method} {c : Code} (C : Cx nM D cy ad 6 cX12_settles RX12 rX12_settles p s m args c) (hr : meth.sig.returnType = some .boolean) (hlk : meth.locks = false) (a1 : Int32) (a2 : Int32) (a3 : Bool) (a4 : Int32)  {out : (Bool × Mem)} (K189 : Mem → Option (Bool × Mem)) (hK189 : ∀ (w : Mem), K189 w = some out → V shM nM D cy ad 6 p l e rX12_settles s m args below meth c (MQ below (qI shM nM D cy ad (bz out.1) out.2) args s 0 0 (rA ad nM)) 189 [(0, .ref (ad 0)), (1, .int a1), (2, .int a2), (3, .int (bz a3)), (4, .int a4)] [] w) : ∀ (t : Nat) (a5 : Int32) (u : Mem), fX12_settles_L75 a1 a2 a3 a4 K189 t a5 u = some out → V shM nM D cy ad 6 p l e rX12_settles s m args below meth c (MQ below (qI shM nM D cy ad (bz out.1) out.2) args s 0 0 (rA ad nM)) 75 [(0, .ref (ad 0)), (1, .int a1), (2, .int a2), (3, .int (bz a3)), (4, .int a4), (5, .int a5)] [] u := by
  intro t
  induction t with
  | zero => intro a5 u h; rw [fX12_settles_L75] at h; cases h
  | succ t ih =>
    intro a5 u h
    rw [fX12_settles_L75] at h
    refine v_iload C 5 dX12_settles_75 rfl ?_
    refine v_sipush C (v := 1000) dX12_settles_77 (by decide) ?_
    refine v_icmp_ge C 189 dX12_settles_80 (by decide) h (fun h => ?_) (fun h => ?_)
    · refine v_sub [0, 1, 2, 3, 4] rfl ?_
      exact hK189 u h
    · refine v_aload_n C 0 dX12_settles_83 rfl rfl ?_
      refine v_iload C 4 dX12_settles_84 rfl ?_
      refine v_iload C 5 dX12_settles_86 rfl ?_
      obtain ⟨r9, hc8, h⟩ := bnd h
      refine v_callVi C [.int a4, .int a5] (cX12_canBe_ct l D cy ad a4 a5 u r9 hc8) ml_X12_240 pM_0 ⟨Nat.le_of_ble_eq_true rfl, Nat.le_of_ble_eq_true rfl⟩ ⟨rfl, rfl⟩ rfl rfl (Nat.le_of_ble_eq_true rfl) dX12_settles_88 ?_
      refine v_z_eq C 183 dX12_settles_91 (by decide) h (fun h => ?_) (fun h => ?_)
      · refine v_iload C 5 dX12_settles_94 rfl ?_
        refine v_if_eq C 112 dX12_settles_96 (by decide) h (fun h => ?_) (fun h => ?_)
        · exact kX12_settles_J112 C hr hlk (fX12_settles_L75 a1 a2 a3 a4 K189 t) a1 a2 a3 a4 a5 u ih h
        · refine v_aload_n C 0 dX12_settles_99 rfl rfl ?_
          refine v_iload C 4 dX12_settles_100 rfl ?_
          refine v_iload C 5 dX12_settles_102 rfl ?_
          refine v_iconst C (v := 1) dX12_settles_104 (by decide) ?_
          refine v_isub C dX12_settles_105 ?_
          obtain ⟨r18, hc17, h⟩ := bnd h
          refine v_callVi C [.int a4, .int (a5 - 1)] (cX12_canBe_ct l D cy ad a4 (a5 - 1) u r18 hc17) ml_X12_240 pM_0 ⟨Nat.le_of_ble_eq_true rfl, Nat.le_of_ble_eq_true rfl⟩ ⟨rfl, rfl⟩ rfl rfl (Nat.le_of_ble_eq_true rfl) dX12_settles_106 ?_
          refine v_z_ne C 153 dX12_settles_109 (by decide) h (fun h => ?_) (fun h => ?_)
          · exact kX12_settles_J153 C hr hlk (fX12_settles_L75 a1 a2 a3 a4 K189 t) a1 a2 a3 a4 a5 u ih h
          · exact kX12_settles_J112 C hr hlk (fX12_settles_L75 a1 a2 a3 a4 K189 t) a1 a2 a3 a4 a5 u ih h
      · refine v_iinc C 5 (v := a5 + 1) [(5, .int (a5 + 1)), (0, .ref (ad 0)), (1, .int a1), (2, .int a2), (3, .int (bz a3)), (4, .int a4)] dX12_settles_183 rfl rfl (by decide) rfl ?_
        refine v_goto C 75 dX12_settles_186 (by decide) ?_
        refine v_sub [1, 2, 3, 4, 5, 0] rfl ?_
        exact ih (a5 + 1) u h
set_option maxHeartbeats 4000000 in
set_option maxRecDepth 100000 in
theorem kX12_settles_L20 {l : Launch} {D : va_G} {cy : Nat → ClassId} {ad : Nat → Nat} {p : Program} {e : Env} {s : State} {m : MethodId} {args : Array Value} {below : List Frame} {meth : Method} {c : Code} (C : Cx nM D cy ad 6 cX12_settles RX12 rX12_settles p s m args c) (hr : meth.sig.returnType = some .boolean) (hlk : meth.locks = false) (a1 : Int32) (a2 : Int32)  {out : (Bool × Mem)}  : ∀ (t : Nat) (a3 : Bool) (a4 : Int32) (u : Mem), fX12_settles_L20 a1 a2 t a3 a4 u = some out → V shM nM D cy ad 6 p l e rX12_settles s m args below meth c (MQ below (qI shM nM D cy ad (bz out.1) out.2) args s 0 0 (rA ad nM)) 20 [(0, .ref (ad 0)), (1, .int a1), (2, .int a2), (3, .int (bz a3)), (4, .int a4)] [] u := by
  intro t
  induction t with
  | zero => intro a3 a4 u h; rw [fX12_settles_L20] at h; cases h
  | succ t ih =>
    intro a3 a4 u h
    rw [fX12_settles_L20] at h
    refine v_iload C 4 dX12_settles_20 rfl ?_
    refine v_aload_n C 0 dX12_settles_22 rfl rfl ?_
    refine v_getr C pM_0 fd_X12_7 rfl dX12_settles_23 ?_
    refine v_iconst C (v := 2) dX12_settles_26 (by decide) ?_
    refine v_iload_n C 1 dX12_settles_27 rfl rfl ?_
    refine v_iadd C dX12_settles_28 ?_
    refine v_iald C pM_1 dX12_settles_29 h (fun h => ?_)
    refine v_icmp_ge C 215 dX12_settles_30 (by decide) h (fun h => ?_) (fun h => ?_)
    · refine v_iload_n C 3 dX12_settles_215 rfl rfl ?_
      cases h
      exact v_zret C hr hlk dX12_settles_216
    · refine v_aload_n C 0 dX12_settles_33 rfl rfl ?_
      refine v_getr C pM_0 fd_X12_62 rfl dX12_settles_34 ?_
      refine v_iload C 4 dX12_settles_37 rfl ?_
      refine v_aload_n C 0 dX12_settles_39 rfl rfl ?_
      refine v_iload_n C 1 dX12_settles_40 rfl rfl ?_
      refine v_iload C 4 dX12_settles_41 rfl ?_
      refine v_iload_n C 2 dX12_settles_43 rfl rfl ?_
      obtain ⟨r4, hc3, h⟩ := bnd h
      refine v_callVi C [.int a1, .int a4, .int a2] (cX12_needOf_ct l D cy ad a1 a4 a2 u r4 hc3) ml_X12_237 pM_0 ⟨Nat.le_of_ble_eq_true rfl, Nat.le_of_ble_eq_true rfl⟩ ⟨rfl, rfl⟩ rfl rfl (Nat.le_of_ble_eq_true rfl) dX12_settles_44 ?_
      refine v_iast C pM_14 dX12_settles_47 h (fun h => ?_)
      refine v_aload_n C 0 dX12_settles_48 rfl rfl ?_
      refine v_getr C pM_0 fd_X12_53 rfl dX12_settles_49 ?_
      refine v_iload C 4 dX12_settles_52 rfl ?_
      refine v_iconst C (v := 0) dX12_settles_54 (by decide) ?_
      refine v_iast C pM_11 dX12_settles_55 h (fun h => ?_)
      refine v_mem (fun u5 hu5 => ?_)
      have h := nmd hu5 h
      refine v_aload_n C 0 dX12_settles_56 rfl rfl ?_
      refine v_getr C pM_0 fd_X12_56 rfl dX12_settles_57 ?_
      refine v_iload C 4 dX12_settles_60 rfl ?_
      refine v_iconst C (v := 0) dX12_settles_62 (by decide) ?_
      refine v_iast C pM_12 dX12_settles_63 h (fun h => ?_)
      refine v_aload_n C 0 dX12_settles_64 rfl rfl ?_
      refine v_getr C pM_0 fd_X12_59 rfl dX12_settles_65 ?_
      refine v_iload C 4 dX12_settles_68 rfl ?_
      refine v_iconst C (v := 0) dX12_settles_70 (by decide) ?_
      refine v_iast C pM_13 dX12_settles_71 h (fun h => ?_)
      refine v_mem (fun u6 hu6 => ?_)
      have h := nmd hu6 h
      refine v_iconst C (v := 0) dX12_settles_72 (by decide) ?_
      refine v_istore C [(5, .int 0), (0, .ref (ad 0)), (1, .int a1), (2, .int a2), (3, .int (bz a3)), (4, .int a4)] dX12_settles_73 (by decide) rfl ?_
      refine v_sub [1, 2, 3, 4, 5, 0] rfl ?_
      refine kX12_settles_L75 C hr hlk a1 a2 a3 a4 _ (fun u20 h => ?_) fu0 0 u6 h
      · refine v_iload_n C 3 dX12_settles_189 rfl rfl ?_
        refine v_z_eq C 207 dX12_settles_190 (by decide) h (fun h => ?_) (fun h => ?_)
        · refine v_aload_n C 0 dX12_settles_193 rfl rfl ?_
          refine v_getr C pM_0 fd_X12_53 rfl dX12_settles_194 ?_
          refine v_iload C 4 dX12_settles_197 rfl ?_
          refine v_iald C pM_11 dX12_settles_199 h (fun h => ?_)
          refine v_dia 208 (.int (bz (if (u20.1 11 a4.toNatClampNeg) ≤ 0 then false else true))) [] ?_ (fun hj => ?_)
          · refine v_istore_n C [(3, .int (bz (if (u20.1 11 a4.toNatClampNeg) ≤ 0 then false else true))), (0, .ref (ad 0)), (1, .int a1), (2, .int a2), (4, .int a4)] dX12_settles_208 rfl (by decide) rfl ?_
            refine v_iinc C 4 (v := a4 + 1) [(4, .int (a4 + 1)), (3, .int (bz (if (u20.1 11 a4.toNatClampNeg) ≤ 0 then false else true))), (0, .ref (ad 0)), (1, .int a1), (2, .int a2)] dX12_settles_209 rfl rfl (by decide) rfl ?_
            refine v_goto C 20 dX12_settles_212 (by decide) ?_
            refine v_sub [2, 3, 4, 1, 0] rfl ?_
            exact ih (if (u20.1 11 a4.toNatClampNeg) ≤ 0 then false else true) (a4 + 1) u20 h
          · refine p_if_le C 207 dX12_settles_200 (by decide) (fun z22 => ?_) (fun z22 => ?_)
            · refine v_iconst C (v := 0) dX12_settles_207 (by decide) ?_
              exact v_top (by rw [if_pos z22]; first | done | rfl) hj
            · refine v_iconst C (v := 1) dX12_settles_203 (by decide) ?_
              refine v_goto C 208 dX12_settles_204 (by decide) ?_
              exact v_top (by rw [if_neg z22]; first | done | rfl) hj
        · refine v_iconst C (v := 0) dX12_settles_207 (by decide) ?_
          refine v_istore_n C [(3, .int 0), (0, .ref (ad 0)), (1, .int a1), (2, .int a2), (4, .int a4)] dX12_settles_208 rfl (by decide) rfl ?_
          refine v_iinc C 4 (v := a4 + 1) [(4, .int (a4 + 1)), (3, .int 0), (0, .ref (ad 0)), (1, .int a1), (2, .int a2)] dX12_settles_209 rfl rfl (by decide) rfl ?_
          refine v_goto C 20 dX12_settles_212 (by decide) ?_
          refine v_sub [2, 3, 4, 1, 0] rfl ?_
          exact ih false (a4 + 1) u20 h
set_option maxHeartbeats 4000000 in
set_option maxRecDepth 100000 in
theorem cX12_settles_ct (l : Launch) (D : va_G) (cy : Nat → ClassId) (ad : Nat → Nat) (a1 : Int32) (a2 : Int32) (u : Mem)  (out : (Bool × Mem)) (h : fX12_settles a1 a2 u = some out) : Met l yX12_settles (.code yX12_settles cX12_settles 6 (some .boolean) :: gw) rX12_settles (va_Pc [.ref (ad 0), .int a1, .int a2] (wv shM nM D cy ad u)) (qI shM nM D cy ad (bz out.1) out.2) 0 0 (rA ad nM) := by
  refine met_of (cc := cX12_settles) (nL := 6) (by decide) (Nat.le_of_ble_eq_true rfl) (fun p e s m below meth c C hr hlk => ?_)
  unfold fX12_settles at h
  show V shM nM D cy ad 6 p l e rX12_settles s m _ below meth c (MQ below (qI shM nM D cy ad (bz out.1) out.2) _ s 0 0 (rA ad nM)) 0 [(0, .ref (ad 0)), (1, .int a1), (2, .int a2)] [] u
  refine v_aload_n C 0 dX12_settles_0 rfl rfl ?_
  refine v_getr C pM_0 fd_X12_7 rfl dX12_settles_1 ?_
  refine v_iconst C (v := 2) dX12_settles_4 (by decide) ?_
  refine v_iload_n C 1 dX12_settles_5 rfl rfl ?_
  refine v_iadd C dX12_settles_6 ?_
  refine v_iald C pM_1 dX12_settles_7 h (fun h => ?_)
  refine v_dia 16 (.int (bz (if (u.1 1 (2 + a1).toNatClampNeg) ≤ 0 then false else true))) [] ?_ (fun hj => ?_)
  · refine v_istore_n C [(3, .int (bz (if (u.1 1 (2 + a1).toNatClampNeg) ≤ 0 then false else true))), (0, .ref (ad 0)), (1, .int a1), (2, .int a2)] dX12_settles_16 rfl (by decide) rfl ?_
    refine v_iconst C (v := 0) dX12_settles_17 (by decide) ?_
    refine v_istore C [(4, .int 0), (3, .int (bz (if (u.1 1 (2 + a1).toNatClampNeg) ≤ 0 then false else true))), (0, .ref (ad 0)), (1, .int a1), (2, .int a2)] dX12_settles_18 (by decide) rfl ?_
    refine v_sub [2, 3, 4, 1, 0] rfl ?_
    refine kX12_settles_L20 C hr hlk a1 a2   fu0 (if (u.1 1 (2 + a1).toNatClampNeg) ≤ 0 then false else true) 0 u h
  · refine p_if_le C 15 dX12_settles_8 (by decide) (fun z1 => ?_) (fun z1 => ?_)
    · refine v_iconst C (v := 0) dX12_settles_15 (by decide) ?_
      exact v_top (by rw [if_pos z1]; first | done | rfl) hj
    · refine v_iconst C (v := 1) dX12_settles_11 (by decide) ?_
      refine v_goto C 16 dX12_settles_12 (by decide) ?_
      exact v_top (by rw [if_neg z1]; first | done | rfl) hj
def rX12_least : Room := { frames := 0, cells := 0, slots := 0, locals := 0 }
def fX12_least_L7 (a0 : Nat) (a2 : Int32) (u : Mem) : Nat → Int32 → Int32 → Option Int32
  | 0, _, _ => none
  | t + 1, a3, a4 => (if a2 < a4 then (some a3) else (if inB a4 7000 then (if a3 ≤ (u.1 a0 a4.toNatClampNeg) then fX12_least_L7 a0 a2 u t a3 (a4 + 1) else (if inB a4 7000 then fX12_least_L7 a0 a2 u t (u.1 a0 a4.toNatClampNeg) (a4 + 1) else none)) else none))
def fX12_least (i0 : Nat) (a1 : Int32) (a2 : Int32) (u : Mem) : Option Int32 := (if inB a1 7000 then fX12_least_L7 i0 a2 u fu0 (u.1 i0 a1.toNatClampNeg) a1 else none)
set_option maxHeartbeats 4000000 in
set_option maxRecDepth 100000 in
theorem kX12_least_L7 {l : Launch} {D : va_G} {cy : Nat → ClassId} {ad : Nat → Nat} {p : Program} {e : Env} {s : State} {m : MethodId} {args : Array Value} {below : List Frame} {meth : Method} {c : Code} (C : Cx nM D cy ad 5 cX12_least RX12 rX12_least p s m args c) (hr : meth.sig.returnType = some .int) (hlk : meth.locks = false) (a0 : Nat) (a2 : Int32) (ha0 : Pl shM nM a0 (.inr (0, 7000, fun _ => 0))) (u : Mem) {out : Int32}  : ∀ (t : Nat) (a3 : Int32) (a4 : Int32), fX12_least_L7 a0 a2 u t a3 a4 = some out → V shM nM D cy ad 5 p l e rX12_least s m args below meth c (MQ below (qI shM nM D cy ad out u) args s 0 0 (rA ad nM)) 7 [(0, .ref (ad a0)), (2, .int a2), (3, .int a3), (4, .int a4)] [] u := by
  intro t
  induction t with
  | zero => intro a3 a4 h; rw [fX12_least_L7] at h; cases h
  | succ t ih =>
    intro a3 a4 h
    rw [fX12_least_L7] at h
    refine v_iload C 3 dX12_least_7 rfl ?_
    refine v_iload_n C 1 dX12_least_9 rfl rfl ?_
    refine v_icmp_gt C 36 dX12_least_10 (by decide) h (fun h => ?_) (fun h => ?_)
    · refine v_iload_n C 2 dX12_least_36 rfl rfl ?_
      cases h
      exact v_iret C hr hlk dX12_least_37
    · refine v_aload_n C 0 dX12_least_13 rfl rfl ?_
      refine v_iload C 3 dX12_least_14 rfl ?_
      refine v_iald C ha0 dX12_least_16 h (fun h => ?_)
      refine v_iload_n C 2 dX12_least_17 rfl rfl ?_
      refine v_icmp_ge C 28 dX12_least_18 (by decide) h (fun h => ?_) (fun h => ?_)
      · refine v_iload_n C 2 dX12_least_28 rfl rfl ?_
        refine v_istore_n C [(3, .int a3), (0, .ref (ad a0)), (2, .int a2), (4, .int a4)] dX12_least_29 rfl (by decide) rfl ?_
        refine v_iinc C 3 (v := a4 + 1) [(4, .int (a4 + 1)), (3, .int a3), (0, .ref (ad a0)), (2, .int a2)] dX12_least_30 rfl rfl (by decide) rfl ?_
        refine v_goto C 7 dX12_least_33 (by decide) ?_
        refine v_sub [2, 3, 1, 0] rfl ?_
        exact ih a3 (a4 + 1) h
      · refine v_aload_n C 0 dX12_least_21 rfl rfl ?_
        refine v_iload C 3 dX12_least_22 rfl ?_
        refine v_iald C ha0 dX12_least_24 h (fun h => ?_)
        refine v_goto C 29 dX12_least_25 (by decide) ?_
        refine v_istore_n C [(3, .int (u.1 a0 a4.toNatClampNeg)), (0, .ref (ad a0)), (2, .int a2), (4, .int a4)] dX12_least_29 rfl (by decide) rfl ?_
        refine v_iinc C 3 (v := a4 + 1) [(4, .int (a4 + 1)), (3, .int (u.1 a0 a4.toNatClampNeg)), (0, .ref (ad a0)), (2, .int a2)] dX12_least_30 rfl rfl (by decide) rfl ?_
        refine v_goto C 7 dX12_least_33 (by decide) ?_
        refine v_sub [2, 3, 1, 0] rfl ?_
        exact ih (u.1 a0 a4.toNatClampNeg) (a4 + 1) h
set_option maxHeartbeats 4000000 in
set_option maxRecDepth 100000 in
theorem cX12_least_ct (l : Launch) (D : va_G) (cy : Nat → ClassId) (ad : Nat → Nat) (i0 : Nat) (a1 : Int32) (a2 : Int32) (u : Mem) (hi0 : Pl shM nM i0 (.inr (0, 7000, fun _ => 0))) (out : Int32) (h : fX12_least i0 a1 a2 u = some out) : Met l yX12_least (.code yX12_least cX12_least 5 (some .int) :: gw) rX12_least (va_Pc [.ref (ad i0), .int a1, .int a2] (wv shM nM D cy ad u)) (qI shM nM D cy ad out u) 0 0 (rA ad nM) := by
  refine met_of (cc := cX12_least) (nL := 5) (by decide) (Nat.le_of_ble_eq_true rfl) (fun p e s m below meth c C hr hlk => ?_)
  unfold fX12_least at h
  show V shM nM D cy ad 5 p l e rX12_least s m _ below meth c (MQ below (qI shM nM D cy ad out u) _ s 0 0 (rA ad nM)) 0 [(0, .ref (ad i0)), (1, .int a1), (2, .int a2)] [] u
  refine v_aload_n C 0 dX12_least_0 rfl rfl ?_
  refine v_iload_n C 1 dX12_least_1 rfl rfl ?_
  refine v_iald C hi0 dX12_least_2 h (fun h => ?_)
  refine v_istore_n C [(3, .int (u.1 i0 a1.toNatClampNeg)), (0, .ref (ad i0)), (1, .int a1), (2, .int a2)] dX12_least_3 rfl (by decide) rfl ?_
  refine v_iload_n C 2 dX12_least_4 rfl rfl ?_
  refine v_istore C [(4, .int a1), (3, .int (u.1 i0 a1.toNatClampNeg)), (0, .ref (ad i0)), (1, .int a1), (2, .int a2)] dX12_least_5 (by decide) rfl ?_
  refine v_sub [2, 4, 1, 0] rfl ?_
  refine kX12_least_L7 C hr hlk i0 a2 hi0 u   fu0 (u.1 i0 a1.toNatClampNeg) a1 h
def rX12_most : Room := { frames := 0, cells := 0, slots := 0, locals := 0 }
def fX12_most_L7 (a0 : Nat) (a2 : Int32) (u : Mem) : Nat → Int32 → Int32 → Option Int32
  | 0, _, _ => none
  | t + 1, a3, a4 => (if a2 < a4 then (some a3) else (if inB a4 7000 then (if (u.1 a0 a4.toNatClampNeg) ≤ a3 then fX12_most_L7 a0 a2 u t a3 (a4 + 1) else (if inB a4 7000 then fX12_most_L7 a0 a2 u t (u.1 a0 a4.toNatClampNeg) (a4 + 1) else none)) else none))
def fX12_most (i0 : Nat) (a1 : Int32) (a2 : Int32) (u : Mem) : Option Int32 := (if inB a1 7000 then fX12_most_L7 i0 a2 u fu0 (u.1 i0 a1.toNatClampNeg) a1 else none)
set_option maxHeartbeats 4000000 in
set_option maxRecDepth 100000 in
theorem kX12_most_L7 {l : Launch} {D : va_G} {cy : Nat → ClassId} {ad : Nat → Nat} {p : Program} {e : Env} {s : State} {m : MethodId} {args : Array Value} {below : List Frame} {meth : Method} {c : Code} (C : Cx nM D cy ad 5 cX12_most RX12 rX12_most p s m args c) (hr : meth.sig.returnType = some .int) (hlk : meth.locks = false) (a0 : Nat) (a2 : Int32) (ha0 : Pl shM nM a0 (.inr (0, 7000, fun _ => 0))) (u : Mem) {out : Int32}  : ∀ (t : Nat) (a3 : Int32) (a4 : Int32), fX12_most_L7 a0 a2 u t a3 a4 = some out → V shM nM D cy ad 5 p l e rX12_most s m args below meth c (MQ below (qI shM nM D cy ad out u) args s 0 0 (rA ad nM)) 7 [(0, .ref (ad a0)), (2, .int a2), (3, .int a3), (4, .int a4)] [] u := by
  intro t
  induction t with
  | zero => intro a3 a4 h; rw [fX12_most_L7] at h; cases h
  | succ t ih =>
    intro a3 a4 h
    rw [fX12_most_L7] at h
    refine v_iload C 3 dX12_most_7 rfl ?_
    refine v_iload_n C 1 dX12_most_9 rfl rfl ?_
    refine v_icmp_gt C 36 dX12_most_10 (by decide) h (fun h => ?_) (fun h => ?_)
    · refine v_iload_n C 2 dX12_most_36 rfl rfl ?_
      cases h
      exact v_iret C hr hlk dX12_most_37
    · refine v_aload_n C 0 dX12_most_13 rfl rfl ?_
      refine v_iload C 3 dX12_most_14 rfl ?_
      refine v_iald C ha0 dX12_most_16 h (fun h => ?_)
      refine v_iload_n C 2 dX12_most_17 rfl rfl ?_
      refine v_icmp_le C 28 dX12_most_18 (by decide) h (fun h => ?_) (fun h => ?_)
      · refine v_iload_n C 2 dX12_most_28 rfl rfl ?_
        refine v_istore_n C [(3, .int a3), (0, .ref (ad a0)), (2, .int a2), (4, .int a4)] dX12_most_29 rfl (by decide) rfl ?_
        refine v_iinc C 3 (v := a4 + 1) [(4, .int (a4 + 1)), (3, .int a3), (0, .ref (ad a0)), (2, .int a2)] dX12_most_30 rfl rfl (by decide) rfl ?_
        refine v_goto C 7 dX12_most_33 (by decide) ?_
        refine v_sub [2, 3, 1, 0] rfl ?_
        exact ih a3 (a4 + 1) h
      · refine v_aload_n C 0 dX12_most_21 rfl rfl ?_
        refine v_iload C 3 dX12_most_22 rfl ?_
        refine v_iald C ha0 dX12_most_24 h (fun h => ?_)
        refine v_goto C 29 dX12_most_25 (by decide) ?_
        refine v_istore_n C [(3, .int (u.1 a0 a4.toNatClampNeg)), (0, .ref (ad a0)), (2, .int a2), (4, .int a4)] dX12_most_29 rfl (by decide) rfl ?_
        refine v_iinc C 3 (v := a4 + 1) [(4, .int (a4 + 1)), (3, .int (u.1 a0 a4.toNatClampNeg)), (0, .ref (ad a0)), (2, .int a2)] dX12_most_30 rfl rfl (by decide) rfl ?_
        refine v_goto C 7 dX12_most_33 (by decide) ?_
        refine v_sub [2, 3, 1, 0] rfl ?_
        exact ih (u.1 a0 a4.toNatClampNeg) (a4 + 1) h
set_option maxHeartbeats 4000000 in
set_option maxRecDepth 100000 in
theorem cX12_most_ct (l : Launch) (D : va_G) (cy : Nat → ClassId) (ad : Nat → Nat) (i0 : Nat) (a1 : Int32) (a2 : Int32) (u : Mem) (hi0 : Pl shM nM i0 (.inr (0, 7000, fun _ => 0))) (out : Int32) (h : fX12_most i0 a1 a2 u = some out) : Met l yX12_most (.code yX12_most cX12_most 5 (some .int) :: gw) rX12_most (va_Pc [.ref (ad i0), .int a1, .int a2] (wv shM nM D cy ad u)) (qI shM nM D cy ad out u) 0 0 (rA ad nM) := by
  refine met_of (cc := cX12_most) (nL := 5) (by decide) (Nat.le_of_ble_eq_true rfl) (fun p e s m below meth c C hr hlk => ?_)
  unfold fX12_most at h
  show V shM nM D cy ad 5 p l e rX12_most s m _ below meth c (MQ below (qI shM nM D cy ad out u) _ s 0 0 (rA ad nM)) 0 [(0, .ref (ad i0)), (1, .int a1), (2, .int a2)] [] u
  refine v_aload_n C 0 dX12_most_0 rfl rfl ?_
  refine v_iload_n C 1 dX12_most_1 rfl rfl ?_
  refine v_iald C hi0 dX12_most_2 h (fun h => ?_)
  refine v_istore_n C [(3, .int (u.1 i0 a1.toNatClampNeg)), (0, .ref (ad i0)), (1, .int a1), (2, .int a2)] dX12_most_3 rfl (by decide) rfl ?_
  refine v_iload_n C 2 dX12_most_4 rfl rfl ?_
  refine v_istore C [(4, .int a1), (3, .int (u.1 i0 a1.toNatClampNeg)), (0, .ref (ad i0)), (1, .int a1), (2, .int a2)] dX12_most_5 (by decide) rfl ?_
  refine v_sub [2, 4, 1, 0] rfl ?_
  refine kX12_most_L7 C hr hlk i0 a2 hi0 u   fu0 (u.1 i0 a1.toNatClampNeg) a1 h
def rX12_throughOf : Room := { frames := 2, cells := 0, slots := 0, locals := 43 }
def fX12_throughOf_J119 (Rc15 : Int64 → Int32 → Option Int64) (a1 : Int32) (a2 : Int32) (a3 : Bool) (a4 : Int64) (a6 : Int32) (a7 : Int32) (a8 : Int32) (s0 : Int32) (u : Mem) : Option Int64 := ((fX12_chainOf a7 4 u).bind fun r17 => Rc15 (a4 + (((if s0 ≤ a8 then s0 else a8).toInt64) * r17.toInt64)) (a7 + 1))
def fX12_throughOf_L15 (a1 : Int32) (a2 : Int32) (a3 : Bool) (a6 : Int32) (u : Mem) (Rc6 : Int64 → Int32 → Option Int64) : Nat → Int64 → Int32 → Option Int64
  | 0, _, _ => none
  | t + 1, a4, a7 => (if 5 ≤ a7 then Rc6 a4 (a6 + 1) else ((fX12_isChain a7 u).bind fun r4 => (if r4 = true then ((fX12_chainOf a7 0 u).bind fun r7 => ((fX12_partsAt a1 a6 r7 u).bind fun r9 => ((fX12_chainOf a7 1 u).bind fun r11 => (if r11 = 0 then none else (if inB a6 16 then (if inB a6 16 then (if a3 = true then ((fX12_most 10 ((1000 * (2 + a7)) + (u.1 12 a6.toNatClampNeg)) ((1000 * (2 + a7)) + (u.1 13 a6.toNatClampNeg)) u).bind fun r14 => fX12_throughOf_J119 (fX12_throughOf_L15 a1 a2 a3 a6 u Rc6 t) a1 a2 a3 a4 a6 a7 (r9 / r11) r14 u) else ((fX12_least 9 ((1000 * (2 + a7)) + (u.1 12 a6.toNatClampNeg)) ((1000 * (2 + a7)) + (u.1 13 a6.toNatClampNeg)) u).bind fun r19 => fX12_throughOf_J119 (fX12_throughOf_L15 a1 a2 a3 a6 u Rc6 t) a1 a2 a3 a4 a6 a7 (r9 / r11) r19 u)) else none) else none))))) else fX12_throughOf_L15 a1 a2 a3 a6 u Rc6 t a4 (a7 + 1))))
def fX12_throughOf_L6 (a1 : Int32) (a2 : Int32) (a3 : Bool) (u : Mem) : Nat → Int64 → Int32 → Option Int64
  | 0, _, _ => none
  | t + 1, a4, a6 => (if a2 < a6 then (some a4) else fX12_throughOf_L15 a1 a2 a3 a6 u (fX12_throughOf_L6 a1 a2 a3 u t) fu0 a4 0)
def fX12_throughOf (a1 : Int32) (a2 : Int32) (a3 : Bool) (u : Mem) : Option Int64 := fX12_throughOf_L6 a1 a2 a3 u fu0 0 0
set_option maxHeartbeats 4000000 in
set_option maxRecDepth 100000 in
theorem kX12_throughOf_J119 {l : Launch} {D : va_G} {cy : Nat → ClassId} {ad : Nat → Nat} {p : Program} {e : Env} {s : State} {m : MethodId} {args : Array Value} {below : List Frame} {meth : Method} {c : Code} (C : Cx nM D cy ad 12 cX12_throughOf RX12 rX12_throughOf p s m args c) (hr : meth.sig.returnType = some .long) (hlk : meth.locks = false) {out : Int64} (Rc15 : Int64 → Int32 → Option Int64)  (a1 : Int32) (a2 : Int32) (a3 : Bool) (a4 : Int64) (a6 : Int32) (a7 : Int32) (a8 : Int32) (s0 : Int32) (u : Mem)  (hRc15 : ∀ (a4 : Int64) (a7 : Int32), Rc15 a4 a7 = some out → V shM nM D cy ad 12 p l e rX12_throughOf s m args below meth c (MQ below (qL shM nM D cy ad out u) args s 0 0 (rA ad nM)) 15 [(0, .ref (ad 0)), (1, .int a1), (2, .int a2), (3, .int (bz a3)), (4, .long a4), (6, .int a6), (7, .int a7)] [] u) (h : fX12_throughOf_J119 Rc15 a1 a2 a3 a4 a6 a7 a8 s0 u = some out) : V shM nM D cy ad 12 p l e rX12_throughOf s m args below meth c (MQ below (qL shM nM D cy ad out u) args s 0 0 (rA ad nM)) 119 [(0, .ref (ad 0)), (1, .int a1), (2, .int a2), (3, .int (bz a3)), (4, .long a4), (6, .int a6), (7, .int a7), (8, .int a8)] [.int s0] u := by
  unfold fX12_throughOf_J119 at h
  refine v_istore C [(11, .int s0), (0, .ref (ad 0)), (1, .int a1), (2, .int a2), (3, .int (bz a3)), (4, .long a4), (6, .int a6), (7, .int a7), (8, .int a8)] dX12_throughOf_119 (by decide) rfl ?_
  refine v_lload C 5 dX12_throughOf_121 rfl ?_
  refine v_iload C 8 dX12_throughOf_123 rfl ?_
  refine v_iload C 0 dX12_throughOf_125 rfl ?_
  refine v_dia 137 (.int (if s0 ≤ a8 then s0 else a8)) [.long a4] ?_ (fun hj => ?_)
  · refine v_i2l C dX12_throughOf_137 ?_
    refine v_aload_n C 1 dX12_throughOf_138 rfl rfl ?_
    refine v_iload C 7 dX12_throughOf_139 rfl ?_
    refine v_iconst C (v := 4) dX12_throughOf_141 (by decide) ?_
    obtain ⟨r17, hc16, h⟩ := bnd h
    refine v_callVi C [.int a7, .int 4] (cX12_chainOf_ct l D cy ad a7 4 u r17 hc16) ml_X12_205 pM_0 ⟨Nat.le_of_ble_eq_true rfl, Nat.le_of_ble_eq_true rfl⟩ ⟨rfl, rfl⟩ rfl rfl (Nat.le_of_ble_eq_true rfl) dX12_throughOf_142 ?_
    refine v_i2l C dX12_throughOf_145 ?_
    refine v_lmul C dX12_throughOf_146 ?_
    refine v_ladd C dX12_throughOf_147 ?_
    refine v_lstore C [(4, .long (a4 + (((if s0 ≤ a8 then s0 else a8).toInt64) * r17.toInt64))), (11, .int s0), (0, .ref (ad 0)), (1, .int a1), (2, .int a2), (3, .int (bz a3)), (6, .int a6), (7, .int a7), (8, .int a8)] dX12_throughOf_148 (by decide) rfl ?_
    refine v_iinc C 7 (v := a7 + 1) [(7, .int (a7 + 1)), (4, .long (a4 + (((if s0 ≤ a8 then s0 else a8).toInt64) * r17.toInt64))), (11, .int s0), (0, .ref (ad 0)), (1, .int a1), (2, .int a2), (3, .int (bz a3)), (6, .int a6), (8, .int a8)] dX12_throughOf_150 rfl rfl (by decide) rfl ?_
    refine v_goto C 15 dX12_throughOf_153 (by decide) ?_
    refine v_sub [3, 4, 5, 6, 1, 7, 0] rfl ?_
    exact hRc15 (a4 + (((if s0 ≤ a8 then s0 else a8).toInt64) * r17.toInt64)) (a7 + 1) h
  · refine p_icmp_ge C 135 dX12_throughOf_127 (by decide) (fun z15 => ?_) (fun z15 => ?_)
    · refine v_iload C 0 dX12_throughOf_135 rfl ?_
      exact v_top (by rw [if_pos z15]; first | done | rfl) hj
    · refine v_iload C 8 dX12_throughOf_130 rfl ?_
      refine v_goto C 137 dX12_throughOf_132 (by decide) ?_
      exact v_top (by rw [if_neg z15]; first | done | rfl) hj
set_option maxHeartbeats 4000000 in
set_option maxRecDepth 100000 in
theorem kX12_throughOf_L15 {l : Launch} {D : va_G} {cy : Nat → ClassId} {ad : Nat → Nat} {p : Program} {e : Env} {s : State} {m : MethodId} {args : Array Value} {below : List Frame} {meth : Method} {c : Code} (C : Cx nM D cy ad 12 cX12_throughOf RX12 rX12_throughOf p s m args c) (hr : meth.sig.returnType = some .long) (hlk : meth.locks = false) (a1 : Int32) (a2 : Int32) (a3 : Bool) (a6 : Int32)  (u : Mem) {out : Int64} (Rc6 : Int64 → Int32 → Option Int64) (hRc6 : ∀ (a4 : Int64) (a6 : Int32), Rc6 a4 a6 = some out → V shM nM D cy ad 12 p l e rX12_throughOf s m args below meth c (MQ below (qL shM nM D cy ad out u) args s 0 0 (rA ad nM)) 6 [(0, .ref (ad 0)), (1, .int a1), (2, .int a2), (3, .int (bz a3)), (4, .long a4), (6, .int a6)] [] u) : ∀ (t : Nat) (a4 : Int64) (a7 : Int32), fX12_throughOf_L15 a1 a2 a3 a6 u Rc6 t a4 a7 = some out → V shM nM D cy ad 12 p l e rX12_throughOf s m args below meth c (MQ below (qL shM nM D cy ad out u) args s 0 0 (rA ad nM)) 15 [(0, .ref (ad 0)), (1, .int a1), (2, .int a2), (3, .int (bz a3)), (4, .long a4), (6, .int a6), (7, .int a7)] [] u := by
  intro t
  induction t with
  | zero => intro a4 a7 h; rw [fX12_throughOf_L15] at h; cases h
  | succ t ih =>
    intro a4 a7 h
    rw [fX12_throughOf_L15] at h
    refine v_iload C 6 dX12_throughOf_15 rfl ?_
    refine v_iconst C (v := 5) dX12_throughOf_17 (by decide) ?_
    refine v_icmp_ge C 156 dX12_throughOf_18 (by decide) h (fun h => ?_) (fun h => ?_)
    · refine v_iinc C 5 (v := a6 + 1) [(6, .int (a6 + 1)), (0, .ref (ad 0)), (1, .int a1), (2, .int a2), (3, .int (bz a3)), (4, .long a4), (7, .int a7)] dX12_throughOf_156 rfl rfl (by decide) rfl ?_
      refine v_goto C 6 dX12_throughOf_159 (by decide) ?_
      refine v_sub [1, 2, 3, 4, 5, 0] rfl ?_
      exact hRc6 a4 (a6 + 1) h
    · refine v_aload_n C 0 dX12_throughOf_21 rfl rfl ?_
      refine v_iload C 6 dX12_throughOf_22 rfl ?_
      obtain ⟨r4, hc3, h⟩ := bnd h
      refine v_callVi C [.int a7] (cX12_isChain_ct l D cy ad a7 u r4 hc3) ml_X12_202 pM_0 ⟨Nat.le_of_ble_eq_true rfl, Nat.le_of_ble_eq_true rfl⟩ ⟨rfl, rfl⟩ rfl rfl (Nat.le_of_ble_eq_true rfl) dX12_throughOf_24 ?_
      refine v_z_eq C 150 dX12_throughOf_27 (by decide) h (fun h => ?_) (fun h => ?_)
      · refine v_aload_n C 0 dX12_throughOf_30 rfl rfl ?_
        refine v_iload_n C 1 dX12_throughOf_31 rfl rfl ?_
        refine v_iload C 5 dX12_throughOf_32 rfl ?_
        refine v_aload_n C 0 dX12_throughOf_34 rfl rfl ?_
        refine v_iload C 6 dX12_throughOf_35 rfl ?_
        refine v_iconst C (v := 0) dX12_throughOf_37 (by decide) ?_
        obtain ⟨r7, hc6, h⟩ := bnd h
        refine v_callVi C [.int a7, .int 0] (cX12_chainOf_ct l D cy ad a7 0 u r7 hc6) ml_X12_205 pM_0 ⟨Nat.le_of_ble_eq_true rfl, Nat.le_of_ble_eq_true rfl⟩ ⟨rfl, rfl⟩ rfl rfl (Nat.le_of_ble_eq_true rfl) dX12_throughOf_38 ?_
        obtain ⟨r9, hc8, h⟩ := bnd h
        refine v_callVi C [.int a1, .int a6, .int r7] (cX12_partsAt_ct l D cy ad a1 a6 r7 u r9 hc8) ml_X12_228 pM_0 ⟨Nat.le_of_ble_eq_true rfl, Nat.le_of_ble_eq_true rfl⟩ ⟨rfl, rfl⟩ rfl rfl (Nat.le_of_ble_eq_true rfl) dX12_throughOf_41 ?_
        refine v_aload_n C 0 dX12_throughOf_44 rfl rfl ?_
        refine v_iload C 6 dX12_throughOf_45 rfl ?_
        refine v_iconst C (v := 1) dX12_throughOf_47 (by decide) ?_
        obtain ⟨r11, hc10, h⟩ := bnd h
        refine v_callVi C [.int a7, .int 1] (cX12_chainOf_ct l D cy ad a7 1 u r11 hc10) ml_X12_205 pM_0 ⟨Nat.le_of_ble_eq_true rfl, Nat.le_of_ble_eq_true rfl⟩ ⟨rfl, rfl⟩ rfl rfl (Nat.le_of_ble_eq_true rfl) dX12_throughOf_48 ?_
        refine v_idiv C dX12_throughOf_51 h (fun h => ?_)
        refine v_istore C [(8, .int (r9 / r11)), (0, .ref (ad 0)), (1, .int a1), (2, .int a2), (3, .int (bz a3)), (4, .long a4), (6, .int a6), (7, .int a7)] dX12_throughOf_52 (by decide) rfl ?_
        refine v_sipush C (v := 1000) dX12_throughOf_54 (by decide) ?_
        refine v_iconst C (v := 2) dX12_throughOf_57 (by decide) ?_
        refine v_iload C 7 dX12_throughOf_58 rfl ?_
        refine v_iadd C dX12_throughOf_60 ?_
        refine v_imul C dX12_throughOf_61 ?_
        refine v_aload_n C 1 dX12_throughOf_62 rfl rfl ?_
        refine v_getr C pM_0 fd_X12_56 rfl dX12_throughOf_63 ?_
        refine v_iload C 6 dX12_throughOf_66 rfl ?_
        refine v_iald C pM_12 dX12_throughOf_68 h (fun h => ?_)
        refine v_iadd C dX12_throughOf_69 ?_
        refine v_istore C [(9, .int ((1000 * (2 + a7)) + (u.1 12 a6.toNatClampNeg))), (8, .int (r9 / r11)), (0, .ref (ad 0)), (1, .int a1), (2, .int a2), (3, .int (bz a3)), (4, .long a4), (6, .int a6), (7, .int a7)] dX12_throughOf_70 (by decide) rfl ?_
        refine v_sipush C (v := 1000) dX12_throughOf_72 (by decide) ?_
        refine v_iconst C (v := 2) dX12_throughOf_75 (by decide) ?_
        refine v_iload C 8 dX12_throughOf_76 rfl ?_
        refine v_iadd C dX12_throughOf_78 ?_
        refine v_imul C dX12_throughOf_79 ?_
        refine v_aload_n C 2 dX12_throughOf_80 rfl rfl ?_
        refine v_getr C pM_0 fd_X12_59 rfl dX12_throughOf_81 ?_
        refine v_iload C 7 dX12_throughOf_84 rfl ?_
        refine v_iald C pM_13 dX12_throughOf_86 h (fun h => ?_)
        refine v_iadd C dX12_throughOf_87 ?_
        refine v_istore C [(10, .int ((1000 * (2 + a7)) + (u.1 13 a6.toNatClampNeg))), (9, .int ((1000 * (2 + a7)) + (u.1 12 a6.toNatClampNeg))), (8, .int (r9 / r11)), (0, .ref (ad 0)), (1, .int a1), (2, .int a2), (3, .int (bz a3)), (4, .long a4), (6, .int a6), (7, .int a7)] dX12_throughOf_88 (by decide) rfl ?_
        refine v_iload_n C 6 dX12_throughOf_90 rfl rfl ?_
        refine v_z_eq C 108 dX12_throughOf_91 (by decide) h (fun h => ?_) (fun h => ?_)
        · refine v_aload_n C 3 dX12_throughOf_94 rfl rfl ?_
          refine v_getr C pM_0 fd_X12_50 rfl dX12_throughOf_95 ?_
          refine v_iload C 1 dX12_throughOf_98 rfl ?_
          refine v_iload C 0 dX12_throughOf_100 rfl ?_
          obtain ⟨r14, hc13, h⟩ := bnd h
          refine v_callSi C [.ref (ad 10), .int ((1000 * (2 + a7)) + (u.1 12 a6.toNatClampNeg)), .int ((1000 * (2 + a7)) + (u.1 13 a6.toNatClampNeg))] (cX12_most_ct l D cy ad 10 ((1000 * (2 + a7)) + (u.1 12 a6.toNatClampNeg)) ((1000 * (2 + a7)) + (u.1 13 a6.toNatClampNeg)) u pM_10 r14 hc13) ml_X12_243 ⟨Nat.le_of_ble_eq_true rfl, Nat.le_of_ble_eq_true rfl⟩ ⟨rfl, rfl⟩ rfl rfl (Nat.le_of_ble_eq_true rfl) dX12_throughOf_102 ?_
          refine v_goto C 119 dX12_throughOf_105 (by decide) ?_
          refine v_sub [3, 4, 5, 6, 7, 8, 9, 2] rfl ?_
          exact kX12_throughOf_J119 C hr hlk (fX12_throughOf_L15 a1 a2 a3 a6 u Rc6 t) a1 a2 a3 a4 a6 a7 (r9 / r11) r14 u ih h
        · refine v_aload_n C 3 dX12_throughOf_108 rfl rfl ?_
          refine v_getr C pM_0 fd_X12_47 rfl dX12_throughOf_109 ?_
          refine v_iload C 1 dX12_throughOf_112 rfl ?_
          refine v_iload C 0 dX12_throughOf_114 rfl ?_
          obtain ⟨r19, hc18, h⟩ := bnd h
          refine v_callSi C [.ref (ad 9), .int ((1000 * (2 + a7)) + (u.1 12 a6.toNatClampNeg)), .int ((1000 * (2 + a7)) + (u.1 13 a6.toNatClampNeg))] (cX12_least_ct l D cy ad 9 ((1000 * (2 + a7)) + (u.1 12 a6.toNatClampNeg)) ((1000 * (2 + a7)) + (u.1 13 a6.toNatClampNeg)) u pM_9 r19 hc18) ml_X12_247 ⟨Nat.le_of_ble_eq_true rfl, Nat.le_of_ble_eq_true rfl⟩ ⟨rfl, rfl⟩ rfl rfl (Nat.le_of_ble_eq_true rfl) dX12_throughOf_116 ?_
          refine v_sub [3, 4, 5, 6, 7, 8, 9, 2] rfl ?_
          exact kX12_throughOf_J119 C hr hlk (fX12_throughOf_L15 a1 a2 a3 a6 u Rc6 t) a1 a2 a3 a4 a6 a7 (r9 / r11) r19 u ih h
      · refine v_iinc C 6 (v := a7 + 1) [(7, .int (a7 + 1)), (0, .ref (ad 0)), (1, .int a1), (2, .int a2), (3, .int (bz a3)), (4, .long a4), (6, .int a6)] dX12_throughOf_150 rfl rfl (by decide) rfl ?_
        refine v_goto C 15 dX12_throughOf_153 (by decide) ?_
        refine v_sub [1, 2, 3, 4, 5, 6, 0] rfl ?_
        exact ih a4 (a7 + 1) h
set_option maxHeartbeats 4000000 in
set_option maxRecDepth 100000 in
theorem kX12_throughOf_L6 {l : Launch} {D : va_G} {cy : Nat → ClassId} {ad : Nat → Nat} {p : Program} {e : Env} {s : State} {m : MethodId} {args : Array Value} {below : List Frame} {meth : Method} {c : Code} (C : Cx nM D cy ad 12 cX12_throughOf RX12 rX12_throughOf p s m args c) (hr : meth.sig.returnType = some .long) (hlk : meth.locks = false) (a1 : Int32) (a2 : Int32) (a3 : Bool)  (u : Mem) {out : Int64}  : ∀ (t : Nat) (a4 : Int64) (a6 : Int32), fX12_throughOf_L6 a1 a2 a3 u t a4 a6 = some out → V shM nM D cy ad 12 p l e rX12_throughOf s m args below meth c (MQ below (qL shM nM D cy ad out u) args s 0 0 (rA ad nM)) 6 [(0, .ref (ad 0)), (1, .int a1), (2, .int a2), (3, .int (bz a3)), (4, .long a4), (6, .int a6)] [] u := by
  intro t
  induction t with
  | zero => intro a4 a6 h; rw [fX12_throughOf_L6] at h; cases h
  | succ t ih =>
    intro a4 a6 h
    rw [fX12_throughOf_L6] at h
    refine v_iload C 5 dX12_throughOf_6 rfl ?_
    refine v_iload_n C 2 dX12_throughOf_8 rfl rfl ?_
    refine v_icmp_gt C 162 dX12_throughOf_9 (by decide) h (fun h => ?_) (fun h => ?_)
    · refine v_lload C 4 dX12_throughOf_162 rfl ?_
      cases h
      exact v_lret C hr hlk dX12_throughOf_164
    · refine v_iconst C (v := 0) dX12_throughOf_12 (by decide) ?_
      refine v_istore C [(7, .int 0), (0, .ref (ad 0)), (1, .int a1), (2, .int a2), (3, .int (bz a3)), (4, .long a4), (6, .int a6)] dX12_throughOf_13 (by decide) rfl ?_
      refine v_sub [1, 2, 3, 4, 5, 6, 0] rfl ?_
      refine kX12_throughOf_L15 C hr hlk a1 a2 a3 a6 u (fX12_throughOf_L6 a1 a2 a3 u t) ih fu0 a4 0 h
set_option maxHeartbeats 4000000 in
set_option maxRecDepth 100000 in
theorem cX12_throughOf_ct (l : Launch) (D : va_G) (cy : Nat → ClassId) (ad : Nat → Nat) (a1 : Int32) (a2 : Int32) (a3 : Bool) (u : Mem)  (out : Int64) (h : fX12_throughOf a1 a2 a3 u = some out) : Met l yX12_throughOf (.code yX12_throughOf cX12_throughOf 12 (some .long) :: gw) rX12_throughOf (va_Pc [.ref (ad 0), .int a1, .int a2, .int (bz a3)] (wv shM nM D cy ad u)) (qL shM nM D cy ad out u) 0 0 (rA ad nM) := by
  refine met_of (cc := cX12_throughOf) (nL := 12) (by decide) (Nat.le_of_ble_eq_true rfl) (fun p e s m below meth c C hr hlk => ?_)
  unfold fX12_throughOf at h
  show V shM nM D cy ad 12 p l e rX12_throughOf s m _ below meth c (MQ below (qL shM nM D cy ad out u) _ s 0 0 (rA ad nM)) 0 [(0, .ref (ad 0)), (1, .int a1), (2, .int a2), (3, .int (bz a3))] [] u
  refine v_lconst C (v := 0) dX12_throughOf_0 (by decide) ?_
  refine v_lstore C [(4, .long 0), (0, .ref (ad 0)), (1, .int a1), (2, .int a2), (3, .int (bz a3))] dX12_throughOf_1 (by decide) rfl ?_
  refine v_iconst C (v := 0) dX12_throughOf_3 (by decide) ?_
  refine v_istore C [(6, .int 0), (4, .long 0), (0, .ref (ad 0)), (1, .int a1), (2, .int a2), (3, .int (bz a3))] dX12_throughOf_4 (by decide) rfl ?_
  refine v_sub [2, 3, 4, 5, 1, 0] rfl ?_
  refine kX12_throughOf_L6 C hr hlk a1 a2 a3 u   fu0 0 0 h
def rX12_churns : Room := { frames := 3, cells := 0, slots := 0, locals := 74 }
def fX12_churns (a1 : Int32) (a2 : Int32) (u : Mem) : Option Int32 := (if inB a2 16 then (if inB a2 16 then ((fX12_throughOf a1 a2 true u).bind fun r2 => ((fX12_most 10 (1000 + (u.1 12 a2.toNatClampNeg)) (1000 + (u.1 13 a2.toNatClampNeg)) u).bind fun r4 => ((fX12_throughOf a1 a2 false u).bind fun r6 => ((fX12_least 9 (1000 + (u.1 12 a2.toNatClampNeg)) (1000 + (u.1 13 a2.toNatClampNeg)) u).bind fun r8 => (if inB (10 + a1) 8320 then (if ((u.1 1 (10 + a1).toNatClampNeg).toInt64) < ((r2 * r4.toInt64) / 1000) then (if inB (10 + a1) 8320 then (some ((if ((r6 * r8.toInt64) / 1000) ≤ ((u.1 1 (10 + a1).toNatClampNeg).toInt64) then 2 else 1) : Int32)) else none) else (some 0)) else none))))) else none) else none)
set_option maxHeartbeats 4000000 in
set_option maxRecDepth 100000 in
theorem cX12_churns_ct (l : Launch) (D : va_G) (cy : Nat → ClassId) (ad : Nat → Nat) (a1 : Int32) (a2 : Int32) (u : Mem)  (out : Int32) (h : fX12_churns a1 a2 u = some out) : Met l yX12_churns (.code yX12_churns cX12_churns 9 (some .int) :: gw) rX12_churns (va_Pc [.ref (ad 0), .int a1, .int a2] (wv shM nM D cy ad u)) (qI shM nM D cy ad out u) 0 0 (rA ad nM) := by
  refine met_of (cc := cX12_churns) (nL := 9) (by decide) (Nat.le_of_ble_eq_true rfl) (fun p e s m below meth c C hr hlk => ?_)
  unfold fX12_churns at h
  show V shM nM D cy ad 9 p l e rX12_churns s m _ below meth c (MQ below (qI shM nM D cy ad out u) _ s 0 0 (rA ad nM)) 0 [(0, .ref (ad 0)), (1, .int a1), (2, .int a2)] [] u
  refine v_sipush C (v := 1000) dX12_churns_0 (by decide) ?_
  refine v_aload_n C 0 dX12_churns_3 rfl rfl ?_
  refine v_getr C pM_0 fd_X12_56 rfl dX12_churns_4 ?_
  refine v_iload_n C 2 dX12_churns_7 rfl rfl ?_
  refine v_iald C pM_12 dX12_churns_8 h (fun h => ?_)
  refine v_iadd C dX12_churns_9 ?_
  refine v_istore_n C [(3, .int (1000 + (u.1 12 a2.toNatClampNeg))), (0, .ref (ad 0)), (1, .int a1), (2, .int a2)] dX12_churns_10 rfl (by decide) rfl ?_
  refine v_sipush C (v := 1000) dX12_churns_11 (by decide) ?_
  refine v_aload_n C 1 dX12_churns_14 rfl rfl ?_
  refine v_getr C pM_0 fd_X12_59 rfl dX12_churns_15 ?_
  refine v_iload_n C 3 dX12_churns_18 rfl rfl ?_
  refine v_iald C pM_13 dX12_churns_19 h (fun h => ?_)
  refine v_iadd C dX12_churns_20 ?_
  refine v_istore C [(4, .int (1000 + (u.1 13 a2.toNatClampNeg))), (3, .int (1000 + (u.1 12 a2.toNatClampNeg))), (0, .ref (ad 0)), (1, .int a1), (2, .int a2)] dX12_churns_21 (by decide) rfl ?_
  refine v_aload_n C 2 dX12_churns_23 rfl rfl ?_
  refine v_iload_n C 3 dX12_churns_24 rfl rfl ?_
  refine v_iload_n C 4 dX12_churns_25 rfl rfl ?_
  refine v_iconst C (v := 1) dX12_churns_26 (by decide) ?_
  obtain ⟨r2, hc1, h⟩ := bnd h
  refine v_callVl C [.int a1, .int a2, .int (bz true)] (cX12_throughOf_ct l D cy ad a1 a2 true u r2 hc1) ml_X12_250 pM_0 ⟨Nat.le_of_ble_eq_true rfl, Nat.le_of_ble_eq_true rfl⟩ ⟨rfl, rfl⟩ rfl rfl (Nat.le_of_ble_eq_true rfl) dX12_churns_27 ?_
  refine v_aload_n C 2 dX12_churns_30 rfl rfl ?_
  refine v_getr C pM_0 fd_X12_50 rfl dX12_churns_31 ?_
  refine v_iload_n C 1 dX12_churns_34 rfl rfl ?_
  refine v_iload C 0 dX12_churns_35 rfl ?_
  obtain ⟨r4, hc3, h⟩ := bnd h
  refine v_callSi C [.ref (ad 10), .int (1000 + (u.1 12 a2.toNatClampNeg)), .int (1000 + (u.1 13 a2.toNatClampNeg))] (cX12_most_ct l D cy ad 10 (1000 + (u.1 12 a2.toNatClampNeg)) (1000 + (u.1 13 a2.toNatClampNeg)) u pM_10 r4 hc3) ml_X12_243 ⟨Nat.le_of_ble_eq_true rfl, Nat.le_of_ble_eq_true rfl⟩ ⟨rfl, rfl⟩ rfl rfl (Nat.le_of_ble_eq_true rfl) dX12_churns_37 ?_
  refine v_i2l C dX12_churns_40 ?_
  refine v_lmul C dX12_churns_41 ?_
  refine v_ldc2 C kc_X12_254 dX12_churns_42 ?_
  refine v_ldivN C dX12_churns_45 (by decide) ?_
  refine v_lstore C [(5, .long ((r2 * r4.toInt64) / 1000)), (4, .int (1000 + (u.1 13 a2.toNatClampNeg))), (3, .int (1000 + (u.1 12 a2.toNatClampNeg))), (0, .ref (ad 0)), (1, .int a1), (2, .int a2)] dX12_churns_46 (by decide) rfl ?_
  refine v_aload_n C 3 dX12_churns_48 rfl rfl ?_
  refine v_iload_n C 4 dX12_churns_49 rfl rfl ?_
  refine v_iload_n C 5 dX12_churns_50 rfl rfl ?_
  refine v_iconst C (v := 0) dX12_churns_51 (by decide) ?_
  obtain ⟨r6, hc5, h⟩ := bnd h
  refine v_callVl C [.int a1, .int a2, .int (bz false)] (cX12_throughOf_ct l D cy ad a1 a2 false u r6 hc5) ml_X12_250 pM_0 ⟨Nat.le_of_ble_eq_true rfl, Nat.le_of_ble_eq_true rfl⟩ ⟨rfl, rfl⟩ rfl rfl (Nat.le_of_ble_eq_true rfl) dX12_churns_52 ?_
  refine v_aload_n C 3 dX12_churns_55 rfl rfl ?_
  refine v_getr C pM_0 fd_X12_47 rfl dX12_churns_56 ?_
  refine v_iload_n C 2 dX12_churns_59 rfl rfl ?_
  refine v_iload C 1 dX12_churns_60 rfl ?_
  obtain ⟨r8, hc7, h⟩ := bnd h
  refine v_callSi C [.ref (ad 9), .int (1000 + (u.1 12 a2.toNatClampNeg)), .int (1000 + (u.1 13 a2.toNatClampNeg))] (cX12_least_ct l D cy ad 9 (1000 + (u.1 12 a2.toNatClampNeg)) (1000 + (u.1 13 a2.toNatClampNeg)) u pM_9 r8 hc7) ml_X12_247 ⟨Nat.le_of_ble_eq_true rfl, Nat.le_of_ble_eq_true rfl⟩ ⟨rfl, rfl⟩ rfl rfl (Nat.le_of_ble_eq_true rfl) dX12_churns_62 ?_
  refine v_i2l C dX12_churns_65 ?_
  refine v_lmul C dX12_churns_66 ?_
  refine v_ldc2 C kc_X12_254 dX12_churns_67 ?_
  refine v_ldivN C dX12_churns_70 (by decide) ?_
  refine v_lstore C [(7, .long ((r6 * r8.toInt64) / 1000)), (5, .long ((r2 * r4.toInt64) / 1000)), (4, .int (1000 + (u.1 13 a2.toNatClampNeg))), (3, .int (1000 + (u.1 12 a2.toNatClampNeg))), (0, .ref (ad 0)), (1, .int a1), (2, .int a2)] dX12_churns_71 (by decide) rfl ?_
  refine v_lload C 1 dX12_churns_73 rfl ?_
  refine v_aload_n C 4 dX12_churns_75 rfl rfl ?_
  refine v_getr C pM_0 fd_X12_7 rfl dX12_churns_76 ?_
  refine v_bipush C (v := 10) dX12_churns_79 (by decide) ?_
  refine v_iload_n C 5 dX12_churns_81 rfl rfl ?_
  refine v_iadd C dX12_churns_82 ?_
  refine v_iald C pM_1 dX12_churns_83 h (fun h => ?_)
  refine v_i2l C dX12_churns_84 ?_
  refine v_lcmp_gt C 93 dX12_churns_85 dX12_churns_86 (by decide) h (fun h => ?_) (fun h => ?_)
  · refine v_lload C 0 dX12_churns_93 rfl ?_
    refine v_aload_n C 4 dX12_churns_95 rfl rfl ?_
    refine v_getr C pM_0 fd_X12_7 rfl dX12_churns_96 ?_
    refine v_bipush C (v := 10) dX12_churns_99 (by decide) ?_
    refine v_iload_n C 5 dX12_churns_101 rfl rfl ?_
    refine v_iadd C dX12_churns_102 ?_
    refine v_iald C pM_1 dX12_churns_103 h (fun h => ?_)
    refine v_i2l C dX12_churns_104 ?_
    refine v_dia 114 (.int ((if ((r6 * r8.toInt64) / 1000) ≤ ((u.1 1 (10 + a1).toNatClampNeg).toInt64) then 2 else 1) : Int32)) [] ?_ (fun hj => ?_)
    · cases h
      exact v_iret C hr hlk dX12_churns_114
    · refine p_lcmp_le C 113 dX12_churns_105 dX12_churns_106 (by decide) (fun z10 => ?_) (fun z10 => ?_)
      · refine v_iconst C (v := 2) dX12_churns_113 (by decide) ?_
        exact v_top (by rw [if_pos z10]; first | done | rfl) hj
      · refine v_iconst C (v := 1) dX12_churns_109 (by decide) ?_
        refine v_goto C 114 dX12_churns_110 (by decide) ?_
        exact v_top (by rw [if_neg z10]; first | done | rfl) hj
  · refine v_iconst C (v := 0) dX12_churns_89 (by decide) ?_
    refine v_goto C 114 dX12_churns_90 (by decide) ?_
    cases h
    exact v_iret C hr hlk dX12_churns_114
def rX12_of : Room := { frames := 5, cells := 0, slots := 0, locals := 116 }
def fX12_of (a1 : Int32) (a2 : Int32) (a3 : Int32) (u : Mem) : Option (Int32 × Mem) := ((fX12_isShell a1 a2 u).bind fun r2 => (if r2 = true then ((fX12_in a3.toInt64 0 5).bind fun r5 => (if r5 = true then (if a3 = 0 then ((fX12_weighs a1 a2 u).bind fun r10 => (some (r10, u))) else ((fX12_spans u).bind fun u12 => (if inB (8 + a1) 8320 then ((fX12_settles a1 (u12.1 1 (8 + a1).toNatClampNeg) u12).bind fun q14 => (if a3 = 1 then (if inB a2 16 then (some (q14.2.1 14 a2.toNatClampNeg, q14.2)) else none) else (if a3 = 2 then (if inB a2 16 then (some (q14.2.1 11 a2.toNatClampNeg, q14.2)) else none) else (if a3 = 3 then (if inB a2 16 then (if (q14.2.1 11 a2.toNatClampNeg) = 0 then (some ((-1), q14.2)) else (if inB a2 16 then (some (q14.2.1 12 a2.toNatClampNeg, q14.2)) else none)) else none) else (if a3 = 4 then (if inB a2 16 then (if (q14.2.1 11 a2.toNatClampNeg) = 0 then (some ((-1), q14.2)) else (if inB a2 16 then (some (q14.2.1 13 a2.toNatClampNeg, q14.2)) else none)) else none) else ((fX12_churns a1 a2 q14.2).bind fun r18 => (some (r18, q14.2)))))))) else none))) else (some ((-1), u)))) else (some ((-1), u))))
set_option maxHeartbeats 4000000 in
set_option maxRecDepth 100000 in
theorem cX12_of_ct (l : Launch) (D : va_G) (cy : Nat → ClassId) (ad : Nat → Nat) (a1 : Int32) (a2 : Int32) (a3 : Int32) (u : Mem)  (out : (Int32 × Mem)) (h : fX12_of a1 a2 a3 u = some out) : Met l yX12_of (.code yX12_of cX12_of 5 (some .int) :: gw) rX12_of (va_Pc [.ref (ad 0), .int a1, .int a2, .int a3] (wv shM nM D cy ad u)) (qI shM nM D cy ad out.1 out.2) 0 0 (rA ad nM) := by
  refine met_of (cc := cX12_of) (nL := 5) (by decide) (Nat.le_of_ble_eq_true rfl) (fun p e s m below meth c C hr hlk => ?_)
  unfold fX12_of at h
  show V shM nM D cy ad 5 p l e rX12_of s m _ below meth c (MQ below (qI shM nM D cy ad out.1 out.2) _ s 0 0 (rA ad nM)) 0 [(0, .ref (ad 0)), (1, .int a1), (2, .int a2), (3, .int a3)] [] u
  refine v_aload_n C 0 dX12_of_0 rfl rfl ?_
  refine v_iload_n C 1 dX12_of_1 rfl rfl ?_
  refine v_iload_n C 2 dX12_of_2 rfl rfl ?_
  obtain ⟨r2, hc1, h⟩ := bnd h
  refine v_callVi C [.int a1, .int a2] (cX12_isShell_ct l D cy ad a1 a2 u r2 hc1) ml_X12_218 pM_0 ⟨Nat.le_of_ble_eq_true rfl, Nat.le_of_ble_eq_true rfl⟩ ⟨rfl, rfl⟩ rfl rfl (Nat.le_of_ble_eq_true rfl) dX12_of_3 ?_
  refine v_z_eq C 21 dX12_of_6 (by decide) h (fun h => ?_) (fun h => ?_)
  · refine v_iload_n C 3 dX12_of_9 rfl rfl ?_
    refine v_i2l C dX12_of_10 ?_
    refine v_lconst C (v := 0) dX12_of_11 (by decide) ?_
    refine v_ldc2 C kc_X12_197 dX12_of_12 ?_
    obtain ⟨r5, hc4, h⟩ := bnd h
    refine v_callSi C [.long a3.toInt64, .long 0, .long 5] (cX12_in_ct l D cy ad a3.toInt64 0 5 _ r5 hc4) ml_X12_78 ⟨Nat.le_of_ble_eq_true rfl, Nat.le_of_ble_eq_true rfl⟩ ⟨rfl, rfl⟩ rfl rfl (Nat.le_of_ble_eq_true rfl) dX12_of_15 ?_
    refine v_z_ne C 23 dX12_of_18 (by decide) h (fun h => ?_) (fun h => ?_)
    · refine v_iload_n C 3 dX12_of_23 rfl rfl ?_
      refine v_if_ne C 34 dX12_of_24 (by decide) h (fun h => ?_) (fun h => ?_)
      · refine v_aload_n C 0 dX12_of_27 rfl rfl ?_
        refine v_iload_n C 1 dX12_of_28 rfl rfl ?_
        refine v_iload_n C 2 dX12_of_29 rfl rfl ?_
        obtain ⟨r10, hc9, h⟩ := bnd h
        refine v_callVi C [.int a1, .int a2] (cX12_weighs_ct l D cy ad a1 a2 u r10 hc9) ml_X12_234 pM_0 ⟨Nat.le_of_ble_eq_true rfl, Nat.le_of_ble_eq_true rfl⟩ ⟨rfl, rfl⟩ rfl rfl (Nat.le_of_ble_eq_true rfl) dX12_of_30 ?_
        cases h
        exact v_iret C hr hlk dX12_of_33
      · refine v_aload_n C 0 dX12_of_34 rfl rfl ?_
        obtain ⟨u12, hc11, h⟩ := bnd h
        refine v_callVv C [] (cX12_spans_ct l D cy ad u u12 hc11) ml_X12_256 pM_0 ⟨Nat.le_of_ble_eq_true rfl, Nat.le_of_ble_eq_true rfl⟩ ⟨rfl, rfl⟩ rfl rfl (Nat.le_of_ble_eq_true rfl) dX12_of_35 ?_
        refine v_aload_n C 0 dX12_of_38 rfl rfl ?_
        refine v_iload_n C 1 dX12_of_39 rfl rfl ?_
        refine v_aload_n C 0 dX12_of_40 rfl rfl ?_
        refine v_getr C pM_0 fd_X12_7 rfl dX12_of_41 ?_
        refine v_bipush C (v := 8) dX12_of_44 (by decide) ?_
        refine v_iload_n C 1 dX12_of_46 rfl rfl ?_
        refine v_iadd C dX12_of_47 ?_
        refine v_iald C pM_1 dX12_of_48 h (fun h => ?_)
        obtain ⟨q14, hc13, h⟩ := bnd h
        refine v_callVi C [.int a1, .int (u12.1 1 (8 + a1).toNatClampNeg)] (cX12_settles_ct l D cy ad a1 (u12.1 1 (8 + a1).toNatClampNeg) u12 q14 hc13) ml_X12_259 pM_0 ⟨Nat.le_of_ble_eq_true rfl, Nat.le_of_ble_eq_true rfl⟩ ⟨rfl, rfl⟩ rfl rfl (Nat.le_of_ble_eq_true rfl) dX12_of_49 ?_
        refine v_istore C [(4, .int (bz q14.1)), (0, .ref (ad 0)), (1, .int a1), (2, .int a2), (3, .int a3)] dX12_of_52 (by decide) rfl ?_
        refine v_iload_n C 4 dX12_of_54 rfl rfl ?_
        by_cases z1 : a3 = 1
        · rw [if_pos z1] at h
          refine v_tabIn C 84 (k0 := 1) z1 dX12_of_55 (by decide) (by decide) (by decide) (by decide) ?_
          refine v_aload_n C 1 dX12_of_84 rfl rfl ?_
          refine v_getr C pM_0 fd_X12_62 rfl dX12_of_85 ?_
          refine v_iload_n C 3 dX12_of_88 rfl rfl ?_
          refine v_iald C pM_14 dX12_of_89 h (fun h => ?_)
          cases h
          exact v_iret C hr hlk dX12_of_90
        rw [if_neg z1] at h
        by_cases z2 : a3 = 2
        · rw [if_pos z2] at h
          refine v_tabIn C 91 (k0 := 2) z2 dX12_of_55 (by decide) (by decide) (by decide) (by decide) ?_
          refine v_aload_n C 1 dX12_of_91 rfl rfl ?_
          refine v_getr C pM_0 fd_X12_53 rfl dX12_of_92 ?_
          refine v_iload_n C 3 dX12_of_95 rfl rfl ?_
          refine v_iald C pM_11 dX12_of_96 h (fun h => ?_)
          cases h
          exact v_iret C hr hlk dX12_of_97
        rw [if_neg z2] at h
        by_cases z3 : a3 = 3
        · rw [if_pos z3] at h
          refine v_tabIn C 98 (k0 := 3) z3 dX12_of_55 (by decide) (by decide) (by decide) (by decide) ?_
          refine v_aload_n C 1 dX12_of_98 rfl rfl ?_
          refine v_getr C pM_0 fd_X12_53 rfl dX12_of_99 ?_
          refine v_iload_n C 3 dX12_of_102 rfl rfl ?_
          refine v_iald C pM_11 dX12_of_103 h (fun h => ?_)
          refine v_if_ne C 111 dX12_of_104 (by decide) h (fun h => ?_) (fun h => ?_)
          · refine v_iconst C (v := (-1)) dX12_of_107 (by decide) ?_
            refine v_goto C 117 dX12_of_108 (by decide) ?_
            cases h
            exact v_iret C hr hlk dX12_of_117
          · refine v_aload_n C 1 dX12_of_111 rfl rfl ?_
            refine v_getr C pM_0 fd_X12_56 rfl dX12_of_112 ?_
            refine v_iload_n C 3 dX12_of_115 rfl rfl ?_
            refine v_iald C pM_12 dX12_of_116 h (fun h => ?_)
            cases h
            exact v_iret C hr hlk dX12_of_117
        rw [if_neg z3] at h
        by_cases z4 : a3 = 4
        · rw [if_pos z4] at h
          refine v_tabIn C 118 (k0 := 4) z4 dX12_of_55 (by decide) (by decide) (by decide) (by decide) ?_
          refine v_aload_n C 1 dX12_of_118 rfl rfl ?_
          refine v_getr C pM_0 fd_X12_53 rfl dX12_of_119 ?_
          refine v_iload_n C 3 dX12_of_122 rfl rfl ?_
          refine v_iald C pM_11 dX12_of_123 h (fun h => ?_)
          refine v_if_ne C 131 dX12_of_124 (by decide) h (fun h => ?_) (fun h => ?_)
          · refine v_iconst C (v := (-1)) dX12_of_127 (by decide) ?_
            refine v_goto C 137 dX12_of_128 (by decide) ?_
            cases h
            exact v_iret C hr hlk dX12_of_137
          · refine v_aload_n C 1 dX12_of_131 rfl rfl ?_
            refine v_getr C pM_0 fd_X12_59 rfl dX12_of_132 ?_
            refine v_iload_n C 3 dX12_of_135 rfl rfl ?_
            refine v_iald C pM_13 dX12_of_136 h (fun h => ?_)
            cases h
            exact v_iret C hr hlk dX12_of_137
        rw [if_neg z4] at h
        refine v_tabOut C 138 dX12_of_55 (by have n1 := lv_neT z1 (a := 1) (by decide); have n2 := lv_neT z2 (a := 2) (by decide); have n3 := lv_neT z3 (a := 3) (by decide); have n4 := lv_neT z4 (a := 4) (by decide); omega) (by decide) ?_
        refine v_aload_n C 1 dX12_of_138 rfl rfl ?_
        refine v_iload_n C 2 dX12_of_139 rfl rfl ?_
        refine v_iload_n C 3 dX12_of_140 rfl rfl ?_
        obtain ⟨r18, hc17, h⟩ := bnd h
        refine v_callVi C [.int a1, .int a2] (cX12_churns_ct l D cy ad a1 a2 q14.2 r18 hc17) ml_X12_262 pM_0 ⟨Nat.le_of_ble_eq_true rfl, Nat.le_of_ble_eq_true rfl⟩ ⟨rfl, rfl⟩ rfl rfl (Nat.le_of_ble_eq_true rfl) dX12_of_141 ?_
        cases h
        exact v_iret C hr hlk dX12_of_144
    · refine v_iconst C (v := (-1)) dX12_of_21 (by decide) ?_
      cases h
      exact v_iret C hr hlk dX12_of_22
  · refine v_iconst C (v := (-1)) dX12_of_21 (by decide) ?_
    cases h
    exact v_iret C hr hlk dX12_of_22
def rX12_box : Room := { frames := 5, cells := 0, slots := 0, locals := 116 }
def fX12_box_J86 (Rc44 : Int32 → Int32 → Int32 → Option (Int32 × Mem)) (a2 : Int32) (a3 : Int32) (a4 : Bool) (a7 : Int32) (a8 : Int32) (s0 : Int32) (s1 : Int32) (u : Mem) : Option (Int32 × Mem) := Rc44 (s1 + s0) (if (s1 + s0) = a3 then (if a4 = true then a8 else (if 0 ≤ a7 then a7 else a8)) else a7) (a8 + 1)
def fX12_box_J81 (Rc44 : Int32 → Int32 → Int32 → Option (Int32 × Mem)) (a2 : Int32) (a3 : Int32) (a4 : Bool) (a7 : Int32) (a8 : Int32) (s0 : Int32) (u : Mem) : Option (Int32 × Mem) := fX12_box_J86 Rc44 a2 a3 a4 a7 a8 1 s0 u
def fX12_box_L44 (a2 : Int32) (a3 : Int32) (a4 : Bool) (u : Mem) : Nat → Int32 → Int32 → Int32 → Option (Int32 × Mem)
  | 0, _, _, _ => none
  | t + 1, a6, a7, a8 => (if 1000 ≤ a8 then (some (a7, u)) else ((fX12_canBe a2 a8 u).bind fun r12 => (if r12 = true then (if a8 = 0 then fX12_box_J81 (fX12_box_L44 a2 a3 a4 u t) a2 a3 a4 a7 a8 a6 u else ((fX12_canBe a2 (a8 - 1) u).bind fun r20 => ((some ((if (a6 + ((if r20 = true then 0 else 1) : Int32)) = a3 then (if a4 = true then a8 else (if 0 ≤ a7 then a7 else a8)) else a7))).bind fun x25 => fX12_box_L44 a2 a3 a4 u t (a6 + ((if r20 = true then 0 else 1) : Int32)) x25 (a8 + 1)))) else fX12_box_L44 a2 a3 a4 u t a6 a7 (a8 + 1))))
def fX12_box (a1 : Int32) (a2 : Int32) (a3 : Int32) (a4 : Bool) (u : Mem) : Option (Int32 × Mem) := ((fX12_isShell a1 a2 u).bind fun r2 => (if r2 = true then (if 0 ≤ a3 then ((fX12_spans u).bind fun u7 => (if inB (8 + a1) 8320 then ((fX12_settles a1 (u7.1 1 (8 + a1).toNatClampNeg) u7).bind fun q9 => fX12_box_L44 a2 a3 a4 q9.2 fu0 (-1) (-1) 0) else none)) else (some ((-1), u))) else (some ((-1), u))))
set_option maxHeartbeats 4000000 in
set_option maxRecDepth 100000 in
theorem kX12_box_J86 {l : Launch} {D : va_G} {cy : Nat → ClassId} {ad : Nat → Nat} {p : Program} {e : Env} {s : State} {m : MethodId} {args : Array Value} {below : List Frame} {meth : Method} {c : Code} (C : Cx nM D cy ad 9 cX12_box RX12 rX12_box p s m args c) (hr : meth.sig.returnType = some .int) (hlk : meth.locks = false) {out : (Int32 × Mem)} (Rc44 : Int32 → Int32 → Int32 → Option (Int32 × Mem))  (a2 : Int32) (a3 : Int32) (a4 : Bool) (a7 : Int32) (a8 : Int32) (s0 : Int32) (s1 : Int32) (u : Mem)  (hRc44 : ∀ (a6 : Int32) (a7 : Int32) (a8 : Int32), Rc44 a6 a7 a8 = some out → V shM nM D cy ad 9 p l e rX12_box s m args below meth c (MQ below (qI shM nM D cy ad out.1 out.2) args s 0 0 (rA ad nM)) 44 [(0, .ref (ad 0)), (2, .int a2), (3, .int a3), (4, .int (bz a4)), (6, .int a6), (7, .int a7), (8, .int a8)] [] u) (h : fX12_box_J86 Rc44 a2 a3 a4 a7 a8 s0 s1 u = some out) : V shM nM D cy ad 9 p l e rX12_box s m args below meth c (MQ below (qI shM nM D cy ad out.1 out.2) args s 0 0 (rA ad nM)) 86 [(0, .ref (ad 0)), (2, .int a2), (3, .int a3), (4, .int (bz a4)), (7, .int a7), (8, .int a8)] [.int s0, .int s1] u := by
  unfold fX12_box_J86 at h
  refine v_iadd C dX12_box_86 ?_
  refine v_istore C [(6, .int (s1 + s0)), (0, .ref (ad 0)), (2, .int a2), (3, .int a3), (4, .int (bz a4)), (7, .int a7), (8, .int a8)] dX12_box_87 (by decide) rfl ?_
  refine v_iload C 0 dX12_box_89 rfl ?_
  refine v_iload_n C 3 dX12_box_91 rfl rfl ?_
  refine v_dia 112 (.int (if (s1 + s0) = a3 then (if a4 = true then a8 else (if 0 ≤ a7 then a7 else a8)) else a7)) [] ?_ (fun hj => ?_)
  · refine v_istore C [(7, .int (if (s1 + s0) = a3 then (if a4 = true then a8 else (if 0 ≤ a7 then a7 else a8)) else a7)), (6, .int (s1 + s0)), (0, .ref (ad 0)), (2, .int a2), (3, .int a3), (4, .int (bz a4)), (8, .int a8)] dX12_box_112 (by decide) rfl ?_
    refine v_iinc C 6 (v := a8 + 1) [(8, .int (a8 + 1)), (7, .int (if (s1 + s0) = a3 then (if a4 = true then a8 else (if 0 ≤ a7 then a7 else a8)) else a7)), (6, .int (s1 + s0)), (0, .ref (ad 0)), (2, .int a2), (3, .int a3), (4, .int (bz a4))] dX12_box_114 rfl rfl (by decide) rfl ?_
    refine v_goto C 44 dX12_box_117 (by decide) ?_
    refine v_sub [3, 4, 5, 6, 2, 1, 0] rfl ?_
    exact hRc44 (s1 + s0) (if (s1 + s0) = a3 then (if a4 = true then a8 else (if 0 ≤ a7 then a7 else a8)) else a7) (a8 + 1) h
  · refine p_icmp_ne C 110 dX12_box_92 (by decide) (fun z16 => ?_) (fun z16 => ?_)
    · refine v_iload C 4 dX12_box_95 rfl ?_
      refine p_z_ne C 105 dX12_box_97 (by decide) (fun z17 => ?_) (fun z17 => ?_)
      · refine v_iload C 6 dX12_box_105 rfl ?_
        refine v_goto C 112 dX12_box_107 (by decide) ?_
        exact v_top (by rw [if_pos z16, if_pos z17]; first | done | rfl) hj
      · refine v_iload C 5 dX12_box_100 rfl ?_
        refine p_if_ge C 110 dX12_box_102 (by decide) (fun z18 => ?_) (fun z18 => ?_)
        · refine v_iload C 5 dX12_box_110 rfl ?_
          exact v_top (by rw [if_pos z16, if_neg z17, if_pos z18]; first | done | rfl) hj
        · refine v_iload C 6 dX12_box_105 rfl ?_
          refine v_goto C 112 dX12_box_107 (by decide) ?_
          exact v_top (by rw [if_pos z16, if_neg z17, if_neg z18]; first | done | rfl) hj
    · refine v_iload C 5 dX12_box_110 rfl ?_
      exact v_top (by rw [if_neg z16]; first | done | rfl) hj
set_option maxHeartbeats 4000000 in
set_option maxRecDepth 100000 in
theorem kX12_box_J81 {l : Launch} {D : va_G} {cy : Nat → ClassId} {ad : Nat → Nat} {p : Program} {e : Env} {s : State} {m : MethodId} {args : Array Value} {below : List Frame} {meth : Method} {c : Code} (C : Cx nM D cy ad 9 cX12_box RX12 rX12_box p s m args c) (hr : meth.sig.returnType = some .int) (hlk : meth.locks = false) {out : (Int32 × Mem)} (Rc44 : Int32 → Int32 → Int32 → Option (Int32 × Mem))  (a2 : Int32) (a3 : Int32) (a4 : Bool) (a7 : Int32) (a8 : Int32) (s0 : Int32) (u : Mem)  (hRc44 : ∀ (a6 : Int32) (a7 : Int32) (a8 : Int32), Rc44 a6 a7 a8 = some out → V shM nM D cy ad 9 p l e rX12_box s m args below meth c (MQ below (qI shM nM D cy ad out.1 out.2) args s 0 0 (rA ad nM)) 44 [(0, .ref (ad 0)), (2, .int a2), (3, .int a3), (4, .int (bz a4)), (6, .int a6), (7, .int a7), (8, .int a8)] [] u) (h : fX12_box_J81 Rc44 a2 a3 a4 a7 a8 s0 u = some out) : V shM nM D cy ad 9 p l e rX12_box s m args below meth c (MQ below (qI shM nM D cy ad out.1 out.2) args s 0 0 (rA ad nM)) 81 [(0, .ref (ad 0)), (2, .int a2), (3, .int a3), (4, .int (bz a4)), (7, .int a7), (8, .int a8)] [.int s0] u := by
  unfold fX12_box_J81 at h
  refine v_iconst C (v := 1) dX12_box_81 (by decide) ?_
  refine v_goto C 86 dX12_box_82 (by decide) ?_
  exact kX12_box_J86 C hr hlk Rc44 a2 a3 a4 a7 a8 1 s0 u hRc44 h
set_option maxHeartbeats 4000000 in
set_option maxRecDepth 100000 in
theorem kX12_box_L44 {l : Launch} {D : va_G} {cy : Nat → ClassId} {ad : Nat → Nat} {p : Program} {e : Env} {s : State} {m : MethodId} {args : Array Value} {below : List Frame} {meth : Method} {c : Code} (C : Cx nM D cy ad 9 cX12_box RX12 rX12_box p s m args c) (hr : meth.sig.returnType = some .int) (hlk : meth.locks = false) (a2 : Int32) (a3 : Int32) (a4 : Bool)  (u : Mem) {out : (Int32 × Mem)}  : ∀ (t : Nat) (a6 : Int32) (a7 : Int32) (a8 : Int32), fX12_box_L44 a2 a3 a4 u t a6 a7 a8 = some out → V shM nM D cy ad 9 p l e rX12_box s m args below meth c (MQ below (qI shM nM D cy ad out.1 out.2) args s 0 0 (rA ad nM)) 44 [(0, .ref (ad 0)), (2, .int a2), (3, .int a3), (4, .int (bz a4)), (6, .int a6), (7, .int a7), (8, .int a8)] [] u := by
  intro t
  induction t with
  | zero => intro a6 a7 a8 h; rw [fX12_box_L44] at h; cases h
  | succ t ih =>
    intro a6 a7 a8 h
    rw [fX12_box_L44] at h
    refine v_iload C 6 dX12_box_44 rfl ?_
    refine v_sipush C (v := 1000) dX12_box_46 (by decide) ?_
    refine v_icmp_ge C 120 dX12_box_49 (by decide) h (fun h => ?_) (fun h => ?_)
    · refine v_iload C 5 dX12_box_120 rfl ?_
      cases h
      exact v_iret C hr hlk dX12_box_122
    · refine v_aload_n C 0 dX12_box_52 rfl rfl ?_
      refine v_iload_n C 1 dX12_box_53 rfl rfl ?_
      refine v_iload C 6 dX12_box_54 rfl ?_
      obtain ⟨r12, hc11, h⟩ := bnd h
      refine v_callVi C [.int a2, .int a8] (cX12_canBe_ct l D cy ad a2 a8 u r12 hc11) ml_X12_240 pM_0 ⟨Nat.le_of_ble_eq_true rfl, Nat.le_of_ble_eq_true rfl⟩ ⟨rfl, rfl⟩ rfl rfl (Nat.le_of_ble_eq_true rfl) dX12_box_56 ?_
      refine v_z_eq C 114 dX12_box_59 (by decide) h (fun h => ?_) (fun h => ?_)
      · refine v_iload C 4 dX12_box_62 rfl ?_
        refine v_iload C 6 dX12_box_64 rfl ?_
        refine v_if_eq C 81 dX12_box_66 (by decide) h (fun h => ?_) (fun h => ?_)
        · refine v_sub [0, 1, 2, 3, 5, 6] rfl ?_
          exact kX12_box_J81 C hr hlk (fX12_box_L44 a2 a3 a4 u t) a2 a3 a4 a7 a8 a6 u ih h
        · refine v_aload_n C 0 dX12_box_69 rfl rfl ?_
          refine v_iload_n C 1 dX12_box_70 rfl rfl ?_
          refine v_iload C 6 dX12_box_71 rfl ?_
          refine v_iconst C (v := 1) dX12_box_73 (by decide) ?_
          refine v_isub C dX12_box_74 ?_
          obtain ⟨r20, hc19, h⟩ := bnd h
          refine v_callVi C [.int a2, .int (a8 - 1)] (cX12_canBe_ct l D cy ad a2 (a8 - 1) u r20 hc19) ml_X12_240 pM_0 ⟨Nat.le_of_ble_eq_true rfl, Nat.le_of_ble_eq_true rfl⟩ ⟨rfl, rfl⟩ rfl rfl (Nat.le_of_ble_eq_true rfl) dX12_box_75 ?_
          refine v_dia 86 (.int ((if r20 = true then 0 else 1) : Int32)) [.int a6] ?_ (fun hj => ?_)
          · refine v_iadd C dX12_box_86 ?_
            refine v_istore C [(6, .int (a6 + ((if r20 = true then 0 else 1) : Int32))), (0, .ref (ad 0)), (2, .int a2), (3, .int a3), (4, .int (bz a4)), (7, .int a7), (8, .int a8)] dX12_box_87 (by decide) rfl ?_
            refine v_iload C 0 dX12_box_89 rfl ?_
            refine v_iload_n C 3 dX12_box_91 rfl rfl ?_
            refine v_dia 112 (.int (if (a6 + ((if r20 = true then 0 else 1) : Int32)) = a3 then (if a4 = true then a8 else (if 0 ≤ a7 then a7 else a8)) else a7)) [] ?_ (fun hj => ?_)
            · refine v_nmi (fun x25 hx25 => ?_)
              have h := nmd hx25 h
              refine v_istore C [(7, .int x25), (6, .int (a6 + ((if r20 = true then 0 else 1) : Int32))), (0, .ref (ad 0)), (2, .int a2), (3, .int a3), (4, .int (bz a4)), (8, .int a8)] dX12_box_112 (by decide) rfl ?_
              refine v_iinc C 6 (v := a8 + 1) [(8, .int (a8 + 1)), (7, .int x25), (6, .int (a6 + ((if r20 = true then 0 else 1) : Int32))), (0, .ref (ad 0)), (2, .int a2), (3, .int a3), (4, .int (bz a4))] dX12_box_114 rfl rfl (by decide) rfl ?_
              refine v_goto C 44 dX12_box_117 (by decide) ?_
              refine v_sub [3, 4, 5, 6, 2, 1, 0] rfl ?_
              exact ih (a6 + ((if r20 = true then 0 else 1) : Int32)) x25 (a8 + 1) h
            · refine p_icmp_ne C 110 dX12_box_92 (by decide) (fun z22 => ?_) (fun z22 => ?_)
              · refine v_iload C 4 dX12_box_95 rfl ?_
                refine p_z_ne C 105 dX12_box_97 (by decide) (fun z23 => ?_) (fun z23 => ?_)
                · refine v_iload C 6 dX12_box_105 rfl ?_
                  refine v_goto C 112 dX12_box_107 (by decide) ?_
                  exact v_top (by rw [if_pos z22, if_pos z23]; first | done | rfl) hj
                · refine v_iload C 5 dX12_box_100 rfl ?_
                  refine p_if_ge C 110 dX12_box_102 (by decide) (fun z24 => ?_) (fun z24 => ?_)
                  · refine v_iload C 5 dX12_box_110 rfl ?_
                    exact v_top (by rw [if_pos z22, if_neg z23, if_pos z24]; first | done | rfl) hj
                  · refine v_iload C 6 dX12_box_105 rfl ?_
                    refine v_goto C 112 dX12_box_107 (by decide) ?_
                    exact v_top (by rw [if_pos z22, if_neg z23, if_neg z24]; first | done | rfl) hj
              · refine v_iload C 5 dX12_box_110 rfl ?_
                exact v_top (by rw [if_neg z22]; first | done | rfl) hj
          · refine p_z_ne C 85 dX12_box_78 (by decide) (fun z21 => ?_) (fun z21 => ?_)
            · refine v_iconst C (v := 0) dX12_box_85 (by decide) ?_
              exact v_top (by rw [if_pos z21]; first | done | rfl) hj
            · refine v_iconst C (v := 1) dX12_box_81 (by decide) ?_
              refine v_goto C 86 dX12_box_82 (by decide) ?_
              exact v_top (by rw [if_neg z21]; first | done | rfl) hj
      · refine v_iinc C 6 (v := a8 + 1) [(8, .int (a8 + 1)), (0, .ref (ad 0)), (2, .int a2), (3, .int a3), (4, .int (bz a4)), (6, .int a6), (7, .int a7)] dX12_box_114 rfl rfl (by decide) rfl ?_
        refine v_goto C 44 dX12_box_117 (by decide) ?_
        refine v_sub [1, 2, 3, 4, 5, 6, 0] rfl ?_
        exact ih a6 a7 (a8 + 1) h
set_option maxHeartbeats 4000000 in
set_option maxRecDepth 100000 in
theorem cX12_box_ct (l : Launch) (D : va_G) (cy : Nat → ClassId) (ad : Nat → Nat) (a1 : Int32) (a2 : Int32) (a3 : Int32) (a4 : Bool) (u : Mem)  (out : (Int32 × Mem)) (h : fX12_box a1 a2 a3 a4 u = some out) : Met l yX12_box (.code yX12_box cX12_box 9 (some .int) :: gw) rX12_box (va_Pc [.ref (ad 0), .int a1, .int a2, .int a3, .int (bz a4)] (wv shM nM D cy ad u)) (qI shM nM D cy ad out.1 out.2) 0 0 (rA ad nM) := by
  refine met_of (cc := cX12_box) (nL := 9) (by decide) (Nat.le_of_ble_eq_true rfl) (fun p e s m below meth c C hr hlk => ?_)
  unfold fX12_box at h
  show V shM nM D cy ad 9 p l e rX12_box s m _ below meth c (MQ below (qI shM nM D cy ad out.1 out.2) _ s 0 0 (rA ad nM)) 0 [(0, .ref (ad 0)), (1, .int a1), (2, .int a2), (3, .int a3), (4, .int (bz a4))] [] u
  refine v_aload_n C 0 dX12_box_0 rfl rfl ?_
  refine v_iload_n C 1 dX12_box_1 rfl rfl ?_
  refine v_iload_n C 2 dX12_box_2 rfl rfl ?_
  obtain ⟨r2, hc1, h⟩ := bnd h
  refine v_callVi C [.int a1, .int a2] (cX12_isShell_ct l D cy ad a1 a2 u r2 hc1) ml_X12_218 pM_0 ⟨Nat.le_of_ble_eq_true rfl, Nat.le_of_ble_eq_true rfl⟩ ⟨rfl, rfl⟩ rfl rfl (Nat.le_of_ble_eq_true rfl) dX12_box_3 ?_
  refine v_z_eq C 13 dX12_box_6 (by decide) h (fun h => ?_) (fun h => ?_)
  · refine v_iload_n C 3 dX12_box_9 rfl rfl ?_
    refine v_if_ge C 15 dX12_box_10 (by decide) h (fun h => ?_) (fun h => ?_)
    · refine v_aload_n C 0 dX12_box_15 rfl rfl ?_
      obtain ⟨u7, hc6, h⟩ := bnd h
      refine v_callVv C [] (cX12_spans_ct l D cy ad u u7 hc6) ml_X12_256 pM_0 ⟨Nat.le_of_ble_eq_true rfl, Nat.le_of_ble_eq_true rfl⟩ ⟨rfl, rfl⟩ rfl rfl (Nat.le_of_ble_eq_true rfl) dX12_box_16 ?_
      refine v_aload_n C 0 dX12_box_19 rfl rfl ?_
      refine v_iload_n C 1 dX12_box_20 rfl rfl ?_
      refine v_aload_n C 0 dX12_box_21 rfl rfl ?_
      refine v_getr C pM_0 fd_X12_7 rfl dX12_box_22 ?_
      refine v_bipush C (v := 8) dX12_box_25 (by decide) ?_
      refine v_iload_n C 1 dX12_box_27 rfl rfl ?_
      refine v_iadd C dX12_box_28 ?_
      refine v_iald C pM_1 dX12_box_29 h (fun h => ?_)
      obtain ⟨q9, hc8, h⟩ := bnd h
      refine v_callVi C [.int a1, .int (u7.1 1 (8 + a1).toNatClampNeg)] (cX12_settles_ct l D cy ad a1 (u7.1 1 (8 + a1).toNatClampNeg) u7 q9 hc8) ml_X12_259 pM_0 ⟨Nat.le_of_ble_eq_true rfl, Nat.le_of_ble_eq_true rfl⟩ ⟨rfl, rfl⟩ rfl rfl (Nat.le_of_ble_eq_true rfl) dX12_box_30 ?_
      refine v_istore C [(5, .int (bz q9.1)), (0, .ref (ad 0)), (1, .int a1), (2, .int a2), (3, .int a3), (4, .int (bz a4))] dX12_box_33 (by decide) rfl ?_
      refine v_iconst C (v := (-1)) dX12_box_35 (by decide) ?_
      refine v_istore C [(6, .int (-1)), (5, .int (bz q9.1)), (0, .ref (ad 0)), (1, .int a1), (2, .int a2), (3, .int a3), (4, .int (bz a4))] dX12_box_36 (by decide) rfl ?_
      refine v_iconst C (v := (-1)) dX12_box_38 (by decide) ?_
      refine v_istore C [(7, .int (-1)), (6, .int (-1)), (5, .int (bz q9.1)), (0, .ref (ad 0)), (1, .int a1), (2, .int a2), (3, .int a3), (4, .int (bz a4))] dX12_box_39 (by decide) rfl ?_
      refine v_iconst C (v := 0) dX12_box_41 (by decide) ?_
      refine v_istore C [(8, .int 0), (7, .int (-1)), (6, .int (-1)), (5, .int (bz q9.1)), (0, .ref (ad 0)), (1, .int a1), (2, .int a2), (3, .int a3), (4, .int (bz a4))] dX12_box_42 (by decide) rfl ?_
      refine v_sub [4, 6, 7, 8, 2, 1, 0] rfl ?_
      refine kX12_box_L44 C hr hlk a2 a3 a4 q9.2   fu0 (-1) (-1) 0 h
    · refine v_iconst C (v := (-1)) dX12_box_13 (by decide) ?_
      cases h
      exact v_iret C hr hlk dX12_box_14
  · refine v_iconst C (v := (-1)) dX12_box_13 (by decide) ?_
    cases h
    exact v_iret C hr hlk dX12_box_14
def rX12_through : Room := { frames := 5, cells := 0, slots := 0, locals := 116 }
def fX12_through (a1 : Int32) (a2 : Int32) (a3 : Bool) (u : Mem) : Option (Int64 × Mem) := ((fX12_isShell a1 a2 u).bind fun r2 => (if r2 = true then ((fX12_spans u).bind fun u5 => (if inB (8 + a1) 8320 then ((fX12_settles a1 (u5.1 1 (8 + a1).toNatClampNeg) u5).bind fun q7 => ((fX12_throughOf a1 a2 a3 q7.2).bind fun r9 => (some (r9, q7.2)))) else none)) else (some ((-1), u))))
set_option maxHeartbeats 4000000 in
set_option maxRecDepth 100000 in
theorem cX12_through_ct (l : Launch) (D : va_G) (cy : Nat → ClassId) (ad : Nat → Nat) (a1 : Int32) (a2 : Int32) (a3 : Bool) (u : Mem)  (out : (Int64 × Mem)) (h : fX12_through a1 a2 a3 u = some out) : Met l yX12_through (.code yX12_through cX12_through 5 (some .long) :: gw) rX12_through (va_Pc [.ref (ad 0), .int a1, .int a2, .int (bz a3)] (wv shM nM D cy ad u)) (qL shM nM D cy ad out.1 out.2) 0 0 (rA ad nM) := by
  refine met_of (cc := cX12_through) (nL := 5) (by decide) (Nat.le_of_ble_eq_true rfl) (fun p e s m below meth c C hr hlk => ?_)
  unfold fX12_through at h
  show V shM nM D cy ad 5 p l e rX12_through s m _ below meth c (MQ below (qL shM nM D cy ad out.1 out.2) _ s 0 0 (rA ad nM)) 0 [(0, .ref (ad 0)), (1, .int a1), (2, .int a2), (3, .int (bz a3))] [] u
  refine v_aload_n C 0 dX12_through_0 rfl rfl ?_
  refine v_iload_n C 1 dX12_through_1 rfl rfl ?_
  refine v_iload_n C 2 dX12_through_2 rfl rfl ?_
  obtain ⟨r2, hc1, h⟩ := bnd h
  refine v_callVi C [.int a1, .int a2] (cX12_isShell_ct l D cy ad a1 a2 u r2 hc1) ml_X12_218 pM_0 ⟨Nat.le_of_ble_eq_true rfl, Nat.le_of_ble_eq_true rfl⟩ ⟨rfl, rfl⟩ rfl rfl (Nat.le_of_ble_eq_true rfl) dX12_through_3 ?_
  refine v_z_ne C 13 dX12_through_6 (by decide) h (fun h => ?_) (fun h => ?_)
  · refine v_aload_n C 0 dX12_through_13 rfl rfl ?_
    obtain ⟨u5, hc4, h⟩ := bnd h
    refine v_callVv C [] (cX12_spans_ct l D cy ad u u5 hc4) ml_X12_256 pM_0 ⟨Nat.le_of_ble_eq_true rfl, Nat.le_of_ble_eq_true rfl⟩ ⟨rfl, rfl⟩ rfl rfl (Nat.le_of_ble_eq_true rfl) dX12_through_14 ?_
    refine v_aload_n C 0 dX12_through_17 rfl rfl ?_
    refine v_iload_n C 1 dX12_through_18 rfl rfl ?_
    refine v_aload_n C 0 dX12_through_19 rfl rfl ?_
    refine v_getr C pM_0 fd_X12_7 rfl dX12_through_20 ?_
    refine v_bipush C (v := 8) dX12_through_23 (by decide) ?_
    refine v_iload_n C 1 dX12_through_25 rfl rfl ?_
    refine v_iadd C dX12_through_26 ?_
    refine v_iald C pM_1 dX12_through_27 h (fun h => ?_)
    obtain ⟨q7, hc6, h⟩ := bnd h
    refine v_callVi C [.int a1, .int (u5.1 1 (8 + a1).toNatClampNeg)] (cX12_settles_ct l D cy ad a1 (u5.1 1 (8 + a1).toNatClampNeg) u5 q7 hc6) ml_X12_259 pM_0 ⟨Nat.le_of_ble_eq_true rfl, Nat.le_of_ble_eq_true rfl⟩ ⟨rfl, rfl⟩ rfl rfl (Nat.le_of_ble_eq_true rfl) dX12_through_28 ?_
    refine v_istore C [(4, .int (bz q7.1)), (0, .ref (ad 0)), (1, .int a1), (2, .int a2), (3, .int (bz a3))] dX12_through_31 (by decide) rfl ?_
    refine v_aload_n C 1 dX12_through_33 rfl rfl ?_
    refine v_iload_n C 2 dX12_through_34 rfl rfl ?_
    refine v_iload_n C 3 dX12_through_35 rfl rfl ?_
    refine v_iload_n C 4 dX12_through_36 rfl rfl ?_
    obtain ⟨r9, hc8, h⟩ := bnd h
    refine v_callVl C [.int a1, .int a2, .int (bz a3)] (cX12_throughOf_ct l D cy ad a1 a2 a3 q7.2 r9 hc8) ml_X12_250 pM_0 ⟨Nat.le_of_ble_eq_true rfl, Nat.le_of_ble_eq_true rfl⟩ ⟨rfl, rfl⟩ rfl rfl (Nat.le_of_ble_eq_true rfl) dX12_through_37 ?_
    cases h
    exact v_lret C hr hlk dX12_through_40
  · refine v_ldc2 C kc_X12_265 dX12_through_9 ?_
    cases h
    exact v_lret C hr hlk dX12_through_12
def rX12_settled : Room := { frames := 5, cells := 0, slots := 0, locals := 116 }
def fX12_settled_L36 (a1 : Int32) (u : Mem) : Nat → Bool → Int32 → Option (Int32 × Mem)
  | 0, _, _ => none
  | t + 1, a2, a3 => (if inB (2 + a1) 8320 then (if (u.1 1 (2 + a1).toNatClampNeg) ≤ a3 then (some (((if a2 = true then 2 else 1) : Int32), u)) else (if a2 = true then (if inB a3 16 then fX12_settled_L36 a1 u t (if (u.1 11 a3.toNatClampNeg) = 1 then true else false) (a3 + 1) else none) else fX12_settled_L36 a1 u t false (a3 + 1))) else none)
def fX12_settled (a1 : Int32) (u : Mem) : Option (Int32 × Mem) := ((fX12_isStar a1).bind fun r2 => (if r2 = true then ((fX12_spans u).bind fun u5 => (if inB (8 + a1) 8320 then ((fX12_settles a1 (u5.1 1 (8 + a1).toNatClampNeg) u5).bind fun q7 => (if q7.1 = true then fX12_settled_L36 a1 q7.2 fu0 true 0 else (some (0, q7.2)))) else none)) else (some ((-1), u))))
set_option maxHeartbeats 4000000 in
set_option maxRecDepth 100000 in
theorem kX12_settled_L36 {l : Launch} {D : va_G} {cy : Nat → ClassId} {ad : Nat → Nat} {p : Program} {e : Env} {s : State} {m : MethodId} {args : Array Value} {below : List Frame} {meth : Method} {c : Code} (C : Cx nM D cy ad 4 cX12_settled RX12 rX12_settled p s m args c) (hr : meth.sig.returnType = some .int) (hlk : meth.locks = false) (a1 : Int32)  (u : Mem) {out : (Int32 × Mem)}  : ∀ (t : Nat) (a2 : Bool) (a3 : Int32), fX12_settled_L36 a1 u t a2 a3 = some out → V shM nM D cy ad 4 p l e rX12_settled s m args below meth c (MQ below (qI shM nM D cy ad out.1 out.2) args s 0 0 (rA ad nM)) 36 [(0, .ref (ad 0)), (1, .int a1), (2, .int (bz a2)), (3, .int a3)] [] u := by
  intro t
  induction t with
  | zero => intro a2 a3 h; rw [fX12_settled_L36] at h; cases h
  | succ t ih =>
    intro a2 a3 h
    rw [fX12_settled_L36] at h
    refine v_iload_n C 3 dX12_settled_36 rfl rfl ?_
    refine v_aload_n C 0 dX12_settled_37 rfl rfl ?_
    refine v_getr C pM_0 fd_X12_7 rfl dX12_settled_38 ?_
    refine v_iconst C (v := 2) dX12_settled_41 (by decide) ?_
    refine v_iload_n C 1 dX12_settled_42 rfl rfl ?_
    refine v_iadd C dX12_settled_43 ?_
    refine v_iald C pM_1 dX12_settled_44 h (fun h => ?_)
    refine v_icmp_ge C 74 dX12_settled_45 (by decide) h (fun h => ?_) (fun h => ?_)
    · refine v_iload_n C 2 dX12_settled_74 rfl rfl ?_
      refine v_dia 83 (.int ((if a2 = true then 2 else 1) : Int32)) [] ?_ (fun hj => ?_)
      · cases h
        exact v_iret C hr hlk dX12_settled_83
      · refine p_z_eq C 82 dX12_settled_75 (by decide) (fun z12 => ?_) (fun z12 => ?_)
        · refine v_iconst C (v := 2) dX12_settled_78 (by decide) ?_
          refine v_goto C 83 dX12_settled_79 (by decide) ?_
          exact v_top (by rw [if_pos z12]; first | done | rfl) hj
        · refine v_iconst C (v := 1) dX12_settled_82 (by decide) ?_
          exact v_top (by rw [if_neg z12]; first | done | rfl) hj
    · refine v_iload_n C 2 dX12_settled_48 rfl rfl ?_
      refine v_z_eq C 66 dX12_settled_49 (by decide) h (fun h => ?_) (fun h => ?_)
      · refine v_aload_n C 0 dX12_settled_52 rfl rfl ?_
        refine v_getr C pM_0 fd_X12_53 rfl dX12_settled_53 ?_
        refine v_iload_n C 3 dX12_settled_56 rfl rfl ?_
        refine v_iald C pM_11 dX12_settled_57 h (fun h => ?_)
        refine v_iconst C (v := 1) dX12_settled_58 (by decide) ?_
        refine v_dia 67 (.int (bz (if (u.1 11 a3.toNatClampNeg) = 1 then true else false))) [] ?_ (fun hj => ?_)
        · refine v_istore_n C [(2, .int (bz (if (u.1 11 a3.toNatClampNeg) = 1 then true else false))), (0, .ref (ad 0)), (1, .int a1), (3, .int a3)] dX12_settled_67 rfl (by decide) rfl ?_
          refine v_iinc C 3 (v := a3 + 1) [(3, .int (a3 + 1)), (2, .int (bz (if (u.1 11 a3.toNatClampNeg) = 1 then true else false))), (0, .ref (ad 0)), (1, .int a1)] dX12_settled_68 rfl rfl (by decide) rfl ?_
          refine v_goto C 36 dX12_settled_71 (by decide) ?_
          refine v_sub [2, 3, 1, 0] rfl ?_
          exact ih (if (u.1 11 a3.toNatClampNeg) = 1 then true else false) (a3 + 1) h
        · refine p_icmp_ne C 66 dX12_settled_59 (by decide) (fun z14 => ?_) (fun z14 => ?_)
          · refine v_iconst C (v := 1) dX12_settled_62 (by decide) ?_
            refine v_goto C 67 dX12_settled_63 (by decide) ?_
            exact v_top (by rw [if_pos z14]; first | done | rfl) hj
          · refine v_iconst C (v := 0) dX12_settled_66 (by decide) ?_
            exact v_top (by rw [if_neg z14]; first | done | rfl) hj
      · refine v_iconst C (v := 0) dX12_settled_66 (by decide) ?_
        refine v_istore_n C [(2, .int 0), (0, .ref (ad 0)), (1, .int a1), (3, .int a3)] dX12_settled_67 rfl (by decide) rfl ?_
        refine v_iinc C 3 (v := a3 + 1) [(3, .int (a3 + 1)), (2, .int 0), (0, .ref (ad 0)), (1, .int a1)] dX12_settled_68 rfl rfl (by decide) rfl ?_
        refine v_goto C 36 dX12_settled_71 (by decide) ?_
        refine v_sub [2, 3, 1, 0] rfl ?_
        exact ih false (a3 + 1) h
set_option maxHeartbeats 4000000 in
set_option maxRecDepth 100000 in
theorem cX12_settled_ct (l : Launch) (D : va_G) (cy : Nat → ClassId) (ad : Nat → Nat) (a1 : Int32) (u : Mem)  (out : (Int32 × Mem)) (h : fX12_settled a1 u = some out) : Met l yX12_settled (.code yX12_settled cX12_settled 4 (some .int) :: gw) rX12_settled (va_Pc [.ref (ad 0), .int a1] (wv shM nM D cy ad u)) (qI shM nM D cy ad out.1 out.2) 0 0 (rA ad nM) := by
  refine met_of (cc := cX12_settled) (nL := 4) (by decide) (Nat.le_of_ble_eq_true rfl) (fun p e s m below meth c C hr hlk => ?_)
  unfold fX12_settled at h
  show V shM nM D cy ad 4 p l e rX12_settled s m _ below meth c (MQ below (qI shM nM D cy ad out.1 out.2) _ s 0 0 (rA ad nM)) 0 [(0, .ref (ad 0)), (1, .int a1)] [] u
  refine v_iload_n C 1 dX12_settled_0 rfl rfl ?_
  obtain ⟨r2, hc1, h⟩ := bnd h
  refine v_callSi C [.int a1] (cX12_isStar_ct l D cy ad a1 _ r2 hc1) ml_X12_82 ⟨Nat.le_of_ble_eq_true rfl, Nat.le_of_ble_eq_true rfl⟩ ⟨rfl, rfl⟩ rfl rfl (Nat.le_of_ble_eq_true rfl) dX12_settled_1 ?_
  refine v_z_ne C 9 dX12_settled_4 (by decide) h (fun h => ?_) (fun h => ?_)
  · refine v_aload_n C 0 dX12_settled_9 rfl rfl ?_
    obtain ⟨u5, hc4, h⟩ := bnd h
    refine v_callVv C [] (cX12_spans_ct l D cy ad u u5 hc4) ml_X12_256 pM_0 ⟨Nat.le_of_ble_eq_true rfl, Nat.le_of_ble_eq_true rfl⟩ ⟨rfl, rfl⟩ rfl rfl (Nat.le_of_ble_eq_true rfl) dX12_settled_10 ?_
    refine v_aload_n C 0 dX12_settled_13 rfl rfl ?_
    refine v_iload_n C 1 dX12_settled_14 rfl rfl ?_
    refine v_aload_n C 0 dX12_settled_15 rfl rfl ?_
    refine v_getr C pM_0 fd_X12_7 rfl dX12_settled_16 ?_
    refine v_bipush C (v := 8) dX12_settled_19 (by decide) ?_
    refine v_iload_n C 1 dX12_settled_21 rfl rfl ?_
    refine v_iadd C dX12_settled_22 ?_
    refine v_iald C pM_1 dX12_settled_23 h (fun h => ?_)
    obtain ⟨q7, hc6, h⟩ := bnd h
    refine v_callVi C [.int a1, .int (u5.1 1 (8 + a1).toNatClampNeg)] (cX12_settles_ct l D cy ad a1 (u5.1 1 (8 + a1).toNatClampNeg) u5 q7 hc6) ml_X12_259 pM_0 ⟨Nat.le_of_ble_eq_true rfl, Nat.le_of_ble_eq_true rfl⟩ ⟨rfl, rfl⟩ rfl rfl (Nat.le_of_ble_eq_true rfl) dX12_settled_24 ?_
    refine v_z_ne C 32 dX12_settled_27 (by decide) h (fun h => ?_) (fun h => ?_)
    · refine v_iconst C (v := 1) dX12_settled_32 (by decide) ?_
      refine v_istore_n C [(2, .int 1), (0, .ref (ad 0)), (1, .int a1)] dX12_settled_33 rfl (by decide) rfl ?_
      refine v_iconst C (v := 0) dX12_settled_34 (by decide) ?_
      refine v_istore_n C [(3, .int 0), (2, .int 1), (0, .ref (ad 0)), (1, .int a1)] dX12_settled_35 rfl (by decide) rfl ?_
      refine v_sub [2, 3, 1, 0] rfl ?_
      refine kX12_settled_L36 C hr hlk a1 q7.2   fu0 true 0 h
    · refine v_iconst C (v := 0) dX12_settled_30 (by decide) ?_
      cases h
      exact v_iret C hr hlk dX12_settled_31
  · refine v_iconst C (v := (-1)) dX12_settled_7 (by decide) ?_
    cases h
    exact v_iret C hr hlk dX12_settled_8
