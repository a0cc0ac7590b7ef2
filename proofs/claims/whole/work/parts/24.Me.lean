def rX12_isSung : Room := { frames := 0, cells := 0, slots := 0, locals := 0 }
def fX12_isSung (a1 : Int32) (u : Mem) : Option Bool := (if inB (2 + a1) 8320 then (some (if 7 < (u.1 1 (2 + a1).toNatClampNeg) then false else true)) else none)
set_option maxHeartbeats 4000000 in
set_option maxRecDepth 100000 in
theorem cX12_isSung_ct (l : Launch) (D : va_G) (cy : Nat → ClassId) (ad : Nat → Nat) (a1 : Int32) (u : Mem)  (out : Bool) (h : fX12_isSung a1 u = some out) : Met l yX12_isSung (.code yX12_isSung cX12_isSung 2 (some .boolean) :: gw) rX12_isSung (va_Pc [.ref (ad 0), .int a1] (wv shM nM D cy ad u)) (qI shM nM D cy ad (bz out) u) 0 0 (rA ad nM) := by
  refine met_of (cc := cX12_isSung) (nL := 2) (by decide) (Nat.le_of_ble_eq_true rfl) (fun p e s m below meth c C hr hlk => ?_)
  unfold fX12_isSung at h
  show V shM nM D cy ad 2 p l e rX12_isSung s m _ below meth c (MQ below (qI shM nM D cy ad (bz out) u) _ s 0 0 (rA ad nM)) 0 [(0, .ref (ad 0)), (1, .int a1)] [] u
  refine v_aload_n C 0 dX12_isSung_0 rfl rfl ?_
  refine v_getr C pM_0 fd_X12_7 rfl dX12_isSung_1 ?_
  refine v_iconst C (v := 2) dX12_isSung_4 (by decide) ?_
  refine v_iload_n C 1 dX12_isSung_5 rfl rfl ?_
  refine v_iadd C dX12_isSung_6 ?_
  refine v_iald C pM_1 dX12_isSung_7 h (fun h => ?_)
  refine v_bipush C (v := 7) dX12_isSung_8 (by decide) ?_
  refine v_dia 18 (.int (bz (if 7 < (u.1 1 (2 + a1).toNatClampNeg) then false else true))) [] ?_ (fun hj => ?_)
  · cases h
    exact v_zret (b := (if 7 < (u.1 1 (2 + a1).toNatClampNeg) then false else true)) C hr hlk dX12_isSung_18
  · refine p_icmp_gt C 17 dX12_isSung_10 (by decide) (fun z1 => ?_) (fun z1 => ?_)
    · refine v_iconst C (v := 0) dX12_isSung_17 (by decide) ?_
      exact v_top (by rw [if_pos z1]; first | done | rfl) hj
    · refine v_iconst C (v := 1) dX12_isSung_13 (by decide) ?_
      refine v_goto C 18 dX12_isSung_14 (by decide) ?_
      exact v_top (by rw [if_neg z1]; first | done | rfl) hj
def rX12_kOf : Room := { frames := 0, cells := 0, slots := 0, locals := 0 }
def fX12_kOf (a1 : Int32) (a2 : Int32) (u : Mem) : Option Int32 := (if inB (2 + a1) 8320 then (if (u.1 1 (2 + a1).toNatClampNeg) ≤ a2 then (some 0) else (if inB a2 16 then (some ((u.1 12 a2.toNatClampNeg) / 10)) else none)) else none)
set_option maxHeartbeats 4000000 in
set_option maxRecDepth 100000 in
theorem cX12_kOf_ct (l : Launch) (D : va_G) (cy : Nat → ClassId) (ad : Nat → Nat) (a1 : Int32) (a2 : Int32) (u : Mem)  (out : Int32) (h : fX12_kOf a1 a2 u = some out) : Met l yX12_kOf (.code yX12_kOf cX12_kOf 3 (some .int) :: gw) rX12_kOf (va_Pc [.ref (ad 0), .int a1, .int a2] (wv shM nM D cy ad u)) (qI shM nM D cy ad out u) 0 0 (rA ad nM) := by
  refine met_of (cc := cX12_kOf) (nL := 3) (by decide) (Nat.le_of_ble_eq_true rfl) (fun p e s m below meth c C hr hlk => ?_)
  unfold fX12_kOf at h
  show V shM nM D cy ad 3 p l e rX12_kOf s m _ below meth c (MQ below (qI shM nM D cy ad out u) _ s 0 0 (rA ad nM)) 0 [(0, .ref (ad 0)), (1, .int a1), (2, .int a2)] [] u
  refine v_iload_n C 2 dX12_kOf_0 rfl rfl ?_
  refine v_aload_n C 0 dX12_kOf_1 rfl rfl ?_
  refine v_getr C pM_0 fd_X12_7 rfl dX12_kOf_2 ?_
  refine v_iconst C (v := 2) dX12_kOf_5 (by decide) ?_
  refine v_iload_n C 1 dX12_kOf_6 rfl rfl ?_
  refine v_iadd C dX12_kOf_7 ?_
  refine v_iald C pM_1 dX12_kOf_8 h (fun h => ?_)
  refine v_icmp_ge C 24 dX12_kOf_9 (by decide) h (fun h => ?_) (fun h => ?_)
  · refine v_iconst C (v := 0) dX12_kOf_24 (by decide) ?_
    cases h
    exact v_iret C hr hlk dX12_kOf_25
  · refine v_aload_n C 0 dX12_kOf_12 rfl rfl ?_
    refine v_getr C pM_0 fd_X12_56 rfl dX12_kOf_13 ?_
    refine v_iload_n C 2 dX12_kOf_16 rfl rfl ?_
    refine v_iald C pM_12 dX12_kOf_17 h (fun h => ?_)
    refine v_bipush C (v := 10) dX12_kOf_18 (by decide) ?_
    refine v_idivN C dX12_kOf_20 (by decide) ?_
    refine v_goto C 25 dX12_kOf_21 (by decide) ?_
    cases h
    exact v_iret C hr hlk dX12_kOf_25
def rX12_belowOf : Room := { frames := 1, cells := 0, slots := 0, locals := 22 }
def fX12_belowOf_J62 (Rc14 : Int32 → Int64 → Int64 → Int64 → Int32 → Option Int32) (a1 : Int32) (a2 : Int32) (a3 : Int32) (a4 : Int64) (a6 : Int64) (a8 : Int64) (a10 : Int32) (a11 : Int64) (u : Mem) : Option Int32 := ((fX12_kOf a1 a10 u).bind fun r5 => ((fX12_kOf a1 (a10 + 1) u).bind fun r7 => ((some (((if (((((r5 + r7) - a2).toInt64) * a4) - ((a11 * a11) * a6)) ≤ 0 then (if 0 ≤ (((((r5 + r7) - a2).toInt64) * a4) - ((a11 * a11) * a6)) then 0 else (-1)) else 1) : Int64))).bind fun x10 => (if x10 = 0 then Rc14 a3 (((((r5 + r7) - a2).toInt64) * a4) - ((a11 * a11) * a6)) a4 a8 (a10 + 1) else Rc14 (a3 + ((if x10 = a8 then 0 else 1) : Int32)) (((((r5 + r7) - a2).toInt64) * a4) - ((a11 * a11) * a6)) a4 x10 (a10 + 1)))))
def fX12_belowOf_J44 (Rc14 : Int32 → Int64 → Int64 → Int64 → Int32 → Option Int32) (a1 : Int32) (a2 : Int32) (a3 : Int32) (a4 : Int64) (a6 : Int64) (a8 : Int64) (a10 : Int32) (s0 : Int64) (u : Mem) : Option Int32 := (if s0 = 0 then fX12_belowOf_J62 Rc14 a1 a2 a3 1 0 1 a10 s0 u else fX12_belowOf_J62 Rc14 a1 a2 a3 a4 a6 a8 a10 s0 u)
def fX12_belowOf_L14 (a1 : Int32) (a2 : Int32) (u : Mem) : Nat → Int32 → Int64 → Int64 → Int64 → Int32 → Option Int32
  | 0, _, _, _, _, _ => none
  | t + 1, a3, a4, a6, a8, a10 => (if inB (2 + a1) 8320 then (if (u.1 1 (2 + a1).toNatClampNeg) ≤ a10 then (some a3) else (if a10 = 0 then fX12_belowOf_J44 (fX12_belowOf_L14 a1 a2 u t) a1 a2 a3 a4 a6 a8 a10 0 u else ((fX12_kOf a1 a10 u).bind fun r14 => fX12_belowOf_J44 (fX12_belowOf_L14 a1 a2 u t) a1 a2 a3 a4 a6 a8 a10 r14.toInt64 u))) else none)
def fX12_belowOf (a1 : Int32) (a2 : Int32) (u : Mem) : Option Int32 := fX12_belowOf_L14 a1 a2 u fu0 0 1 0 1 0
set_option maxHeartbeats 4000000 in
set_option maxRecDepth 100000 in
theorem kX12_belowOf_J62 {l : Launch} {D : va_G} {cy : Nat → ClassId} {ad : Nat → Nat} {p : Program} {e : Env} {s : State} {m : MethodId} {args : Array Value} {below : List Frame} {meth : Method} {c : Code} (C : Cx nM D cy ad 17 cX12_belowOf RX12 rX12_belowOf p s m args c) (hr : meth.sig.returnType = some .int) (hlk : meth.locks = false) {out : Int32} (Rc14 : Int32 → Int64 → Int64 → Int64 → Int32 → Option Int32)  (a1 : Int32) (a2 : Int32) (a3 : Int32) (a4 : Int64) (a6 : Int64) (a8 : Int64) (a10 : Int32) (a11 : Int64) (u : Mem)  (hRc14 : ∀ (a3 : Int32) (a4 : Int64) (a6 : Int64) (a8 : Int64) (a10 : Int32), Rc14 a3 a4 a6 a8 a10 = some out → V shM nM D cy ad 17 p l e rX12_belowOf s m args below meth c (MQ below (qI shM nM D cy ad out u) args s 0 0 (rA ad nM)) 14 [(0, .ref (ad 0)), (1, .int a1), (2, .int a2), (3, .int a3), (4, .long a4), (6, .long a6), (8, .long a8), (10, .int a10)] [] u) (h : fX12_belowOf_J62 Rc14 a1 a2 a3 a4 a6 a8 a10 a11 u = some out) : V shM nM D cy ad 17 p l e rX12_belowOf s m args below meth c (MQ below (qI shM nM D cy ad out u) args s 0 0 (rA ad nM)) 62 [(0, .ref (ad 0)), (1, .int a1), (2, .int a2), (3, .int a3), (4, .long a4), (6, .long a6), (8, .long a8), (10, .int a10), (11, .long a11)] [] u := by
  unfold fX12_belowOf_J62 at h
  refine v_aload_n C 0 dX12_belowOf_62 rfl rfl ?_
  refine v_iload_n C 1 dX12_belowOf_63 rfl rfl ?_
  refine v_iload C 7 dX12_belowOf_64 rfl ?_
  obtain ⟨r5, hc4, h⟩ := bnd h
  refine v_callVi C [.int a1, .int a10] (cX12_kOf_ct l D cy ad a1 a10 u r5 hc4) ml_X12_290 pM_0 ⟨Nat.le_of_ble_eq_true rfl, Nat.le_of_ble_eq_true rfl⟩ ⟨rfl, rfl⟩ rfl rfl (Nat.le_of_ble_eq_true rfl) dX12_belowOf_66 ?_
  refine v_aload_n C 0 dX12_belowOf_69 rfl rfl ?_
  refine v_iload_n C 1 dX12_belowOf_70 rfl rfl ?_
  refine v_iload C 7 dX12_belowOf_71 rfl ?_
  refine v_iconst C (v := 1) dX12_belowOf_73 (by decide) ?_
  refine v_iadd C dX12_belowOf_74 ?_
  obtain ⟨r7, hc6, h⟩ := bnd h
  refine v_callVi C [.int a1, .int (a10 + 1)] (cX12_kOf_ct l D cy ad a1 (a10 + 1) u r7 hc6) ml_X12_290 pM_0 ⟨Nat.le_of_ble_eq_true rfl, Nat.le_of_ble_eq_true rfl⟩ ⟨rfl, rfl⟩ rfl rfl (Nat.le_of_ble_eq_true rfl) dX12_belowOf_75 ?_
  refine v_iadd C dX12_belowOf_78 ?_
  refine v_iload_n C 2 dX12_belowOf_79 rfl rfl ?_
  refine v_isub C dX12_belowOf_80 ?_
  refine v_i2l C dX12_belowOf_81 ?_
  refine v_lload C 4 dX12_belowOf_82 rfl ?_
  refine v_lmul C dX12_belowOf_84 ?_
  refine v_lload C 8 dX12_belowOf_85 rfl ?_
  refine v_lload C 8 dX12_belowOf_87 rfl ?_
  refine v_lmul C dX12_belowOf_89 ?_
  refine v_lload C 5 dX12_belowOf_90 rfl ?_
  refine v_lmul C dX12_belowOf_92 ?_
  refine v_lsub C dX12_belowOf_93 ?_
  refine v_lstore C [(13, .long (((((r5 + r7) - a2).toInt64) * a4) - ((a11 * a11) * a6))), (0, .ref (ad 0)), (1, .int a1), (2, .int a2), (3, .int a3), (4, .long a4), (6, .long a6), (8, .long a8), (10, .int a10), (11, .long a11)] dX12_belowOf_94 (by decide) rfl ?_
  refine v_lload C 5 dX12_belowOf_96 rfl ?_
  refine v_lstore C [(6, .long a4), (13, .long (((((r5 + r7) - a2).toInt64) * a4) - ((a11 * a11) * a6))), (0, .ref (ad 0)), (1, .int a1), (2, .int a2), (3, .int a3), (4, .long a4), (8, .long a8), (10, .int a10), (11, .long a11)] dX12_belowOf_98 (by decide) rfl ?_
  refine v_lload C 1 dX12_belowOf_100 rfl ?_
  refine v_lstore C [(4, .long (((((r5 + r7) - a2).toInt64) * a4) - ((a11 * a11) * a6))), (6, .long a4), (13, .long (((((r5 + r7) - a2).toInt64) * a4) - ((a11 * a11) * a6))), (0, .ref (ad 0)), (1, .int a1), (2, .int a2), (3, .int a3), (8, .long a8), (10, .int a10), (11, .long a11)] dX12_belowOf_102 (by decide) rfl ?_
  refine v_lload C 0 dX12_belowOf_104 rfl ?_
  refine v_lconst C (v := 0) dX12_belowOf_106 (by decide) ?_
  refine v_dia 129 (.long ((if (((((r5 + r7) - a2).toInt64) * a4) - ((a11 * a11) * a6)) ≤ 0 then (if 0 ≤ (((((r5 + r7) - a2).toInt64) * a4) - ((a11 * a11) * a6)) then 0 else (-1)) else 1) : Int64)) [] ?_ (fun hj => ?_)
  · refine v_nmj (fun x10 hx10 => ?_)
    have h := nmd hx10 h
    refine v_lstore C [(15, .long x10), (4, .long (((((r5 + r7) - a2).toInt64) * a4) - ((a11 * a11) * a6))), (6, .long a4), (13, .long (((((r5 + r7) - a2).toInt64) * a4) - ((a11 * a11) * a6))), (0, .ref (ad 0)), (1, .int a1), (2, .int a2), (3, .int a3), (8, .long a8), (10, .int a10), (11, .long a11)] dX12_belowOf_129 (by decide) rfl ?_
    refine v_lload C 0 dX12_belowOf_131 rfl ?_
    refine v_lconst C (v := 0) dX12_belowOf_133 (by decide) ?_
    refine v_lcmp_eq C 158 dX12_belowOf_134 dX12_belowOf_135 (by decide) h (fun h => ?_) (fun h => ?_)
    · refine v_iinc C 9 (v := a10 + 1) [(10, .int (a10 + 1)), (15, .long x10), (4, .long (((((r5 + r7) - a2).toInt64) * a4) - ((a11 * a11) * a6))), (6, .long a4), (13, .long (((((r5 + r7) - a2).toInt64) * a4) - ((a11 * a11) * a6))), (0, .ref (ad 0)), (1, .int a1), (2, .int a2), (3, .int a3), (8, .long a8), (11, .long a11)] dX12_belowOf_158 rfl rfl (by decide) rfl ?_
      refine v_goto C 14 dX12_belowOf_161 (by decide) ?_
      refine v_sub [5, 6, 7, 8, 2, 3, 9, 0] rfl ?_
      exact hRc14 a3 (((((r5 + r7) - a2).toInt64) * a4) - ((a11 * a11) * a6)) a4 a8 (a10 + 1) h
    · refine v_iload_n C 7 dX12_belowOf_138 rfl rfl ?_
      refine v_lload C 0 dX12_belowOf_139 rfl ?_
      refine v_lload C 8 dX12_belowOf_141 rfl ?_
      refine v_dia 152 (.int ((if x10 = a8 then 0 else 1) : Int32)) [.int a3] ?_ (fun hj => ?_)
      · refine v_iadd C dX12_belowOf_152 ?_
        refine v_istore_n C [(3, .int (a3 + ((if x10 = a8 then 0 else 1) : Int32))), (15, .long x10), (4, .long (((((r5 + r7) - a2).toInt64) * a4) - ((a11 * a11) * a6))), (6, .long a4), (13, .long (((((r5 + r7) - a2).toInt64) * a4) - ((a11 * a11) * a6))), (0, .ref (ad 0)), (1, .int a1), (2, .int a2), (8, .long a8), (10, .int a10), (11, .long a11)] dX12_belowOf_153 rfl (by decide) rfl ?_
        refine v_lload C 1 dX12_belowOf_154 rfl ?_
        refine v_lstore C [(8, .long x10), (3, .int (a3 + ((if x10 = a8 then 0 else 1) : Int32))), (15, .long x10), (4, .long (((((r5 + r7) - a2).toInt64) * a4) - ((a11 * a11) * a6))), (6, .long a4), (13, .long (((((r5 + r7) - a2).toInt64) * a4) - ((a11 * a11) * a6))), (0, .ref (ad 0)), (1, .int a1), (2, .int a2), (10, .int a10), (11, .long a11)] dX12_belowOf_156 (by decide) rfl ?_
        refine v_iinc C 9 (v := a10 + 1) [(10, .int (a10 + 1)), (8, .long x10), (3, .int (a3 + ((if x10 = a8 then 0 else 1) : Int32))), (15, .long x10), (4, .long (((((r5 + r7) - a2).toInt64) * a4) - ((a11 * a11) * a6))), (6, .long a4), (13, .long (((((r5 + r7) - a2).toInt64) * a4) - ((a11 * a11) * a6))), (0, .ref (ad 0)), (1, .int a1), (2, .int a2), (11, .long a11)] dX12_belowOf_158 rfl rfl (by decide) rfl ?_
        refine v_goto C 14 dX12_belowOf_161 (by decide) ?_
        refine v_sub [7, 8, 9, 2, 4, 5, 1, 0] rfl ?_
        exact hRc14 (a3 + ((if x10 = a8 then 0 else 1) : Int32)) (((((r5 + r7) - a2).toInt64) * a4) - ((a11 * a11) * a6)) a4 x10 (a10 + 1) h
      · refine p_lcmp_eq C 151 dX12_belowOf_143 dX12_belowOf_144 (by decide) (fun z12 => ?_) (fun z12 => ?_)
        · refine v_iconst C (v := 0) dX12_belowOf_151 (by decide) ?_
          exact v_top (by rw [if_pos z12]; first | done | rfl) hj
        · refine v_iconst C (v := 1) dX12_belowOf_147 (by decide) ?_
          refine v_goto C 152 dX12_belowOf_148 (by decide) ?_
          exact v_top (by rw [if_neg z12]; first | done | rfl) hj
  · refine p_lcmp_le C 115 dX12_belowOf_107 dX12_belowOf_108 (by decide) (fun z8 => ?_) (fun z8 => ?_)
    · refine v_lload C 0 dX12_belowOf_115 rfl ?_
      refine v_lconst C (v := 0) dX12_belowOf_117 (by decide) ?_
      refine p_lcmp_ge C 128 dX12_belowOf_118 dX12_belowOf_119 (by decide) (fun z9 => ?_) (fun z9 => ?_)
      · refine v_lconst C (v := 0) dX12_belowOf_128 (by decide) ?_
        exact v_topl (by rw [if_pos z8, if_pos z9]; first | done | rfl) hj
      · refine v_ldc2 C kc_X12_265 dX12_belowOf_122 ?_
        refine v_goto C 129 dX12_belowOf_125 (by decide) ?_
        exact v_topl (by rw [if_pos z8, if_neg z9]; first | done | rfl) hj
    · refine v_lconst C (v := 1) dX12_belowOf_111 (by decide) ?_
      refine v_goto C 129 dX12_belowOf_112 (by decide) ?_
      exact v_topl (by rw [if_neg z8]; first | done | rfl) hj
set_option maxHeartbeats 4000000 in
set_option maxRecDepth 100000 in
theorem kX12_belowOf_J44 {l : Launch} {D : va_G} {cy : Nat → ClassId} {ad : Nat → Nat} {p : Program} {e : Env} {s : State} {m : MethodId} {args : Array Value} {below : List Frame} {meth : Method} {c : Code} (C : Cx nM D cy ad 17 cX12_belowOf RX12 rX12_belowOf p s m args c) (hr : meth.sig.returnType = some .int) (hlk : meth.locks = false) {out : Int32} (Rc14 : Int32 → Int64 → Int64 → Int64 → Int32 → Option Int32)  (a1 : Int32) (a2 : Int32) (a3 : Int32) (a4 : Int64) (a6 : Int64) (a8 : Int64) (a10 : Int32) (s0 : Int64) (u : Mem)  (hRc14 : ∀ (a3 : Int32) (a4 : Int64) (a6 : Int64) (a8 : Int64) (a10 : Int32), Rc14 a3 a4 a6 a8 a10 = some out → V shM nM D cy ad 17 p l e rX12_belowOf s m args below meth c (MQ below (qI shM nM D cy ad out u) args s 0 0 (rA ad nM)) 14 [(0, .ref (ad 0)), (1, .int a1), (2, .int a2), (3, .int a3), (4, .long a4), (6, .long a6), (8, .long a8), (10, .int a10)] [] u) (h : fX12_belowOf_J44 Rc14 a1 a2 a3 a4 a6 a8 a10 s0 u = some out) : V shM nM D cy ad 17 p l e rX12_belowOf s m args below meth c (MQ below (qI shM nM D cy ad out u) args s 0 0 (rA ad nM)) 44 [(0, .ref (ad 0)), (1, .int a1), (2, .int a2), (3, .int a3), (4, .long a4), (6, .long a6), (8, .long a8), (10, .int a10)] [.long s0] u := by
  unfold fX12_belowOf_J44 at h
  refine v_lstore C [(11, .long s0), (0, .ref (ad 0)), (1, .int a1), (2, .int a2), (3, .int a3), (4, .long a4), (6, .long a6), (8, .long a8), (10, .int a10)] dX12_belowOf_44 (by decide) rfl ?_
  refine v_lload C 0 dX12_belowOf_46 rfl ?_
  refine v_lconst C (v := 0) dX12_belowOf_48 (by decide) ?_
  refine v_lcmp_ne C 62 dX12_belowOf_49 dX12_belowOf_50 (by decide) h (fun h => ?_) (fun h => ?_)
  · refine v_lconst C (v := 1) dX12_belowOf_53 (by decide) ?_
    refine v_lstore C [(4, .long 1), (11, .long s0), (0, .ref (ad 0)), (1, .int a1), (2, .int a2), (3, .int a3), (6, .long a6), (8, .long a8), (10, .int a10)] dX12_belowOf_54 (by decide) rfl ?_
    refine v_lconst C (v := 0) dX12_belowOf_56 (by decide) ?_
    refine v_lstore C [(6, .long 0), (4, .long 1), (11, .long s0), (0, .ref (ad 0)), (1, .int a1), (2, .int a2), (3, .int a3), (8, .long a8), (10, .int a10)] dX12_belowOf_57 (by decide) rfl ?_
    refine v_lconst C (v := 1) dX12_belowOf_59 (by decide) ?_
    refine v_lstore C [(8, .long 1), (6, .long 0), (4, .long 1), (11, .long s0), (0, .ref (ad 0)), (1, .int a1), (2, .int a2), (3, .int a3), (10, .int a10)] dX12_belowOf_60 (by decide) rfl ?_
    refine v_sub [4, 5, 6, 7, 2, 1, 0, 8, 3] rfl ?_
    exact kX12_belowOf_J62 C hr hlk Rc14 a1 a2 a3 1 0 1 a10 s0 u hRc14 h
  · refine v_sub [1, 2, 3, 4, 5, 6, 7, 8, 0] rfl ?_
    exact kX12_belowOf_J62 C hr hlk Rc14 a1 a2 a3 a4 a6 a8 a10 s0 u hRc14 h
set_option maxHeartbeats 4000000 in
set_option maxRecDepth 100000 in
theorem kX12_belowOf_L14 {l : Launch} {D : va_G} {cy : Nat → ClassId} {ad : Nat → Nat} {p : Program} {e : Env} {s : State} {m : MethodId} {args : Array Value} {below : List Frame} {meth : Method} {c : Code} (C : Cx nM D cy ad 17 cX12_belowOf RX12 rX12_belowOf p s m args c) (hr : meth.sig.returnType = some .int) (hlk : meth.locks = false) (a1 : Int32) (a2 : Int32)  (u : Mem) {out : Int32}  : ∀ (t : Nat) (a3 : Int32) (a4 : Int64) (a6 : Int64) (a8 : Int64) (a10 : Int32), fX12_belowOf_L14 a1 a2 u t a3 a4 a6 a8 a10 = some out → V shM nM D cy ad 17 p l e rX12_belowOf s m args below meth c (MQ below (qI shM nM D cy ad out u) args s 0 0 (rA ad nM)) 14 [(0, .ref (ad 0)), (1, .int a1), (2, .int a2), (3, .int a3), (4, .long a4), (6, .long a6), (8, .long a8), (10, .int a10)] [] u := by
  intro t
  induction t with
  | zero => intro a3 a4 a6 a8 a10 h; rw [fX12_belowOf_L14] at h; cases h
  | succ t ih =>
    intro a3 a4 a6 a8 a10 h
    rw [fX12_belowOf_L14] at h
    refine v_iload C 7 dX12_belowOf_14 rfl ?_
    refine v_aload_n C 0 dX12_belowOf_16 rfl rfl ?_
    refine v_getr C pM_0 fd_X12_7 rfl dX12_belowOf_17 ?_
    refine v_iconst C (v := 2) dX12_belowOf_20 (by decide) ?_
    refine v_iload_n C 1 dX12_belowOf_21 rfl rfl ?_
    refine v_iadd C dX12_belowOf_22 ?_
    refine v_iald C pM_1 dX12_belowOf_23 h (fun h => ?_)
    refine v_icmp_ge C 164 dX12_belowOf_24 (by decide) h (fun h => ?_) (fun h => ?_)
    · refine v_iload_n C 3 dX12_belowOf_164 rfl rfl ?_
      cases h
      exact v_iret C hr hlk dX12_belowOf_165
    · refine v_iload C 7 dX12_belowOf_27 rfl ?_
      refine v_if_ne C 36 dX12_belowOf_29 (by decide) h (fun h => ?_) (fun h => ?_)
      · refine v_lconst C (v := 0) dX12_belowOf_32 (by decide) ?_
        refine v_goto C 44 dX12_belowOf_33 (by decide) ?_
        exact kX12_belowOf_J44 C hr hlk (fX12_belowOf_L14 a1 a2 u t) a1 a2 a3 a4 a6 a8 a10 0 u ih h
      · refine v_aload_n C 0 dX12_belowOf_36 rfl rfl ?_
        refine v_iload_n C 1 dX12_belowOf_37 rfl rfl ?_
        refine v_iload C 7 dX12_belowOf_38 rfl ?_
        obtain ⟨r14, hc13, h⟩ := bnd h
        refine v_callVi C [.int a1, .int a10] (cX12_kOf_ct l D cy ad a1 a10 u r14 hc13) ml_X12_290 pM_0 ⟨Nat.le_of_ble_eq_true rfl, Nat.le_of_ble_eq_true rfl⟩ ⟨rfl, rfl⟩ rfl rfl (Nat.le_of_ble_eq_true rfl) dX12_belowOf_40 ?_
        refine v_i2l C dX12_belowOf_43 ?_
        exact kX12_belowOf_J44 C hr hlk (fX12_belowOf_L14 a1 a2 u t) a1 a2 a3 a4 a6 a8 a10 r14.toInt64 u ih h
set_option maxHeartbeats 4000000 in
set_option maxRecDepth 100000 in
theorem cX12_belowOf_ct (l : Launch) (D : va_G) (cy : Nat → ClassId) (ad : Nat → Nat) (a1 : Int32) (a2 : Int32) (u : Mem)  (out : Int32) (h : fX12_belowOf a1 a2 u = some out) : Met l yX12_belowOf (.code yX12_belowOf cX12_belowOf 17 (some .int) :: gw) rX12_belowOf (va_Pc [.ref (ad 0), .int a1, .int a2] (wv shM nM D cy ad u)) (qI shM nM D cy ad out u) 0 0 (rA ad nM) := by
  refine met_of (cc := cX12_belowOf) (nL := 17) (by decide) (Nat.le_of_ble_eq_true rfl) (fun p e s m below meth c C hr hlk => ?_)
  unfold fX12_belowOf at h
  show V shM nM D cy ad 17 p l e rX12_belowOf s m _ below meth c (MQ below (qI shM nM D cy ad out u) _ s 0 0 (rA ad nM)) 0 [(0, .ref (ad 0)), (1, .int a1), (2, .int a2)] [] u
  refine v_iconst C (v := 0) dX12_belowOf_0 (by decide) ?_
  refine v_istore_n C [(3, .int 0), (0, .ref (ad 0)), (1, .int a1), (2, .int a2)] dX12_belowOf_1 rfl (by decide) rfl ?_
  refine v_lconst C (v := 1) dX12_belowOf_2 (by decide) ?_
  refine v_lstore C [(4, .long 1), (3, .int 0), (0, .ref (ad 0)), (1, .int a1), (2, .int a2)] dX12_belowOf_3 (by decide) rfl ?_
  refine v_lconst C (v := 0) dX12_belowOf_5 (by decide) ?_
  refine v_lstore C [(6, .long 0), (4, .long 1), (3, .int 0), (0, .ref (ad 0)), (1, .int a1), (2, .int a2)] dX12_belowOf_6 (by decide) rfl ?_
  refine v_lconst C (v := 1) dX12_belowOf_8 (by decide) ?_
  refine v_lstore C [(8, .long 1), (6, .long 0), (4, .long 1), (3, .int 0), (0, .ref (ad 0)), (1, .int a1), (2, .int a2)] dX12_belowOf_9 (by decide) rfl ?_
  refine v_iconst C (v := 0) dX12_belowOf_11 (by decide) ?_
  refine v_istore C [(10, .int 0), (8, .long 1), (6, .long 0), (4, .long 1), (3, .int 0), (0, .ref (ad 0)), (1, .int a1), (2, .int a2)] dX12_belowOf_12 (by decide) rfl ?_
  refine v_sub [5, 6, 7, 4, 3, 2, 1, 0] rfl ?_
  refine kX12_belowOf_L14 C hr hlk a1 a2 u   fu0 0 1 0 1 0 h
def rX12_below : Room := { frames := 5, cells := 0, slots := 0, locals := 116 }
def fX12_below (a1 : Int32) (a2 : Int32) (u : Mem) : Option (Int32 × Mem) := ((fX12_isStar a1).bind fun r2 => (if r2 = true then ((fX12_in a2.toInt64 0 400).bind fun r5 => (if r5 = true then ((fX12_isSung a1 u).bind fun r8 => (if r8 = true then ((fX12_spans u).bind fun u11 => (if inB (8 + a1) 8320 then ((fX12_settles a1 (u11.1 1 (8 + a1).toNatClampNeg) u11).bind fun q13 => (if q13.1 = true then ((fX12_belowOf a1 a2 q13.2).bind fun r16 => (some (r16, q13.2))) else (some ((-1), q13.2)))) else none)) else (some ((-1), u)))) else (some ((-1), u)))) else (some ((-1), u))))
set_option maxHeartbeats 4000000 in
set_option maxRecDepth 100000 in
theorem cX12_below_ct (l : Launch) (D : va_G) (cy : Nat → ClassId) (ad : Nat → Nat) (a1 : Int32) (a2 : Int32) (u : Mem)  (out : (Int32 × Mem)) (h : fX12_below a1 a2 u = some out) : Met l yX12_below (.code yX12_below cX12_below 3 (some .int) :: gw) rX12_below (va_Pc [.ref (ad 0), .int a1, .int a2] (wv shM nM D cy ad u)) (qI shM nM D cy ad out.1 out.2) 0 0 (rA ad nM) := by
  refine met_of (cc := cX12_below) (nL := 3) (by decide) (Nat.le_of_ble_eq_true rfl) (fun p e s m below meth c C hr hlk => ?_)
  unfold fX12_below at h
  show V shM nM D cy ad 3 p l e rX12_below s m _ below meth c (MQ below (qI shM nM D cy ad out.1 out.2) _ s 0 0 (rA ad nM)) 0 [(0, .ref (ad 0)), (1, .int a1), (2, .int a2)] [] u
  refine v_iload_n C 1 dX12_below_0 rfl rfl ?_
  obtain ⟨r2, hc1, h⟩ := bnd h
  refine v_callSi C [.int a1] (cX12_isStar_ct l D cy ad a1 _ r2 hc1) ml_X12_82 ⟨Nat.le_of_ble_eq_true rfl, Nat.le_of_ble_eq_true rfl⟩ ⟨rfl, rfl⟩ rfl rfl (Nat.le_of_ble_eq_true rfl) dX12_below_1 ?_
  refine v_z_eq C 27 dX12_below_4 (by decide) h (fun h => ?_) (fun h => ?_)
  · refine v_iload_n C 2 dX12_below_7 rfl rfl ?_
    refine v_i2l C dX12_below_8 ?_
    refine v_lconst C (v := 0) dX12_below_9 (by decide) ?_
    refine v_ldc2 C kc_X12_293 dX12_below_10 ?_
    obtain ⟨r5, hc4, h⟩ := bnd h
    refine v_callSi C [.long a2.toInt64, .long 0, .long 400] (cX12_in_ct l D cy ad a2.toInt64 0 400 _ r5 hc4) ml_X12_78 ⟨Nat.le_of_ble_eq_true rfl, Nat.le_of_ble_eq_true rfl⟩ ⟨rfl, rfl⟩ rfl rfl (Nat.le_of_ble_eq_true rfl) dX12_below_13 ?_
    refine v_z_eq C 27 dX12_below_16 (by decide) h (fun h => ?_) (fun h => ?_)
    · refine v_aload_n C 0 dX12_below_19 rfl rfl ?_
      refine v_iload_n C 1 dX12_below_20 rfl rfl ?_
      obtain ⟨r8, hc7, h⟩ := bnd h
      refine v_callVi C [.int a1] (cX12_isSung_ct l D cy ad a1 u r8 hc7) ml_X12_295 pM_0 ⟨Nat.le_of_ble_eq_true rfl, Nat.le_of_ble_eq_true rfl⟩ ⟨rfl, rfl⟩ rfl rfl (Nat.le_of_ble_eq_true rfl) dX12_below_21 ?_
      refine v_z_ne C 29 dX12_below_24 (by decide) h (fun h => ?_) (fun h => ?_)
      · refine v_aload_n C 0 dX12_below_29 rfl rfl ?_
        obtain ⟨u11, hc10, h⟩ := bnd h
        refine v_callVv C [] (cX12_spans_ct l D cy ad u u11 hc10) ml_X12_256 pM_0 ⟨Nat.le_of_ble_eq_true rfl, Nat.le_of_ble_eq_true rfl⟩ ⟨rfl, rfl⟩ rfl rfl (Nat.le_of_ble_eq_true rfl) dX12_below_30 ?_
        refine v_aload_n C 0 dX12_below_33 rfl rfl ?_
        refine v_iload_n C 1 dX12_below_34 rfl rfl ?_
        refine v_aload_n C 0 dX12_below_35 rfl rfl ?_
        refine v_getr C pM_0 fd_X12_7 rfl dX12_below_36 ?_
        refine v_bipush C (v := 8) dX12_below_39 (by decide) ?_
        refine v_iload_n C 1 dX12_below_41 rfl rfl ?_
        refine v_iadd C dX12_below_42 ?_
        refine v_iald C pM_1 dX12_below_43 h (fun h => ?_)
        obtain ⟨q13, hc12, h⟩ := bnd h
        refine v_callVi C [.int a1, .int (u11.1 1 (8 + a1).toNatClampNeg)] (cX12_settles_ct l D cy ad a1 (u11.1 1 (8 + a1).toNatClampNeg) u11 q13 hc12) ml_X12_259 pM_0 ⟨Nat.le_of_ble_eq_true rfl, Nat.le_of_ble_eq_true rfl⟩ ⟨rfl, rfl⟩ rfl rfl (Nat.le_of_ble_eq_true rfl) dX12_below_44 ?_
        refine v_z_eq C 59 dX12_below_47 (by decide) h (fun h => ?_) (fun h => ?_)
        · refine v_aload_n C 0 dX12_below_50 rfl rfl ?_
          refine v_iload_n C 1 dX12_below_51 rfl rfl ?_
          refine v_iload_n C 2 dX12_below_52 rfl rfl ?_
          obtain ⟨r16, hc15, h⟩ := bnd h
          refine v_callVi C [.int a1, .int a2] (cX12_belowOf_ct l D cy ad a1 a2 q13.2 r16 hc15) ml_X12_298 pM_0 ⟨Nat.le_of_ble_eq_true rfl, Nat.le_of_ble_eq_true rfl⟩ ⟨rfl, rfl⟩ rfl rfl (Nat.le_of_ble_eq_true rfl) dX12_below_53 ?_
          refine v_goto C 60 dX12_below_56 (by decide) ?_
          cases h
          exact v_iret C hr hlk dX12_below_60
        · refine v_iconst C (v := (-1)) dX12_below_59 (by decide) ?_
          cases h
          exact v_iret C hr hlk dX12_below_60
      · refine v_iconst C (v := (-1)) dX12_below_27 (by decide) ?_
        cases h
        exact v_iret C hr hlk dX12_below_28
    · refine v_iconst C (v := (-1)) dX12_below_27 (by decide) ?_
      cases h
      exact v_iret C hr hlk dX12_below_28
  · refine v_iconst C (v := (-1)) dX12_below_27 (by decide) ?_
    cases h
    exact v_iret C hr hlk dX12_below_28
def rX12_toneOf : Room := { frames := 2, cells := 0, slots := 0, locals := 58 }
def fX12_toneOf_L2 (a1 : Int32) (a2 : Int32) (u : Mem) : Nat → Int32 → Option Int32
  | 0, _ => none
  | t + 1, a3 => (if 400 ≤ a3 then (some a3) else ((fX12_belowOf a1 (a3 + 1) u).bind fun r3 => (if a2 < r3 then (some a3) else fX12_toneOf_L2 a1 a2 u t (a3 + 1))))
def fX12_toneOf (a1 : Int32) (a2 : Int32) (u : Mem) : Option Int32 := fX12_toneOf_L2 a1 a2 u fu0 0
set_option maxHeartbeats 4000000 in
set_option maxRecDepth 100000 in
theorem kX12_toneOf_L2 {l : Launch} {D : va_G} {cy : Nat → ClassId} {ad : Nat → Nat} {p : Program} {e : Env} {s : State} {m : MethodId} {args : Array Value} {below : List Frame} {meth : Method} {c : Code} (C : Cx nM D cy ad 4 cX12_toneOf RX12 rX12_toneOf p s m args c) (hr : meth.sig.returnType = some .int) (hlk : meth.locks = false) (a1 : Int32) (a2 : Int32)  (u : Mem) {out : Int32}  : ∀ (t : Nat) (a3 : Int32), fX12_toneOf_L2 a1 a2 u t a3 = some out → V shM nM D cy ad 4 p l e rX12_toneOf s m args below meth c (MQ below (qI shM nM D cy ad out u) args s 0 0 (rA ad nM)) 2 [(0, .ref (ad 0)), (1, .int a1), (2, .int a2), (3, .int a3)] [] u := by
  intro t
  induction t with
  | zero => intro a3 h; rw [fX12_toneOf_L2] at h; cases h
  | succ t ih =>
    intro a3 h
    rw [fX12_toneOf_L2] at h
    refine v_iload_n C 3 dX12_toneOf_2 rfl rfl ?_
    refine v_sipush C (v := 400) dX12_toneOf_3 (by decide) ?_
    refine v_icmp_ge C 27 dX12_toneOf_6 (by decide) h (fun h => ?_) (fun h => ?_)
    · refine v_iload_n C 3 dX12_toneOf_27 rfl rfl ?_
      cases h
      exact v_iret C hr hlk dX12_toneOf_28
    · refine v_aload_n C 0 dX12_toneOf_9 rfl rfl ?_
      refine v_iload_n C 1 dX12_toneOf_10 rfl rfl ?_
      refine v_iload_n C 3 dX12_toneOf_11 rfl rfl ?_
      refine v_iconst C (v := 1) dX12_toneOf_12 (by decide) ?_
      refine v_iadd C dX12_toneOf_13 ?_
      obtain ⟨r3, hc2, h⟩ := bnd h
      refine v_callVi C [.int a1, .int (a3 + 1)] (cX12_belowOf_ct l D cy ad a1 (a3 + 1) u r3 hc2) ml_X12_298 pM_0 ⟨Nat.le_of_ble_eq_true rfl, Nat.le_of_ble_eq_true rfl⟩ ⟨rfl, rfl⟩ rfl rfl (Nat.le_of_ble_eq_true rfl) dX12_toneOf_14 ?_
      refine v_iload_n C 2 dX12_toneOf_17 rfl rfl ?_
      refine v_icmp_gt C 27 dX12_toneOf_18 (by decide) h (fun h => ?_) (fun h => ?_)
      · refine v_iload_n C 3 dX12_toneOf_27 rfl rfl ?_
        cases h
        exact v_iret C hr hlk dX12_toneOf_28
      · refine v_iinc C 3 (v := a3 + 1) [(3, .int (a3 + 1)), (0, .ref (ad 0)), (1, .int a1), (2, .int a2)] dX12_toneOf_21 rfl rfl (by decide) rfl ?_
        refine v_goto C 2 dX12_toneOf_24 (by decide) ?_
        refine v_sub [1, 2, 3, 0] rfl ?_
        exact ih (a3 + 1) h
set_option maxHeartbeats 4000000 in
set_option maxRecDepth 100000 in
theorem cX12_toneOf_ct (l : Launch) (D : va_G) (cy : Nat → ClassId) (ad : Nat → Nat) (a1 : Int32) (a2 : Int32) (u : Mem)  (out : Int32) (h : fX12_toneOf a1 a2 u = some out) : Met l yX12_toneOf (.code yX12_toneOf cX12_toneOf 4 (some .int) :: gw) rX12_toneOf (va_Pc [.ref (ad 0), .int a1, .int a2] (wv shM nM D cy ad u)) (qI shM nM D cy ad out u) 0 0 (rA ad nM) := by
  refine met_of (cc := cX12_toneOf) (nL := 4) (by decide) (Nat.le_of_ble_eq_true rfl) (fun p e s m below meth c C hr hlk => ?_)
  unfold fX12_toneOf at h
  show V shM nM D cy ad 4 p l e rX12_toneOf s m _ below meth c (MQ below (qI shM nM D cy ad out u) _ s 0 0 (rA ad nM)) 0 [(0, .ref (ad 0)), (1, .int a1), (2, .int a2)] [] u
  refine v_iconst C (v := 0) dX12_toneOf_0 (by decide) ?_
  refine v_istore_n C [(3, .int 0), (0, .ref (ad 0)), (1, .int a1), (2, .int a2)] dX12_toneOf_1 rfl (by decide) rfl ?_
  refine v_sub [1, 2, 3, 0] rfl ?_
  refine kX12_toneOf_L2 C hr hlk a1 a2 u   fu0 0 h
def rX12_tone : Room := { frames := 5, cells := 0, slots := 0, locals := 116 }
def fX12_tone (a1 : Int32) (a2 : Int32) (u : Mem) : Option (Int32 × Mem) := ((fX12_isStar a1).bind fun r2 => (if r2 = true then (if inB (2 + a1) 8320 then ((fX12_in a2.toInt64 0 (((u.1 1 (2 + a1).toNatClampNeg) - 1).toInt64)).bind fun r5 => (if r5 = true then ((fX12_isSung a1 u).bind fun r8 => (if r8 = true then ((fX12_spans u).bind fun u11 => (if inB (8 + a1) 8320 then ((fX12_settles a1 (u11.1 1 (8 + a1).toNatClampNeg) u11).bind fun q13 => (if q13.1 = true then ((fX12_toneOf a1 a2 q13.2).bind fun r16 => (some (r16, q13.2))) else (some ((-1), q13.2)))) else none)) else (some ((-1), u)))) else (some ((-1), u)))) else none) else (some ((-1), u))))
set_option maxHeartbeats 4000000 in
set_option maxRecDepth 100000 in
theorem cX12_tone_ct (l : Launch) (D : va_G) (cy : Nat → ClassId) (ad : Nat → Nat) (a1 : Int32) (a2 : Int32) (u : Mem)  (out : (Int32 × Mem)) (h : fX12_tone a1 a2 u = some out) : Met l yX12_tone (.code yX12_tone cX12_tone 3 (some .int) :: gw) rX12_tone (va_Pc [.ref (ad 0), .int a1, .int a2] (wv shM nM D cy ad u)) (qI shM nM D cy ad out.1 out.2) 0 0 (rA ad nM) := by
  refine met_of (cc := cX12_tone) (nL := 3) (by decide) (Nat.le_of_ble_eq_true rfl) (fun p e s m below meth c C hr hlk => ?_)
  unfold fX12_tone at h
  show V shM nM D cy ad 3 p l e rX12_tone s m _ below meth c (MQ below (qI shM nM D cy ad out.1 out.2) _ s 0 0 (rA ad nM)) 0 [(0, .ref (ad 0)), (1, .int a1), (2, .int a2)] [] u
  refine v_iload_n C 1 dX12_tone_0 rfl rfl ?_
  obtain ⟨r2, hc1, h⟩ := bnd h
  refine v_callSi C [.int a1] (cX12_isStar_ct l D cy ad a1 _ r2 hc1) ml_X12_82 ⟨Nat.le_of_ble_eq_true rfl, Nat.le_of_ble_eq_true rfl⟩ ⟨rfl, rfl⟩ rfl rfl (Nat.le_of_ble_eq_true rfl) dX12_tone_1 ?_
  refine v_z_eq C 35 dX12_tone_4 (by decide) h (fun h => ?_) (fun h => ?_)
  · refine v_iload_n C 2 dX12_tone_7 rfl rfl ?_
    refine v_i2l C dX12_tone_8 ?_
    refine v_lconst C (v := 0) dX12_tone_9 (by decide) ?_
    refine v_aload_n C 0 dX12_tone_10 rfl rfl ?_
    refine v_getr C pM_0 fd_X12_7 rfl dX12_tone_11 ?_
    refine v_iconst C (v := 2) dX12_tone_14 (by decide) ?_
    refine v_iload_n C 1 dX12_tone_15 rfl rfl ?_
    refine v_iadd C dX12_tone_16 ?_
    refine v_iald C pM_1 dX12_tone_17 h (fun h => ?_)
    refine v_iconst C (v := 1) dX12_tone_18 (by decide) ?_
    refine v_isub C dX12_tone_19 ?_
    refine v_i2l C dX12_tone_20 ?_
    obtain ⟨r5, hc4, h⟩ := bnd h
    refine v_callSi C [.long a2.toInt64, .long 0, .long (((u.1 1 (2 + a1).toNatClampNeg) - 1).toInt64)] (cX12_in_ct l D cy ad a2.toInt64 0 (((u.1 1 (2 + a1).toNatClampNeg) - 1).toInt64) _ r5 hc4) ml_X12_78 ⟨Nat.le_of_ble_eq_true rfl, Nat.le_of_ble_eq_true rfl⟩ ⟨rfl, rfl⟩ rfl rfl (Nat.le_of_ble_eq_true rfl) dX12_tone_21 ?_
    refine v_z_eq C 35 dX12_tone_24 (by decide) h (fun h => ?_) (fun h => ?_)
    · refine v_aload_n C 0 dX12_tone_27 rfl rfl ?_
      refine v_iload_n C 1 dX12_tone_28 rfl rfl ?_
      obtain ⟨r8, hc7, h⟩ := bnd h
      refine v_callVi C [.int a1] (cX12_isSung_ct l D cy ad a1 u r8 hc7) ml_X12_295 pM_0 ⟨Nat.le_of_ble_eq_true rfl, Nat.le_of_ble_eq_true rfl⟩ ⟨rfl, rfl⟩ rfl rfl (Nat.le_of_ble_eq_true rfl) dX12_tone_29 ?_
      refine v_z_ne C 37 dX12_tone_32 (by decide) h (fun h => ?_) (fun h => ?_)
      · refine v_aload_n C 0 dX12_tone_37 rfl rfl ?_
        obtain ⟨u11, hc10, h⟩ := bnd h
        refine v_callVv C [] (cX12_spans_ct l D cy ad u u11 hc10) ml_X12_256 pM_0 ⟨Nat.le_of_ble_eq_true rfl, Nat.le_of_ble_eq_true rfl⟩ ⟨rfl, rfl⟩ rfl rfl (Nat.le_of_ble_eq_true rfl) dX12_tone_38 ?_
        refine v_aload_n C 0 dX12_tone_41 rfl rfl ?_
        refine v_iload_n C 1 dX12_tone_42 rfl rfl ?_
        refine v_aload_n C 0 dX12_tone_43 rfl rfl ?_
        refine v_getr C pM_0 fd_X12_7 rfl dX12_tone_44 ?_
        refine v_bipush C (v := 8) dX12_tone_47 (by decide) ?_
        refine v_iload_n C 1 dX12_tone_49 rfl rfl ?_
        refine v_iadd C dX12_tone_50 ?_
        refine v_iald C pM_1 dX12_tone_51 h (fun h => ?_)
        obtain ⟨q13, hc12, h⟩ := bnd h
        refine v_callVi C [.int a1, .int (u11.1 1 (8 + a1).toNatClampNeg)] (cX12_settles_ct l D cy ad a1 (u11.1 1 (8 + a1).toNatClampNeg) u11 q13 hc12) ml_X12_259 pM_0 ⟨Nat.le_of_ble_eq_true rfl, Nat.le_of_ble_eq_true rfl⟩ ⟨rfl, rfl⟩ rfl rfl (Nat.le_of_ble_eq_true rfl) dX12_tone_52 ?_
        refine v_z_eq C 67 dX12_tone_55 (by decide) h (fun h => ?_) (fun h => ?_)
        · refine v_aload_n C 0 dX12_tone_58 rfl rfl ?_
          refine v_iload_n C 1 dX12_tone_59 rfl rfl ?_
          refine v_iload_n C 2 dX12_tone_60 rfl rfl ?_
          obtain ⟨r16, hc15, h⟩ := bnd h
          refine v_callVi C [.int a1, .int a2] (cX12_toneOf_ct l D cy ad a1 a2 q13.2 r16 hc15) ml_X12_301 pM_0 ⟨Nat.le_of_ble_eq_true rfl, Nat.le_of_ble_eq_true rfl⟩ ⟨rfl, rfl⟩ rfl rfl (Nat.le_of_ble_eq_true rfl) dX12_tone_61 ?_
          refine v_goto C 68 dX12_tone_64 (by decide) ?_
          cases h
          exact v_iret C hr hlk dX12_tone_68
        · refine v_iconst C (v := (-1)) dX12_tone_67 (by decide) ?_
          cases h
          exact v_iret C hr hlk dX12_tone_68
      · refine v_iconst C (v := (-1)) dX12_tone_35 (by decide) ?_
        cases h
        exact v_iret C hr hlk dX12_tone_36
    · refine v_iconst C (v := (-1)) dX12_tone_35 (by decide) ?_
      cases h
      exact v_iret C hr hlk dX12_tone_36
  · refine v_iconst C (v := (-1)) dX12_tone_35 (by decide) ?_
    cases h
    exact v_iret C hr hlk dX12_tone_36
def rX12_seen : Room := { frames := 2, cells := 0, slots := 0, locals := 45 }
def fX12_seen (a1 : Int32) (a2 : Int32) (a3 : Int32) (a4 : Int32) (u : Mem) : Option (Int32 × Mem) := ((fX12_isStar a1).bind fun r3 => (if r3 = true then ((fX12_in a2.toInt64 (-1) 6).bind fun r6 => (if r6 = true then ((fX12_in a3.toInt64 0 (((if a2 = (-1) then 1000000000 else 400) : Int32).toInt64)).bind fun r9 => (if r9 = true then ((fX12_in a4.toInt64 a3.toInt64 (((if a2 = (-1) then 1000000000 else 400) : Int32).toInt64)).bind fun r12 => (if r12 = true then (if (u.1 1 6) = 20 then (some ((-1), u)) else (if inB (1400 + (4 * (u.1 1 6))) 8320 then ((some (si u 1 (1400 + (4 * (u.1 1 6))).toNatClampNeg a1)).bind fun u15 => (if inB ((1400 + (4 * (u.1 1 6))) + 1) 8320 then ((some (si u15 1 ((1400 + (4 * (u.1 1 6))) + 1).toNatClampNeg a2)).bind fun u16 => (if inB ((1400 + (4 * (u.1 1 6))) + 2) 8320 then ((some (si u16 1 ((1400 + (4 * (u.1 1 6))) + 2).toNatClampNeg a3)).bind fun u17 => (if inB ((1400 + (4 * (u.1 1 6))) + 3) 8320 then ((some (si u17 1 ((1400 + (4 * (u.1 1 6))) + 3).toNatClampNeg a4)).bind fun u18 => (some ((si u18 1 6 ((u18.1 1 6) + 1)).1 1 6, si u18 1 6 ((u18.1 1 6) + 1)))) else none)) else none)) else none)) else none)) else (some ((-1), u)))) else (some ((-1), u)))) else (some ((-1), u)))) else (some ((-1), u))))
set_option maxHeartbeats 4000000 in
set_option maxRecDepth 100000 in
theorem cX12_seen_ct (l : Launch) (D : va_G) (cy : Nat → ClassId) (ad : Nat → Nat) (a1 : Int32) (a2 : Int32) (a3 : Int32) (a4 : Int32) (u : Mem)  (out : (Int32 × Mem)) (h : fX12_seen a1 a2 a3 a4 u = some out) : Met l yX12_seen (.code yX12_seen cX12_seen 7 (some .int) :: gw) rX12_seen (va_Pc [.ref (ad 0), .int a1, .int a2, .int a3, .int a4] (wv shM nM D cy ad u)) (qI shM nM D cy ad out.1 out.2) 0 0 (rA ad nM) := by
  refine met_of (cc := cX12_seen) (nL := 7) (by decide) (Nat.le_of_ble_eq_true rfl) (fun p e s m below meth c C hr hlk => ?_)
  unfold fX12_seen at h
  show V shM nM D cy ad 7 p l e rX12_seen s m _ below meth c (MQ below (qI shM nM D cy ad out.1 out.2) _ s 0 0 (rA ad nM)) 0 [(0, .ref (ad 0)), (1, .int a1), (2, .int a2), (3, .int a3), (4, .int a4)] [] u
  refine v_iload_n C 2 dX12_seen_0 rfl rfl ?_
  refine v_iconst C (v := (-1)) dX12_seen_1 (by decide) ?_
  refine v_dia 14 (.int ((if a2 = (-1) then 1000000000 else 400) : Int32)) [] ?_ (fun hj => ?_)
  · refine v_istore C [(5, .int ((if a2 = (-1) then 1000000000 else 400) : Int32)), (0, .ref (ad 0)), (1, .int a1), (2, .int a2), (3, .int a3), (4, .int a4)] dX12_seen_14 (by decide) rfl ?_
    refine v_iload_n C 2 dX12_seen_16 rfl rfl ?_
    obtain ⟨r3, hc2, h⟩ := bnd h
    refine v_callSi C [.int a1] (cX12_isStar_ct l D cy ad a1 _ r3 hc2) ml_X12_82 ⟨Nat.le_of_ble_eq_true rfl, Nat.le_of_ble_eq_true rfl⟩ ⟨rfl, rfl⟩ rfl rfl (Nat.le_of_ble_eq_true rfl) dX12_seen_17 ?_
    refine v_z_eq C 75 dX12_seen_20 (by decide) h (fun h => ?_) (fun h => ?_)
    · refine v_iload_n C 3 dX12_seen_23 rfl rfl ?_
      refine v_i2l C dX12_seen_24 ?_
      refine v_ldc2 C kc_X12_265 dX12_seen_25 ?_
      refine v_ldc2 C kc_X12_212 dX12_seen_28 ?_
      obtain ⟨r6, hc5, h⟩ := bnd h
      refine v_callSi C [.long a2.toInt64, .long (-1), .long 6] (cX12_in_ct l D cy ad a2.toInt64 (-1) 6 _ r6 hc5) ml_X12_78 ⟨Nat.le_of_ble_eq_true rfl, Nat.le_of_ble_eq_true rfl⟩ ⟨rfl, rfl⟩ rfl rfl (Nat.le_of_ble_eq_true rfl) dX12_seen_31 ?_
      refine v_z_eq C 75 dX12_seen_34 (by decide) h (fun h => ?_) (fun h => ?_)
      · refine v_iload_n C 4 dX12_seen_37 rfl rfl ?_
        refine v_i2l C dX12_seen_38 ?_
        refine v_lconst C (v := 0) dX12_seen_39 (by decide) ?_
        refine v_iload C 0 dX12_seen_40 rfl ?_
        refine v_i2l C dX12_seen_42 ?_
        obtain ⟨r9, hc8, h⟩ := bnd h
        refine v_callSi C [.long a3.toInt64, .long 0, .long (((if a2 = (-1) then 1000000000 else 400) : Int32).toInt64)] (cX12_in_ct l D cy ad a3.toInt64 0 (((if a2 = (-1) then 1000000000 else 400) : Int32).toInt64) _ r9 hc8) ml_X12_78 ⟨Nat.le_of_ble_eq_true rfl, Nat.le_of_ble_eq_true rfl⟩ ⟨rfl, rfl⟩ rfl rfl (Nat.le_of_ble_eq_true rfl) dX12_seen_43 ?_
        refine v_z_eq C 75 dX12_seen_46 (by decide) h (fun h => ?_) (fun h => ?_)
        · refine v_iload C 5 dX12_seen_49 rfl ?_
          refine v_i2l C dX12_seen_51 ?_
          refine v_iload_n C 4 dX12_seen_52 rfl rfl ?_
          refine v_i2l C dX12_seen_53 ?_
          refine v_iload C 0 dX12_seen_54 rfl ?_
          refine v_i2l C dX12_seen_56 ?_
          obtain ⟨r12, hc11, h⟩ := bnd h
          refine v_callSi C [.long a4.toInt64, .long a3.toInt64, .long (((if a2 = (-1) then 1000000000 else 400) : Int32).toInt64)] (cX12_in_ct l D cy ad a4.toInt64 a3.toInt64 (((if a2 = (-1) then 1000000000 else 400) : Int32).toInt64) _ r12 hc11) ml_X12_78 ⟨Nat.le_of_ble_eq_true rfl, Nat.le_of_ble_eq_true rfl⟩ ⟨rfl, rfl⟩ rfl rfl (Nat.le_of_ble_eq_true rfl) dX12_seen_57 ?_
          refine v_z_eq C 75 dX12_seen_60 (by decide) h (fun h => ?_) (fun h => ?_)
          · refine v_aload_n C 1 dX12_seen_63 rfl rfl ?_
            refine v_getr C pM_0 fd_X12_7 rfl dX12_seen_64 ?_
            refine v_bipush C (v := 6) dX12_seen_67 (by decide) ?_
            refine v_ialdN C pM_1 (j := 6) (by decide) (by decide) dX12_seen_69 ?_
            refine v_bipush C (v := 20) dX12_seen_70 (by decide) ?_
            refine v_icmp_ne C 77 dX12_seen_72 (by decide) h (fun h => ?_) (fun h => ?_)
            · refine v_iconst C (v := (-1)) dX12_seen_75 (by decide) ?_
              cases h
              exact v_iret C hr hlk dX12_seen_76
            · refine v_sipush C (v := 1400) dX12_seen_77 (by decide) ?_
              refine v_iconst C (v := 4) dX12_seen_80 (by decide) ?_
              refine v_aload_n C 1 dX12_seen_81 rfl rfl ?_
              refine v_getr C pM_0 fd_X12_7 rfl dX12_seen_82 ?_
              refine v_bipush C (v := 6) dX12_seen_85 (by decide) ?_
              refine v_ialdN C pM_1 (j := 6) (by decide) (by decide) dX12_seen_87 ?_
              refine v_imul C dX12_seen_88 ?_
              refine v_iadd C dX12_seen_89 ?_
              refine v_istore C [(6, .int (1400 + (4 * (u.1 1 6)))), (5, .int ((if a2 = (-1) then 1000000000 else 400) : Int32)), (0, .ref (ad 0)), (1, .int a1), (2, .int a2), (3, .int a3), (4, .int a4)] dX12_seen_90 (by decide) rfl ?_
              refine v_aload_n C 2 dX12_seen_92 rfl rfl ?_
              refine v_getr C pM_0 fd_X12_7 rfl dX12_seen_93 ?_
              refine v_iload C 0 dX12_seen_96 rfl ?_
              refine v_iload_n C 3 dX12_seen_98 rfl rfl ?_
              refine v_iast C pM_1 dX12_seen_99 h (fun h => ?_)
              refine v_mem (fun u15 hu15 => ?_)
              have h := nmd hu15 h
              refine v_aload_n C 2 dX12_seen_100 rfl rfl ?_
              refine v_getr C pM_0 fd_X12_7 rfl dX12_seen_101 ?_
              refine v_iload C 0 dX12_seen_104 rfl ?_
              refine v_iconst C (v := 1) dX12_seen_106 (by decide) ?_
              refine v_iadd C dX12_seen_107 ?_
              refine v_iload_n C 4 dX12_seen_108 rfl rfl ?_
              refine v_iast C pM_1 dX12_seen_109 h (fun h => ?_)
              refine v_mem (fun u16 hu16 => ?_)
              have h := nmd hu16 h
              refine v_aload_n C 2 dX12_seen_110 rfl rfl ?_
              refine v_getr C pM_0 fd_X12_7 rfl dX12_seen_111 ?_
              refine v_iload C 0 dX12_seen_114 rfl ?_
              refine v_iconst C (v := 2) dX12_seen_116 (by decide) ?_
              refine v_iadd C dX12_seen_117 ?_
              refine v_iload_n C 5 dX12_seen_118 rfl rfl ?_
              refine v_iast C pM_1 dX12_seen_119 h (fun h => ?_)
              refine v_mem (fun u17 hu17 => ?_)
              have h := nmd hu17 h
              refine v_aload_n C 2 dX12_seen_120 rfl rfl ?_
              refine v_getr C pM_0 fd_X12_7 rfl dX12_seen_121 ?_
              refine v_iload C 0 dX12_seen_124 rfl ?_
              refine v_iconst C (v := 3) dX12_seen_126 (by decide) ?_
              refine v_iadd C dX12_seen_127 ?_
              refine v_iload C 6 dX12_seen_128 rfl ?_
              refine v_iast C pM_1 dX12_seen_130 h (fun h => ?_)
              refine v_mem (fun u18 hu18 => ?_)
              have h := nmd hu18 h
              refine v_aload_n C 2 dX12_seen_131 rfl rfl ?_
              refine v_getr C pM_0 fd_X12_7 rfl dX12_seen_132 ?_
              refine v_bipush C (v := 6) dX12_seen_135 (by decide) ?_
              refine v_dup2 C rfl rfl dX12_seen_137 ?_
              refine v_ialdN C pM_1 (j := 6) (by decide) (by decide) dX12_seen_138 ?_
              refine v_iconst C (v := 1) dX12_seen_139 (by decide) ?_
              refine v_iadd C dX12_seen_140 ?_
              refine v_iastN C pM_1 (j := 6) (by decide) (by decide) dX12_seen_141 ?_
              refine v_aload_n C 2 dX12_seen_142 rfl rfl ?_
              refine v_getr C pM_0 fd_X12_7 rfl dX12_seen_143 ?_
              refine v_bipush C (v := 6) dX12_seen_146 (by decide) ?_
              refine v_ialdN C pM_1 (j := 6) (by decide) (by decide) dX12_seen_148 ?_
              cases h
              exact v_iret C hr hlk dX12_seen_149
          · refine v_iconst C (v := (-1)) dX12_seen_75 (by decide) ?_
            cases h
            exact v_iret C hr hlk dX12_seen_76
        · refine v_iconst C (v := (-1)) dX12_seen_75 (by decide) ?_
          cases h
          exact v_iret C hr hlk dX12_seen_76
      · refine v_iconst C (v := (-1)) dX12_seen_75 (by decide) ?_
        cases h
        exact v_iret C hr hlk dX12_seen_76
    · refine v_iconst C (v := (-1)) dX12_seen_75 (by decide) ?_
      cases h
      exact v_iret C hr hlk dX12_seen_76
  · refine p_icmp_ne C 11 dX12_seen_2 (by decide) (fun z1 => ?_) (fun z1 => ?_)
    · refine v_ldc_w C kc_X12_304 dX12_seen_5 ?_
      refine v_goto C 14 dX12_seen_8 (by decide) ?_
      exact v_top (by rw [if_pos z1]; first | done | rfl) hj
    · refine v_sipush C (v := 400) dX12_seen_11 (by decide) ?_
      exact v_top (by rw [if_neg z1]; first | done | rfl) hj
def rX12_agrees : Room := { frames := 3, cells := 0, slots := 0, locals := 81 }
def fX12_agrees (a1 : Int32) (a2 : Int32) (u : Mem) : Option Bool := (if inB (a2 + 1) 8320 then (if (u.1 1 (a2 + 1).toNatClampNeg) = (-1) then (if inB (2 + a1) 8320 then ((fX12_throughOf a1 ((u.1 1 (2 + a1).toNatClampNeg) - 1) false u).bind fun r3 => (if inB (a2 + 3) 8320 then (if ((u.1 1 (a2 + 3).toNatClampNeg).toInt64) < r3 then (some false) else ((fX12_throughOf a1 ((u.1 1 (2 + a1).toNatClampNeg) - 1) true u).bind fun r6 => (if inB (a2 + 2) 8320 then (some (if r6 < ((u.1 1 (a2 + 2).toNatClampNeg).toInt64) then false else true)) else none))) else none)) else none) else ((fX12_isSung a1 u).bind fun r9 => (if r9 = true then (if inB (2 + a1) 8320 then (if (u.1 1 (2 + a1).toNatClampNeg) ≤ (u.1 1 (a2 + 1).toNatClampNeg) then (some false) else ((fX12_toneOf a1 (u.1 1 (a2 + 1).toNatClampNeg) u).bind fun r13 => (if inB (a2 + 2) 8320 then (if inB (a2 + 3) 8320 then ((fX12_in r13.toInt64 ((u.1 1 (a2 + 2).toNatClampNeg).toInt64) ((u.1 1 (a2 + 3).toNatClampNeg).toInt64)).bind fun r15 => (some (if r15 = true then true else false))) else none) else none))) else none) else (some false)))) else none)
set_option maxHeartbeats 4000000 in
set_option maxRecDepth 100000 in
theorem cX12_agrees_ct (l : Launch) (D : va_G) (cy : Nat → ClassId) (ad : Nat → Nat) (a1 : Int32) (a2 : Int32) (u : Mem)  (out : Bool) (h : fX12_agrees a1 a2 u = some out) : Met l yX12_agrees (.code yX12_agrees cX12_agrees 5 (some .boolean) :: gw) rX12_agrees (va_Pc [.ref (ad 0), .int a1, .int a2] (wv shM nM D cy ad u)) (qI shM nM D cy ad (bz out) u) 0 0 (rA ad nM) := by
  refine met_of (cc := cX12_agrees) (nL := 5) (by decide) (Nat.le_of_ble_eq_true rfl) (fun p e s m below meth c C hr hlk => ?_)
  unfold fX12_agrees at h
  show V shM nM D cy ad 5 p l e rX12_agrees s m _ below meth c (MQ below (qI shM nM D cy ad (bz out) u) _ s 0 0 (rA ad nM)) 0 [(0, .ref (ad 0)), (1, .int a1), (2, .int a2)] [] u
  refine v_aload_n C 0 dX12_agrees_0 rfl rfl ?_
  refine v_getr C pM_0 fd_X12_7 rfl dX12_agrees_1 ?_
  refine v_iload_n C 2 dX12_agrees_4 rfl rfl ?_
  refine v_iconst C (v := 1) dX12_agrees_5 (by decide) ?_
  refine v_iadd C dX12_agrees_6 ?_
  refine v_iald C pM_1 dX12_agrees_7 h (fun h => ?_)
  refine v_istore_n C [(3, .int (u.1 1 (a2 + 1).toNatClampNeg)), (0, .ref (ad 0)), (1, .int a1), (2, .int a2)] dX12_agrees_8 rfl (by decide) rfl ?_
  refine v_iload_n C 0 dX12_agrees_9 rfl rfl ?_
  refine v_iconst C (v := (-1)) dX12_agrees_10 (by decide) ?_
  refine v_icmp_ne C 74 dX12_agrees_11 (by decide) h (fun h => ?_) (fun h => ?_)
  · refine v_aload_n C 1 dX12_agrees_14 rfl rfl ?_
    refine v_getr C pM_0 fd_X12_7 rfl dX12_agrees_15 ?_
    refine v_iconst C (v := 2) dX12_agrees_18 (by decide) ?_
    refine v_iload_n C 2 dX12_agrees_19 rfl rfl ?_
    refine v_iadd C dX12_agrees_20 ?_
    refine v_iald C pM_1 dX12_agrees_21 h (fun h => ?_)
    refine v_iconst C (v := 1) dX12_agrees_22 (by decide) ?_
    refine v_isub C dX12_agrees_23 ?_
    refine v_istore C [(4, .int ((u.1 1 (2 + a1).toNatClampNeg) - 1)), (3, .int (u.1 1 (a2 + 1).toNatClampNeg)), (0, .ref (ad 0)), (1, .int a1), (2, .int a2)] dX12_agrees_24 (by decide) rfl ?_
    refine v_aload_n C 2 dX12_agrees_26 rfl rfl ?_
    refine v_iload_n C 3 dX12_agrees_27 rfl rfl ?_
    refine v_iload C 0 dX12_agrees_28 rfl ?_
    refine v_iconst C (v := 0) dX12_agrees_30 (by decide) ?_
    obtain ⟨r3, hc2, h⟩ := bnd h
    refine v_callVl C [.int a1, .int ((u.1 1 (2 + a1).toNatClampNeg) - 1), .int (bz false)] (cX12_throughOf_ct l D cy ad a1 ((u.1 1 (2 + a1).toNatClampNeg) - 1) false u r3 hc2) ml_X12_250 pM_0 ⟨Nat.le_of_ble_eq_true rfl, Nat.le_of_ble_eq_true rfl⟩ ⟨rfl, rfl⟩ rfl rfl (Nat.le_of_ble_eq_true rfl) dX12_agrees_31 ?_
    refine v_aload_n C 2 dX12_agrees_34 rfl rfl ?_
    refine v_getr C pM_0 fd_X12_7 rfl dX12_agrees_35 ?_
    refine v_iload_n C 4 dX12_agrees_38 rfl rfl ?_
    refine v_iconst C (v := 3) dX12_agrees_39 (by decide) ?_
    refine v_iadd C dX12_agrees_40 ?_
    refine v_iald C pM_1 dX12_agrees_41 h (fun h => ?_)
    refine v_i2l C dX12_agrees_42 ?_
    refine v_lcmp_gt C 72 dX12_agrees_43 dX12_agrees_44 (by decide) h (fun h => ?_) (fun h => ?_)
    · refine v_iconst C (v := 0) dX12_agrees_72 (by decide) ?_
      cases h
      exact v_zret (b := false) C hr hlk dX12_agrees_73
    · refine v_aload_n C 2 dX12_agrees_47 rfl rfl ?_
      refine v_iload_n C 3 dX12_agrees_48 rfl rfl ?_
      refine v_iload C 0 dX12_agrees_49 rfl ?_
      refine v_iconst C (v := 1) dX12_agrees_51 (by decide) ?_
      obtain ⟨r6, hc5, h⟩ := bnd h
      refine v_callVl C [.int a1, .int ((u.1 1 (2 + a1).toNatClampNeg) - 1), .int (bz true)] (cX12_throughOf_ct l D cy ad a1 ((u.1 1 (2 + a1).toNatClampNeg) - 1) true u r6 hc5) ml_X12_250 pM_0 ⟨Nat.le_of_ble_eq_true rfl, Nat.le_of_ble_eq_true rfl⟩ ⟨rfl, rfl⟩ rfl rfl (Nat.le_of_ble_eq_true rfl) dX12_agrees_52 ?_
      refine v_aload_n C 2 dX12_agrees_55 rfl rfl ?_
      refine v_getr C pM_0 fd_X12_7 rfl dX12_agrees_56 ?_
      refine v_iload_n C 4 dX12_agrees_59 rfl rfl ?_
      refine v_iconst C (v := 2) dX12_agrees_60 (by decide) ?_
      refine v_iadd C dX12_agrees_61 ?_
      refine v_iald C pM_1 dX12_agrees_62 h (fun h => ?_)
      refine v_i2l C dX12_agrees_63 ?_
      refine v_dia 73 (.int (bz (if r6 < ((u.1 1 (a2 + 2).toNatClampNeg).toInt64) then false else true))) [] ?_ (fun hj => ?_)
      · cases h
        exact v_zret (b := (if r6 < ((u.1 1 (a2 + 2).toNatClampNeg).toInt64) then false else true)) C hr hlk dX12_agrees_73
      · refine p_lcmp_lt C 72 dX12_agrees_64 dX12_agrees_65 (by decide) (fun z7 => ?_) (fun z7 => ?_)
        · refine v_iconst C (v := 0) dX12_agrees_72 (by decide) ?_
          exact v_top (by rw [if_pos z7]; first | done | rfl) hj
        · refine v_iconst C (v := 1) dX12_agrees_68 (by decide) ?_
          refine v_goto C 73 dX12_agrees_69 (by decide) ?_
          exact v_top (by rw [if_neg z7]; first | done | rfl) hj
  · refine v_aload_n C 1 dX12_agrees_74 rfl rfl ?_
    refine v_iload_n C 2 dX12_agrees_75 rfl rfl ?_
    obtain ⟨r9, hc8, h⟩ := bnd h
    refine v_callVi C [.int a1] (cX12_isSung_ct l D cy ad a1 u r9 hc8) ml_X12_295 pM_0 ⟨Nat.le_of_ble_eq_true rfl, Nat.le_of_ble_eq_true rfl⟩ ⟨rfl, rfl⟩ rfl rfl (Nat.le_of_ble_eq_true rfl) dX12_agrees_76 ?_
    refine v_z_eq C 129 dX12_agrees_79 (by decide) h (fun h => ?_) (fun h => ?_)
    · refine v_iload_n C 0 dX12_agrees_82 rfl rfl ?_
      refine v_aload_n C 1 dX12_agrees_83 rfl rfl ?_
      refine v_getr C pM_0 fd_X12_7 rfl dX12_agrees_84 ?_
      refine v_iconst C (v := 2) dX12_agrees_87 (by decide) ?_
      refine v_iload_n C 2 dX12_agrees_88 rfl rfl ?_
      refine v_iadd C dX12_agrees_89 ?_
      refine v_iald C pM_1 dX12_agrees_90 h (fun h => ?_)
      refine v_icmp_ge C 129 dX12_agrees_91 (by decide) h (fun h => ?_) (fun h => ?_)
      · refine v_iconst C (v := 0) dX12_agrees_129 (by decide) ?_
        cases h
        exact v_zret (b := false) C hr hlk dX12_agrees_130
      · refine v_aload_n C 1 dX12_agrees_94 rfl rfl ?_
        refine v_iload_n C 2 dX12_agrees_95 rfl rfl ?_
        refine v_iload_n C 0 dX12_agrees_96 rfl rfl ?_
        obtain ⟨r13, hc12, h⟩ := bnd h
        refine v_callVi C [.int a1, .int (u.1 1 (a2 + 1).toNatClampNeg)] (cX12_toneOf_ct l D cy ad a1 (u.1 1 (a2 + 1).toNatClampNeg) u r13 hc12) ml_X12_301 pM_0 ⟨Nat.le_of_ble_eq_true rfl, Nat.le_of_ble_eq_true rfl⟩ ⟨rfl, rfl⟩ rfl rfl (Nat.le_of_ble_eq_true rfl) dX12_agrees_97 ?_
        refine v_i2l C dX12_agrees_100 ?_
        refine v_aload_n C 1 dX12_agrees_101 rfl rfl ?_
        refine v_getr C pM_0 fd_X12_7 rfl dX12_agrees_102 ?_
        refine v_iload_n C 3 dX12_agrees_105 rfl rfl ?_
        refine v_iconst C (v := 2) dX12_agrees_106 (by decide) ?_
        refine v_iadd C dX12_agrees_107 ?_
        refine v_iald C pM_1 dX12_agrees_108 h (fun h => ?_)
        refine v_i2l C dX12_agrees_109 ?_
        refine v_aload_n C 1 dX12_agrees_110 rfl rfl ?_
        refine v_getr C pM_0 fd_X12_7 rfl dX12_agrees_111 ?_
        refine v_iload_n C 3 dX12_agrees_114 rfl rfl ?_
        refine v_iconst C (v := 3) dX12_agrees_115 (by decide) ?_
        refine v_iadd C dX12_agrees_116 ?_
        refine v_iald C pM_1 dX12_agrees_117 h (fun h => ?_)
        refine v_i2l C dX12_agrees_118 ?_
        obtain ⟨r15, hc14, h⟩ := bnd h
        refine v_callSi C [.long r13.toInt64, .long ((u.1 1 (a2 + 2).toNatClampNeg).toInt64), .long ((u.1 1 (a2 + 3).toNatClampNeg).toInt64)] (cX12_in_ct l D cy ad r13.toInt64 ((u.1 1 (a2 + 2).toNatClampNeg).toInt64) ((u.1 1 (a2 + 3).toNatClampNeg).toInt64) _ r15 hc14) ml_X12_78 ⟨Nat.le_of_ble_eq_true rfl, Nat.le_of_ble_eq_true rfl⟩ ⟨rfl, rfl⟩ rfl rfl (Nat.le_of_ble_eq_true rfl) dX12_agrees_119 ?_
        refine v_dia 130 (.int (bz (if r15 = true then true else false))) [] ?_ (fun hj => ?_)
        · cases h
          exact v_zret (b := (if r15 = true then true else false)) C hr hlk dX12_agrees_130
        · refine p_z_eq C 129 dX12_agrees_122 (by decide) (fun z16 => ?_) (fun z16 => ?_)
          · refine v_iconst C (v := 1) dX12_agrees_125 (by decide) ?_
            refine v_goto C 130 dX12_agrees_126 (by decide) ?_
            exact v_top (by rw [if_pos z16]; first | done | rfl) hj
          · refine v_iconst C (v := 0) dX12_agrees_129 (by decide) ?_
            exact v_top (by rw [if_neg z16]; first | done | rfl) hj
    · refine v_iconst C (v := 0) dX12_agrees_129 (by decide) ?_
      cases h
      exact v_zret (b := false) C hr hlk dX12_agrees_130
def rX12_fit : Room := { frames := 5, cells := 0, slots := 0, locals := 116 }
def fX12_fit_L10 (a1 : Int32) (u : Mem) : Nat → Bool → Int32 → Option (Bool × Mem)
  | 0, _, _ => none
  | t + 1, a3, a4 => (if 20 ≤ a4 then (some (a3, u)) else (if a3 = true then (if (u.1 1 6) ≤ a4 then (some (a3, u)) else (if inB (1400 + (4 * a4)) 8320 then (if (u.1 1 (1400 + (4 * a4)).toNatClampNeg) = a1 then ((fX12_agrees a1 (1400 + (4 * a4)) u).bind fun r8 => fX12_fit_L10 a1 u t (if r8 = true then true else false) (a4 + 1)) else fX12_fit_L10 a1 u t true (a4 + 1)) else none)) else (some (a3, u))))
def fX12_fit (a1 : Int32) (a2 : Int32) (u : Mem) : Option (Bool × Mem) := ((fX12_settles a1 a2 u).bind fun q2 => fX12_fit_L10 a1 q2.2 fu0 q2.1 0)
set_option maxHeartbeats 4000000 in
set_option maxRecDepth 100000 in
theorem kX12_fit_L10 {l : Launch} {D : va_G} {cy : Nat → ClassId} {ad : Nat → Nat} {p : Program} {e : Env} {s : State} {m : MethodId} {args : Array Value} {below : List Frame} {meth : Method} {c : Code} (C : Cx nM D cy ad 6 cX12_fit RX12 rX12_fit p s m args c) (hr : meth.sig.returnType = some .boolean) (hlk : meth.locks = false) (a1 : Int32)  (u : Mem) {out : (Bool × Mem)}  : ∀ (t : Nat) (a3 : Bool) (a4 : Int32), fX12_fit_L10 a1 u t a3 a4 = some out → V shM nM D cy ad 6 p l e rX12_fit s m args below meth c (MQ below (qI shM nM D cy ad (bz out.1) out.2) args s 0 0 (rA ad nM)) 10 [(0, .ref (ad 0)), (1, .int a1), (3, .int (bz a3)), (4, .int a4)] [] u := by
  intro t
  induction t with
  | zero => intro a3 a4 h; rw [fX12_fit_L10] at h; cases h
  | succ t ih =>
    intro a3 a4 h
    rw [fX12_fit_L10] at h
    refine v_iload C 3 dX12_fit_10 rfl ?_
    refine v_bipush C (v := 20) dX12_fit_12 (by decide) ?_
    refine v_icmp_ge C 76 dX12_fit_14 (by decide) h (fun h => ?_) (fun h => ?_)
    · refine v_iload_n C 2 dX12_fit_76 rfl rfl ?_
      cases h
      exact v_zret C hr hlk dX12_fit_77
    · refine v_iload_n C 2 dX12_fit_17 rfl rfl ?_
      refine v_z_eq C 76 dX12_fit_18 (by decide) h (fun h => ?_) (fun h => ?_)
      · refine v_iload C 3 dX12_fit_21 rfl ?_
        refine v_aload_n C 0 dX12_fit_23 rfl rfl ?_
        refine v_getr C pM_0 fd_X12_7 rfl dX12_fit_24 ?_
        refine v_bipush C (v := 6) dX12_fit_27 (by decide) ?_
        refine v_ialdN C pM_1 (j := 6) (by decide) (by decide) dX12_fit_29 ?_
        refine v_icmp_ge C 76 dX12_fit_30 (by decide) h (fun h => ?_) (fun h => ?_)
        · refine v_iload_n C 2 dX12_fit_76 rfl rfl ?_
          cases h
          exact v_zret C hr hlk dX12_fit_77
        · refine v_sipush C (v := 1400) dX12_fit_33 (by decide) ?_
          refine v_iconst C (v := 4) dX12_fit_36 (by decide) ?_
          refine v_iload C 3 dX12_fit_37 rfl ?_
          refine v_imul C dX12_fit_39 ?_
          refine v_iadd C dX12_fit_40 ?_
          refine v_istore C [(5, .int (1400 + (4 * a4))), (0, .ref (ad 0)), (1, .int a1), (3, .int (bz a3)), (4, .int a4)] dX12_fit_41 (by decide) rfl ?_
          refine v_aload_n C 1 dX12_fit_43 rfl rfl ?_
          refine v_getr C pM_0 fd_X12_7 rfl dX12_fit_44 ?_
          refine v_iload C 0 dX12_fit_47 rfl ?_
          refine v_iald C pM_1 dX12_fit_49 h (fun h => ?_)
          refine v_iload_n C 2 dX12_fit_50 rfl rfl ?_
          refine v_icmp_ne C 64 dX12_fit_51 (by decide) h (fun h => ?_) (fun h => ?_)
          · refine v_aload_n C 1 dX12_fit_54 rfl rfl ?_
            refine v_iload_n C 2 dX12_fit_55 rfl rfl ?_
            refine v_iload C 0 dX12_fit_56 rfl ?_
            obtain ⟨r8, hc7, h⟩ := bnd h
            refine v_callVi C [.int a1, .int (1400 + (4 * a4))] (cX12_agrees_ct l D cy ad a1 (1400 + (4 * a4)) u r8 hc7) ml_X12_305 pM_0 ⟨Nat.le_of_ble_eq_true rfl, Nat.le_of_ble_eq_true rfl⟩ ⟨rfl, rfl⟩ rfl rfl (Nat.le_of_ble_eq_true rfl) dX12_fit_58 ?_
            refine v_dia 69 (.int (bz (if r8 = true then true else false))) [] ?_ (fun hj => ?_)
            · refine v_istore_n C [(3, .int (bz (if r8 = true then true else false))), (5, .int (1400 + (4 * a4))), (0, .ref (ad 0)), (1, .int a1), (4, .int a4)] dX12_fit_69 rfl (by decide) rfl ?_
              refine v_iinc C 4 (v := a4 + 1) [(4, .int (a4 + 1)), (3, .int (bz (if r8 = true then true else false))), (5, .int (1400 + (4 * a4))), (0, .ref (ad 0)), (1, .int a1)] dX12_fit_70 rfl rfl (by decide) rfl ?_
              refine v_goto C 10 dX12_fit_73 (by decide) ?_
              refine v_sub [3, 4, 1, 0] rfl ?_
              exact ih (if r8 = true then true else false) (a4 + 1) h
            · refine p_z_eq C 68 dX12_fit_61 (by decide) (fun z9 => ?_) (fun z9 => ?_)
              · refine v_iconst C (v := 1) dX12_fit_64 (by decide) ?_
                refine v_goto C 69 dX12_fit_65 (by decide) ?_
                exact v_top (by rw [if_pos z9]; first | done | rfl) hj
              · refine v_iconst C (v := 0) dX12_fit_68 (by decide) ?_
                exact v_top (by rw [if_neg z9]; first | done | rfl) hj
          · refine v_iconst C (v := 1) dX12_fit_64 (by decide) ?_
            refine v_goto C 69 dX12_fit_65 (by decide) ?_
            refine v_istore_n C [(3, .int 1), (5, .int (1400 + (4 * a4))), (0, .ref (ad 0)), (1, .int a1), (4, .int a4)] dX12_fit_69 rfl (by decide) rfl ?_
            refine v_iinc C 4 (v := a4 + 1) [(4, .int (a4 + 1)), (3, .int 1), (5, .int (1400 + (4 * a4))), (0, .ref (ad 0)), (1, .int a1)] dX12_fit_70 rfl rfl (by decide) rfl ?_
            refine v_goto C 10 dX12_fit_73 (by decide) ?_
            refine v_sub [3, 4, 1, 0] rfl ?_
            exact ih true (a4 + 1) h
      · refine v_iload_n C 2 dX12_fit_76 rfl rfl ?_
        cases h
        exact v_zret C hr hlk dX12_fit_77
set_option maxHeartbeats 4000000 in
set_option maxRecDepth 100000 in
theorem cX12_fit_ct (l : Launch) (D : va_G) (cy : Nat → ClassId) (ad : Nat → Nat) (a1 : Int32) (a2 : Int32) (u : Mem)  (out : (Bool × Mem)) (h : fX12_fit a1 a2 u = some out) : Met l yX12_fit (.code yX12_fit cX12_fit 6 (some .boolean) :: gw) rX12_fit (va_Pc [.ref (ad 0), .int a1, .int a2] (wv shM nM D cy ad u)) (qI shM nM D cy ad (bz out.1) out.2) 0 0 (rA ad nM) := by
  refine met_of (cc := cX12_fit) (nL := 6) (by decide) (Nat.le_of_ble_eq_true rfl) (fun p e s m below meth c C hr hlk => ?_)
  unfold fX12_fit at h
  show V shM nM D cy ad 6 p l e rX12_fit s m _ below meth c (MQ below (qI shM nM D cy ad (bz out.1) out.2) _ s 0 0 (rA ad nM)) 0 [(0, .ref (ad 0)), (1, .int a1), (2, .int a2)] [] u
  refine v_aload_n C 0 dX12_fit_0 rfl rfl ?_
  refine v_iload_n C 1 dX12_fit_1 rfl rfl ?_
  refine v_iload_n C 2 dX12_fit_2 rfl rfl ?_
  obtain ⟨q2, hc1, h⟩ := bnd h
  refine v_callVi C [.int a1, .int a2] (cX12_settles_ct l D cy ad a1 a2 u q2 hc1) ml_X12_259 pM_0 ⟨Nat.le_of_ble_eq_true rfl, Nat.le_of_ble_eq_true rfl⟩ ⟨rfl, rfl⟩ rfl rfl (Nat.le_of_ble_eq_true rfl) dX12_fit_3 ?_
  refine v_istore_n C [(3, .int (bz q2.1)), (0, .ref (ad 0)), (1, .int a1), (2, .int a2)] dX12_fit_6 rfl (by decide) rfl ?_
  refine v_iconst C (v := 0) dX12_fit_7 (by decide) ?_
  refine v_istore C [(4, .int 0), (3, .int (bz q2.1)), (0, .ref (ad 0)), (1, .int a1), (2, .int a2)] dX12_fit_8 (by decide) rfl ?_
  refine v_sub [2, 3, 1, 0] rfl ?_
  refine kX12_fit_L10 C hr hlk a1 q2.2   fu0 q2.1 0 h
def rX12_fits : Room := { frames := 6, cells := 0, slots := 0, locals := 141 }
def fX12_fits_L23 (a1 : Int32) (a2 : Int32) : Nat → Int32 → Int32 → Mem → Option (Int32 × Mem)
  | 0, _, _, _ => none
  | t + 1, a3, a4, u => (if 200 < a4 then (some ((if a2 = (-1) then a3 else (-1)), u)) else ((fX12_fit a1 a4 u).bind fun q12 => (if q12.1 = true then (if a3 = a2 then (some (a4, q12.2)) else fX12_fits_L23 a1 a2 t (a3 + 1) (a4 + 1) q12.2) else fX12_fits_L23 a1 a2 t a3 (a4 + 1) q12.2)))
def fX12_fits (a1 : Int32) (a2 : Int32) (u : Mem) : Option (Int32 × Mem) := ((fX12_isStar a1).bind fun r2 => (if r2 = true then (if (-1) ≤ a2 then ((fX12_spans u).bind fun u7 => fX12_fits_L23 a1 a2 fu0 0 1 u7) else (some ((-1), u))) else (some ((-1), u))))
set_option maxHeartbeats 4000000 in
set_option maxRecDepth 100000 in
theorem kX12_fits_L23 {l : Launch} {D : va_G} {cy : Nat → ClassId} {ad : Nat → Nat} {p : Program} {e : Env} {s : State} {m : MethodId} {args : Array Value} {below : List Frame} {meth : Method} {c : Code} (C : Cx nM D cy ad 5 cX12_fits RX12 rX12_fits p s m args c) (hr : meth.sig.returnType = some .int) (hlk : meth.locks = false) (a1 : Int32) (a2 : Int32)  {out : (Int32 × Mem)}  : ∀ (t : Nat) (a3 : Int32) (a4 : Int32) (u : Mem), fX12_fits_L23 a1 a2 t a3 a4 u = some out → V shM nM D cy ad 5 p l e rX12_fits s m args below meth c (MQ below (qI shM nM D cy ad out.1 out.2) args s 0 0 (rA ad nM)) 23 [(0, .ref (ad 0)), (1, .int a1), (2, .int a2), (3, .int a3), (4, .int a4)] [] u := by
  intro t
  induction t with
  | zero => intro a3 a4 u h; rw [fX12_fits_L23] at h; cases h
  | succ t ih =>
    intro a3 a4 u h
    rw [fX12_fits_L23] at h
    refine v_iload C 4 dX12_fits_23 rfl ?_
    refine v_sipush C (v := 200) dX12_fits_25 (by decide) ?_
    refine v_icmp_gt C 58 dX12_fits_28 (by decide) h (fun h => ?_) (fun h => ?_)
    · refine v_iload_n C 2 dX12_fits_58 rfl rfl ?_
      refine v_iconst C (v := (-1)) dX12_fits_59 (by decide) ?_
      refine v_dia 68 (.int (if a2 = (-1) then a3 else (-1))) [] ?_ (fun hj => ?_)
      · cases h
        exact v_iret C hr hlk dX12_fits_68
      · refine p_icmp_ne C 67 dX12_fits_60 (by decide) (fun z10 => ?_) (fun z10 => ?_)
        · refine v_iload_n C 3 dX12_fits_63 rfl rfl ?_
          refine v_goto C 68 dX12_fits_64 (by decide) ?_
          exact v_top (by rw [if_pos z10]; first | done | rfl) hj
        · refine v_iconst C (v := (-1)) dX12_fits_67 (by decide) ?_
          exact v_top (by rw [if_neg z10]; first | done | rfl) hj
    · refine v_aload_n C 0 dX12_fits_31 rfl rfl ?_
      refine v_iload_n C 1 dX12_fits_32 rfl rfl ?_
      refine v_iload C 4 dX12_fits_33 rfl ?_
      obtain ⟨q12, hc11, h⟩ := bnd h
      refine v_callVi C [.int a1, .int a4] (cX12_fit_ct l D cy ad a1 a4 u q12 hc11) ml_X12_308 pM_0 ⟨Nat.le_of_ble_eq_true rfl, Nat.le_of_ble_eq_true rfl⟩ ⟨rfl, rfl⟩ rfl rfl (Nat.le_of_ble_eq_true rfl) dX12_fits_35 ?_
      refine v_z_eq C 52 dX12_fits_38 (by decide) h (fun h => ?_) (fun h => ?_)
      · refine v_iload_n C 3 dX12_fits_41 rfl rfl ?_
        refine v_iload_n C 2 dX12_fits_42 rfl rfl ?_
        refine v_icmp_ne C 49 dX12_fits_43 (by decide) h (fun h => ?_) (fun h => ?_)
        · refine v_iload C 4 dX12_fits_46 rfl ?_
          cases h
          exact v_iret C hr hlk dX12_fits_48
        · refine v_iinc C 3 (v := a3 + 1) [(3, .int (a3 + 1)), (0, .ref (ad 0)), (1, .int a1), (2, .int a2), (4, .int a4)] dX12_fits_49 rfl rfl (by decide) rfl ?_
          refine v_iinc C 4 (v := a4 + 1) [(4, .int (a4 + 1)), (3, .int (a3 + 1)), (0, .ref (ad 0)), (1, .int a1), (2, .int a2)] dX12_fits_52 rfl rfl (by decide) rfl ?_
          refine v_goto C 23 dX12_fits_55 (by decide) ?_
          refine v_sub [2, 3, 4, 1, 0] rfl ?_
          exact ih (a3 + 1) (a4 + 1) q12.2 h
      · refine v_iinc C 4 (v := a4 + 1) [(4, .int (a4 + 1)), (0, .ref (ad 0)), (1, .int a1), (2, .int a2), (3, .int a3)] dX12_fits_52 rfl rfl (by decide) rfl ?_
        refine v_goto C 23 dX12_fits_55 (by decide) ?_
        refine v_sub [1, 2, 3, 4, 0] rfl ?_
        exact ih a3 (a4 + 1) q12.2 h
set_option maxHeartbeats 4000000 in
set_option maxRecDepth 100000 in
theorem cX12_fits_ct (l : Launch) (D : va_G) (cy : Nat → ClassId) (ad : Nat → Nat) (a1 : Int32) (a2 : Int32) (u : Mem)  (out : (Int32 × Mem)) (h : fX12_fits a1 a2 u = some out) : Met l yX12_fits (.code yX12_fits cX12_fits 5 (some .int) :: gw) rX12_fits (va_Pc [.ref (ad 0), .int a1, .int a2] (wv shM nM D cy ad u)) (qI shM nM D cy ad out.1 out.2) 0 0 (rA ad nM) := by
  refine met_of (cc := cX12_fits) (nL := 5) (by decide) (Nat.le_of_ble_eq_true rfl) (fun p e s m below meth c C hr hlk => ?_)
  unfold fX12_fits at h
  show V shM nM D cy ad 5 p l e rX12_fits s m _ below meth c (MQ below (qI shM nM D cy ad out.1 out.2) _ s 0 0 (rA ad nM)) 0 [(0, .ref (ad 0)), (1, .int a1), (2, .int a2)] [] u
  refine v_iload_n C 1 dX12_fits_0 rfl rfl ?_
  obtain ⟨r2, hc1, h⟩ := bnd h
  refine v_callSi C [.int a1] (cX12_isStar_ct l D cy ad a1 _ r2 hc1) ml_X12_82 ⟨Nat.le_of_ble_eq_true rfl, Nat.le_of_ble_eq_true rfl⟩ ⟨rfl, rfl⟩ rfl rfl (Nat.le_of_ble_eq_true rfl) dX12_fits_1 ?_
  refine v_z_eq C 12 dX12_fits_4 (by decide) h (fun h => ?_) (fun h => ?_)
  · refine v_iload_n C 2 dX12_fits_7 rfl rfl ?_
    refine v_iconst C (v := (-1)) dX12_fits_8 (by decide) ?_
    refine v_icmp_ge C 14 dX12_fits_9 (by decide) h (fun h => ?_) (fun h => ?_)
    · refine v_aload_n C 0 dX12_fits_14 rfl rfl ?_
      obtain ⟨u7, hc6, h⟩ := bnd h
      refine v_callVv C [] (cX12_spans_ct l D cy ad u u7 hc6) ml_X12_256 pM_0 ⟨Nat.le_of_ble_eq_true rfl, Nat.le_of_ble_eq_true rfl⟩ ⟨rfl, rfl⟩ rfl rfl (Nat.le_of_ble_eq_true rfl) dX12_fits_15 ?_
      refine v_iconst C (v := 0) dX12_fits_18 (by decide) ?_
      refine v_istore_n C [(3, .int 0), (0, .ref (ad 0)), (1, .int a1), (2, .int a2)] dX12_fits_19 rfl (by decide) rfl ?_
      refine v_iconst C (v := 1) dX12_fits_20 (by decide) ?_
      refine v_istore C [(4, .int 1), (3, .int 0), (0, .ref (ad 0)), (1, .int a1), (2, .int a2)] dX12_fits_21 (by decide) rfl ?_
      refine v_sub [2, 3, 4, 1, 0] rfl ?_
      refine kX12_fits_L23 C hr hlk a1 a2   fu0 0 1 u7 h
    · refine v_iconst C (v := (-1)) dX12_fits_12 (by decide) ?_
      cases h
      exact v_iret C hr hlk dX12_fits_13
  · refine v_iconst C (v := (-1)) dX12_fits_12 (by decide) ?_
    cases h
    exact v_iret C hr hlk dX12_fits_13
def rX12_image : Room := { frames := 1, cells := 0, slots := 0, locals := 22 }
def fX12_image (u : Mem) : Option (Int32 × Mem) := ((fX12_copies true u).bind fun u2 => (some (u2.1 1 0, u2)))
set_option maxHeartbeats 4000000 in
set_option maxRecDepth 100000 in
theorem cX12_image_ct (l : Launch) (D : va_G) (cy : Nat → ClassId) (ad : Nat → Nat) (u : Mem)  (out : (Int32 × Mem)) (h : fX12_image u = some out) : Met l yX12_image (.code yX12_image cX12_image 1 (some .int) :: gw) rX12_image (va_Pc [.ref (ad 0)] (wv shM nM D cy ad u)) (qI shM nM D cy ad out.1 out.2) 0 0 (rA ad nM) := by
  refine met_of (cc := cX12_image) (nL := 1) (by decide) (Nat.le_of_ble_eq_true rfl) (fun p e s m below meth c C hr hlk => ?_)
  unfold fX12_image at h
  show V shM nM D cy ad 1 p l e rX12_image s m _ below meth c (MQ below (qI shM nM D cy ad out.1 out.2) _ s 0 0 (rA ad nM)) 0 [(0, .ref (ad 0))] [] u
  refine v_aload_n C 0 dX12_image_0 rfl rfl ?_
  refine v_iconst C (v := 1) dX12_image_1 (by decide) ?_
  obtain ⟨u2, hc1, h⟩ := bnd h
  refine v_callVv C [.int (bz true)] (cX12_copies_ct l D cy ad true u u2 hc1) ml_X12_74 pM_0 ⟨Nat.le_of_ble_eq_true rfl, Nat.le_of_ble_eq_true rfl⟩ ⟨rfl, rfl⟩ rfl rfl (Nat.le_of_ble_eq_true rfl) dX12_image_2 ?_
  refine v_aload_n C 0 dX12_image_5 rfl rfl ?_
  refine v_getr C pM_0 fd_X12_7 rfl dX12_image_6 ?_
  refine v_iconst C (v := 0) dX12_image_9 (by decide) ?_
  refine v_ialdN C pM_1 (j := 0) (by decide) (by decide) dX12_image_10 ?_
  cases h
  exact v_iret C hr hlk dX12_image_11
def rX12_back : Room := { frames := 1, cells := 0, slots := 0, locals := 22 }
def fX12_back (u : Mem) : Option (Int32 × Mem) := ((fX12_copies false u).bind fun u2 => (some (u2.1 1 0, u2)))
set_option maxHeartbeats 4000000 in
set_option maxRecDepth 100000 in
theorem cX12_back_ct (l : Launch) (D : va_G) (cy : Nat → ClassId) (ad : Nat → Nat) (u : Mem)  (out : (Int32 × Mem)) (h : fX12_back u = some out) : Met l yX12_back (.code yX12_back cX12_back 1 (some .int) :: gw) rX12_back (va_Pc [.ref (ad 0)] (wv shM nM D cy ad u)) (qI shM nM D cy ad out.1 out.2) 0 0 (rA ad nM) := by
  refine met_of (cc := cX12_back) (nL := 1) (by decide) (Nat.le_of_ble_eq_true rfl) (fun p e s m below meth c C hr hlk => ?_)
  unfold fX12_back at h
  show V shM nM D cy ad 1 p l e rX12_back s m _ below meth c (MQ below (qI shM nM D cy ad out.1 out.2) _ s 0 0 (rA ad nM)) 0 [(0, .ref (ad 0))] [] u
  refine v_aload_n C 0 dX12_back_0 rfl rfl ?_
  refine v_iconst C (v := 0) dX12_back_1 (by decide) ?_
  obtain ⟨u2, hc1, h⟩ := bnd h
  refine v_callVv C [.int (bz false)] (cX12_copies_ct l D cy ad false u u2 hc1) ml_X12_74 pM_0 ⟨Nat.le_of_ble_eq_true rfl, Nat.le_of_ble_eq_true rfl⟩ ⟨rfl, rfl⟩ rfl rfl (Nat.le_of_ble_eq_true rfl) dX12_back_2 ?_
  refine v_aload_n C 0 dX12_back_5 rfl rfl ?_
  refine v_getr C pM_0 fd_X12_7 rfl dX12_back_6 ?_
  refine v_iconst C (v := 0) dX12_back_9 (by decide) ?_
  refine v_ialdN C pM_1 (j := 0) (by decide) (by decide) dX12_back_10 ?_
  cases h
  exact v_iret C hr hlk dX12_back_11
def rX12_about : Room := { frames := 0, cells := 0, slots := 0, locals := 0 }
def fX12_about (a1 : Int32) (u : Mem) : Option Int32 := (if a1 = 0 then (some (u.1 1 0)) else (if a1 = 1 then (some (u.1 1 1)) else (if a1 = 2 then (some (u.1 1 2)) else (if a1 = 3 then (some (u.1 1 3)) else (if a1 = 4 then (some (u.1 1 4)) else (if a1 = 5 then (some (u.1 1 5)) else (if a1 = 6 then (some (u.1 1 6)) else (if a1 = 7 then (some (u.1 0 7)) else (if a1 = 8 then (some (u.1 1 7)) else (if a1 = 10 then (some (u.1 1 8)) else (if a1 = 11 then (some (u.1 1 9)) else (if a1 = 20 then (some (u.1 1 10)) else (if a1 = 21 then (some (u.1 1 11)) else (some (-1)))))))))))))))
set_option maxHeartbeats 4000000 in
set_option maxRecDepth 100000 in
theorem cX12_about_ct (l : Launch) (D : va_G) (cy : Nat → ClassId) (ad : Nat → Nat) (a1 : Int32) (u : Mem)  (out : Int32) (h : fX12_about a1 u = some out) : Met l yX12_about (.code yX12_about cX12_about 2 (some .int) :: gw) rX12_about (va_Pc [.ref (ad 0), .int a1] (wv shM nM D cy ad u)) (qI shM nM D cy ad out u) 0 0 (rA ad nM) := by
  refine met_of (cc := cX12_about) (nL := 2) (by decide) (Nat.le_of_ble_eq_true rfl) (fun p e s m below meth c C hr hlk => ?_)
  unfold fX12_about at h
  show V shM nM D cy ad 2 p l e rX12_about s m _ below meth c (MQ below (qI shM nM D cy ad out u) _ s 0 0 (rA ad nM)) 0 [(0, .ref (ad 0)), (1, .int a1)] [] u
  refine v_iload_n C 1 dX12_about_0 rfl rfl ?_
  by_cases z0 : a1 = 0
  · rw [if_pos z0] at h
    refine v_tabIn C 104 (k0 := 0) z0 dX12_about_1 (by decide) (by decide) (by decide) (by decide) ?_
    refine v_aload_n C 0 dX12_about_104 rfl rfl ?_
    refine v_getr C pM_0 fd_X12_7 rfl dX12_about_105 ?_
    refine v_iconst C (v := 0) dX12_about_108 (by decide) ?_
    refine v_ialdN C pM_1 (j := 0) (by decide) (by decide) dX12_about_109 ?_
    cases h
    exact v_iret C hr hlk dX12_about_110
  rw [if_neg z0] at h
  by_cases z1 : a1 = 1
  · rw [if_pos z1] at h
    refine v_tabIn C 111 (k0 := 1) z1 dX12_about_1 (by decide) (by decide) (by decide) (by decide) ?_
    refine v_aload_n C 0 dX12_about_111 rfl rfl ?_
    refine v_getr C pM_0 fd_X12_7 rfl dX12_about_112 ?_
    refine v_iconst C (v := 1) dX12_about_115 (by decide) ?_
    refine v_ialdN C pM_1 (j := 1) (by decide) (by decide) dX12_about_116 ?_
    cases h
    exact v_iret C hr hlk dX12_about_117
  rw [if_neg z1] at h
  by_cases z2 : a1 = 2
  · rw [if_pos z2] at h
    refine v_tabIn C 118 (k0 := 2) z2 dX12_about_1 (by decide) (by decide) (by decide) (by decide) ?_
    refine v_aload_n C 0 dX12_about_118 rfl rfl ?_
    refine v_getr C pM_0 fd_X12_7 rfl dX12_about_119 ?_
    refine v_iconst C (v := 2) dX12_about_122 (by decide) ?_
    refine v_ialdN C pM_1 (j := 2) (by decide) (by decide) dX12_about_123 ?_
    cases h
    exact v_iret C hr hlk dX12_about_124
  rw [if_neg z2] at h
  by_cases z3 : a1 = 3
  · rw [if_pos z3] at h
    refine v_tabIn C 125 (k0 := 3) z3 dX12_about_1 (by decide) (by decide) (by decide) (by decide) ?_
    refine v_aload_n C 0 dX12_about_125 rfl rfl ?_
    refine v_getr C pM_0 fd_X12_7 rfl dX12_about_126 ?_
    refine v_iconst C (v := 3) dX12_about_129 (by decide) ?_
    refine v_ialdN C pM_1 (j := 3) (by decide) (by decide) dX12_about_130 ?_
    cases h
    exact v_iret C hr hlk dX12_about_131
  rw [if_neg z3] at h
  by_cases z4 : a1 = 4
  · rw [if_pos z4] at h
    refine v_tabIn C 132 (k0 := 4) z4 dX12_about_1 (by decide) (by decide) (by decide) (by decide) ?_
    refine v_aload_n C 0 dX12_about_132 rfl rfl ?_
    refine v_getr C pM_0 fd_X12_7 rfl dX12_about_133 ?_
    refine v_iconst C (v := 4) dX12_about_136 (by decide) ?_
    refine v_ialdN C pM_1 (j := 4) (by decide) (by decide) dX12_about_137 ?_
    cases h
    exact v_iret C hr hlk dX12_about_138
  rw [if_neg z4] at h
  by_cases z5 : a1 = 5
  · rw [if_pos z5] at h
    refine v_tabIn C 139 (k0 := 5) z5 dX12_about_1 (by decide) (by decide) (by decide) (by decide) ?_
    refine v_aload_n C 0 dX12_about_139 rfl rfl ?_
    refine v_getr C pM_0 fd_X12_7 rfl dX12_about_140 ?_
    refine v_iconst C (v := 5) dX12_about_143 (by decide) ?_
    refine v_ialdN C pM_1 (j := 5) (by decide) (by decide) dX12_about_144 ?_
    cases h
    exact v_iret C hr hlk dX12_about_145
  rw [if_neg z5] at h
  by_cases z6 : a1 = 6
  · rw [if_pos z6] at h
    refine v_tabIn C 146 (k0 := 6) z6 dX12_about_1 (by decide) (by decide) (by decide) (by decide) ?_
    refine v_aload_n C 0 dX12_about_146 rfl rfl ?_
    refine v_getr C pM_0 fd_X12_7 rfl dX12_about_147 ?_
    refine v_bipush C (v := 6) dX12_about_150 (by decide) ?_
    refine v_ialdN C pM_1 (j := 6) (by decide) (by decide) dX12_about_152 ?_
    cases h
    exact v_iret C hr hlk dX12_about_153
  rw [if_neg z6] at h
  by_cases z7 : a1 = 7
  · rw [if_pos z7] at h
    refine v_tabIn C 154 (k0 := 7) z7 dX12_about_1 (by decide) (by decide) (by decide) (by decide) ?_
    refine v_aload_n C 0 dX12_about_154 rfl rfl ?_
    refine v_geti C pM_0 fd_X12_86 rfl dX12_about_155 ?_
    cases h
    exact v_iret C hr hlk dX12_about_158
  rw [if_neg z7] at h
  by_cases z8 : a1 = 8
  · rw [if_pos z8] at h
    refine v_tabIn C 159 (k0 := 8) z8 dX12_about_1 (by decide) (by decide) (by decide) (by decide) ?_
    refine v_aload_n C 0 dX12_about_159 rfl rfl ?_
    refine v_getr C pM_0 fd_X12_7 rfl dX12_about_160 ?_
    refine v_bipush C (v := 7) dX12_about_163 (by decide) ?_
    refine v_ialdN C pM_1 (j := 7) (by decide) (by decide) dX12_about_165 ?_
    cases h
    exact v_iret C hr hlk dX12_about_166
  rw [if_neg z8] at h
  by_cases z10 : a1 = 10
  · rw [if_pos z10] at h
    refine v_tabIn C 167 (k0 := 10) z10 dX12_about_1 (by decide) (by decide) (by decide) (by decide) ?_
    refine v_aload_n C 0 dX12_about_167 rfl rfl ?_
    refine v_getr C pM_0 fd_X12_7 rfl dX12_about_168 ?_
    refine v_bipush C (v := 8) dX12_about_171 (by decide) ?_
    refine v_ialdN C pM_1 (j := 8) (by decide) (by decide) dX12_about_173 ?_
    cases h
    exact v_iret C hr hlk dX12_about_174
  rw [if_neg z10] at h
  by_cases z11 : a1 = 11
  · rw [if_pos z11] at h
    refine v_tabIn C 175 (k0 := 11) z11 dX12_about_1 (by decide) (by decide) (by decide) (by decide) ?_
    refine v_aload_n C 0 dX12_about_175 rfl rfl ?_
    refine v_getr C pM_0 fd_X12_7 rfl dX12_about_176 ?_
    refine v_bipush C (v := 9) dX12_about_179 (by decide) ?_
    refine v_ialdN C pM_1 (j := 9) (by decide) (by decide) dX12_about_181 ?_
    cases h
    exact v_iret C hr hlk dX12_about_182
  rw [if_neg z11] at h
  by_cases z20 : a1 = 20
  · rw [if_pos z20] at h
    refine v_tabIn C 183 (k0 := 20) z20 dX12_about_1 (by decide) (by decide) (by decide) (by decide) ?_
    refine v_aload_n C 0 dX12_about_183 rfl rfl ?_
    refine v_getr C pM_0 fd_X12_7 rfl dX12_about_184 ?_
    refine v_bipush C (v := 10) dX12_about_187 (by decide) ?_
    refine v_ialdN C pM_1 (j := 10) (by decide) (by decide) dX12_about_189 ?_
    cases h
    exact v_iret C hr hlk dX12_about_190
  rw [if_neg z20] at h
  by_cases z21 : a1 = 21
  · rw [if_pos z21] at h
    refine v_tabIn C 191 (k0 := 21) z21 dX12_about_1 (by decide) (by decide) (by decide) (by decide) ?_
    refine v_aload_n C 0 dX12_about_191 rfl rfl ?_
    refine v_getr C pM_0 fd_X12_7 rfl dX12_about_192 ?_
    refine v_bipush C (v := 11) dX12_about_195 (by decide) ?_
    refine v_ialdN C pM_1 (j := 11) (by decide) (by decide) dX12_about_197 ?_
    cases h
    exact v_iret C hr hlk dX12_about_198
  rw [if_neg z21] at h
  refine v_dflt 199 ?_ (fun hd0 => ?_)
  · refine v_iconst C (v := (-1)) dX12_about_199 (by decide) ?_
    cases h
    exact v_iret C hr hlk dX12_about_200
  by_cases z9 : a1 = 9
  · exact v_tabIn C 199 (k0 := 9) z9 dX12_about_1 (by decide) (by decide) (by decide) (by decide) hd0
  by_cases z12 : a1 = 12
  · exact v_tabIn C 199 (k0 := 12) z12 dX12_about_1 (by decide) (by decide) (by decide) (by decide) hd0
  by_cases z13 : a1 = 13
  · exact v_tabIn C 199 (k0 := 13) z13 dX12_about_1 (by decide) (by decide) (by decide) (by decide) hd0
  by_cases z14 : a1 = 14
  · exact v_tabIn C 199 (k0 := 14) z14 dX12_about_1 (by decide) (by decide) (by decide) (by decide) hd0
  by_cases z15 : a1 = 15
  · exact v_tabIn C 199 (k0 := 15) z15 dX12_about_1 (by decide) (by decide) (by decide) (by decide) hd0
  by_cases z16 : a1 = 16
  · exact v_tabIn C 199 (k0 := 16) z16 dX12_about_1 (by decide) (by decide) (by decide) (by decide) hd0
  by_cases z17 : a1 = 17
  · exact v_tabIn C 199 (k0 := 17) z17 dX12_about_1 (by decide) (by decide) (by decide) (by decide) hd0
  by_cases z18 : a1 = 18
  · exact v_tabIn C 199 (k0 := 18) z18 dX12_about_1 (by decide) (by decide) (by decide) (by decide) hd0
  by_cases z19 : a1 = 19
  · exact v_tabIn C 199 (k0 := 19) z19 dX12_about_1 (by decide) (by decide) (by decide) (by decide) hd0
  exact v_tabOut C 199 dX12_about_1 (by have n0 := lv_neT z0 (a := 0) (by decide); have n1 := lv_neT z1 (a := 1) (by decide); have n2 := lv_neT z2 (a := 2) (by decide); have n3 := lv_neT z3 (a := 3) (by decide); have n4 := lv_neT z4 (a := 4) (by decide); have n5 := lv_neT z5 (a := 5) (by decide); have n6 := lv_neT z6 (a := 6) (by decide); have n7 := lv_neT z7 (a := 7) (by decide); have n8 := lv_neT z8 (a := 8) (by decide); have n9 := lv_neT z9 (a := 9) (by decide); have n10 := lv_neT z10 (a := 10) (by decide); have n11 := lv_neT z11 (a := 11) (by decide); have n12 := lv_neT z12 (a := 12) (by decide); have n13 := lv_neT z13 (a := 13) (by decide); have n14 := lv_neT z14 (a := 14) (by decide); have n15 := lv_neT z15 (a := 15) (by decide); have n16 := lv_neT z16 (a := 16) (by decide); have n17 := lv_neT z17 (a := 17) (by decide); have n18 := lv_neT z18 (a := 18) (by decide); have n19 := lv_neT z19 (a := 19) (by decide); have n20 := lv_neT z20 (a := 20) (by decide); have n21 := lv_neT z21 (a := 21) (by decide); omega) (by decide) hd0
