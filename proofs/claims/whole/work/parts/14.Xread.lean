def rX4_isBlank : Room := { frames := 0, cells := 0, slots := 0, locals := 0 }
def fX4_isBlank (a0 : Int32) : Option Bool := (some (if a0 = 32 then true else (if a0 = 10 then true else false)))
set_option maxHeartbeats 4000000 in
set_option maxRecDepth 100000 in
theorem cX4_isBlank_ct (l : Launch) (D : va_G) (cy : Nat → ClassId) (ad : Nat → Nat) (a0 : Int32) (u : Mem)  (out : Bool) (h : fX4_isBlank a0 = some out) : Met l yX4_isBlank (.code yX4_isBlank cX4_isBlank 1 (some .boolean) :: gw) rX4_isBlank (va_Pc [.int a0] (wv shX nX D cy ad u)) (qI shX nX D cy ad (bz out) u) 0 0 (rA ad nX) := by
  refine met_of (cc := cX4_isBlank) (nL := 1) (by decide) (Nat.le_of_ble_eq_true rfl) (fun p e s m below meth c C hr hlk => ?_)
  unfold fX4_isBlank at h
  show V shX nX D cy ad 1 p l e rX4_isBlank s m _ below meth c (MQ below (qI shX nX D cy ad (bz out) u) _ s 0 0 (rA ad nX)) 0 [(0, .int a0)] [] u
  refine v_iload_n C 0 dX4_isBlank_0 rfl rfl ?_
  refine v_bipush C (v := 32) dX4_isBlank_1 (by decide) ?_
  refine v_dia 17 (.int (bz (if a0 = 32 then true else (if a0 = 10 then true else false)))) [] ?_ (fun hj => ?_)
  · cases h
    exact v_zret (b := (if a0 = 32 then true else (if a0 = 10 then true else false))) C hr hlk dX4_isBlank_17
  · refine p_icmp_eq C 12 dX4_isBlank_3 (by decide) (fun z1 => ?_) (fun z1 => ?_)
    · refine v_iconst C (v := 1) dX4_isBlank_12 (by decide) ?_
      refine v_goto C 17 dX4_isBlank_13 (by decide) ?_
      exact v_top (by rw [if_pos z1]; first | done | rfl) hj
    · refine v_iload_n C 0 dX4_isBlank_6 rfl rfl ?_
      refine v_bipush C (v := 10) dX4_isBlank_7 (by decide) ?_
      refine p_icmp_ne C 16 dX4_isBlank_9 (by decide) (fun z2 => ?_) (fun z2 => ?_)
      · refine v_iconst C (v := 1) dX4_isBlank_12 (by decide) ?_
        refine v_goto C 17 dX4_isBlank_13 (by decide) ?_
        exact v_top (by rw [if_neg z1, if_pos z2]; first | done | rfl) hj
      · refine v_iconst C (v := 0) dX4_isBlank_16 (by decide) ?_
        exact v_top (by rw [if_neg z1, if_neg z2]; first | done | rfl) hj
def rX4_isLetter : Room := { frames := 0, cells := 0, slots := 0, locals := 0 }
def fX4_isLetter (a0 : Int32) : Option Bool := (some (if a0 < 97 then (if a0 < 65 then false else (if 90 < a0 then false else true)) else (if a0 ≤ 122 then true else (if a0 < 65 then false else (if 90 < a0 then false else true)))))
set_option maxHeartbeats 4000000 in
set_option maxRecDepth 100000 in
theorem cX4_isLetter_ct (l : Launch) (D : va_G) (cy : Nat → ClassId) (ad : Nat → Nat) (a0 : Int32) (u : Mem)  (out : Bool) (h : fX4_isLetter a0 = some out) : Met l yX4_isLetter (.code yX4_isLetter cX4_isLetter 1 (some .boolean) :: gw) rX4_isLetter (va_Pc [.int a0] (wv shX nX D cy ad u)) (qI shX nX D cy ad (bz out) u) 0 0 (rA ad nX) := by
  refine met_of (cc := cX4_isLetter) (nL := 1) (by decide) (Nat.le_of_ble_eq_true rfl) (fun p e s m below meth c C hr hlk => ?_)
  unfold fX4_isLetter at h
  show V shX nX D cy ad 1 p l e rX4_isLetter s m _ below meth c (MQ below (qI shX nX D cy ad (bz out) u) _ s 0 0 (rA ad nX)) 0 [(0, .int a0)] [] u
  refine v_iload_n C 0 dX4_isLetter_0 rfl rfl ?_
  refine v_bipush C (v := 97) dX4_isLetter_1 (by decide) ?_
  refine v_dia 29 (.int (bz (if a0 < 97 then (if a0 < 65 then false else (if 90 < a0 then false else true)) else (if a0 ≤ 122 then true else (if a0 < 65 then false else (if 90 < a0 then false else true)))))) [] ?_ (fun hj => ?_)
  · cases h
    exact v_zret (b := (if a0 < 97 then (if a0 < 65 then false else (if 90 < a0 then false else true)) else (if a0 ≤ 122 then true else (if a0 < 65 then false else (if 90 < a0 then false else true))))) C hr hlk dX4_isLetter_29
  · refine p_icmp_lt C 12 dX4_isLetter_3 (by decide) (fun z1 => ?_) (fun z1 => ?_)
    · refine v_iload_n C 0 dX4_isLetter_12 rfl rfl ?_
      refine v_bipush C (v := 65) dX4_isLetter_13 (by decide) ?_
      refine p_icmp_lt C 28 dX4_isLetter_15 (by decide) (fun z2 => ?_) (fun z2 => ?_)
      · refine v_iconst C (v := 0) dX4_isLetter_28 (by decide) ?_
        exact v_top (by rw [if_pos z1, if_pos z2]; first | done | rfl) hj
      · refine v_iload_n C 0 dX4_isLetter_18 rfl rfl ?_
        refine v_bipush C (v := 90) dX4_isLetter_19 (by decide) ?_
        refine p_icmp_gt C 28 dX4_isLetter_21 (by decide) (fun z3 => ?_) (fun z3 => ?_)
        · refine v_iconst C (v := 0) dX4_isLetter_28 (by decide) ?_
          exact v_top (by rw [if_pos z1, if_neg z2, if_pos z3]; first | done | rfl) hj
        · refine v_iconst C (v := 1) dX4_isLetter_24 (by decide) ?_
          refine v_goto C 29 dX4_isLetter_25 (by decide) ?_
          exact v_top (by rw [if_pos z1, if_neg z2, if_neg z3]; first | done | rfl) hj
    · refine v_iload_n C 0 dX4_isLetter_6 rfl rfl ?_
      refine v_bipush C (v := 122) dX4_isLetter_7 (by decide) ?_
      refine p_icmp_le C 24 dX4_isLetter_9 (by decide) (fun z4 => ?_) (fun z4 => ?_)
      · refine v_iconst C (v := 1) dX4_isLetter_24 (by decide) ?_
        refine v_goto C 29 dX4_isLetter_25 (by decide) ?_
        exact v_top (by rw [if_neg z1, if_pos z4]; first | done | rfl) hj
      · refine v_iload_n C 0 dX4_isLetter_12 rfl rfl ?_
        refine v_bipush C (v := 65) dX4_isLetter_13 (by decide) ?_
        refine p_icmp_lt C 28 dX4_isLetter_15 (by decide) (fun z5 => ?_) (fun z5 => ?_)
        · refine v_iconst C (v := 0) dX4_isLetter_28 (by decide) ?_
          exact v_top (by rw [if_neg z1, if_neg z4, if_pos z5]; first | done | rfl) hj
        · refine v_iload_n C 0 dX4_isLetter_18 rfl rfl ?_
          refine v_bipush C (v := 90) dX4_isLetter_19 (by decide) ?_
          refine p_icmp_gt C 28 dX4_isLetter_21 (by decide) (fun z6 => ?_) (fun z6 => ?_)
          · refine v_iconst C (v := 0) dX4_isLetter_28 (by decide) ?_
            exact v_top (by rw [if_neg z1, if_neg z4, if_neg z5, if_pos z6]; first | done | rfl) hj
          · refine v_iconst C (v := 1) dX4_isLetter_24 (by decide) ?_
            refine v_goto C 29 dX4_isLetter_25 (by decide) ?_
            exact v_top (by rw [if_neg z1, if_neg z4, if_neg z5, if_neg z6]; first | done | rfl) hj
def rX4_isDigit : Room := { frames := 0, cells := 0, slots := 0, locals := 0 }
def fX4_isDigit (a0 : Int32) : Option Bool := (some (if a0 < 48 then false else (if 57 < a0 then false else true)))
set_option maxHeartbeats 4000000 in
set_option maxRecDepth 100000 in
theorem cX4_isDigit_ct (l : Launch) (D : va_G) (cy : Nat → ClassId) (ad : Nat → Nat) (a0 : Int32) (u : Mem)  (out : Bool) (h : fX4_isDigit a0 = some out) : Met l yX4_isDigit (.code yX4_isDigit cX4_isDigit 1 (some .boolean) :: gw) rX4_isDigit (va_Pc [.int a0] (wv shX nX D cy ad u)) (qI shX nX D cy ad (bz out) u) 0 0 (rA ad nX) := by
  refine met_of (cc := cX4_isDigit) (nL := 1) (by decide) (Nat.le_of_ble_eq_true rfl) (fun p e s m below meth c C hr hlk => ?_)
  unfold fX4_isDigit at h
  show V shX nX D cy ad 1 p l e rX4_isDigit s m _ below meth c (MQ below (qI shX nX D cy ad (bz out) u) _ s 0 0 (rA ad nX)) 0 [(0, .int a0)] [] u
  refine v_iload_n C 0 dX4_isDigit_0 rfl rfl ?_
  refine v_bipush C (v := 48) dX4_isDigit_1 (by decide) ?_
  refine v_dia 17 (.int (bz (if a0 < 48 then false else (if 57 < a0 then false else true)))) [] ?_ (fun hj => ?_)
  · cases h
    exact v_zret (b := (if a0 < 48 then false else (if 57 < a0 then false else true))) C hr hlk dX4_isDigit_17
  · refine p_icmp_lt C 16 dX4_isDigit_3 (by decide) (fun z1 => ?_) (fun z1 => ?_)
    · refine v_iconst C (v := 0) dX4_isDigit_16 (by decide) ?_
      exact v_top (by rw [if_pos z1]; first | done | rfl) hj
    · refine v_iload_n C 0 dX4_isDigit_6 rfl rfl ?_
      refine v_bipush C (v := 57) dX4_isDigit_7 (by decide) ?_
      refine p_icmp_gt C 16 dX4_isDigit_9 (by decide) (fun z2 => ?_) (fun z2 => ?_)
      · refine v_iconst C (v := 0) dX4_isDigit_16 (by decide) ?_
        exact v_top (by rw [if_neg z1, if_pos z2]; first | done | rfl) hj
      · refine v_iconst C (v := 1) dX4_isDigit_12 (by decide) ?_
        refine v_goto C 17 dX4_isDigit_13 (by decide) ?_
        exact v_top (by rw [if_neg z1, if_neg z2]; first | done | rfl) hj
def rX4_next : Room := { frames := 1, cells := 0, slots := 0, locals := 23 }
def fX4_next_L8  (K53 : Mem → Option Mem) : Nat → Mem → Option Mem
  | 0, _ => none
  | t + 1, u => (if (u.1 182 1) ≤ (u.1 184 4) then K53 u else (if inB (u.1 184 4) 400 then ((fX4_isBlank (u.1 183 (u.1 184 4).toNatClampNeg)).bind fun r3 => (if r3 = true then fX4_next_L8 K53 t (si u 184 4 ((u.1 184 4) + 1)) else K53 u)) else none))
def fX4_next_L111  : Nat → Mem → Option Mem
  | 0, _ => none
  | t + 1, u => (if (u.1 182 1) ≤ (u.1 184 5) then (some u) else (if inB (u.1 184 5) 400 then ((fX4_isLetter (u.1 183 (u.1 184 5).toNatClampNeg)).bind fun r14 => (if r14 = true then fX4_next_L111 t (si u 184 5 ((u.1 184 5) + 1)) else (some u))) else none))
def fX4_next_L179  : Nat → Mem → Option Mem
  | 0, _ => none
  | t + 1, u => (if (u.1 182 1) ≤ (u.1 184 5) then (some u) else (if inB (u.1 184 5) 400 then ((fX4_isDigit (u.1 183 (u.1 184 5).toNatClampNeg)).bind fun r23 => (if r23 = true then (if inB (u.1 184 5) 400 then ((some ((if 100000 < ((((u.1 184 6) * 10) + (u.1 183 (u.1 184 5).toNatClampNeg)) - 48) then 100000 else ((((u.1 184 6) * 10) + (u.1 183 (u.1 184 5).toNatClampNeg)) - 48)))).bind fun x25 => ((some (si (si u 184 6 x25) 184 5 (((si u 184 6 x25).1 184 5) + 1))).bind fun u26 => fX4_next_L179 t u26)) else none) else (some u))) else none))
def fX4_next (u : Mem) : Option Mem := fX4_next_L8 (fun u5 => (if ((si (si u5 184 5 (u5.1 184 4)) 184 6 0).1 184 4) < ((si (si u5 184 5 (u5.1 184 4)) 184 6 0).1 182 1) then (if inB ((si (si u5 184 5 (u5.1 184 4)) 184 6 0).1 184 4) 400 then ((some ((si (si u5 184 5 (u5.1 184 4)) 184 6 0).1 183 ((si (si u5 184 5 (u5.1 184 4)) 184 6 0).1 184 4).toNatClampNeg)).bind fun x7 => ((fX4_isLetter x7).bind fun r9 => (if r9 = true then ((some (si (si (si u5 184 5 (u5.1 184 4)) 184 6 0) 184 3 1)).bind fun u11 => fX4_next_L111 fu0 u11) else (if inB ((si (si u5 184 5 (u5.1 184 4)) 184 6 0).1 184 4) 400 then ((some ((si (si u5 184 5 (u5.1 184 4)) 184 6 0).1 183 ((si (si u5 184 5 (u5.1 184 4)) 184 6 0).1 184 4).toNatClampNeg)).bind fun x16 => ((fX4_isDigit x16).bind fun r18 => (if r18 = true then ((some (si (si (si u5 184 5 (u5.1 184 4)) 184 6 0) 184 3 2)).bind fun u20 => fX4_next_L179 fu0 u20) else (if inB ((si (si u5 184 5 (u5.1 184 4)) 184 6 0).1 184 4) 400 then ((some ((si (si u5 184 5 (u5.1 184 4)) 184 6 0).1 183 ((si (si u5 184 5 (u5.1 184 4)) 184 6 0).1 184 4).toNatClampNeg)).bind fun x27 => ((some (si (si (si u5 184 5 (u5.1 184 4)) 184 6 0) 184 3 (if x27 = 61 then x27 else (if x27 = 44 then x27 else (if x27 = 59 then x27 else 3))))).bind fun u31 => (some (si u31 184 5 ((u31.1 184 5) + 1))))) else none)))) else none)))) else none) else ((some (si (si (si u5 184 5 (u5.1 184 4)) 184 6 0) 184 3 0)).bind fun u32 => (some u32)))) fu0 (si u 184 4 (u.1 184 5))
set_option maxHeartbeats 4000000 in
set_option maxRecDepth 100000 in
theorem kX4_next_L8 {l : Launch} {D : va_G} {cy : Nat → ClassId} {ad : Nat → Nat} {p : Program} {e : Env} {s : State} {m : MethodId} {args : Array Value} {below : List Frame} {meth : Method} {c : Code} (C : Cx nX D cy ad 2 cX4_next RX4 rX4_next p s m args c) (hr : meth.sig.returnType = none) (hlk : meth.locks = false)   {out : Mem} (K53 : Mem → Option Mem) (hK53 : ∀ (w : Mem), K53 w = some out → V shX nX D cy ad 2 p l e rX4_next s m args below meth c (MQ below (qV shX nX D cy ad out) args s 0 0 (rA ad nX)) 53 [(0, .ref (ad 184))] [] w) : ∀ (t : Nat) (u : Mem), fX4_next_L8 K53 t u = some out → V shX nX D cy ad 2 p l e rX4_next s m args below meth c (MQ below (qV shX nX D cy ad out) args s 0 0 (rA ad nX)) 8 [(0, .ref (ad 184))] [] u := by
  intro t
  induction t with
  | zero => intro u h; rw [fX4_next_L8] at h; cases h
  | succ t ih =>
    intro u h
    rw [fX4_next_L8] at h
    refine v_aload_n C 0 dX4_next_8 rfl rfl ?_
    refine v_geti C pX_184 fd_X4_135 rfl dX4_next_9 ?_
    refine v_aload_n C 0 dX4_next_12 rfl rfl ?_
    refine v_getr C pX_184 fd_X4_15 rfl dX4_next_13 ?_
    refine v_geti C pX_182 fd_X4_153 rfl dX4_next_16 ?_
    refine v_icmp_ge C 53 dX4_next_19 (by decide) h (fun h => ?_) (fun h => ?_)
    · exact hK53 u h
    · refine v_aload_n C 0 dX4_next_22 rfl rfl ?_
      refine v_getr C pX_184 fd_X4_15 rfl dX4_next_23 ?_
      refine v_getr C pX_182 fd_X4_138 rfl dX4_next_26 ?_
      refine v_aload_n C 0 dX4_next_29 rfl rfl ?_
      refine v_geti C pX_184 fd_X4_135 rfl dX4_next_30 ?_
      refine v_iald C pX_183 dX4_next_33 h (fun h => ?_)
      obtain ⟨r3, hc2, h⟩ := bnd h
      refine v_callSi C [.int (u.1 183 (u.1 184 4).toNatClampNeg)] (cX4_isBlank_ct l D cy ad (u.1 183 (u.1 184 4).toNatClampNeg) _ r3 hc2) ml_X4_155 ⟨Nat.le_of_ble_eq_true rfl, Nat.le_of_ble_eq_true rfl⟩ ⟨rfl, rfl⟩ rfl rfl (Nat.le_of_ble_eq_true rfl) dX4_next_34 ?_
      refine v_z_eq C 53 dX4_next_37 (by decide) h (fun h => ?_) (fun h => ?_)
      · refine v_aload_n C 0 dX4_next_40 rfl rfl ?_
        refine v_dup C rfl dX4_next_41 ?_
        refine v_geti C pX_184 fd_X4_135 rfl dX4_next_42 ?_
        refine v_iconst C (v := 1) dX4_next_45 (by decide) ?_
        refine v_iadd C dX4_next_46 ?_
        refine v_puti C pX_184 fp_X4_135 rfl rfl rfl dX4_next_47 ?_
        refine v_goto C 8 dX4_next_50 (by decide) ?_
        exact ih (si u 184 4 ((u.1 184 4) + 1)) h
      · exact hK53 u h
set_option maxHeartbeats 4000000 in
set_option maxRecDepth 100000 in
theorem kX4_next_L111 {l : Launch} {D : va_G} {cy : Nat → ClassId} {ad : Nat → Nat} {p : Program} {e : Env} {s : State} {m : MethodId} {args : Array Value} {below : List Frame} {meth : Method} {c : Code} (C : Cx nX D cy ad 2 cX4_next RX4 rX4_next p s m args c) (hr : meth.sig.returnType = none) (hlk : meth.locks = false)   {out : Mem}  : ∀ (t : Nat) (u : Mem), fX4_next_L111 t u = some out → V shX nX D cy ad 2 p l e rX4_next s m args below meth c (MQ below (qV shX nX D cy ad out) args s 0 0 (rA ad nX)) 111 [(0, .ref (ad 184))] [] u := by
  intro t
  induction t with
  | zero => intro u h; rw [fX4_next_L111] at h; cases h
  | succ t ih =>
    intro u h
    rw [fX4_next_L111] at h
    refine v_aload_n C 0 dX4_next_111 rfl rfl ?_
    refine v_geti C pX_184 fd_X4_40 rfl dX4_next_112 ?_
    refine v_aload_n C 0 dX4_next_115 rfl rfl ?_
    refine v_getr C pX_184 fd_X4_15 rfl dX4_next_116 ?_
    refine v_geti C pX_182 fd_X4_153 rfl dX4_next_119 ?_
    refine v_icmp_ge C 306 dX4_next_122 (by decide) h (fun h => ?_) (fun h => ?_)
    · cases h
      exact v_vret C hr hlk dX4_next_306
    · refine v_aload_n C 0 dX4_next_125 rfl rfl ?_
      refine v_getr C pX_184 fd_X4_15 rfl dX4_next_126 ?_
      refine v_getr C pX_182 fd_X4_138 rfl dX4_next_129 ?_
      refine v_aload_n C 0 dX4_next_132 rfl rfl ?_
      refine v_geti C pX_184 fd_X4_40 rfl dX4_next_133 ?_
      refine v_iald C pX_183 dX4_next_136 h (fun h => ?_)
      obtain ⟨r14, hc13, h⟩ := bnd h
      refine v_callSi C [.int (u.1 183 (u.1 184 5).toNatClampNeg)] (cX4_isLetter_ct l D cy ad (u.1 183 (u.1 184 5).toNatClampNeg) _ r14 hc13) ml_X4_158 ⟨Nat.le_of_ble_eq_true rfl, Nat.le_of_ble_eq_true rfl⟩ ⟨rfl, rfl⟩ rfl rfl (Nat.le_of_ble_eq_true rfl) dX4_next_137 ?_
      refine v_z_eq C 306 dX4_next_140 (by decide) h (fun h => ?_) (fun h => ?_)
      · refine v_aload_n C 0 dX4_next_143 rfl rfl ?_
        refine v_dup C rfl dX4_next_144 ?_
        refine v_geti C pX_184 fd_X4_40 rfl dX4_next_145 ?_
        refine v_iconst C (v := 1) dX4_next_148 (by decide) ?_
        refine v_iadd C dX4_next_149 ?_
        refine v_puti C pX_184 fp_X4_40 rfl rfl rfl dX4_next_150 ?_
        refine v_goto C 111 dX4_next_153 (by decide) ?_
        exact ih (si u 184 5 ((u.1 184 5) + 1)) h
      · cases h
        exact v_vret C hr hlk dX4_next_306
set_option maxHeartbeats 4000000 in
set_option maxRecDepth 100000 in
theorem kX4_next_L179 {l : Launch} {D : va_G} {cy : Nat → ClassId} {ad : Nat → Nat} {p : Program} {e : Env} {s : State} {m : MethodId} {args : Array Value} {below : List Frame} {meth : Method} {c : Code} (C : Cx nX D cy ad 2 cX4_next RX4 rX4_next p s m args c) (hr : meth.sig.returnType = none) (hlk : meth.locks = false)   {out : Mem}  : ∀ (t : Nat) (u : Mem), fX4_next_L179 t u = some out → V shX nX D cy ad 2 p l e rX4_next s m args below meth c (MQ below (qV shX nX D cy ad out) args s 0 0 (rA ad nX)) 179 [(0, .ref (ad 184))] [] u := by
  intro t
  induction t with
  | zero => intro u h; rw [fX4_next_L179] at h; cases h
  | succ t ih =>
    intro u h
    rw [fX4_next_L179] at h
    refine v_aload_n C 0 dX4_next_179 rfl rfl ?_
    refine v_geti C pX_184 fd_X4_40 rfl dX4_next_180 ?_
    refine v_aload_n C 0 dX4_next_183 rfl rfl ?_
    refine v_getr C pX_184 fd_X4_15 rfl dX4_next_184 ?_
    refine v_geti C pX_182 fd_X4_153 rfl dX4_next_187 ?_
    refine v_icmp_ge C 306 dX4_next_190 (by decide) h (fun h => ?_) (fun h => ?_)
    · cases h
      exact v_vret C hr hlk dX4_next_306
    · refine v_aload_n C 0 dX4_next_193 rfl rfl ?_
      refine v_getr C pX_184 fd_X4_15 rfl dX4_next_194 ?_
      refine v_getr C pX_182 fd_X4_138 rfl dX4_next_197 ?_
      refine v_aload_n C 0 dX4_next_200 rfl rfl ?_
      refine v_geti C pX_184 fd_X4_40 rfl dX4_next_201 ?_
      refine v_iald C pX_183 dX4_next_204 h (fun h => ?_)
      obtain ⟨r23, hc22, h⟩ := bnd h
      refine v_callSi C [.int (u.1 183 (u.1 184 5).toNatClampNeg)] (cX4_isDigit_ct l D cy ad (u.1 183 (u.1 184 5).toNatClampNeg) _ r23 hc22) ml_X4_161 ⟨Nat.le_of_ble_eq_true rfl, Nat.le_of_ble_eq_true rfl⟩ ⟨rfl, rfl⟩ rfl rfl (Nat.le_of_ble_eq_true rfl) dX4_next_205 ?_
      refine v_z_eq C 306 dX4_next_208 (by decide) h (fun h => ?_) (fun h => ?_)
      · refine v_aload_n C 0 dX4_next_211 rfl rfl ?_
        refine v_aload_n C 0 dX4_next_212 rfl rfl ?_
        refine v_geti C pX_184 fd_X4_82 rfl dX4_next_213 ?_
        refine v_bipush C (v := 10) dX4_next_216 (by decide) ?_
        refine v_imul C dX4_next_218 ?_
        refine v_aload_n C 0 dX4_next_219 rfl rfl ?_
        refine v_getr C pX_184 fd_X4_15 rfl dX4_next_220 ?_
        refine v_getr C pX_182 fd_X4_138 rfl dX4_next_223 ?_
        refine v_aload_n C 0 dX4_next_226 rfl rfl ?_
        refine v_geti C pX_184 fd_X4_40 rfl dX4_next_227 ?_
        refine v_iald C pX_183 dX4_next_230 h (fun h => ?_)
        refine v_iadd C dX4_next_231 ?_
        refine v_bipush C (v := 48) dX4_next_232 (by decide) ?_
        refine v_isub C dX4_next_234 ?_
        refine v_ldc C kc_X4_164 dX4_next_235 ?_
        refine v_mmin C ma_X4_165 (Nat.le_of_ble_eq_true rfl) (Nat.le_of_ble_eq_true rfl) (Nat.le_of_ble_eq_true rfl) dX4_next_237 ?_
        refine v_nmi (fun x25 hx25 => ?_)
        have h := nmd hx25 h
        refine v_puti C pX_184 fp_X4_82 rfl rfl rfl dX4_next_240 ?_
        refine v_aload_n C 0 dX4_next_243 rfl rfl ?_
        refine v_dup C rfl dX4_next_244 ?_
        refine v_geti C pX_184 fd_X4_40 rfl dX4_next_245 ?_
        refine v_iconst C (v := 1) dX4_next_248 (by decide) ?_
        refine v_iadd C dX4_next_249 ?_
        refine v_puti C pX_184 fp_X4_40 rfl rfl rfl dX4_next_250 ?_
        refine v_mem (fun u26 hu26 => ?_)
        have h := nmd hu26 h
        refine v_goto C 179 dX4_next_253 (by decide) ?_
        exact ih u26 h
      · cases h
        exact v_vret C hr hlk dX4_next_306
set_option maxHeartbeats 4000000 in
set_option maxRecDepth 100000 in
theorem cX4_next_ct (l : Launch) (D : va_G) (cy : Nat → ClassId) (ad : Nat → Nat) (u : Mem)  (out : Mem) (h : fX4_next u = some out) : Met l yX4_next (.code yX4_next cX4_next 2 (none) :: gw) rX4_next (va_Pc [.ref (ad 184)] (wv shX nX D cy ad u)) (qV shX nX D cy ad out) 0 0 (rA ad nX) := by
  refine met_of (cc := cX4_next) (nL := 2) (by decide) (Nat.le_of_ble_eq_true rfl) (fun p e s m below meth c C hr hlk => ?_)
  unfold fX4_next at h
  show V shX nX D cy ad 2 p l e rX4_next s m _ below meth c (MQ below (qV shX nX D cy ad out) _ s 0 0 (rA ad nX)) 0 [(0, .ref (ad 184))] [] u
  refine v_aload_n C 0 dX4_next_0 rfl rfl ?_
  refine v_aload_n C 0 dX4_next_1 rfl rfl ?_
  refine v_geti C pX_184 fd_X4_40 rfl dX4_next_2 ?_
  refine v_puti C pX_184 fp_X4_135 rfl rfl rfl dX4_next_5 ?_
  refine kX4_next_L8 C hr hlk  _ (fun u5 h => ?_) fu0 (si u 184 4 (u.1 184 5)) h
  · refine v_aload_n C 0 dX4_next_53 rfl rfl ?_
    refine v_aload_n C 0 dX4_next_54 rfl rfl ?_
    refine v_geti C pX_184 fd_X4_135 rfl dX4_next_55 ?_
    refine v_puti C pX_184 fp_X4_40 rfl rfl rfl dX4_next_58 ?_
    refine v_aload_n C 0 dX4_next_61 rfl rfl ?_
    refine v_iconst C (v := 0) dX4_next_62 (by decide) ?_
    refine v_puti C pX_184 fp_X4_82 rfl rfl rfl dX4_next_63 ?_
    refine v_aload_n C 0 dX4_next_66 rfl rfl ?_
    refine v_geti C pX_184 fd_X4_135 rfl dX4_next_67 ?_
    refine v_aload_n C 0 dX4_next_70 rfl rfl ?_
    refine v_getr C pX_184 fd_X4_15 rfl dX4_next_71 ?_
    refine v_geti C pX_182 fd_X4_153 rfl dX4_next_74 ?_
    refine v_icmp_lt C 88 dX4_next_77 (by decide) h (fun h => ?_) (fun h => ?_)
    · refine v_aload_n C 0 dX4_next_88 rfl rfl ?_
      refine v_getr C pX_184 fd_X4_15 rfl dX4_next_89 ?_
      refine v_getr C pX_182 fd_X4_138 rfl dX4_next_92 ?_
      refine v_aload_n C 0 dX4_next_95 rfl rfl ?_
      refine v_geti C pX_184 fd_X4_135 rfl dX4_next_96 ?_
      refine v_iald C pX_183 dX4_next_99 h (fun h => ?_)
      refine v_nmi (fun x7 hx7 => ?_)
      have h := nmd hx7 h
      obtain ⟨r9, hc8, h⟩ := bnd h
      refine v_callSi C [.int x7] (cX4_isLetter_ct l D cy ad x7 _ r9 hc8) ml_X4_158 ⟨Nat.le_of_ble_eq_true rfl, Nat.le_of_ble_eq_true rfl⟩ ⟨rfl, rfl⟩ rfl rfl (Nat.le_of_ble_eq_true rfl) dX4_next_100 ?_
      refine v_z_eq C 156 dX4_next_103 (by decide) h (fun h => ?_) (fun h => ?_)
      · refine v_aload_n C 0 dX4_next_106 rfl rfl ?_
        refine v_iconst C (v := 1) dX4_next_107 (by decide) ?_
        refine v_puti C pX_184 fp_X4_46 rfl rfl rfl dX4_next_108 ?_
        refine v_mem (fun u11 hu11 => ?_)
        have h := nmd hu11 h
        refine kX4_next_L111 C hr hlk    fu0 u11 h
      · refine v_aload_n C 0 dX4_next_156 rfl rfl ?_
        refine v_getr C pX_184 fd_X4_15 rfl dX4_next_157 ?_
        refine v_getr C pX_182 fd_X4_138 rfl dX4_next_160 ?_
        refine v_aload_n C 0 dX4_next_163 rfl rfl ?_
        refine v_geti C pX_184 fd_X4_135 rfl dX4_next_164 ?_
        refine v_iald C pX_183 dX4_next_167 h (fun h => ?_)
        refine v_nmi (fun x16 hx16 => ?_)
        have h := nmd hx16 h
        obtain ⟨r18, hc17, h⟩ := bnd h
        refine v_callSi C [.int x16] (cX4_isDigit_ct l D cy ad x16 _ r18 hc17) ml_X4_161 ⟨Nat.le_of_ble_eq_true rfl, Nat.le_of_ble_eq_true rfl⟩ ⟨rfl, rfl⟩ rfl rfl (Nat.le_of_ble_eq_true rfl) dX4_next_168 ?_
        refine v_z_eq C 256 dX4_next_171 (by decide) h (fun h => ?_) (fun h => ?_)
        · refine v_aload_n C 0 dX4_next_174 rfl rfl ?_
          refine v_iconst C (v := 2) dX4_next_175 (by decide) ?_
          refine v_puti C pX_184 fp_X4_46 rfl rfl rfl dX4_next_176 ?_
          refine v_mem (fun u20 hu20 => ?_)
          have h := nmd hu20 h
          refine kX4_next_L179 C hr hlk    fu0 u20 h
        · refine v_aload_n C 0 dX4_next_256 rfl rfl ?_
          refine v_getr C pX_184 fd_X4_15 rfl dX4_next_257 ?_
          refine v_getr C pX_182 fd_X4_138 rfl dX4_next_260 ?_
          refine v_aload_n C 0 dX4_next_263 rfl rfl ?_
          refine v_geti C pX_184 fd_X4_135 rfl dX4_next_264 ?_
          refine v_iald C pX_183 dX4_next_267 h (fun h => ?_)
          refine v_nmi (fun x27 hx27 => ?_)
          have h := nmd hx27 h
          refine v_istore_n C [(1, .int x27), (0, .ref (ad 184))] dX4_next_268 rfl (by decide) rfl ?_
          refine v_aload_n C 1 dX4_next_269 rfl rfl ?_
          refine v_iload_n C 0 dX4_next_270 rfl rfl ?_
          refine v_bipush C (v := 61) dX4_next_271 (by decide) ?_
          refine v_dia 293 (.int (if x27 = 61 then x27 else (if x27 = 44 then x27 else (if x27 = 59 then x27 else 3)))) [.ref (ad 184)] ?_ (fun hj => ?_)
          · refine v_puti C pX_184 fp_X4_46 rfl rfl rfl dX4_next_293 ?_
            refine v_mem (fun u31 hu31 => ?_)
            have h := nmd hu31 h
            refine v_aload_n C 1 dX4_next_296 rfl rfl ?_
            refine v_dup C rfl dX4_next_297 ?_
            refine v_geti C pX_184 fd_X4_40 rfl dX4_next_298 ?_
            refine v_iconst C (v := 1) dX4_next_301 (by decide) ?_
            refine v_iadd C dX4_next_302 ?_
            refine v_puti C pX_184 fp_X4_40 rfl rfl rfl dX4_next_303 ?_
            cases h
            exact v_vret C hr hlk dX4_next_306
          · refine p_icmp_eq C 288 dX4_next_273 (by decide) (fun z28 => ?_) (fun z28 => ?_)
            · refine v_iload_n C 0 dX4_next_288 rfl rfl ?_
              refine v_goto C 293 dX4_next_289 (by decide) ?_
              exact v_top (by rw [if_pos z28]; first | done | rfl) hj
            · refine v_iload_n C 0 dX4_next_276 rfl rfl ?_
              refine v_bipush C (v := 44) dX4_next_277 (by decide) ?_
              refine p_icmp_eq C 288 dX4_next_279 (by decide) (fun z29 => ?_) (fun z29 => ?_)
              · refine v_iload_n C 0 dX4_next_288 rfl rfl ?_
                refine v_goto C 293 dX4_next_289 (by decide) ?_
                exact v_top (by rw [if_neg z28, if_pos z29]; first | done | rfl) hj
              · refine v_iload_n C 0 dX4_next_282 rfl rfl ?_
                refine v_bipush C (v := 59) dX4_next_283 (by decide) ?_
                refine p_icmp_ne C 292 dX4_next_285 (by decide) (fun z30 => ?_) (fun z30 => ?_)
                · refine v_iload_n C 0 dX4_next_288 rfl rfl ?_
                  refine v_goto C 293 dX4_next_289 (by decide) ?_
                  exact v_top (by rw [if_neg z28, if_neg z29, if_pos z30]; first | done | rfl) hj
                · refine v_iconst C (v := 3) dX4_next_292 (by decide) ?_
                  exact v_top (by rw [if_neg z28, if_neg z29, if_neg z30]; first | done | rfl) hj
    · refine v_aload_n C 0 dX4_next_80 rfl rfl ?_
      refine v_iconst C (v := 0) dX4_next_81 (by decide) ?_
      refine v_puti C pX_184 fp_X4_46 rfl rfl rfl dX4_next_82 ?_
      refine v_mem (fun u32 hu32 => ?_)
      have h := nmd hu32 h
      refine v_goto C 306 dX4_next_85 (by decide) ?_
      cases h
      exact v_vret C hr hlk dX4_next_306
def rJ0_coder_7d493 : Room := { frames := 0, cells := 0, slots := 0, locals := 0 }
def fJ0_coder_7d493 (i0 : Nat) (u : Mem) : Option Int32 := (some 0)
set_option maxHeartbeats 4000000 in
set_option maxRecDepth 100000 in
theorem cJ0_coder_7d493_ct (l : Launch) (D : va_G) (cy : Nat → ClassId) (ad : Nat → Nat) (i0 : Nat) (u : Mem) (hi0 : i0 < 7) (out : Int32) (h : fJ0_coder_7d493 i0 u = some out) : Met l yJ0_coder_7d493 (.code yJ0_coder_7d493 cJ0_coder_7d493 1 (some .byte) :: gw) rJ0_coder_7d493 (va_Pc [.ref (ad (1000 + i0))] (wv shX nX D cy ad u)) (qI shX nX D cy ad out u) 0 0 (rA ad nX) := by
  refine met_ofJ (cc := cJ0_coder_7d493) (nL := 1) (by decide +kernel) (Nat.le_of_ble_eq_true rfl) (fun p e s m below meth c C hr hlk => ?_)
  unfold fJ0_coder_7d493 at h
  show V shX nX D cy ad 1 p l e rJ0_coder_7d493 s m _ below meth c (MQ below (qI shX nX D cy ad out u) _ s 0 0 (rA ad nX)) 0 [(0, .ref (ad (1000 + i0)))] [] u
  refine v_sz C dJ0_coder_7d493_0 ?_
  refine p_if_eq C 13 dJ0_coder_7d493_3 (by decide) (fun z => absurd z (by decide)) (fun _ => ?_)
  refine v_aload_n C 0 dJ0_coder_7d493_6 rfl rfl ?_
  refine v_scod C hi0 dJ0_coder_7d493_7 ?_
  refine v_goto C 14 dJ0_coder_7d493_10 (by decide) ?_
  cases h
  exact v_nret C hr hlk rfl dJ0_coder_7d493_14
def rJ0_length_8abf5 : Room := { frames := 1, cells := 0, slots := 0, locals := 20 }
def fJ0_length_8abf5 (i0 : Nat) (u : Mem) : Option Int32 := ((fJ0_coder_7d493 i0 u).bind fun r2 => (some ((nI (lenS.getD i0 0)) >>> (r2 &&& 31))))
set_option maxHeartbeats 4000000 in
set_option maxRecDepth 100000 in
theorem cJ0_length_8abf5_ct (l : Launch) (D : va_G) (cy : Nat → ClassId) (ad : Nat → Nat) (i0 : Nat) (u : Mem) (hi0 : i0 < 7) (out : Int32) (h : fJ0_length_8abf5 i0 u = some out) : Met l yJ0_length_8abf5 (.code yJ0_length_8abf5 cJ0_length_8abf5 1 (some .int) :: gw) rJ0_length_8abf5 (va_Pc [.ref (ad (1000 + i0))] (wv shX nX D cy ad u)) (qI shX nX D cy ad out u) 0 0 (rA ad nX) := by
  refine met_ofJ (cc := cJ0_length_8abf5) (nL := 1) (by decide +kernel) (Nat.le_of_ble_eq_true rfl) (fun p e s m below meth c C hr hlk => ?_)
  unfold fJ0_length_8abf5 at h
  show V shX nX D cy ad 1 p l e rJ0_length_8abf5 s m _ below meth c (MQ below (qI shX nX D cy ad out u) _ s 0 0 (rA ad nX)) 0 [(0, .ref (ad (1000 + i0)))] [] u
  refine v_aload_n C 0 dJ0_length_8abf5_0 rfl rfl ?_
  refine v_sval C hi0 dJ0_length_8abf5_1 ?_
  refine v_slen C hi0 dJ0_length_8abf5_4 ?_
  refine v_aload_n C 0 dJ0_length_8abf5_5 rfl rfl ?_
  obtain ⟨r2, hc1, h⟩ := bnd h
  refine v_callTi C [] (cJ0_coder_7d493_ct l D cy ad i0 u hi0 r2 hc1) ml_J0_335 hi0 ⟨Nat.le_of_ble_eq_true rfl, Nat.le_of_ble_eq_true rfl⟩ ⟨rfl, rfl⟩ rfl rfl (Nat.le_of_ble_eq_true rfl) dJ0_length_8abf5_6 ?_
  refine v_ishr C dJ0_length_8abf5_9 ?_
  cases h
  exact v_iret C hr hlk dJ0_length_8abf5_10
def rJ0_isLatin1_aae02 : Room := { frames := 0, cells := 0, slots := 0, locals := 0 }
def fJ0_isLatin1_aae02 (i0 : Nat) (u : Mem) : Option Bool := (some true)
set_option maxHeartbeats 4000000 in
set_option maxRecDepth 100000 in
theorem cJ0_isLatin1_aae02_ct (l : Launch) (D : va_G) (cy : Nat → ClassId) (ad : Nat → Nat) (i0 : Nat) (u : Mem) (hi0 : i0 < 7) (out : Bool) (h : fJ0_isLatin1_aae02 i0 u = some out) : Met l yJ0_isLatin1_aae02 (.code yJ0_isLatin1_aae02 cJ0_isLatin1_aae02 1 (some .boolean) :: gw) rJ0_isLatin1_aae02 (va_Pc [.ref (ad (1000 + i0))] (wv shX nX D cy ad u)) (qI shX nX D cy ad (bz out) u) 0 0 (rA ad nX) := by
  refine met_ofJ (cc := cJ0_isLatin1_aae02) (nL := 1) (by decide +kernel) (Nat.le_of_ble_eq_true rfl) (fun p e s m below meth c C hr hlk => ?_)
  unfold fJ0_isLatin1_aae02 at h
  show V shX nX D cy ad 1 p l e rJ0_isLatin1_aae02 s m _ below meth c (MQ below (qI shX nX D cy ad (bz out) u) _ s 0 0 (rA ad nX)) 0 [(0, .ref (ad (1000 + i0)))] [] u
  refine v_sz C dJ0_isLatin1_aae02_0 ?_
  refine p_if_eq C 17 dJ0_isLatin1_aae02_3 (by decide) (fun z => absurd z (by decide)) (fun _ => ?_)
  refine v_aload_n C 0 dJ0_isLatin1_aae02_6 rfl rfl ?_
  refine v_scod C hi0 dJ0_isLatin1_aae02_7 ?_
  refine p_if_ne C 17 dJ0_isLatin1_aae02_10 (by decide) (fun _ => ?_) (fun z => absurd (by decide) z)
  refine v_iconst C (v := 1) dJ0_isLatin1_aae02_13 (by decide) ?_
  refine v_goto C 18 dJ0_isLatin1_aae02_14 (by decide) ?_
  cases h
  exact v_zret (b := true) C hr hlk dJ0_isLatin1_aae02_18
def rJ3_checkIndex_8e157 : Room := { frames := 0, cells := 0, slots := 0, locals := 0 }
def fJ3_checkIndex_8e157 (a0 : Int32) (a1 : Int32) : Option Int32 := (if a0 < 0 then none else (if a0 < a1 then (some a0) else none))
set_option maxHeartbeats 4000000 in
set_option maxRecDepth 100000 in
theorem cJ3_checkIndex_8e157_n (l : Launch) (D : va_G) (cy : Nat → ClassId) (ad : Nat → Nat) (a0 : Int32) (a1 : Int32) (u : Mem)  (out : Int32) (h : fJ3_checkIndex_8e157 a0 a1 = some out) : Met l yJ3_checkIndex_8e157 (.code yJ3_checkIndex_8e157 cJ3_checkIndex_8e157 3 (some .int) :: gw) rJ3_checkIndex_8e157 (va_Pc [.int a0, .int a1, .null] (wv shX nX D cy ad u)) (qI shX nX D cy ad out u) 0 0 (rA ad nX) := by
  refine met_ofJ (cc := cJ3_checkIndex_8e157) (nL := 3) (by decide +kernel) (Nat.le_of_ble_eq_true rfl) (fun p e s m below meth c C hr hlk => ?_)
  unfold fJ3_checkIndex_8e157 at h
  show V shX nX D cy ad 3 p l e rJ3_checkIndex_8e157 s m _ below meth c (MQ below (qI shX nX D cy ad out u) _ s 0 0 (rA ad nX)) 0 [(0, .int a0), (1, .int a1), (2, .null)] [] u
  refine v_iload_n C 0 dJ3_checkIndex_8e157_0 rfl rfl ?_
  refine v_if_lt C 9 dJ3_checkIndex_8e157_1 (by decide) h (fun h => ?_) (fun h => ?_)
  · cases h
  · refine v_iload_n C 0 dJ3_checkIndex_8e157_4 rfl rfl ?_
    refine v_iload_n C 1 dJ3_checkIndex_8e157_5 rfl rfl ?_
    refine v_icmp_lt C 16 dJ3_checkIndex_8e157_6 (by decide) h (fun h => ?_) (fun h => ?_)
    · refine v_iload_n C 0 dJ3_checkIndex_8e157_16 rfl rfl ?_
      cases h
      exact v_iret C hr hlk dJ3_checkIndex_8e157_17
    · cases h
set_option maxHeartbeats 4000000 in
set_option maxRecDepth 100000 in
theorem cJ3_checkIndex_8e157_r (l : Launch) (D : va_G) (cy : Nat → ClassId) (ad : Nat → Nat) (a0 : Int32) (a1 : Int32) (u : Mem) (k9 : Nat) (out : Int32) (h : fJ3_checkIndex_8e157 a0 a1 = some out) : Met l yJ3_checkIndex_8e157 (.code yJ3_checkIndex_8e157 cJ3_checkIndex_8e157 3 (some .int) :: gw) rJ3_checkIndex_8e157 (va_Pc [.int a0, .int a1, .ref k9] (wv shX nX D cy ad u)) (qI shX nX D cy ad out u) 0 0 (rA ad nX) := by
  refine met_ofJ (cc := cJ3_checkIndex_8e157) (nL := 3) (by decide +kernel) (Nat.le_of_ble_eq_true rfl) (fun p e s m below meth c C hr hlk => ?_)
  unfold fJ3_checkIndex_8e157 at h
  show V shX nX D cy ad 3 p l e rJ3_checkIndex_8e157 s m _ below meth c (MQ below (qI shX nX D cy ad out u) _ s 0 0 (rA ad nX)) 0 [(0, .int a0), (1, .int a1), (2, .ref k9)] [] u
  refine v_iload_n C 0 dJ3_checkIndex_8e157_0 rfl rfl ?_
  refine v_if_lt C 9 dJ3_checkIndex_8e157_1 (by decide) h (fun h => ?_) (fun h => ?_)
  · cases h
  · refine v_iload_n C 0 dJ3_checkIndex_8e157_4 rfl rfl ?_
    refine v_iload_n C 1 dJ3_checkIndex_8e157_5 rfl rfl ?_
    refine v_icmp_lt C 16 dJ3_checkIndex_8e157_6 (by decide) h (fun h => ?_) (fun h => ?_)
    · refine v_iload_n C 0 dJ3_checkIndex_8e157_16 rfl rfl ?_
      cases h
      exact v_iret C hr hlk dJ3_checkIndex_8e157_17
    · cases h
theorem cJ3_checkIndex_8e157_ct (l : Launch) (D : va_G) (cy : Nat → ClassId) (ad : Nat → Nat) (a0 : Int32) (a1 : Int32) (u : Mem) (out : Int32) (h : fJ3_checkIndex_8e157 a0 a1 = some out) : Met l yJ3_checkIndex_8e157 (.code yJ3_checkIndex_8e157 cJ3_checkIndex_8e157 3 (some .int) :: gw) rJ3_checkIndex_8e157 (va_Pc [.int a0, .int a1, fmV (ad 3000)] (wv shX nX D cy ad u)) (qI shX nX D cy ad out u) 0 0 (rA ad nX) := by
  rcases fmV_or (ad 3000) with q | ⟨k, q⟩
  · rw [q]; exact cJ3_checkIndex_8e157_n l D cy ad a0 a1 u out h
  · rw [q]; exact cJ3_checkIndex_8e157_r l D cy ad a0 a1 u k out h
def rJ0_checkIndex_df160 : Room := { frames := 1, cells := 0, slots := 0, locals := 22 }
def fJ0_checkIndex_df160 (a0 : Int32) (a1 : Int32) : Option Unit := ((fJ3_checkIndex_8e157 a0 a1).bind fun r2 => (some ()))
set_option maxHeartbeats 4000000 in
set_option maxRecDepth 100000 in
theorem cJ0_checkIndex_df160_ct (l : Launch) (D : va_G) (cy : Nat → ClassId) (ad : Nat → Nat) (a0 : Int32) (a1 : Int32) (u : Mem)  (out : Unit) (h : fJ0_checkIndex_df160 a0 a1 = some out) : Met l yJ0_checkIndex_df160 (.code yJ0_checkIndex_df160 cJ0_checkIndex_df160 2 (none) :: gw) rJ0_checkIndex_df160 (va_Pc [.int a0, .int a1] (wv shX nX D cy ad u)) (qV shX nX D cy ad u) 0 0 (rA ad nX) := by
  refine met_ofJ (cc := cJ0_checkIndex_df160) (nL := 2) (by decide +kernel) (Nat.le_of_ble_eq_true rfl) (fun p e s m below meth c C hr hlk => ?_)
  unfold fJ0_checkIndex_df160 at h
  show V shX nX D cy ad 2 p l e rJ0_checkIndex_df160 s m _ below meth c (MQ below (qV shX nX D cy ad u) _ s 0 0 (rA ad nX)) 0 [(0, .int a0), (1, .int a1)] [] u
  refine v_iload_n C 0 dJ0_checkIndex_df160_0 rfl rfl ?_
  refine v_iload_n C 1 dJ0_checkIndex_df160_1 rfl rfl ?_
  refine v_sf C dJ0_checkIndex_df160_2 ?_
  obtain ⟨r2, hc1, h⟩ := bnd h
  refine v_callSi C [.int a0, .int a1, fmV (ad 3000)] (cJ3_checkIndex_8e157_ct l D cy ad a0 a1 _ r2 hc1) ml_J0_1059 ⟨Nat.le_of_ble_eq_true rfl, Nat.le_of_ble_eq_true rfl⟩ ⟨rfl, rfl⟩ rfl rfl (Nat.le_of_ble_eq_true rfl) dJ0_checkIndex_df160_5 ?_
  refine v_pop C rfl dJ0_checkIndex_df160_8 ?_
  cases h
  exact v_vret C hr hlk dJ0_checkIndex_df160_9
def rJ1_charAt_3b067 : Room := { frames := 2, cells := 0, slots := 0, locals := 43 }
def fJ1_charAt_3b067 (i0 : Nat) (a1 : Int32) (u : Mem) : Option Int32 := ((fJ0_checkIndex_df160 a1 (nI (lenS.getD i0 0))).bind fun u2 => (if inB a1 (lenS.getD i0 0) then (some (((((bytS.getD i0 []).getD a1.toNatClampNeg 0) &&& 255).toUInt32 % 65536).toInt32)) else none))
set_option maxHeartbeats 4000000 in
set_option maxRecDepth 100000 in
theorem cJ1_charAt_3b067_ct (l : Launch) (D : va_G) (cy : Nat → ClassId) (ad : Nat → Nat) (i0 : Nat) (a1 : Int32) (u : Mem) (hi0 : i0 < 7) (out : Int32) (h : fJ1_charAt_3b067 i0 a1 u = some out) : Met l yJ1_charAt_3b067 (.code yJ1_charAt_3b067 cJ1_charAt_3b067 2 (some .char) :: gw) rJ1_charAt_3b067 (va_Pc [.ref (ad (2000 + i0)), .int a1] (wv shX nX D cy ad u)) (qI shX nX D cy ad out u) 0 0 (rA ad nX) := by
  refine met_ofJ (cc := cJ1_charAt_3b067) (nL := 2) (by decide +kernel) (Nat.le_of_ble_eq_true rfl) (fun p e s m below meth c C hr hlk => ?_)
  unfold fJ1_charAt_3b067 at h
  show V shX nX D cy ad 2 p l e rJ1_charAt_3b067 s m _ below meth c (MQ below (qI shX nX D cy ad out u) _ s 0 0 (rA ad nX)) 0 [(0, .ref (ad (2000 + i0))), (1, .int a1)] [] u
  refine v_iload_n C 1 dJ1_charAt_3b067_0 rfl rfl ?_
  refine v_aload_n C 0 dJ1_charAt_3b067_1 rfl rfl ?_
  refine v_slen C hi0 dJ1_charAt_3b067_2 ?_
  obtain ⟨u2, hc1, h⟩ := bnd h
  refine v_callSv C [.int a1, .int (nI (lenS.getD i0 0))] (cJ0_checkIndex_df160_ct l D cy ad a1 (nI (lenS.getD i0 0)) _ u2 hc1) ml_J1_9 ⟨Nat.le_of_ble_eq_true rfl, Nat.le_of_ble_eq_true rfl⟩ ⟨rfl, rfl⟩ rfl rfl (Nat.le_of_ble_eq_true rfl) dJ1_charAt_3b067_3 ?_
  refine v_aload_n C 0 dJ1_charAt_3b067_6 rfl rfl ?_
  refine v_iload_n C 1 dJ1_charAt_3b067_7 rfl rfl ?_
  refine v_sbal C hi0 dJ1_charAt_3b067_8 h (fun h => ?_)
  refine v_sipush C (v := 255) dJ1_charAt_3b067_9 (by decide) ?_
  refine v_iand C dJ1_charAt_3b067_12 ?_
  refine v_i2c C dJ1_charAt_3b067_13 ?_
  cases h
  exact v_nret C hr hlk (pk_nc _) dJ1_charAt_3b067_14
def rJ0_charAt_5068e : Room := { frames := 3, cells := 0, slots := 0, locals := 64 }
def fJ0_charAt_5068e (i0 : Nat) (a1 : Int32) (u : Mem) : Option Int32 := ((fJ0_isLatin1_aae02 i0 u).bind fun r2 => (if r2 = true then ((fJ1_charAt_3b067 i0 a1 u).bind fun r4 => (if narrow .char (.int r4) = .int r4 then some r4 else none)) else none))
set_option maxHeartbeats 4000000 in
set_option maxRecDepth 100000 in
theorem cJ0_charAt_5068e_ct (l : Launch) (D : va_G) (cy : Nat → ClassId) (ad : Nat → Nat) (i0 : Nat) (a1 : Int32) (u : Mem) (hi0 : i0 < 7) (out : Int32) (h : fJ0_charAt_5068e i0 a1 u = some out) : Met l yJ0_charAt_5068e (.code yJ0_charAt_5068e cJ0_charAt_5068e 2 (some .char) :: gw) rJ0_charAt_5068e (va_Pc [.ref (ad (1000 + i0)), .int a1] (wv shX nX D cy ad u)) (qI shX nX D cy ad out u) 0 0 (rA ad nX) := by
  refine met_ofJ (cc := cJ0_charAt_5068e) (nL := 2) (by decide +kernel) (Nat.le_of_ble_eq_true rfl) (fun p e s m below meth c C hr hlk => ?_)
  unfold fJ0_charAt_5068e at h
  show V shX nX D cy ad 2 p l e rJ0_charAt_5068e s m _ below meth c (MQ below (qI shX nX D cy ad out u) _ s 0 0 (rA ad nX)) 0 [(0, .ref (ad (1000 + i0))), (1, .int a1)] [] u
  refine v_aload_n C 0 dJ0_charAt_5068e_0 rfl rfl ?_
  obtain ⟨r2, hc1, h⟩ := bnd h
  refine v_callTi C [] (cJ0_isLatin1_aae02_ct l D cy ad i0 u hi0 r2 hc1) ml_J0_492 hi0 ⟨Nat.le_of_ble_eq_true rfl, Nat.le_of_ble_eq_true rfl⟩ ⟨rfl, rfl⟩ rfl rfl (Nat.le_of_ble_eq_true rfl) dJ0_charAt_5068e_1 ?_
  refine v_z_eq C 16 dJ0_charAt_5068e_4 (by decide) h (fun h => ?_) (fun h => ?_)
  · refine v_aload_n C 0 dJ0_charAt_5068e_7 rfl rfl ?_
    refine v_sval C hi0 dJ0_charAt_5068e_8 ?_
    refine v_iload_n C 1 dJ0_charAt_5068e_11 rfl rfl ?_
    obtain ⟨r4, hc3, h⟩ := bnd h
    refine v_callSi C [.ref (ad (2000 + i0)), .int a1] (cJ1_charAt_3b067_ct l D cy ad i0 a1 u hi0 r4 hc3) ml_J0_495 ⟨Nat.le_of_ble_eq_true rfl, Nat.le_of_ble_eq_true rfl⟩ ⟨rfl, rfl⟩ rfl rfl (Nat.le_of_ble_eq_true rfl) dJ0_charAt_5068e_12 ?_
    obtain ⟨hnr, h⟩ := chk h
    cases h
    exact v_nret C hr hlk hnr dJ0_charAt_5068e_15
  · refine v_aload_n C 0 dJ0_charAt_5068e_16 rfl rfl ?_
    refine v_sval C hi0 dJ0_charAt_5068e_17 ?_
    refine v_iload_n C 1 dJ0_charAt_5068e_20 rfl rfl ?_
    cases h
def rX4_isWord : Room := { frames := 4, cells := 0, slots := 0, locals := 85 }
def fX4_isWord_L28 (a1 : Nat) (u : Mem) : Nat → Int32 → Option Bool
  | 0, _ => none
  | t + 1, a2 => ((fJ0_length_8abf5 a1 u).bind fun r6 => (if r6 ≤ a2 then (some true) else (if inB ((u.1 184 4) + a2) 400 then ((fJ0_charAt_5068e a1 a2 u).bind fun r9 => (if (u.1 183 ((u.1 184 4) + a2).toNatClampNeg) = r9 then fX4_isWord_L28 a1 u t (a2 + 1) else (some false))) else none)))
def fX4_isWord (i1 : Nat) (u : Mem) : Option Bool := (if (u.1 184 3) = 1 then ((fJ0_length_8abf5 i1 u).bind fun r3 => (if ((u.1 184 5) - (u.1 184 4)) = r3 then fX4_isWord_L28 i1 u fu0 0 else (some false))) else (some false))
set_option maxHeartbeats 4000000 in
set_option maxRecDepth 100000 in
theorem kX4_isWord_L28 {l : Launch} {D : va_G} {cy : Nat → ClassId} {ad : Nat → Nat} {p : Program} {e : Env} {s : State} {m : MethodId} {args : Array Value} {below : List Frame} {meth : Method} {c : Code} (C : Cx nX D cy ad 3 cX4_isWord RX4 rX4_isWord p s m args c) (hr : meth.sig.returnType = some .boolean) (hlk : meth.locks = false) (a1 : Nat) (ha1 : a1 < 7) (u : Mem) {out : Bool}  : ∀ (t : Nat) (a2 : Int32), fX4_isWord_L28 a1 u t a2 = some out → V shX nX D cy ad 3 p l e rX4_isWord s m args below meth c (MQ below (qI shX nX D cy ad (bz out) u) args s 0 0 (rA ad nX)) 28 [(0, .ref (ad 184)), (1, .ref (ad (1000 + a1))), (2, .int a2)] [] u := by
  intro t
  induction t with
  | zero => intro a2 h; rw [fX4_isWord_L28] at h; cases h
  | succ t ih =>
    intro a2 h
    rw [fX4_isWord_L28] at h
    refine v_iload_n C 2 dX4_isWord_28 rfl rfl ?_
    refine v_aload_n C 1 dX4_isWord_29 rfl rfl ?_
    obtain ⟨r6, hc5, h⟩ := bnd h
    refine v_callTi C [] (cJ0_length_8abf5_ct l D cy ad a1 u ha1 r6 hc5) ml_X4_143 ha1 ⟨Nat.le_of_ble_eq_true rfl, Nat.le_of_ble_eq_true rfl⟩ ⟨rfl, rfl⟩ rfl rfl (Nat.le_of_ble_eq_true rfl) dX4_isWord_30 ?_
    refine v_icmp_ge C 66 dX4_isWord_33 (by decide) h (fun h => ?_) (fun h => ?_)
    · refine v_iconst C (v := 1) dX4_isWord_66 (by decide) ?_
      cases h
      exact v_zret (b := true) C hr hlk dX4_isWord_67
    · refine v_aload_n C 0 dX4_isWord_36 rfl rfl ?_
      refine v_getr C pX_184 fd_X4_15 rfl dX4_isWord_37 ?_
      refine v_getr C pX_182 fd_X4_138 rfl dX4_isWord_40 ?_
      refine v_aload_n C 0 dX4_isWord_43 rfl rfl ?_
      refine v_geti C pX_184 fd_X4_135 rfl dX4_isWord_44 ?_
      refine v_iload_n C 2 dX4_isWord_47 rfl rfl ?_
      refine v_iadd C dX4_isWord_48 ?_
      refine v_iald C pX_183 dX4_isWord_49 h (fun h => ?_)
      refine v_aload_n C 1 dX4_isWord_50 rfl rfl ?_
      refine v_iload_n C 2 dX4_isWord_51 rfl rfl ?_
      obtain ⟨r9, hc8, h⟩ := bnd h
      refine v_callTi C [.int a2] (cJ0_charAt_5068e_ct l D cy ad a1 a2 u ha1 r9 hc8) ml_X4_149 ha1 ⟨Nat.le_of_ble_eq_true rfl, Nat.le_of_ble_eq_true rfl⟩ ⟨rfl, rfl⟩ rfl rfl (Nat.le_of_ble_eq_true rfl) dX4_isWord_52 ?_
      refine v_icmp_eq C 60 dX4_isWord_55 (by decide) h (fun h => ?_) (fun h => ?_)
      · refine v_iinc C 2 (v := a2 + 1) [(2, .int (a2 + 1)), (0, .ref (ad 184)), (1, .ref (ad (1000 + a1)))] dX4_isWord_60 rfl rfl (by decide) rfl ?_
        refine v_goto C 28 dX4_isWord_63 (by decide) ?_
        refine v_sub [1, 2, 0] rfl ?_
        exact ih (a2 + 1) h
      · refine v_iconst C (v := 0) dX4_isWord_58 (by decide) ?_
        cases h
        exact v_zret (b := false) C hr hlk dX4_isWord_59
set_option maxHeartbeats 4000000 in
set_option maxRecDepth 100000 in
theorem cX4_isWord_ct (l : Launch) (D : va_G) (cy : Nat → ClassId) (ad : Nat → Nat) (i1 : Nat) (u : Mem) (hi1 : i1 < 7) (out : Bool) (h : fX4_isWord i1 u = some out) : Met l yX4_isWord (.code yX4_isWord cX4_isWord 3 (some .boolean) :: gw) rX4_isWord (va_Pc [.ref (ad 184), .ref (ad (1000 + i1))] (wv shX nX D cy ad u)) (qI shX nX D cy ad (bz out) u) 0 0 (rA ad nX) := by
  refine met_of (cc := cX4_isWord) (nL := 3) (by decide) (Nat.le_of_ble_eq_true rfl) (fun p e s m below meth c C hr hlk => ?_)
  unfold fX4_isWord at h
  show V shX nX D cy ad 3 p l e rX4_isWord s m _ below meth c (MQ below (qI shX nX D cy ad (bz out) u) _ s 0 0 (rA ad nX)) 0 [(0, .ref (ad 184)), (1, .ref (ad (1000 + i1)))] [] u
  refine v_aload_n C 0 dX4_isWord_0 rfl rfl ?_
  refine v_geti C pX_184 fd_X4_46 rfl dX4_isWord_1 ?_
  refine v_iconst C (v := 1) dX4_isWord_4 (by decide) ?_
  refine v_icmp_ne C 24 dX4_isWord_5 (by decide) h (fun h => ?_) (fun h => ?_)
  · refine v_aload_n C 0 dX4_isWord_8 rfl rfl ?_
    refine v_geti C pX_184 fd_X4_40 rfl dX4_isWord_9 ?_
    refine v_aload_n C 0 dX4_isWord_12 rfl rfl ?_
    refine v_geti C pX_184 fd_X4_135 rfl dX4_isWord_13 ?_
    refine v_isub C dX4_isWord_16 ?_
    refine v_aload_n C 1 dX4_isWord_17 rfl rfl ?_
    obtain ⟨r3, hc2, h⟩ := bnd h
    refine v_callTi C [] (cJ0_length_8abf5_ct l D cy ad i1 u hi1 r3 hc2) ml_X4_143 hi1 ⟨Nat.le_of_ble_eq_true rfl, Nat.le_of_ble_eq_true rfl⟩ ⟨rfl, rfl⟩ rfl rfl (Nat.le_of_ble_eq_true rfl) dX4_isWord_18 ?_
    refine v_icmp_eq C 26 dX4_isWord_21 (by decide) h (fun h => ?_) (fun h => ?_)
    · refine v_iconst C (v := 0) dX4_isWord_26 (by decide) ?_
      refine v_istore_n C [(2, .int 0), (0, .ref (ad 184)), (1, .ref (ad (1000 + i1)))] dX4_isWord_27 rfl (by decide) rfl ?_
      refine v_sub [1, 2, 0] rfl ?_
      refine kX4_isWord_L28 C hr hlk i1 hi1 u   fu0 0 h
    · refine v_iconst C (v := 0) dX4_isWord_24 (by decide) ?_
      cases h
      exact v_zret (b := false) C hr hlk dX4_isWord_25
  · refine v_iconst C (v := 0) dX4_isWord_24 (by decide) ?_
    cases h
    exact v_zret (b := false) C hr hlk dX4_isWord_25
def rX4_blame : Room := { frames := 0, cells := 0, slots := 0, locals := 0 }
def fX4_blame (a1 : Int32) (u : Mem) : Option (Bool × Mem) := ((some (si (si u 184 9 a1) 184 10 ((si u 184 9 a1).1 184 4))).bind fun u1 => (some (false, u1)))
set_option maxHeartbeats 4000000 in
set_option maxRecDepth 100000 in
theorem cX4_blame_ct (l : Launch) (D : va_G) (cy : Nat → ClassId) (ad : Nat → Nat) (a1 : Int32) (u : Mem)  (out : (Bool × Mem)) (h : fX4_blame a1 u = some out) : Met l yX4_blame (.code yX4_blame cX4_blame 2 (some .boolean) :: gw) rX4_blame (va_Pc [.ref (ad 184), .int a1] (wv shX nX D cy ad u)) (qI shX nX D cy ad (bz out.1) out.2) 0 0 (rA ad nX) := by
  refine met_of (cc := cX4_blame) (nL := 2) (by decide) (Nat.le_of_ble_eq_true rfl) (fun p e s m below meth c C hr hlk => ?_)
  unfold fX4_blame at h
  show V shX nX D cy ad 2 p l e rX4_blame s m _ below meth c (MQ below (qI shX nX D cy ad (bz out.1) out.2) _ s 0 0 (rA ad nX)) 0 [(0, .ref (ad 184)), (1, .int a1)] [] u
  refine v_aload_n C 0 dX4_blame_0 rfl rfl ?_
  refine v_iload_n C 1 dX4_blame_1 rfl rfl ?_
  refine v_puti C pX_184 fp_X4_34 rfl rfl rfl dX4_blame_2 ?_
  refine v_aload_n C 0 dX4_blame_5 rfl rfl ?_
  refine v_aload_n C 0 dX4_blame_6 rfl rfl ?_
  refine v_geti C pX_184 fd_X4_135 rfl dX4_blame_7 ?_
  refine v_puti C pX_184 fp_X4_37 rfl rfl rfl dX4_blame_10 ?_
  refine v_mem (fun u1 hu1 => ?_)
  have h := nmd hu1 h
  refine v_iconst C (v := 0) dX4_blame_13 (by decide) ?_
  cases h
  exact v_zret (b := false) C hr hlk dX4_blame_14
def rX4_hasRoom : Room := { frames := 1, cells := 0, slots := 0, locals := 21 }
def fX4_hasRoom (u : Mem) : Option (Bool × Mem) := (if (u.1 184 2).toNatClampNeg < 32 then (if (u.1 (5 * ((u.1 184 2).toNatClampNeg)) 4) < 20 then (some (true, u)) else ((fX4_blame 5 u).bind fun q4 => (some ((if q4.1 = true then true else false), q4.2)))) else none)
set_option maxHeartbeats 4000000 in
set_option maxRecDepth 100000 in
theorem cX4_hasRoom_ct (l : Launch) (D : va_G) (cy : Nat → ClassId) (ad : Nat → Nat) (u : Mem)  (out : (Bool × Mem)) (h : fX4_hasRoom u = some out) : Met l yX4_hasRoom (.code yX4_hasRoom cX4_hasRoom 1 (some .boolean) :: gw) rX4_hasRoom (va_Pc [.ref (ad 184)] (wv shX nX D cy ad u)) (qI shX nX D cy ad (bz out.1) out.2) 0 0 (rA ad nX) := by
  refine met_of (cc := cX4_hasRoom) (nL := 1) (by decide) (Nat.le_of_ble_eq_true rfl) (fun p e s m below meth c C hr hlk => ?_)
  unfold fX4_hasRoom at h
  show V shX nX D cy ad 1 p l e rX4_hasRoom s m _ below meth c (MQ below (qI shX nX D cy ad (bz out.1) out.2) _ s 0 0 (rA ad nX)) 0 [(0, .ref (ad 184))] [] u
  refine v_aload_n C 0 dX4_hasRoom_0 rfl rfl ?_
  refine v_getq C pX_184 fd_X4_22 rfl dX4_hasRoom_1 ?_
  obtain ⟨hq1, h⟩ := chk h
  refine v_geti C (pL_0 ((u.1 184 2).toNatClampNeg) hq1) fd_X4_26 rfl dX4_hasRoom_4 ?_
  refine v_bipush C (v := 20) dX4_hasRoom_7 (by decide) ?_
  refine v_icmp_lt C 20 dX4_hasRoom_9 (by decide) h (fun h => ?_) (fun h => ?_)
  · refine v_iconst C (v := 1) dX4_hasRoom_20 (by decide) ?_
    refine v_goto C 25 dX4_hasRoom_21 (by decide) ?_
    cases h
    exact v_zret (b := true) C hr hlk dX4_hasRoom_25
  · refine v_aload_n C 0 dX4_hasRoom_12 rfl rfl ?_
    refine v_iconst C (v := 5) dX4_hasRoom_13 (by decide) ?_
    obtain ⟨q4, hc3, h⟩ := bnd h
    refine v_callVi C [.int 5] (cX4_blame_ct l D cy ad 5 u q4 hc3) ml_X4_56 pX_184 ⟨Nat.le_of_ble_eq_true rfl, Nat.le_of_ble_eq_true rfl⟩ ⟨rfl, rfl⟩ rfl rfl (Nat.le_of_ble_eq_true rfl) dX4_hasRoom_14 ?_
    refine v_dia 25 (.int (bz (if q4.1 = true then true else false))) [] ?_ (fun hj => ?_)
    · cases h
      exact v_zret (b := (if q4.1 = true then true else false)) C hr hlk dX4_hasRoom_25
    · refine p_z_eq C 24 dX4_hasRoom_17 (by decide) (fun z5 => ?_) (fun z5 => ?_)
      · refine v_iconst C (v := 1) dX4_hasRoom_20 (by decide) ?_
        refine v_goto C 25 dX4_hasRoom_21 (by decide) ?_
        exact v_top (by rw [if_pos z5]; first | done | rfl) hj
      · refine v_iconst C (v := 0) dX4_hasRoom_24 (by decide) ?_
        exact v_top (by rw [if_neg z5]; first | done | rfl) hj
def rX4_atKind : Room := { frames := 1, cells := 0, slots := 0, locals := 21 }
def fX4_atKind_J37 (s0 : Int32) (u : Mem) : Option (Bool × Mem) := (if s0 < 65 then ((fX4_blame 1 u).bind fun q6 => (some (q6.1, q6.2))) else (if s0 < 71 then (some (true, si u 184 6 (s0 - 65))) else ((fX4_blame 1 u).bind fun q9 => (some (q9.1, q9.2)))))
def fX4_atKind_J36 (u : Mem) : Option (Bool × Mem) := fX4_atKind_J37 0 u
def fX4_atKind (u : Mem) : Option (Bool × Mem) := (if (u.1 184 3) = 1 then (if ((u.1 184 5) - (u.1 184 4)) = 1 then (if inB (u.1 184 4) 400 then fX4_atKind_J37 (u.1 183 (u.1 184 4).toNatClampNeg) u else none) else fX4_atKind_J36 u) else fX4_atKind_J36 u)
set_option maxHeartbeats 4000000 in
set_option maxRecDepth 100000 in
theorem kX4_atKind_J37 {l : Launch} {D : va_G} {cy : Nat → ClassId} {ad : Nat → Nat} {p : Program} {e : Env} {s : State} {m : MethodId} {args : Array Value} {below : List Frame} {meth : Method} {c : Code} (C : Cx nX D cy ad 2 cX4_atKind RX4 rX4_atKind p s m args c) (hr : meth.sig.returnType = some .boolean) (hlk : meth.locks = false) {out : (Bool × Mem)}  (s0 : Int32) (u : Mem)   (h : fX4_atKind_J37 s0 u = some out) : V shX nX D cy ad 2 p l e rX4_atKind s m args below meth c (MQ below (qI shX nX D cy ad (bz out.1) out.2) args s 0 0 (rA ad nX)) 37 [(0, .ref (ad 184))] [.int s0] u := by
  unfold fX4_atKind_J37 at h
  refine v_istore_n C [(1, .int s0), (0, .ref (ad 184))] dX4_atKind_37 rfl (by decide) rfl ?_
  refine v_iload_n C 0 dX4_atKind_38 rfl rfl ?_
  refine v_bipush C (v := 65) dX4_atKind_39 (by decide) ?_
  refine v_icmp_lt C 50 dX4_atKind_41 (by decide) h (fun h => ?_) (fun h => ?_)
  · refine v_aload_n C 1 dX4_atKind_50 rfl rfl ?_
    refine v_iconst C (v := 1) dX4_atKind_51 (by decide) ?_
    obtain ⟨q6, hc5, h⟩ := bnd h
    refine v_callVi C [.int 1] (cX4_blame_ct l D cy ad 1 u q6 hc5) ml_X4_56 pX_184 ⟨Nat.le_of_ble_eq_true rfl, Nat.le_of_ble_eq_true rfl⟩ ⟨rfl, rfl⟩ rfl rfl (Nat.le_of_ble_eq_true rfl) dX4_atKind_52 ?_
    cases h
    exact v_zret C hr hlk dX4_atKind_55
  · refine v_iload_n C 0 dX4_atKind_44 rfl rfl ?_
    refine v_bipush C (v := 71) dX4_atKind_45 (by decide) ?_
    refine v_icmp_lt C 56 dX4_atKind_47 (by decide) h (fun h => ?_) (fun h => ?_)
    · refine v_aload_n C 1 dX4_atKind_56 rfl rfl ?_
      refine v_iload_n C 0 dX4_atKind_57 rfl rfl ?_
      refine v_bipush C (v := 65) dX4_atKind_58 (by decide) ?_
      refine v_isub C dX4_atKind_60 ?_
      refine v_puti C pX_184 fp_X4_82 rfl rfl rfl dX4_atKind_61 ?_
      refine v_iconst C (v := 1) dX4_atKind_64 (by decide) ?_
      cases h
      exact v_zret (b := true) C hr hlk dX4_atKind_65
    · refine v_aload_n C 1 dX4_atKind_50 rfl rfl ?_
      refine v_iconst C (v := 1) dX4_atKind_51 (by decide) ?_
      obtain ⟨q9, hc8, h⟩ := bnd h
      refine v_callVi C [.int 1] (cX4_blame_ct l D cy ad 1 u q9 hc8) ml_X4_56 pX_184 ⟨Nat.le_of_ble_eq_true rfl, Nat.le_of_ble_eq_true rfl⟩ ⟨rfl, rfl⟩ rfl rfl (Nat.le_of_ble_eq_true rfl) dX4_atKind_52 ?_
      cases h
      exact v_zret C hr hlk dX4_atKind_55
set_option maxHeartbeats 4000000 in
set_option maxRecDepth 100000 in
theorem kX4_atKind_J36 {l : Launch} {D : va_G} {cy : Nat → ClassId} {ad : Nat → Nat} {p : Program} {e : Env} {s : State} {m : MethodId} {args : Array Value} {below : List Frame} {meth : Method} {c : Code} (C : Cx nX D cy ad 2 cX4_atKind RX4 rX4_atKind p s m args c) (hr : meth.sig.returnType = some .boolean) (hlk : meth.locks = false) {out : (Bool × Mem)}  (u : Mem)   (h : fX4_atKind_J36 u = some out) : V shX nX D cy ad 2 p l e rX4_atKind s m args below meth c (MQ below (qI shX nX D cy ad (bz out.1) out.2) args s 0 0 (rA ad nX)) 36 [(0, .ref (ad 184))] [] u := by
  unfold fX4_atKind_J36 at h
  refine v_iconst C (v := 0) dX4_atKind_36 (by decide) ?_
  exact kX4_atKind_J37 C hr hlk 0 u h
set_option maxHeartbeats 4000000 in
set_option maxRecDepth 100000 in
theorem cX4_atKind_ct (l : Launch) (D : va_G) (cy : Nat → ClassId) (ad : Nat → Nat) (u : Mem)  (out : (Bool × Mem)) (h : fX4_atKind u = some out) : Met l yX4_atKind (.code yX4_atKind cX4_atKind 2 (some .boolean) :: gw) rX4_atKind (va_Pc [.ref (ad 184)] (wv shX nX D cy ad u)) (qI shX nX D cy ad (bz out.1) out.2) 0 0 (rA ad nX) := by
  refine met_of (cc := cX4_atKind) (nL := 2) (by decide) (Nat.le_of_ble_eq_true rfl) (fun p e s m below meth c C hr hlk => ?_)
  unfold fX4_atKind at h
  show V shX nX D cy ad 2 p l e rX4_atKind s m _ below meth c (MQ below (qI shX nX D cy ad (bz out.1) out.2) _ s 0 0 (rA ad nX)) 0 [(0, .ref (ad 184))] [] u
  refine v_aload_n C 0 dX4_atKind_0 rfl rfl ?_
  refine v_geti C pX_184 fd_X4_46 rfl dX4_atKind_1 ?_
  refine v_iconst C (v := 1) dX4_atKind_4 (by decide) ?_
  refine v_icmp_ne C 36 dX4_atKind_5 (by decide) h (fun h => ?_) (fun h => ?_)
  · refine v_aload_n C 0 dX4_atKind_8 rfl rfl ?_
    refine v_geti C pX_184 fd_X4_40 rfl dX4_atKind_9 ?_
    refine v_aload_n C 0 dX4_atKind_12 rfl rfl ?_
    refine v_geti C pX_184 fd_X4_135 rfl dX4_atKind_13 ?_
    refine v_isub C dX4_atKind_16 ?_
    refine v_iconst C (v := 1) dX4_atKind_17 (by decide) ?_
    refine v_icmp_ne C 36 dX4_atKind_18 (by decide) h (fun h => ?_) (fun h => ?_)
    · refine v_aload_n C 0 dX4_atKind_21 rfl rfl ?_
      refine v_getr C pX_184 fd_X4_15 rfl dX4_atKind_22 ?_
      refine v_getr C pX_182 fd_X4_138 rfl dX4_atKind_25 ?_
      refine v_aload_n C 0 dX4_atKind_28 rfl rfl ?_
      refine v_geti C pX_184 fd_X4_135 rfl dX4_atKind_29 ?_
      refine v_iald C pX_183 dX4_atKind_32 h (fun h => ?_)
      refine v_goto C 37 dX4_atKind_33 (by decide) ?_
      exact kX4_atKind_J37 C hr hlk (u.1 183 (u.1 184 4).toNatClampNeg) u h
    · exact kX4_atKind_J36 C hr hlk u h
  · exact kX4_atKind_J36 C hr hlk u h
def rX4_once : Room := { frames := 1, cells := 0, slots := 0, locals := 21 }
def fX4_once (a1 : Int32) (u : Mem) : Option (Bool × Mem) := (if inB a1 18 then (if (u.1 185 a1.toNatClampNeg) = 0 then (if inB a1 18 then (some (true, si u 185 a1.toNatClampNeg 1)) else none) else ((fX4_blame 4 u).bind fun q3 => (some (q3.1, q3.2)))) else none)
set_option maxHeartbeats 4000000 in
set_option maxRecDepth 100000 in
theorem cX4_once_ct (l : Launch) (D : va_G) (cy : Nat → ClassId) (ad : Nat → Nat) (a1 : Int32) (u : Mem)  (out : (Bool × Mem)) (h : fX4_once a1 u = some out) : Met l yX4_once (.code yX4_once cX4_once 2 (some .boolean) :: gw) rX4_once (va_Pc [.ref (ad 184), .int a1] (wv shX nX D cy ad u)) (qI shX nX D cy ad (bz out.1) out.2) 0 0 (rA ad nX) := by
  refine met_of (cc := cX4_once) (nL := 2) (by decide) (Nat.le_of_ble_eq_true rfl) (fun p e s m below meth c C hr hlk => ?_)
  unfold fX4_once at h
  show V shX nX D cy ad 2 p l e rX4_once s m _ below meth c (MQ below (qI shX nX D cy ad (bz out.1) out.2) _ s 0 0 (rA ad nX)) 0 [(0, .ref (ad 184)), (1, .int a1)] [] u
  refine v_aload_n C 0 dX4_once_0 rfl rfl ?_
  refine v_getr C pX_184 fd_X4_11 rfl dX4_once_1 ?_
  refine v_iload_n C 1 dX4_once_4 rfl rfl ?_
  refine v_zald C pX_185 dX4_once_5 h (fun h => ?_)
  refine v_if_eq C 15 dX4_once_6 (by decide) h (fun h => ?_) (fun h => ?_)
  · refine v_aload_n C 0 dX4_once_15 rfl rfl ?_
    refine v_getr C pX_184 fd_X4_11 rfl dX4_once_16 ?_
    refine v_iload_n C 1 dX4_once_19 rfl rfl ?_
    refine v_iconst C (v := 1) dX4_once_20 (by decide) ?_
    refine v_zast C pX_185 (by decide) dX4_once_21 h (fun h => ?_)
    refine v_iconst C (v := 1) dX4_once_22 (by decide) ?_
    cases h
    exact v_zret (b := true) C hr hlk dX4_once_23
  · refine v_aload_n C 0 dX4_once_9 rfl rfl ?_
    refine v_iconst C (v := 4) dX4_once_10 (by decide) ?_
    obtain ⟨q3, hc2, h⟩ := bnd h
    refine v_callVi C [.int 4] (cX4_blame_ct l D cy ad 4 u q3 hc2) ml_X4_56 pX_184 ⟨Nat.le_of_ble_eq_true rfl, Nat.le_of_ble_eq_true rfl⟩ ⟨rfl, rfl⟩ rfl rfl (Nat.le_of_ble_eq_true rfl) dX4_once_11 ?_
    cases h
    exact v_zret C hr hlk dX4_once_14
def rX4_atNumber : Room := { frames := 1, cells := 0, slots := 0, locals := 21 }
def fX4_atNumber (a1 : Int32) (a2 : Int32) (u : Mem) : Option (Bool × Mem) := (if (u.1 184 3) = 2 then (if (u.1 184 6) < a1 then ((fX4_blame 2 u).bind fun q5 => (some ((if q5.1 = true then true else false), q5.2))) else (if (u.1 184 6) ≤ a2 then (some (true, u)) else ((fX4_blame 2 u).bind fun q9 => (some ((if q9.1 = true then true else false), q9.2))))) else ((fX4_blame 1 u).bind fun q12 => (some (q12.1, q12.2))))
set_option maxHeartbeats 4000000 in
set_option maxRecDepth 100000 in
theorem cX4_atNumber_ct (l : Launch) (D : va_G) (cy : Nat → ClassId) (ad : Nat → Nat) (a1 : Int32) (a2 : Int32) (u : Mem)  (out : (Bool × Mem)) (h : fX4_atNumber a1 a2 u = some out) : Met l yX4_atNumber (.code yX4_atNumber cX4_atNumber 3 (some .boolean) :: gw) rX4_atNumber (va_Pc [.ref (ad 184), .int a1, .int a2] (wv shX nX D cy ad u)) (qI shX nX D cy ad (bz out.1) out.2) 0 0 (rA ad nX) := by
  refine met_of (cc := cX4_atNumber) (nL := 3) (by decide) (Nat.le_of_ble_eq_true rfl) (fun p e s m below meth c C hr hlk => ?_)
  unfold fX4_atNumber at h
  show V shX nX D cy ad 3 p l e rX4_atNumber s m _ below meth c (MQ below (qI shX nX D cy ad (bz out.1) out.2) _ s 0 0 (rA ad nX)) 0 [(0, .ref (ad 184)), (1, .int a1), (2, .int a2)] [] u
  refine v_aload_n C 0 dX4_atNumber_0 rfl rfl ?_
  refine v_geti C pX_184 fd_X4_46 rfl dX4_atNumber_1 ?_
  refine v_iconst C (v := 2) dX4_atNumber_4 (by decide) ?_
  refine v_icmp_eq C 14 dX4_atNumber_5 (by decide) h (fun h => ?_) (fun h => ?_)
  · refine v_aload_n C 0 dX4_atNumber_14 rfl rfl ?_
    refine v_geti C pX_184 fd_X4_82 rfl dX4_atNumber_15 ?_
    refine v_iload_n C 1 dX4_atNumber_18 rfl rfl ?_
    refine v_icmp_lt C 30 dX4_atNumber_19 (by decide) h (fun h => ?_) (fun h => ?_)
    · refine v_aload_n C 0 dX4_atNumber_30 rfl rfl ?_
      refine v_iconst C (v := 2) dX4_atNumber_31 (by decide) ?_
      obtain ⟨q5, hc4, h⟩ := bnd h
      refine v_callVi C [.int 2] (cX4_blame_ct l D cy ad 2 u q5 hc4) ml_X4_56 pX_184 ⟨Nat.le_of_ble_eq_true rfl, Nat.le_of_ble_eq_true rfl⟩ ⟨rfl, rfl⟩ rfl rfl (Nat.le_of_ble_eq_true rfl) dX4_atNumber_32 ?_
      refine v_dia 43 (.int (bz (if q5.1 = true then true else false))) [] ?_ (fun hj => ?_)
      · cases h
        exact v_zret (b := (if q5.1 = true then true else false)) C hr hlk dX4_atNumber_43
      · refine p_z_eq C 42 dX4_atNumber_35 (by decide) (fun z6 => ?_) (fun z6 => ?_)
        · refine v_iconst C (v := 1) dX4_atNumber_38 (by decide) ?_
          refine v_goto C 43 dX4_atNumber_39 (by decide) ?_
          exact v_top (by rw [if_pos z6]; first | done | rfl) hj
        · refine v_iconst C (v := 0) dX4_atNumber_42 (by decide) ?_
          exact v_top (by rw [if_neg z6]; first | done | rfl) hj
    · refine v_aload_n C 0 dX4_atNumber_22 rfl rfl ?_
      refine v_geti C pX_184 fd_X4_82 rfl dX4_atNumber_23 ?_
      refine v_iload_n C 2 dX4_atNumber_26 rfl rfl ?_
      refine v_icmp_le C 38 dX4_atNumber_27 (by decide) h (fun h => ?_) (fun h => ?_)
      · refine v_iconst C (v := 1) dX4_atNumber_38 (by decide) ?_
        refine v_goto C 43 dX4_atNumber_39 (by decide) ?_
        cases h
        exact v_zret (b := true) C hr hlk dX4_atNumber_43
      · refine v_aload_n C 0 dX4_atNumber_30 rfl rfl ?_
        refine v_iconst C (v := 2) dX4_atNumber_31 (by decide) ?_
        obtain ⟨q9, hc8, h⟩ := bnd h
        refine v_callVi C [.int 2] (cX4_blame_ct l D cy ad 2 u q9 hc8) ml_X4_56 pX_184 ⟨Nat.le_of_ble_eq_true rfl, Nat.le_of_ble_eq_true rfl⟩ ⟨rfl, rfl⟩ rfl rfl (Nat.le_of_ble_eq_true rfl) dX4_atNumber_32 ?_
        refine v_dia 43 (.int (bz (if q9.1 = true then true else false))) [] ?_ (fun hj => ?_)
        · cases h
          exact v_zret (b := (if q9.1 = true then true else false)) C hr hlk dX4_atNumber_43
        · refine p_z_eq C 42 dX4_atNumber_35 (by decide) (fun z10 => ?_) (fun z10 => ?_)
          · refine v_iconst C (v := 1) dX4_atNumber_38 (by decide) ?_
            refine v_goto C 43 dX4_atNumber_39 (by decide) ?_
            exact v_top (by rw [if_pos z10]; first | done | rfl) hj
          · refine v_iconst C (v := 0) dX4_atNumber_42 (by decide) ?_
            exact v_top (by rw [if_neg z10]; first | done | rfl) hj
  · refine v_aload_n C 0 dX4_atNumber_8 rfl rfl ?_
    refine v_iconst C (v := 1) dX4_atNumber_9 (by decide) ?_
    obtain ⟨q12, hc11, h⟩ := bnd h
    refine v_callVi C [.int 1] (cX4_blame_ct l D cy ad 1 u q12 hc11) ml_X4_56 pX_184 ⟨Nat.le_of_ble_eq_true rfl, Nat.le_of_ble_eq_true rfl⟩ ⟨rfl, rfl⟩ rfl rfl (Nat.le_of_ble_eq_true rfl) dX4_atNumber_10 ?_
    cases h
    exact v_zret C hr hlk dX4_atNumber_13
def rX4_takeNumber : Room := { frames := 2, cells := 0, slots := 0, locals := 44 }
def fX4_takeNumber (a1 : Int32) (a2 : Int32) (u : Mem) : Option (Bool × Mem) := ((fX4_atNumber a1 a2 u).bind fun q2 => (if q2.1 = true then ((fX4_next (si q2.2 184 7 (q2.2.1 184 6))).bind fun u5 => (some (true, u5))) else (some (false, q2.2))))
set_option maxHeartbeats 4000000 in
set_option maxRecDepth 100000 in
theorem cX4_takeNumber_ct (l : Launch) (D : va_G) (cy : Nat → ClassId) (ad : Nat → Nat) (a1 : Int32) (a2 : Int32) (u : Mem)  (out : (Bool × Mem)) (h : fX4_takeNumber a1 a2 u = some out) : Met l yX4_takeNumber (.code yX4_takeNumber cX4_takeNumber 3 (some .boolean) :: gw) rX4_takeNumber (va_Pc [.ref (ad 184), .int a1, .int a2] (wv shX nX D cy ad u)) (qI shX nX D cy ad (bz out.1) out.2) 0 0 (rA ad nX) := by
  refine met_of (cc := cX4_takeNumber) (nL := 3) (by decide) (Nat.le_of_ble_eq_true rfl) (fun p e s m below meth c C hr hlk => ?_)
  unfold fX4_takeNumber at h
  show V shX nX D cy ad 3 p l e rX4_takeNumber s m _ below meth c (MQ below (qI shX nX D cy ad (bz out.1) out.2) _ s 0 0 (rA ad nX)) 0 [(0, .ref (ad 184)), (1, .int a1), (2, .int a2)] [] u
  refine v_aload_n C 0 dX4_takeNumber_0 rfl rfl ?_
  refine v_iload_n C 1 dX4_takeNumber_1 rfl rfl ?_
  refine v_iload_n C 2 dX4_takeNumber_2 rfl rfl ?_
  obtain ⟨q2, hc1, h⟩ := bnd h
  refine v_callVi C [.int a1, .int a2] (cX4_atNumber_ct l D cy ad a1 a2 u q2 hc1) ml_X4_112 pX_184 ⟨Nat.le_of_ble_eq_true rfl, Nat.le_of_ble_eq_true rfl⟩ ⟨rfl, rfl⟩ rfl rfl (Nat.le_of_ble_eq_true rfl) dX4_takeNumber_3 ?_
  refine v_z_ne C 11 dX4_takeNumber_6 (by decide) h (fun h => ?_) (fun h => ?_)
  · refine v_aload_n C 0 dX4_takeNumber_11 rfl rfl ?_
    refine v_aload_n C 0 dX4_takeNumber_12 rfl rfl ?_
    refine v_geti C pX_184 fd_X4_82 rfl dX4_takeNumber_13 ?_
    refine v_puti C pX_184 fp_X4_106 rfl rfl rfl dX4_takeNumber_16 ?_
    refine v_aload_n C 0 dX4_takeNumber_19 rfl rfl ?_
    obtain ⟨u5, hc4, h⟩ := bnd h
    refine v_callVv C [] (cX4_next_ct l D cy ad (si q2.2 184 7 (q2.2.1 184 6)) u5 hc4) ml_X4_43 pX_184 ⟨Nat.le_of_ble_eq_true rfl, Nat.le_of_ble_eq_true rfl⟩ ⟨rfl, rfl⟩ rfl rfl (Nat.le_of_ble_eq_true rfl) dX4_takeNumber_20 ?_
    refine v_iconst C (v := 1) dX4_takeNumber_23 (by decide) ?_
    cases h
    exact v_zret (b := true) C hr hlk dX4_takeNumber_24
  · refine v_iconst C (v := 0) dX4_takeNumber_9 (by decide) ?_
    cases h
    exact v_zret (b := false) C hr hlk dX4_takeNumber_10
def rX4_takeSign : Room := { frames := 2, cells := 0, slots := 0, locals := 44 }
def fX4_takeSign (a1 : Int32) (u : Mem) : Option (Bool × Mem) := (if (u.1 184 3) = a1 then ((fX4_next u).bind fun u3 => (some (true, u3))) else ((fX4_blame 1 u).bind fun q5 => (some (q5.1, q5.2))))
set_option maxHeartbeats 4000000 in
set_option maxRecDepth 100000 in
theorem cX4_takeSign_ct (l : Launch) (D : va_G) (cy : Nat → ClassId) (ad : Nat → Nat) (a1 : Int32) (u : Mem)  (out : (Bool × Mem)) (h : fX4_takeSign a1 u = some out) : Met l yX4_takeSign (.code yX4_takeSign cX4_takeSign 2 (some .boolean) :: gw) rX4_takeSign (va_Pc [.ref (ad 184), .int a1] (wv shX nX D cy ad u)) (qI shX nX D cy ad (bz out.1) out.2) 0 0 (rA ad nX) := by
  refine met_of (cc := cX4_takeSign) (nL := 2) (by decide) (Nat.le_of_ble_eq_true rfl) (fun p e s m below meth c C hr hlk => ?_)
  unfold fX4_takeSign at h
  show V shX nX D cy ad 2 p l e rX4_takeSign s m _ below meth c (MQ below (qI shX nX D cy ad (bz out.1) out.2) _ s 0 0 (rA ad nX)) 0 [(0, .ref (ad 184)), (1, .int a1)] [] u
  refine v_aload_n C 0 dX4_takeSign_0 rfl rfl ?_
  refine v_geti C pX_184 fd_X4_46 rfl dX4_takeSign_1 ?_
  refine v_iload_n C 1 dX4_takeSign_4 rfl rfl ?_
  refine v_icmp_eq C 14 dX4_takeSign_5 (by decide) h (fun h => ?_) (fun h => ?_)
  · refine v_aload_n C 0 dX4_takeSign_14 rfl rfl ?_
    obtain ⟨u3, hc2, h⟩ := bnd h
    refine v_callVv C [] (cX4_next_ct l D cy ad u u3 hc2) ml_X4_43 pX_184 ⟨Nat.le_of_ble_eq_true rfl, Nat.le_of_ble_eq_true rfl⟩ ⟨rfl, rfl⟩ rfl rfl (Nat.le_of_ble_eq_true rfl) dX4_takeSign_15 ?_
    refine v_iconst C (v := 1) dX4_takeSign_18 (by decide) ?_
    cases h
    exact v_zret (b := true) C hr hlk dX4_takeSign_19
  · refine v_aload_n C 0 dX4_takeSign_8 rfl rfl ?_
    refine v_iconst C (v := 1) dX4_takeSign_9 (by decide) ?_
    obtain ⟨q5, hc4, h⟩ := bnd h
    refine v_callVi C [.int 1] (cX4_blame_ct l D cy ad 1 u q5 hc4) ml_X4_56 pX_184 ⟨Nat.le_of_ble_eq_true rfl, Nat.le_of_ble_eq_true rfl⟩ ⟨rfl, rfl⟩ rfl rfl (Nat.le_of_ble_eq_true rfl) dX4_takeSign_10 ?_
    cases h
    exact v_zret C hr hlk dX4_takeSign_13
def rX4_kindClause : Room := { frames := 3, cells := 0, slots := 0, locals := 66 }
def fX4_kindClause (u : Mem) : Option (Bool × Mem) := ((fX4_next u).bind fun u2 => ((fX4_atKind u2).bind fun q4 => (if q4.1 = true then ((fX4_once (q4.2.1 184 6) q4.2).bind fun q7 => (if q7.1 = true then ((fX4_next q7.2).bind fun u10 => ((fX4_takeNumber 1 99 u10).bind fun q12 => (if q12.1 = true then (if (q12.2.1 184 2).toNatClampNeg < 32 then (if inB (q7.2.1 184 6) 6 then ((some (si q12.2 (5 * ((q12.2.1 184 2).toNatClampNeg) + 1) (q7.2.1 184 6).toNatClampNeg (q12.2.1 184 7))).bind fun u15 => ((fX4_takeSign 59 u15).bind fun q17 => (some (q17.1, q17.2)))) else none) else none) else (some (false, q12.2))))) else (some (false, q7.2)))) else (some (false, q4.2)))))
set_option maxHeartbeats 4000000 in
set_option maxRecDepth 100000 in
theorem cX4_kindClause_ct (l : Launch) (D : va_G) (cy : Nat → ClassId) (ad : Nat → Nat) (u : Mem)  (out : (Bool × Mem)) (h : fX4_kindClause u = some out) : Met l yX4_kindClause (.code yX4_kindClause cX4_kindClause 2 (some .boolean) :: gw) rX4_kindClause (va_Pc [.ref (ad 184)] (wv shX nX D cy ad u)) (qI shX nX D cy ad (bz out.1) out.2) 0 0 (rA ad nX) := by
  refine met_of (cc := cX4_kindClause) (nL := 2) (by decide) (Nat.le_of_ble_eq_true rfl) (fun p e s m below meth c C hr hlk => ?_)
  unfold fX4_kindClause at h
  show V shX nX D cy ad 2 p l e rX4_kindClause s m _ below meth c (MQ below (qI shX nX D cy ad (bz out.1) out.2) _ s 0 0 (rA ad nX)) 0 [(0, .ref (ad 184))] [] u
  refine v_aload_n C 0 dX4_kindClause_0 rfl rfl ?_
  obtain ⟨u2, hc1, h⟩ := bnd h
  refine v_callVv C [] (cX4_next_ct l D cy ad u u2 hc1) ml_X4_43 pX_184 ⟨Nat.le_of_ble_eq_true rfl, Nat.le_of_ble_eq_true rfl⟩ ⟨rfl, rfl⟩ rfl rfl (Nat.le_of_ble_eq_true rfl) dX4_kindClause_1 ?_
  refine v_aload_n C 0 dX4_kindClause_4 rfl rfl ?_
  obtain ⟨q4, hc3, h⟩ := bnd h
  refine v_callVi C [] (cX4_atKind_ct l D cy ad u2 q4 hc3) ml_X4_95 pX_184 ⟨Nat.le_of_ble_eq_true rfl, Nat.le_of_ble_eq_true rfl⟩ ⟨rfl, rfl⟩ rfl rfl (Nat.le_of_ble_eq_true rfl) dX4_kindClause_5 ?_
  refine v_z_eq C 22 dX4_kindClause_8 (by decide) h (fun h => ?_) (fun h => ?_)
  · refine v_aload_n C 0 dX4_kindClause_11 rfl rfl ?_
    refine v_aload_n C 0 dX4_kindClause_12 rfl rfl ?_
    refine v_geti C pX_184 fd_X4_82 rfl dX4_kindClause_13 ?_
    obtain ⟨q7, hc6, h⟩ := bnd h
    refine v_callVi C [.int (q4.2.1 184 6)] (cX4_once_ct l D cy ad (q4.2.1 184 6) q4.2 q7 hc6) ml_X4_90 pX_184 ⟨Nat.le_of_ble_eq_true rfl, Nat.le_of_ble_eq_true rfl⟩ ⟨rfl, rfl⟩ rfl rfl (Nat.le_of_ble_eq_true rfl) dX4_kindClause_16 ?_
    refine v_z_ne C 24 dX4_kindClause_19 (by decide) h (fun h => ?_) (fun h => ?_)
    · refine v_aload_n C 0 dX4_kindClause_24 rfl rfl ?_
      refine v_geti C pX_184 fd_X4_82 rfl dX4_kindClause_25 ?_
      refine v_istore_n C [(1, .int (q7.2.1 184 6)), (0, .ref (ad 184))] dX4_kindClause_28 rfl (by decide) rfl ?_
      refine v_aload_n C 1 dX4_kindClause_29 rfl rfl ?_
      obtain ⟨u10, hc9, h⟩ := bnd h
      refine v_callVv C [] (cX4_next_ct l D cy ad q7.2 u10 hc9) ml_X4_43 pX_184 ⟨Nat.le_of_ble_eq_true rfl, Nat.le_of_ble_eq_true rfl⟩ ⟨rfl, rfl⟩ rfl rfl (Nat.le_of_ble_eq_true rfl) dX4_kindClause_30 ?_
      refine v_aload_n C 1 dX4_kindClause_33 rfl rfl ?_
      refine v_iconst C (v := 1) dX4_kindClause_34 (by decide) ?_
      refine v_bipush C (v := 99) dX4_kindClause_35 (by decide) ?_
      obtain ⟨q12, hc11, h⟩ := bnd h
      refine v_callVi C [.int 1, .int 99] (cX4_takeNumber_ct l D cy ad 1 99 u10 q12 hc11) ml_X4_98 pX_184 ⟨Nat.le_of_ble_eq_true rfl, Nat.le_of_ble_eq_true rfl⟩ ⟨rfl, rfl⟩ rfl rfl (Nat.le_of_ble_eq_true rfl) dX4_kindClause_37 ?_
      refine v_z_ne C 45 dX4_kindClause_40 (by decide) h (fun h => ?_) (fun h => ?_)
      · refine v_aload_n C 1 dX4_kindClause_45 rfl rfl ?_
        refine v_getq C pX_184 fd_X4_22 rfl dX4_kindClause_46 ?_
        obtain ⟨hq14, h⟩ := chk h
        refine v_getr C (pL_0 ((q12.2.1 184 2).toNatClampNeg) hq14) fd_X4_102 rfl dX4_kindClause_49 ?_
        refine v_iload_n C 0 dX4_kindClause_52 rfl rfl ?_
        refine v_aload_n C 1 dX4_kindClause_53 rfl rfl ?_
        refine v_geti C pX_184 fd_X4_106 rfl dX4_kindClause_54 ?_
        refine v_iast C (pL_1 ((q12.2.1 184 2).toNatClampNeg) hq14) dX4_kindClause_57 h (fun h => ?_)
        refine v_mem (fun u15 hu15 => ?_)
        have h := nmd hu15 h
        refine v_aload_n C 1 dX4_kindClause_58 rfl rfl ?_
        refine v_bipush C (v := 59) dX4_kindClause_59 (by decide) ?_
        obtain ⟨q17, hc16, h⟩ := bnd h
        refine v_callVi C [.int 59] (cX4_takeSign_ct l D cy ad 59 u15 q17 hc16) ml_X4_109 pX_184 ⟨Nat.le_of_ble_eq_true rfl, Nat.le_of_ble_eq_true rfl⟩ ⟨rfl, rfl⟩ rfl rfl (Nat.le_of_ble_eq_true rfl) dX4_kindClause_61 ?_
        cases h
        exact v_zret C hr hlk dX4_kindClause_64
      · refine v_iconst C (v := 0) dX4_kindClause_43 (by decide) ?_
        cases h
        exact v_zret (b := false) C hr hlk dX4_kindClause_44
    · refine v_iconst C (v := 0) dX4_kindClause_22 (by decide) ?_
      cases h
      exact v_zret (b := false) C hr hlk dX4_kindClause_23
  · refine v_iconst C (v := 0) dX4_kindClause_22 (by decide) ?_
    cases h
    exact v_zret (b := false) C hr hlk dX4_kindClause_23
def rX4_takeKind : Room := { frames := 2, cells := 0, slots := 0, locals := 44 }
def fX4_takeKind (a1 : Int32) (u : Mem) : Option (Bool × Mem) := ((fX4_atKind u).bind fun q2 => (if q2.1 = true then (if (q2.2.1 184 6) = a1 then ((fX4_blame 3 q2.2).bind fun q7 => (some (q7.1, q7.2))) else ((fX4_next (si q2.2 184 7 (q2.2.1 184 6))).bind fun u9 => (some (true, u9)))) else (some (false, q2.2))))
set_option maxHeartbeats 4000000 in
set_option maxRecDepth 100000 in
theorem cX4_takeKind_ct (l : Launch) (D : va_G) (cy : Nat → ClassId) (ad : Nat → Nat) (a1 : Int32) (u : Mem)  (out : (Bool × Mem)) (h : fX4_takeKind a1 u = some out) : Met l yX4_takeKind (.code yX4_takeKind cX4_takeKind 2 (some .boolean) :: gw) rX4_takeKind (va_Pc [.ref (ad 184), .int a1] (wv shX nX D cy ad u)) (qI shX nX D cy ad (bz out.1) out.2) 0 0 (rA ad nX) := by
  refine met_of (cc := cX4_takeKind) (nL := 2) (by decide) (Nat.le_of_ble_eq_true rfl) (fun p e s m below meth c C hr hlk => ?_)
  unfold fX4_takeKind at h
  show V shX nX D cy ad 2 p l e rX4_takeKind s m _ below meth c (MQ below (qI shX nX D cy ad (bz out.1) out.2) _ s 0 0 (rA ad nX)) 0 [(0, .ref (ad 184)), (1, .int a1)] [] u
  refine v_aload_n C 0 dX4_takeKind_0 rfl rfl ?_
  obtain ⟨q2, hc1, h⟩ := bnd h
  refine v_callVi C [] (cX4_atKind_ct l D cy ad u q2 hc1) ml_X4_95 pX_184 ⟨Nat.le_of_ble_eq_true rfl, Nat.le_of_ble_eq_true rfl⟩ ⟨rfl, rfl⟩ rfl rfl (Nat.le_of_ble_eq_true rfl) dX4_takeKind_1 ?_
  refine v_z_ne C 9 dX4_takeKind_4 (by decide) h (fun h => ?_) (fun h => ?_)
  · refine v_aload_n C 0 dX4_takeKind_9 rfl rfl ?_
    refine v_geti C pX_184 fd_X4_82 rfl dX4_takeKind_10 ?_
    refine v_iload_n C 1 dX4_takeKind_13 rfl rfl ?_
    refine v_icmp_ne C 23 dX4_takeKind_14 (by decide) h (fun h => ?_) (fun h => ?_)
    · refine v_aload_n C 0 dX4_takeKind_17 rfl rfl ?_
      refine v_iconst C (v := 3) dX4_takeKind_18 (by decide) ?_
      obtain ⟨q7, hc6, h⟩ := bnd h
      refine v_callVi C [.int 3] (cX4_blame_ct l D cy ad 3 q2.2 q7 hc6) ml_X4_56 pX_184 ⟨Nat.le_of_ble_eq_true rfl, Nat.le_of_ble_eq_true rfl⟩ ⟨rfl, rfl⟩ rfl rfl (Nat.le_of_ble_eq_true rfl) dX4_takeKind_19 ?_
      cases h
      exact v_zret C hr hlk dX4_takeKind_22
    · refine v_aload_n C 0 dX4_takeKind_23 rfl rfl ?_
      refine v_aload_n C 0 dX4_takeKind_24 rfl rfl ?_
      refine v_geti C pX_184 fd_X4_82 rfl dX4_takeKind_25 ?_
      refine v_puti C pX_184 fp_X4_106 rfl rfl rfl dX4_takeKind_28 ?_
      refine v_aload_n C 0 dX4_takeKind_31 rfl rfl ?_
      obtain ⟨u9, hc8, h⟩ := bnd h
      refine v_callVv C [] (cX4_next_ct l D cy ad (si q2.2 184 7 (q2.2.1 184 6)) u9 hc8) ml_X4_43 pX_184 ⟨Nat.le_of_ble_eq_true rfl, Nat.le_of_ble_eq_true rfl⟩ ⟨rfl, rfl⟩ rfl rfl (Nat.le_of_ble_eq_true rfl) dX4_takeKind_32 ?_
      refine v_iconst C (v := 1) dX4_takeKind_35 (by decide) ?_
      cases h
      exact v_zret (b := true) C hr hlk dX4_takeKind_36
  · refine v_iconst C (v := 0) dX4_takeKind_7 (by decide) ?_
    cases h
    exact v_zret (b := false) C hr hlk dX4_takeKind_8
def rX4_takeWord : Room := { frames := 5, cells := 0, slots := 0, locals := 107 }
def fX4_takeWord (i1 : Nat) (u : Mem) : Option (Bool × Mem) := ((fX4_isWord i1 u).bind fun r2 => (if r2 = true then ((fX4_next u).bind fun u5 => (some (true, u5))) else ((fX4_blame 1 u).bind fun q7 => (some (q7.1, q7.2)))))
set_option maxHeartbeats 4000000 in
set_option maxRecDepth 100000 in
theorem cX4_takeWord_ct (l : Launch) (D : va_G) (cy : Nat → ClassId) (ad : Nat → Nat) (i1 : Nat) (u : Mem) (hi1 : i1 < 7) (out : (Bool × Mem)) (h : fX4_takeWord i1 u = some out) : Met l yX4_takeWord (.code yX4_takeWord cX4_takeWord 2 (some .boolean) :: gw) rX4_takeWord (va_Pc [.ref (ad 184), .ref (ad (1000 + i1))] (wv shX nX D cy ad u)) (qI shX nX D cy ad (bz out.1) out.2) 0 0 (rA ad nX) := by
  refine met_of (cc := cX4_takeWord) (nL := 2) (by decide) (Nat.le_of_ble_eq_true rfl) (fun p e s m below meth c C hr hlk => ?_)
  unfold fX4_takeWord at h
  show V shX nX D cy ad 2 p l e rX4_takeWord s m _ below meth c (MQ below (qI shX nX D cy ad (bz out.1) out.2) _ s 0 0 (rA ad nX)) 0 [(0, .ref (ad 184)), (1, .ref (ad (1000 + i1)))] [] u
  refine v_aload_n C 0 dX4_takeWord_0 rfl rfl ?_
  refine v_aload_n C 1 dX4_takeWord_1 rfl rfl ?_
  obtain ⟨r2, hc1, h⟩ := bnd h
  refine v_callVi C [.ref (ad (1000 + i1))] (cX4_isWord_ct l D cy ad i1 u hi1 r2 hc1) ml_X4_62 pX_184 ⟨Nat.le_of_ble_eq_true rfl, Nat.le_of_ble_eq_true rfl⟩ ⟨rfl, rfl⟩ rfl rfl (Nat.le_of_ble_eq_true rfl) dX4_takeWord_2 ?_
  refine v_z_ne C 14 dX4_takeWord_5 (by decide) h (fun h => ?_) (fun h => ?_)
  · refine v_aload_n C 0 dX4_takeWord_14 rfl rfl ?_
    obtain ⟨u5, hc4, h⟩ := bnd h
    refine v_callVv C [] (cX4_next_ct l D cy ad u u5 hc4) ml_X4_43 pX_184 ⟨Nat.le_of_ble_eq_true rfl, Nat.le_of_ble_eq_true rfl⟩ ⟨rfl, rfl⟩ rfl rfl (Nat.le_of_ble_eq_true rfl) dX4_takeWord_15 ?_
    refine v_iconst C (v := 1) dX4_takeWord_18 (by decide) ?_
    cases h
    exact v_zret (b := true) C hr hlk dX4_takeWord_19
  · refine v_aload_n C 0 dX4_takeWord_8 rfl rfl ?_
    refine v_iconst C (v := 1) dX4_takeWord_9 (by decide) ?_
    obtain ⟨q7, hc6, h⟩ := bnd h
    refine v_callVi C [.int 1] (cX4_blame_ct l D cy ad 1 u q7 hc6) ml_X4_56 pX_184 ⟨Nat.le_of_ble_eq_true rfl, Nat.le_of_ble_eq_true rfl⟩ ⟨rfl, rfl⟩ rfl rfl (Nat.le_of_ble_eq_true rfl) dX4_takeWord_10 ?_
    cases h
    exact v_zret C hr hlk dX4_takeWord_13
def rX4_chainClause : Room := { frames := 6, cells := 0, slots := 0, locals := 128 }
def fX4_chainClause (u : Mem) : Option (Bool × Mem) := ((fX4_next u).bind fun u2 => ((fX4_atNumber 0 4 u2).bind fun q4 => (if q4.1 = true then ((fX4_once (6 + (q4.2.1 184 6)) q4.2).bind fun q7 => (if q7.1 = true then ((fX4_next q7.2).bind fun u10 => ((fX4_takeKind (-1) u10).bind fun q12 => (if q12.1 = true then (if (q12.2.1 184 2).toNatClampNeg < 32 then (if inB (((q7.2.1 184 6) * 5) + 0) 25 then ((some (si q12.2 (5 * ((q12.2.1 184 2).toNatClampNeg) + 2) (((q7.2.1 184 6) * 5) + 0).toNatClampNeg (q12.2.1 184 7))).bind fun u15 => ((fX4_takeNumber 1 9 u15).bind fun q17 => (if q17.1 = true then (if (q17.2.1 184 2).toNatClampNeg < 32 then (if inB (((q7.2.1 184 6) * 5) + 1) 25 then ((some (si q17.2 (5 * ((q17.2.1 184 2).toNatClampNeg) + 2) (((q7.2.1 184 6) * 5) + 1).toNatClampNeg (q17.2.1 184 7))).bind fun u20 => ((fX4_takeWord 5 u20).bind fun q22 => (if q22.1 = true then ((fX4_takeKind (q12.2.1 184 7) q22.2).bind fun q25 => (if q25.1 = true then (if (q25.2.1 184 2).toNatClampNeg < 32 then (if inB (((q7.2.1 184 6) * 5) + 2) 25 then ((some (si q25.2 (5 * ((q25.2.1 184 2).toNatClampNeg) + 2) (((q7.2.1 184 6) * 5) + 2).toNatClampNeg (q25.2.1 184 7))).bind fun u28 => ((fX4_takeNumber 1 9 u28).bind fun q30 => (if q30.1 = true then (if (q30.2.1 184 2).toNatClampNeg < 32 then (if inB (((q7.2.1 184 6) * 5) + 3) 25 then ((some (si q30.2 (5 * ((q30.2.1 184 2).toNatClampNeg) + 2) (((q7.2.1 184 6) * 5) + 3).toNatClampNeg (q30.2.1 184 7))).bind fun u33 => ((fX4_takeWord 6 u33).bind fun q35 => (if q35.1 = true then ((fX4_takeNumber 0 999 q35.2).bind fun q38 => (if q38.1 = true then (if (q38.2.1 184 2).toNatClampNeg < 32 then (if inB (((q7.2.1 184 6) * 5) + 4) 25 then ((some (si q38.2 (5 * ((q38.2.1 184 2).toNatClampNeg) + 2) (((q7.2.1 184 6) * 5) + 4).toNatClampNeg (q38.2.1 184 7))).bind fun u41 => ((fX4_takeSign 59 u41).bind fun q43 => (some (q43.1, q43.2)))) else none) else none) else (some (false, q38.2)))) else (some (false, q35.2))))) else none) else none) else (some (false, q30.2))))) else none) else none) else (some (false, q25.2)))) else (some (false, q22.2))))) else none) else none) else (some (false, q17.2))))) else none) else none) else (some (false, q12.2))))) else (some (false, q7.2)))) else (some (false, q4.2)))))
set_option maxHeartbeats 4000000 in
set_option maxRecDepth 100000 in
theorem cX4_chainClause_ct (l : Launch) (D : va_G) (cy : Nat → ClassId) (ad : Nat → Nat) (u : Mem)  (out : (Bool × Mem)) (h : fX4_chainClause u = some out) : Met l yX4_chainClause (.code yX4_chainClause cX4_chainClause 3 (some .boolean) :: gw) rX4_chainClause (va_Pc [.ref (ad 184)] (wv shX nX D cy ad u)) (qI shX nX D cy ad (bz out.1) out.2) 0 0 (rA ad nX) := by
  refine met_of (cc := cX4_chainClause) (nL := 3) (by decide) (Nat.le_of_ble_eq_true rfl) (fun p e s m below meth c C hr hlk => ?_)
  unfold fX4_chainClause at h
  show V shX nX D cy ad 3 p l e rX4_chainClause s m _ below meth c (MQ below (qI shX nX D cy ad (bz out.1) out.2) _ s 0 0 (rA ad nX)) 0 [(0, .ref (ad 184))] [] u
  refine v_aload_n C 0 dX4_chainClause_0 rfl rfl ?_
  obtain ⟨u2, hc1, h⟩ := bnd h
  refine v_callVv C [] (cX4_next_ct l D cy ad u u2 hc1) ml_X4_43 pX_184 ⟨Nat.le_of_ble_eq_true rfl, Nat.le_of_ble_eq_true rfl⟩ ⟨rfl, rfl⟩ rfl rfl (Nat.le_of_ble_eq_true rfl) dX4_chainClause_1 ?_
  refine v_aload_n C 0 dX4_chainClause_4 rfl rfl ?_
  refine v_iconst C (v := 0) dX4_chainClause_5 (by decide) ?_
  refine v_iconst C (v := 4) dX4_chainClause_6 (by decide) ?_
  obtain ⟨q4, hc3, h⟩ := bnd h
  refine v_callVi C [.int 0, .int 4] (cX4_atNumber_ct l D cy ad 0 4 u2 q4 hc3) ml_X4_112 pX_184 ⟨Nat.le_of_ble_eq_true rfl, Nat.le_of_ble_eq_true rfl⟩ ⟨rfl, rfl⟩ rfl rfl (Nat.le_of_ble_eq_true rfl) dX4_chainClause_7 ?_
  refine v_z_eq C 27 dX4_chainClause_10 (by decide) h (fun h => ?_) (fun h => ?_)
  · refine v_aload_n C 0 dX4_chainClause_13 rfl rfl ?_
    refine v_bipush C (v := 6) dX4_chainClause_14 (by decide) ?_
    refine v_aload_n C 0 dX4_chainClause_16 rfl rfl ?_
    refine v_geti C pX_184 fd_X4_82 rfl dX4_chainClause_17 ?_
    refine v_iadd C dX4_chainClause_20 ?_
    obtain ⟨q7, hc6, h⟩ := bnd h
    refine v_callVi C [.int (6 + (q4.2.1 184 6))] (cX4_once_ct l D cy ad (6 + (q4.2.1 184 6)) q4.2 q7 hc6) ml_X4_90 pX_184 ⟨Nat.le_of_ble_eq_true rfl, Nat.le_of_ble_eq_true rfl⟩ ⟨rfl, rfl⟩ rfl rfl (Nat.le_of_ble_eq_true rfl) dX4_chainClause_21 ?_
    refine v_z_ne C 29 dX4_chainClause_24 (by decide) h (fun h => ?_) (fun h => ?_)
    · refine v_aload_n C 0 dX4_chainClause_29 rfl rfl ?_
      refine v_geti C pX_184 fd_X4_82 rfl dX4_chainClause_30 ?_
      refine v_iconst C (v := 5) dX4_chainClause_33 (by decide) ?_
      refine v_imul C dX4_chainClause_34 ?_
      refine v_istore_n C [(1, .int ((q7.2.1 184 6) * 5)), (0, .ref (ad 184))] dX4_chainClause_35 rfl (by decide) rfl ?_
      refine v_aload_n C 1 dX4_chainClause_36 rfl rfl ?_
      obtain ⟨u10, hc9, h⟩ := bnd h
      refine v_callVv C [] (cX4_next_ct l D cy ad q7.2 u10 hc9) ml_X4_43 pX_184 ⟨Nat.le_of_ble_eq_true rfl, Nat.le_of_ble_eq_true rfl⟩ ⟨rfl, rfl⟩ rfl rfl (Nat.le_of_ble_eq_true rfl) dX4_chainClause_37 ?_
      refine v_aload_n C 1 dX4_chainClause_40 rfl rfl ?_
      refine v_iconst C (v := (-1)) dX4_chainClause_41 (by decide) ?_
      obtain ⟨q12, hc11, h⟩ := bnd h
      refine v_callVi C [.int (-1)] (cX4_takeKind_ct l D cy ad (-1) u10 q12 hc11) ml_X4_115 pX_184 ⟨Nat.le_of_ble_eq_true rfl, Nat.le_of_ble_eq_true rfl⟩ ⟨rfl, rfl⟩ rfl rfl (Nat.le_of_ble_eq_true rfl) dX4_chainClause_42 ?_
      refine v_z_ne C 50 dX4_chainClause_45 (by decide) h (fun h => ?_) (fun h => ?_)
      · refine v_aload_n C 1 dX4_chainClause_50 rfl rfl ?_
        refine v_geti C pX_184 fd_X4_106 rfl dX4_chainClause_51 ?_
        refine v_istore_n C [(2, .int (q12.2.1 184 7)), (1, .int ((q7.2.1 184 6) * 5)), (0, .ref (ad 184))] dX4_chainClause_54 rfl (by decide) rfl ?_
        refine v_aload_n C 2 dX4_chainClause_55 rfl rfl ?_
        refine v_getq C pX_184 fd_X4_22 rfl dX4_chainClause_56 ?_
        obtain ⟨hq14, h⟩ := chk h
        refine v_getr C (pL_0 ((q12.2.1 184 2).toNatClampNeg) hq14) fd_X4_118 rfl dX4_chainClause_59 ?_
        refine v_iload_n C 1 dX4_chainClause_62 rfl rfl ?_
        refine v_iconst C (v := 0) dX4_chainClause_63 (by decide) ?_
        refine v_iadd C dX4_chainClause_64 ?_
        refine v_iload_n C 0 dX4_chainClause_65 rfl rfl ?_
        refine v_iast C (pL_2 ((q12.2.1 184 2).toNatClampNeg) hq14) dX4_chainClause_66 h (fun h => ?_)
        refine v_mem (fun u15 hu15 => ?_)
        have h := nmd hu15 h
        refine v_aload_n C 2 dX4_chainClause_67 rfl rfl ?_
        refine v_iconst C (v := 1) dX4_chainClause_68 (by decide) ?_
        refine v_bipush C (v := 9) dX4_chainClause_69 (by decide) ?_
        obtain ⟨q17, hc16, h⟩ := bnd h
        refine v_callVi C [.int 1, .int 9] (cX4_takeNumber_ct l D cy ad 1 9 u15 q17 hc16) ml_X4_98 pX_184 ⟨Nat.le_of_ble_eq_true rfl, Nat.le_of_ble_eq_true rfl⟩ ⟨rfl, rfl⟩ rfl rfl (Nat.le_of_ble_eq_true rfl) dX4_chainClause_71 ?_
        refine v_z_ne C 79 dX4_chainClause_74 (by decide) h (fun h => ?_) (fun h => ?_)
        · refine v_aload_n C 2 dX4_chainClause_79 rfl rfl ?_
          refine v_getq C pX_184 fd_X4_22 rfl dX4_chainClause_80 ?_
          obtain ⟨hq19, h⟩ := chk h
          refine v_getr C (pL_0 ((q17.2.1 184 2).toNatClampNeg) hq19) fd_X4_118 rfl dX4_chainClause_83 ?_
          refine v_iload_n C 1 dX4_chainClause_86 rfl rfl ?_
          refine v_iconst C (v := 1) dX4_chainClause_87 (by decide) ?_
          refine v_iadd C dX4_chainClause_88 ?_
          refine v_aload_n C 2 dX4_chainClause_89 rfl rfl ?_
          refine v_geti C pX_184 fd_X4_106 rfl dX4_chainClause_90 ?_
          refine v_iast C (pL_2 ((q17.2.1 184 2).toNatClampNeg) hq19) dX4_chainClause_93 h (fun h => ?_)
          refine v_mem (fun u20 hu20 => ?_)
          have h := nmd hu20 h
          refine v_aload_n C 2 dX4_chainClause_94 rfl rfl ?_
          refine v_ldcS C 5 (by decide) (by decide) dX4_chainClause_95 ?_
          obtain ⟨q22, hc21, h⟩ := bnd h
          refine v_callVi C [.ref (ad (1000 + 5))] (cX4_takeWord_ct l D cy ad 5 u20 (by decide) q22 hc21) ml_X4_123 pX_184 ⟨Nat.le_of_ble_eq_true rfl, Nat.le_of_ble_eq_true rfl⟩ ⟨rfl, rfl⟩ rfl rfl (Nat.le_of_ble_eq_true rfl) dX4_chainClause_97 ?_
          refine v_z_eq C 111 dX4_chainClause_100 (by decide) h (fun h => ?_) (fun h => ?_)
          · refine v_aload_n C 2 dX4_chainClause_103 rfl rfl ?_
            refine v_iload_n C 0 dX4_chainClause_104 rfl rfl ?_
            obtain ⟨q25, hc24, h⟩ := bnd h
            refine v_callVi C [.int (q12.2.1 184 7)] (cX4_takeKind_ct l D cy ad (q12.2.1 184 7) q22.2 q25 hc24) ml_X4_115 pX_184 ⟨Nat.le_of_ble_eq_true rfl, Nat.le_of_ble_eq_true rfl⟩ ⟨rfl, rfl⟩ rfl rfl (Nat.le_of_ble_eq_true rfl) dX4_chainClause_105 ?_
            refine v_z_ne C 113 dX4_chainClause_108 (by decide) h (fun h => ?_) (fun h => ?_)
            · refine v_aload_n C 2 dX4_chainClause_113 rfl rfl ?_
              refine v_getq C pX_184 fd_X4_22 rfl dX4_chainClause_114 ?_
              obtain ⟨hq27, h⟩ := chk h
              refine v_getr C (pL_0 ((q25.2.1 184 2).toNatClampNeg) hq27) fd_X4_118 rfl dX4_chainClause_117 ?_
              refine v_iload_n C 1 dX4_chainClause_120 rfl rfl ?_
              refine v_iconst C (v := 2) dX4_chainClause_121 (by decide) ?_
              refine v_iadd C dX4_chainClause_122 ?_
              refine v_aload_n C 2 dX4_chainClause_123 rfl rfl ?_
              refine v_geti C pX_184 fd_X4_106 rfl dX4_chainClause_124 ?_
              refine v_iast C (pL_2 ((q25.2.1 184 2).toNatClampNeg) hq27) dX4_chainClause_127 h (fun h => ?_)
              refine v_mem (fun u28 hu28 => ?_)
              have h := nmd hu28 h
              refine v_aload_n C 2 dX4_chainClause_128 rfl rfl ?_
              refine v_iconst C (v := 1) dX4_chainClause_129 (by decide) ?_
              refine v_bipush C (v := 9) dX4_chainClause_130 (by decide) ?_
              obtain ⟨q30, hc29, h⟩ := bnd h
              refine v_callVi C [.int 1, .int 9] (cX4_takeNumber_ct l D cy ad 1 9 u28 q30 hc29) ml_X4_98 pX_184 ⟨Nat.le_of_ble_eq_true rfl, Nat.le_of_ble_eq_true rfl⟩ ⟨rfl, rfl⟩ rfl rfl (Nat.le_of_ble_eq_true rfl) dX4_chainClause_132 ?_
              refine v_z_ne C 140 dX4_chainClause_135 (by decide) h (fun h => ?_) (fun h => ?_)
              · refine v_aload_n C 2 dX4_chainClause_140 rfl rfl ?_
                refine v_getq C pX_184 fd_X4_22 rfl dX4_chainClause_141 ?_
                obtain ⟨hq32, h⟩ := chk h
                refine v_getr C (pL_0 ((q30.2.1 184 2).toNatClampNeg) hq32) fd_X4_118 rfl dX4_chainClause_144 ?_
                refine v_iload_n C 1 dX4_chainClause_147 rfl rfl ?_
                refine v_iconst C (v := 3) dX4_chainClause_148 (by decide) ?_
                refine v_iadd C dX4_chainClause_149 ?_
                refine v_aload_n C 2 dX4_chainClause_150 rfl rfl ?_
                refine v_geti C pX_184 fd_X4_106 rfl dX4_chainClause_151 ?_
                refine v_iast C (pL_2 ((q30.2.1 184 2).toNatClampNeg) hq32) dX4_chainClause_154 h (fun h => ?_)
                refine v_mem (fun u33 hu33 => ?_)
                have h := nmd hu33 h
                refine v_aload_n C 2 dX4_chainClause_155 rfl rfl ?_
                refine v_ldcS C 6 (by decide) (by decide) dX4_chainClause_156 ?_
                obtain ⟨q35, hc34, h⟩ := bnd h
                refine v_callVi C [.ref (ad (1000 + 6))] (cX4_takeWord_ct l D cy ad 6 u33 (by decide) q35 hc34) ml_X4_123 pX_184 ⟨Nat.le_of_ble_eq_true rfl, Nat.le_of_ble_eq_true rfl⟩ ⟨rfl, rfl⟩ rfl rfl (Nat.le_of_ble_eq_true rfl) dX4_chainClause_158 ?_
                refine v_z_eq C 175 dX4_chainClause_161 (by decide) h (fun h => ?_) (fun h => ?_)
                · refine v_aload_n C 2 dX4_chainClause_164 rfl rfl ?_
                  refine v_iconst C (v := 0) dX4_chainClause_165 (by decide) ?_
                  refine v_sipush C (v := 999) dX4_chainClause_166 (by decide) ?_
                  obtain ⟨q38, hc37, h⟩ := bnd h
                  refine v_callVi C [.int 0, .int 999] (cX4_takeNumber_ct l D cy ad 0 999 q35.2 q38 hc37) ml_X4_98 pX_184 ⟨Nat.le_of_ble_eq_true rfl, Nat.le_of_ble_eq_true rfl⟩ ⟨rfl, rfl⟩ rfl rfl (Nat.le_of_ble_eq_true rfl) dX4_chainClause_169 ?_
                  refine v_z_ne C 177 dX4_chainClause_172 (by decide) h (fun h => ?_) (fun h => ?_)
                  · refine v_aload_n C 2 dX4_chainClause_177 rfl rfl ?_
                    refine v_getq C pX_184 fd_X4_22 rfl dX4_chainClause_178 ?_
                    obtain ⟨hq40, h⟩ := chk h
                    refine v_getr C (pL_0 ((q38.2.1 184 2).toNatClampNeg) hq40) fd_X4_118 rfl dX4_chainClause_181 ?_
                    refine v_iload_n C 1 dX4_chainClause_184 rfl rfl ?_
                    refine v_iconst C (v := 4) dX4_chainClause_185 (by decide) ?_
                    refine v_iadd C dX4_chainClause_186 ?_
                    refine v_aload_n C 2 dX4_chainClause_187 rfl rfl ?_
                    refine v_geti C pX_184 fd_X4_106 rfl dX4_chainClause_188 ?_
                    refine v_iast C (pL_2 ((q38.2.1 184 2).toNatClampNeg) hq40) dX4_chainClause_191 h (fun h => ?_)
                    refine v_mem (fun u41 hu41 => ?_)
                    have h := nmd hu41 h
                    refine v_aload_n C 2 dX4_chainClause_192 rfl rfl ?_
                    refine v_bipush C (v := 59) dX4_chainClause_193 (by decide) ?_
                    obtain ⟨q43, hc42, h⟩ := bnd h
                    refine v_callVi C [.int 59] (cX4_takeSign_ct l D cy ad 59 u41 q43 hc42) ml_X4_109 pX_184 ⟨Nat.le_of_ble_eq_true rfl, Nat.le_of_ble_eq_true rfl⟩ ⟨rfl, rfl⟩ rfl rfl (Nat.le_of_ble_eq_true rfl) dX4_chainClause_195 ?_
                    cases h
                    exact v_zret C hr hlk dX4_chainClause_198
                  · refine v_iconst C (v := 0) dX4_chainClause_175 (by decide) ?_
                    cases h
                    exact v_zret (b := false) C hr hlk dX4_chainClause_176
                · refine v_iconst C (v := 0) dX4_chainClause_175 (by decide) ?_
                  cases h
                  exact v_zret (b := false) C hr hlk dX4_chainClause_176
              · refine v_iconst C (v := 0) dX4_chainClause_138 (by decide) ?_
                cases h
                exact v_zret (b := false) C hr hlk dX4_chainClause_139
            · refine v_iconst C (v := 0) dX4_chainClause_111 (by decide) ?_
              cases h
              exact v_zret (b := false) C hr hlk dX4_chainClause_112
          · refine v_iconst C (v := 0) dX4_chainClause_111 (by decide) ?_
            cases h
            exact v_zret (b := false) C hr hlk dX4_chainClause_112
        · refine v_iconst C (v := 0) dX4_chainClause_77 (by decide) ?_
          cases h
          exact v_zret (b := false) C hr hlk dX4_chainClause_78
      · refine v_iconst C (v := 0) dX4_chainClause_48 (by decide) ?_
        cases h
        exact v_zret (b := false) C hr hlk dX4_chainClause_49
    · refine v_iconst C (v := 0) dX4_chainClause_27 (by decide) ?_
      cases h
      exact v_zret (b := false) C hr hlk dX4_chainClause_28
  · refine v_iconst C (v := 0) dX4_chainClause_27 (by decide) ?_
    cases h
    exact v_zret (b := false) C hr hlk dX4_chainClause_28
def rX4_rateNumber : Room := { frames := 2, cells := 0, slots := 0, locals := 44 }
def fX4_rateNumber (u : Mem) : Option (Bool × Mem) := ((fX4_next u).bind fun u2 => ((fX4_atNumber 0 4 u2).bind fun q4 => (if q4.1 = true then ((fX4_once (13 + (q4.2.1 184 6)) q4.2).bind fun q7 => (some ((if q7.1 = true then true else false), q7.2))) else (some (false, q4.2)))))
set_option maxHeartbeats 4000000 in
set_option maxRecDepth 100000 in
theorem cX4_rateNumber_ct (l : Launch) (D : va_G) (cy : Nat → ClassId) (ad : Nat → Nat) (u : Mem)  (out : (Bool × Mem)) (h : fX4_rateNumber u = some out) : Met l yX4_rateNumber (.code yX4_rateNumber cX4_rateNumber 1 (some .boolean) :: gw) rX4_rateNumber (va_Pc [.ref (ad 184)] (wv shX nX D cy ad u)) (qI shX nX D cy ad (bz out.1) out.2) 0 0 (rA ad nX) := by
  refine met_of (cc := cX4_rateNumber) (nL := 1) (by decide) (Nat.le_of_ble_eq_true rfl) (fun p e s m below meth c C hr hlk => ?_)
  unfold fX4_rateNumber at h
  show V shX nX D cy ad 1 p l e rX4_rateNumber s m _ below meth c (MQ below (qI shX nX D cy ad (bz out.1) out.2) _ s 0 0 (rA ad nX)) 0 [(0, .ref (ad 184))] [] u
  refine v_aload_n C 0 dX4_rateNumber_0 rfl rfl ?_
  obtain ⟨u2, hc1, h⟩ := bnd h
  refine v_callVv C [] (cX4_next_ct l D cy ad u u2 hc1) ml_X4_43 pX_184 ⟨Nat.le_of_ble_eq_true rfl, Nat.le_of_ble_eq_true rfl⟩ ⟨rfl, rfl⟩ rfl rfl (Nat.le_of_ble_eq_true rfl) dX4_rateNumber_1 ?_
  refine v_aload_n C 0 dX4_rateNumber_4 rfl rfl ?_
  refine v_iconst C (v := 0) dX4_rateNumber_5 (by decide) ?_
  refine v_iconst C (v := 4) dX4_rateNumber_6 (by decide) ?_
  obtain ⟨q4, hc3, h⟩ := bnd h
  refine v_callVi C [.int 0, .int 4] (cX4_atNumber_ct l D cy ad 0 4 u2 q4 hc3) ml_X4_112 pX_184 ⟨Nat.le_of_ble_eq_true rfl, Nat.le_of_ble_eq_true rfl⟩ ⟨rfl, rfl⟩ rfl rfl (Nat.le_of_ble_eq_true rfl) dX4_rateNumber_7 ?_
  refine v_z_eq C 31 dX4_rateNumber_10 (by decide) h (fun h => ?_) (fun h => ?_)
  · refine v_aload_n C 0 dX4_rateNumber_13 rfl rfl ?_
    refine v_bipush C (v := 13) dX4_rateNumber_14 (by decide) ?_
    refine v_aload_n C 0 dX4_rateNumber_16 rfl rfl ?_
    refine v_geti C pX_184 fd_X4_82 rfl dX4_rateNumber_17 ?_
    refine v_iadd C dX4_rateNumber_20 ?_
    obtain ⟨q7, hc6, h⟩ := bnd h
    refine v_callVi C [.int (13 + (q4.2.1 184 6))] (cX4_once_ct l D cy ad (13 + (q4.2.1 184 6)) q4.2 q7 hc6) ml_X4_90 pX_184 ⟨Nat.le_of_ble_eq_true rfl, Nat.le_of_ble_eq_true rfl⟩ ⟨rfl, rfl⟩ rfl rfl (Nat.le_of_ble_eq_true rfl) dX4_rateNumber_21 ?_
    refine v_dia 32 (.int (bz (if q7.1 = true then true else false))) [] ?_ (fun hj => ?_)
    · cases h
      exact v_zret (b := (if q7.1 = true then true else false)) C hr hlk dX4_rateNumber_32
    · refine p_z_eq C 31 dX4_rateNumber_24 (by decide) (fun z8 => ?_) (fun z8 => ?_)
      · refine v_iconst C (v := 1) dX4_rateNumber_27 (by decide) ?_
        refine v_goto C 32 dX4_rateNumber_28 (by decide) ?_
        exact v_top (by rw [if_pos z8]; first | done | rfl) hj
      · refine v_iconst C (v := 0) dX4_rateNumber_31 (by decide) ?_
        exact v_top (by rw [if_neg z8]; first | done | rfl) hj
  · refine v_iconst C (v := 0) dX4_rateNumber_31 (by decide) ?_
    cases h
    exact v_zret (b := false) C hr hlk dX4_rateNumber_32
def rX4_tableClause : Room := { frames := 6, cells := 0, slots := 0, locals := 128 }
def fX4_tableClause_L18 (a1 : Int32) (K145 : Int32 → Mem → Option (Bool × Mem)) : Nat → Int32 → Int32 → Mem → Option (Bool × Mem)
  | 0, _, _, _ => none
  | t + 1, a2, a3, u => (if 8 ≤ a3 then K145 a2 u else ((fX4_atNumber a2 999 u).bind fun q7 => (if q7.1 = true then ((fX4_next q7.2).bind fun u10 => ((fX4_takeSign 61 u10).bind fun q12 => (if q12.1 = true then ((fX4_takeNumber 0 9999 q12.2).bind fun q15 => (if q15.1 = true then ((fX4_takeWord 5 q15.2).bind fun q18 => (if q18.1 = true then ((fX4_takeNumber (q15.2.1 184 7) 9999 q18.2).bind fun q21 => (if q21.1 = true then (if (q21.2.1 184 2).toNatClampNeg < 32 then ((fX3_addPoint ((q21.2.1 184 2).toNatClampNeg) a1 (q7.2.1 184 6) (q15.2.1 184 7) (q21.2.1 184 7) q21.2).bind fun u25 => (if (u25.1 184 3) = 44 then ((fX4_next u25).bind fun u28 => fX4_tableClause_L18 a1 K145 t ((q7.2.1 184 6) + 1) (a3 + 1) u28) else ((fX4_takeSign 59 u25).bind fun q30 => (some (q30.1, q30.2))))) else none) else (some (false, q21.2)))) else (some (false, q18.2)))) else (some (false, q15.2)))) else (some (false, q12.2))))) else (some (false, q7.2)))))
def fX4_tableClause (a1 : Int32) (u : Mem) : Option (Bool × Mem) := ((fX4_next u).bind fun u2 => (if (u2.1 184 2).toNatClampNeg < 32 then (if inB a1 7 then ((some (si u2 (5 * ((u2.1 184 2).toNatClampNeg) + 3) a1.toNatClampNeg 0)).bind fun u4 => fX4_tableClause_L18 a1 (fun v31 u32 => ((fX4_atNumber v31 999 u32).bind fun q34 => (if q34.1 = true then ((fX4_blame 5 q34.2).bind fun q37 => (some ((if q37.1 = true then true else false), q37.2))) else (some (false, q34.2))))) fu0 0 0 u4) else none) else none))
set_option maxHeartbeats 4000000 in
set_option maxRecDepth 100000 in
theorem kX4_tableClause_L18 {l : Launch} {D : va_G} {cy : Nat → ClassId} {ad : Nat → Nat} {p : Program} {e : Env} {s : State} {m : MethodId} {args : Array Value} {below : List Frame} {meth : Method} {c : Code} (C : Cx nX D cy ad 6 cX4_tableClause RX4 rX4_tableClause p s m args c) (hr : meth.sig.returnType = some .boolean) (hlk : meth.locks = false) (a1 : Int32)  {out : (Bool × Mem)} (K145 : Int32 → Mem → Option (Bool × Mem)) (hK145 : ∀ (a2 : Int32) (w : Mem), K145 a2 w = some out → V shX nX D cy ad 6 p l e rX4_tableClause s m args below meth c (MQ below (qI shX nX D cy ad (bz out.1) out.2) args s 0 0 (rA ad nX)) 145 [(0, .ref (ad 184)), (2, .int a2)] [] w) : ∀ (t : Nat) (a2 : Int32) (a3 : Int32) (u : Mem), fX4_tableClause_L18 a1 K145 t a2 a3 u = some out → V shX nX D cy ad 6 p l e rX4_tableClause s m args below meth c (MQ below (qI shX nX D cy ad (bz out.1) out.2) args s 0 0 (rA ad nX)) 18 [(0, .ref (ad 184)), (1, .int a1), (2, .int a2), (3, .int a3)] [] u := by
  intro t
  induction t with
  | zero => intro a2 a3 u h; rw [fX4_tableClause_L18] at h; cases h
  | succ t ih =>
    intro a2 a3 u h
    rw [fX4_tableClause_L18] at h
    refine v_iload_n C 3 dX4_tableClause_18 rfl rfl ?_
    refine v_bipush C (v := 8) dX4_tableClause_19 (by decide) ?_
    refine v_icmp_ge C 145 dX4_tableClause_21 (by decide) h (fun h => ?_) (fun h => ?_)
    · refine v_sub [0, 2] rfl ?_
      exact hK145 a2 u h
    · refine v_aload_n C 0 dX4_tableClause_24 rfl rfl ?_
      refine v_iload_n C 2 dX4_tableClause_25 rfl rfl ?_
      refine v_sipush C (v := 999) dX4_tableClause_26 (by decide) ?_
      obtain ⟨q7, hc6, h⟩ := bnd h
      refine v_callVi C [.int a2, .int 999] (cX4_atNumber_ct l D cy ad a2 999 u q7 hc6) ml_X4_112 pX_184 ⟨Nat.le_of_ble_eq_true rfl, Nat.le_of_ble_eq_true rfl⟩ ⟨rfl, rfl⟩ rfl rfl (Nat.le_of_ble_eq_true rfl) dX4_tableClause_29 ?_
      refine v_z_ne C 37 dX4_tableClause_32 (by decide) h (fun h => ?_) (fun h => ?_)
      · refine v_aload_n C 0 dX4_tableClause_37 rfl rfl ?_
        refine v_geti C pX_184 fd_X4_82 rfl dX4_tableClause_38 ?_
        refine v_istore C [(4, .int (q7.2.1 184 6)), (0, .ref (ad 184)), (1, .int a1), (2, .int a2), (3, .int a3)] dX4_tableClause_41 (by decide) rfl ?_
        refine v_aload_n C 1 dX4_tableClause_43 rfl rfl ?_
        obtain ⟨u10, hc9, h⟩ := bnd h
        refine v_callVv C [] (cX4_next_ct l D cy ad q7.2 u10 hc9) ml_X4_43 pX_184 ⟨Nat.le_of_ble_eq_true rfl, Nat.le_of_ble_eq_true rfl⟩ ⟨rfl, rfl⟩ rfl rfl (Nat.le_of_ble_eq_true rfl) dX4_tableClause_44 ?_
        refine v_aload_n C 1 dX4_tableClause_47 rfl rfl ?_
        refine v_bipush C (v := 61) dX4_tableClause_48 (by decide) ?_
        obtain ⟨q12, hc11, h⟩ := bnd h
        refine v_callVi C [.int 61] (cX4_takeSign_ct l D cy ad 61 u10 q12 hc11) ml_X4_109 pX_184 ⟨Nat.le_of_ble_eq_true rfl, Nat.le_of_ble_eq_true rfl⟩ ⟨rfl, rfl⟩ rfl rfl (Nat.le_of_ble_eq_true rfl) dX4_tableClause_50 ?_
        refine v_z_eq C 67 dX4_tableClause_53 (by decide) h (fun h => ?_) (fun h => ?_)
        · refine v_aload_n C 1 dX4_tableClause_56 rfl rfl ?_
          refine v_iconst C (v := 0) dX4_tableClause_57 (by decide) ?_
          refine v_sipush C (v := 9999) dX4_tableClause_58 (by decide) ?_
          obtain ⟨q15, hc14, h⟩ := bnd h
          refine v_callVi C [.int 0, .int 9999] (cX4_takeNumber_ct l D cy ad 0 9999 q12.2 q15 hc14) ml_X4_98 pX_184 ⟨Nat.le_of_ble_eq_true rfl, Nat.le_of_ble_eq_true rfl⟩ ⟨rfl, rfl⟩ rfl rfl (Nat.le_of_ble_eq_true rfl) dX4_tableClause_61 ?_
          refine v_z_ne C 69 dX4_tableClause_64 (by decide) h (fun h => ?_) (fun h => ?_)
          · refine v_aload_n C 1 dX4_tableClause_69 rfl rfl ?_
            refine v_geti C pX_184 fd_X4_106 rfl dX4_tableClause_70 ?_
            refine v_istore C [(5, .int (q15.2.1 184 7)), (4, .int (q7.2.1 184 6)), (0, .ref (ad 184)), (1, .int a1), (2, .int a2), (3, .int a3)] dX4_tableClause_73 (by decide) rfl ?_
            refine v_aload_n C 2 dX4_tableClause_75 rfl rfl ?_
            refine v_ldcS C 5 (by decide) (by decide) dX4_tableClause_76 ?_
            obtain ⟨q18, hc17, h⟩ := bnd h
            refine v_callVi C [.ref (ad (1000 + 5))] (cX4_takeWord_ct l D cy ad 5 q15.2 (by decide) q18 hc17) ml_X4_123 pX_184 ⟨Nat.le_of_ble_eq_true rfl, Nat.le_of_ble_eq_true rfl⟩ ⟨rfl, rfl⟩ rfl rfl (Nat.le_of_ble_eq_true rfl) dX4_tableClause_78 ?_
            refine v_z_eq C 96 dX4_tableClause_81 (by decide) h (fun h => ?_) (fun h => ?_)
            · refine v_aload_n C 2 dX4_tableClause_84 rfl rfl ?_
              refine v_iload C 0 dX4_tableClause_85 rfl ?_
              refine v_sipush C (v := 9999) dX4_tableClause_87 (by decide) ?_
              obtain ⟨q21, hc20, h⟩ := bnd h
              refine v_callVi C [.int (q15.2.1 184 7), .int 9999] (cX4_takeNumber_ct l D cy ad (q15.2.1 184 7) 9999 q18.2 q21 hc20) ml_X4_98 pX_184 ⟨Nat.le_of_ble_eq_true rfl, Nat.le_of_ble_eq_true rfl⟩ ⟨rfl, rfl⟩ rfl rfl (Nat.le_of_ble_eq_true rfl) dX4_tableClause_90 ?_
              refine v_z_ne C 98 dX4_tableClause_93 (by decide) h (fun h => ?_) (fun h => ?_)
              · refine v_aload_n C 2 dX4_tableClause_98 rfl rfl ?_
                refine v_getq C pX_184 fd_X4_22 rfl dX4_tableClause_99 ?_
                obtain ⟨hq23, h⟩ := chk h
                refine v_iload_n C 3 dX4_tableClause_102 rfl rfl ?_
                refine v_iload C 1 dX4_tableClause_103 rfl ?_
                refine v_iload C 0 dX4_tableClause_105 rfl ?_
                refine v_aload_n C 2 dX4_tableClause_107 rfl rfl ?_
                refine v_geti C pX_184 fd_X4_106 rfl dX4_tableClause_108 ?_
                obtain ⟨u25, hc24, h⟩ := bnd h
                refine v_callVv C [.int a1, .int (q7.2.1 184 6), .int (q15.2.1 184 7), .int (q21.2.1 184 7)] (cX3_addPoint_ct l D cy ad ((q21.2.1 184 2).toNatClampNeg) a1 (q7.2.1 184 6) (q15.2.1 184 7) (q21.2.1 184 7) q21.2 hq23 u25 hc24) ml_X4_131 (pL_0 ((q21.2.1 184 2).toNatClampNeg) hq23) ⟨Nat.le_of_ble_eq_true rfl, Nat.le_of_ble_eq_true rfl⟩ ⟨rfl, rfl⟩ rfl rfl (Nat.le_of_ble_eq_true rfl) dX4_tableClause_111 ?_
                refine v_aload_n C 2 dX4_tableClause_114 rfl rfl ?_
                refine v_geti C pX_184 fd_X4_46 rfl dX4_tableClause_115 ?_
                refine v_bipush C (v := 44) dX4_tableClause_118 (by decide) ?_
                refine v_icmp_eq C 130 dX4_tableClause_120 (by decide) h (fun h => ?_) (fun h => ?_)
                · refine v_aload_n C 2 dX4_tableClause_130 rfl rfl ?_
                  obtain ⟨u28, hc27, h⟩ := bnd h
                  refine v_callVv C [] (cX4_next_ct l D cy ad u25 u28 hc27) ml_X4_43 pX_184 ⟨Nat.le_of_ble_eq_true rfl, Nat.le_of_ble_eq_true rfl⟩ ⟨rfl, rfl⟩ rfl rfl (Nat.le_of_ble_eq_true rfl) dX4_tableClause_131 ?_
                  refine v_iload C 1 dX4_tableClause_134 rfl ?_
                  refine v_iconst C (v := 1) dX4_tableClause_136 (by decide) ?_
                  refine v_iadd C dX4_tableClause_137 ?_
                  refine v_istore_n C [(2, .int ((q7.2.1 184 6) + 1)), (5, .int (q15.2.1 184 7)), (4, .int (q7.2.1 184 6)), (0, .ref (ad 184)), (1, .int a1), (3, .int a3)] dX4_tableClause_138 rfl (by decide) rfl ?_
                  refine v_iinc C 5 (v := a3 + 1) [(3, .int (a3 + 1)), (2, .int ((q7.2.1 184 6) + 1)), (5, .int (q15.2.1 184 7)), (4, .int (q7.2.1 184 6)), (0, .ref (ad 184)), (1, .int a1)] dX4_tableClause_139 rfl rfl (by decide) rfl ?_
                  refine v_goto C 18 dX4_tableClause_142 (by decide) ?_
                  refine v_sub [4, 5, 1, 0] rfl ?_
                  exact ih ((q7.2.1 184 6) + 1) (a3 + 1) u28 h
                · refine v_aload_n C 2 dX4_tableClause_123 rfl rfl ?_
                  refine v_bipush C (v := 59) dX4_tableClause_124 (by decide) ?_
                  obtain ⟨q30, hc29, h⟩ := bnd h
                  refine v_callVi C [.int 59] (cX4_takeSign_ct l D cy ad 59 u25 q30 hc29) ml_X4_109 pX_184 ⟨Nat.le_of_ble_eq_true rfl, Nat.le_of_ble_eq_true rfl⟩ ⟨rfl, rfl⟩ rfl rfl (Nat.le_of_ble_eq_true rfl) dX4_tableClause_126 ?_
                  cases h
                  exact v_zret C hr hlk dX4_tableClause_129
              · refine v_iconst C (v := 0) dX4_tableClause_96 (by decide) ?_
                cases h
                exact v_zret (b := false) C hr hlk dX4_tableClause_97
            · refine v_iconst C (v := 0) dX4_tableClause_96 (by decide) ?_
              cases h
              exact v_zret (b := false) C hr hlk dX4_tableClause_97
          · refine v_iconst C (v := 0) dX4_tableClause_67 (by decide) ?_
            cases h
            exact v_zret (b := false) C hr hlk dX4_tableClause_68
        · refine v_iconst C (v := 0) dX4_tableClause_67 (by decide) ?_
          cases h
          exact v_zret (b := false) C hr hlk dX4_tableClause_68
      · refine v_iconst C (v := 0) dX4_tableClause_35 (by decide) ?_
        cases h
        exact v_zret (b := false) C hr hlk dX4_tableClause_36
set_option maxHeartbeats 4000000 in
set_option maxRecDepth 100000 in
theorem cX4_tableClause_ct (l : Launch) (D : va_G) (cy : Nat → ClassId) (ad : Nat → Nat) (a1 : Int32) (u : Mem)  (out : (Bool × Mem)) (h : fX4_tableClause a1 u = some out) : Met l yX4_tableClause (.code yX4_tableClause cX4_tableClause 6 (some .boolean) :: gw) rX4_tableClause (va_Pc [.ref (ad 184), .int a1] (wv shX nX D cy ad u)) (qI shX nX D cy ad (bz out.1) out.2) 0 0 (rA ad nX) := by
  refine met_of (cc := cX4_tableClause) (nL := 6) (by decide) (Nat.le_of_ble_eq_true rfl) (fun p e s m below meth c C hr hlk => ?_)
  unfold fX4_tableClause at h
  show V shX nX D cy ad 6 p l e rX4_tableClause s m _ below meth c (MQ below (qI shX nX D cy ad (bz out.1) out.2) _ s 0 0 (rA ad nX)) 0 [(0, .ref (ad 184)), (1, .int a1)] [] u
  refine v_aload_n C 0 dX4_tableClause_0 rfl rfl ?_
  obtain ⟨u2, hc1, h⟩ := bnd h
  refine v_callVv C [] (cX4_next_ct l D cy ad u u2 hc1) ml_X4_43 pX_184 ⟨Nat.le_of_ble_eq_true rfl, Nat.le_of_ble_eq_true rfl⟩ ⟨rfl, rfl⟩ rfl rfl (Nat.le_of_ble_eq_true rfl) dX4_tableClause_1 ?_
  refine v_aload_n C 0 dX4_tableClause_4 rfl rfl ?_
  refine v_getq C pX_184 fd_X4_22 rfl dX4_tableClause_5 ?_
  obtain ⟨hq3, h⟩ := chk h
  refine v_getr C (pL_0 ((u2.1 184 2).toNatClampNeg) hq3) fd_X4_128 rfl dX4_tableClause_8 ?_
  refine v_iload_n C 1 dX4_tableClause_11 rfl rfl ?_
  refine v_iconst C (v := 0) dX4_tableClause_12 (by decide) ?_
  refine v_iast C (pL_3 ((u2.1 184 2).toNatClampNeg) hq3) dX4_tableClause_13 h (fun h => ?_)
  refine v_mem (fun u4 hu4 => ?_)
  have h := nmd hu4 h
  refine v_iconst C (v := 0) dX4_tableClause_14 (by decide) ?_
  refine v_istore_n C [(2, .int 0), (0, .ref (ad 184)), (1, .int a1)] dX4_tableClause_15 rfl (by decide) rfl ?_
  refine v_iconst C (v := 0) dX4_tableClause_16 (by decide) ?_
  refine v_istore_n C [(3, .int 0), (2, .int 0), (0, .ref (ad 184)), (1, .int a1)] dX4_tableClause_17 rfl (by decide) rfl ?_
  refine v_sub [2, 3, 1, 0] rfl ?_
  refine kX4_tableClause_L18 C hr hlk a1 _ (fun v31 u32 h => ?_) fu0 0 0 u4 h
  · refine v_aload_n C 0 dX4_tableClause_145 rfl rfl ?_
    refine v_iload_n C 1 dX4_tableClause_146 rfl rfl ?_
    refine v_sipush C (v := 999) dX4_tableClause_147 (by decide) ?_
    obtain ⟨q34, hc33, h⟩ := bnd h
    refine v_callVi C [.int v31, .int 999] (cX4_atNumber_ct l D cy ad v31 999 u32 q34 hc33) ml_X4_112 pX_184 ⟨Nat.le_of_ble_eq_true rfl, Nat.le_of_ble_eq_true rfl⟩ ⟨rfl, rfl⟩ rfl rfl (Nat.le_of_ble_eq_true rfl) dX4_tableClause_150 ?_
    refine v_z_eq C 168 dX4_tableClause_153 (by decide) h (fun h => ?_) (fun h => ?_)
    · refine v_aload_n C 0 dX4_tableClause_156 rfl rfl ?_
      refine v_iconst C (v := 5) dX4_tableClause_157 (by decide) ?_
      obtain ⟨q37, hc36, h⟩ := bnd h
      refine v_callVi C [.int 5] (cX4_blame_ct l D cy ad 5 q34.2 q37 hc36) ml_X4_56 pX_184 ⟨Nat.le_of_ble_eq_true rfl, Nat.le_of_ble_eq_true rfl⟩ ⟨rfl, rfl⟩ rfl rfl (Nat.le_of_ble_eq_true rfl) dX4_tableClause_158 ?_
      refine v_dia 169 (.int (bz (if q37.1 = true then true else false))) [] ?_ (fun hj => ?_)
      · cases h
        exact v_zret (b := (if q37.1 = true then true else false)) C hr hlk dX4_tableClause_169
      · refine p_z_eq C 168 dX4_tableClause_161 (by decide) (fun z38 => ?_) (fun z38 => ?_)
        · refine v_iconst C (v := 1) dX4_tableClause_164 (by decide) ?_
          refine v_goto C 169 dX4_tableClause_165 (by decide) ?_
          exact v_top (by rw [if_pos z38]; first | done | rfl) hj
        · refine v_iconst C (v := 0) dX4_tableClause_168 (by decide) ?_
          exact v_top (by rw [if_neg z38]; first | done | rfl) hj
    · refine v_iconst C (v := 0) dX4_tableClause_168 (by decide) ?_
      cases h
      exact v_zret (b := false) C hr hlk dX4_tableClause_169
def rX4_clause : Room := { frames := 7, cells := 0, slots := 0, locals := 153 }
def fX4_clause (u : Mem) : Option (Bool × Mem) := ((fX4_isWord 0 u).bind fun r2 => (if r2 = true then ((fX4_hasRoom u).bind fun q5 => (if q5.1 = true then ((fX4_kindClause q5.2).bind fun q8 => (some ((if q8.1 = true then true else false), q8.2))) else (some (false, q5.2)))) else ((fX4_isWord 1 u).bind fun r11 => (if r11 = true then ((fX4_hasRoom u).bind fun q14 => (if q14.1 = true then ((fX4_chainClause q14.2).bind fun q17 => (some ((if q17.1 = true then true else false), q17.2))) else (some (false, q14.2)))) else ((fX4_isWord 2 u).bind fun r20 => (if r20 = true then ((fX4_hasRoom u).bind fun q23 => (if q23.1 = true then ((fX4_rateNumber q23.2).bind fun q26 => (if q26.1 = true then ((fX4_tableClause (2 + (q26.2.1 184 6)) q26.2).bind fun q29 => (some ((if q29.1 = true then true else false), q29.2))) else (some (false, q26.2)))) else (some (false, q23.2)))) else ((fX4_isWord 3 u).bind fun r32 => (if r32 = true then ((fX4_once 11 u).bind fun q35 => (if q35.1 = true then ((fX4_hasRoom q35.2).bind fun q38 => (if q38.1 = true then ((fX4_tableClause 0 q38.2).bind fun q41 => (some ((if q41.1 = true then true else false), q41.2))) else (some (false, q38.2)))) else (some (false, q35.2)))) else ((fX4_isWord 4 u).bind fun r44 => (if r44 = true then ((fX4_once 12 u).bind fun q47 => (if q47.1 = true then ((fX4_hasRoom q47.2).bind fun q50 => (if q50.1 = true then ((fX4_tableClause 1 q50.2).bind fun q53 => (some ((if q53.1 = true then true else false), q53.2))) else (some (false, q50.2)))) else (some (false, q47.2)))) else ((fX4_blame 1 u).bind fun q56 => (some (q56.1, q56.2)))))))))))))
set_option maxHeartbeats 4000000 in
set_option maxRecDepth 100000 in
theorem cX4_clause_ct (l : Launch) (D : va_G) (cy : Nat → ClassId) (ad : Nat → Nat) (u : Mem)  (out : (Bool × Mem)) (h : fX4_clause u = some out) : Met l yX4_clause (.code yX4_clause cX4_clause 1 (some .boolean) :: gw) rX4_clause (va_Pc [.ref (ad 184)] (wv shX nX D cy ad u)) (qI shX nX D cy ad (bz out.1) out.2) 0 0 (rA ad nX) := by
  refine met_of (cc := cX4_clause) (nL := 1) (by decide) (Nat.le_of_ble_eq_true rfl) (fun p e s m below meth c C hr hlk => ?_)
  unfold fX4_clause at h
  show V shX nX D cy ad 1 p l e rX4_clause s m _ below meth c (MQ below (qI shX nX D cy ad (bz out.1) out.2) _ s 0 0 (rA ad nX)) 0 [(0, .ref (ad 184))] [] u
  refine v_aload_n C 0 dX4_clause_0 rfl rfl ?_
  refine v_ldcS C 0 (by decide) (by decide) dX4_clause_1 ?_
  obtain ⟨r2, hc1, h⟩ := bnd h
  refine v_callVi C [.ref (ad (1000 + 0))] (cX4_isWord_ct l D cy ad 0 u (by decide) r2 hc1) ml_X4_62 pX_184 ⟨Nat.le_of_ble_eq_true rfl, Nat.le_of_ble_eq_true rfl⟩ ⟨rfl, rfl⟩ rfl rfl (Nat.le_of_ble_eq_true rfl) dX4_clause_3 ?_
  refine v_z_eq C 29 dX4_clause_6 (by decide) h (fun h => ?_) (fun h => ?_)
  · refine v_aload_n C 0 dX4_clause_9 rfl rfl ?_
    obtain ⟨q5, hc4, h⟩ := bnd h
    refine v_callVi C [] (cX4_hasRoom_ct l D cy ad u q5 hc4) ml_X4_66 pX_184 ⟨Nat.le_of_ble_eq_true rfl, Nat.le_of_ble_eq_true rfl⟩ ⟨rfl, rfl⟩ rfl rfl (Nat.le_of_ble_eq_true rfl) dX4_clause_10 ?_
    refine v_z_eq C 27 dX4_clause_13 (by decide) h (fun h => ?_) (fun h => ?_)
    · refine v_aload_n C 0 dX4_clause_16 rfl rfl ?_
      obtain ⟨q8, hc7, h⟩ := bnd h
      refine v_callVi C [] (cX4_kindClause_ct l D cy ad q5.2 q8 hc7) ml_X4_69 pX_184 ⟨Nat.le_of_ble_eq_true rfl, Nat.le_of_ble_eq_true rfl⟩ ⟨rfl, rfl⟩ rfl rfl (Nat.le_of_ble_eq_true rfl) dX4_clause_17 ?_
      refine v_dia 28 (.int (bz (if q8.1 = true then true else false))) [] ?_ (fun hj => ?_)
      · cases h
        exact v_zret (b := (if q8.1 = true then true else false)) C hr hlk dX4_clause_28
      · refine p_z_eq C 27 dX4_clause_20 (by decide) (fun z9 => ?_) (fun z9 => ?_)
        · refine v_iconst C (v := 1) dX4_clause_23 (by decide) ?_
          refine v_goto C 28 dX4_clause_24 (by decide) ?_
          exact v_top (by rw [if_pos z9]; first | done | rfl) hj
        · refine v_iconst C (v := 0) dX4_clause_27 (by decide) ?_
          exact v_top (by rw [if_neg z9]; first | done | rfl) hj
    · refine v_iconst C (v := 0) dX4_clause_27 (by decide) ?_
      cases h
      exact v_zret (b := false) C hr hlk dX4_clause_28
  · refine v_aload_n C 0 dX4_clause_29 rfl rfl ?_
    refine v_ldcS C 1 (by decide) (by decide) dX4_clause_30 ?_
    obtain ⟨r11, hc10, h⟩ := bnd h
    refine v_callVi C [.ref (ad (1000 + 1))] (cX4_isWord_ct l D cy ad 1 u (by decide) r11 hc10) ml_X4_62 pX_184 ⟨Nat.le_of_ble_eq_true rfl, Nat.le_of_ble_eq_true rfl⟩ ⟨rfl, rfl⟩ rfl rfl (Nat.le_of_ble_eq_true rfl) dX4_clause_32 ?_
    refine v_z_eq C 58 dX4_clause_35 (by decide) h (fun h => ?_) (fun h => ?_)
    · refine v_aload_n C 0 dX4_clause_38 rfl rfl ?_
      obtain ⟨q14, hc13, h⟩ := bnd h
      refine v_callVi C [] (cX4_hasRoom_ct l D cy ad u q14 hc13) ml_X4_66 pX_184 ⟨Nat.le_of_ble_eq_true rfl, Nat.le_of_ble_eq_true rfl⟩ ⟨rfl, rfl⟩ rfl rfl (Nat.le_of_ble_eq_true rfl) dX4_clause_39 ?_
      refine v_z_eq C 56 dX4_clause_42 (by decide) h (fun h => ?_) (fun h => ?_)
      · refine v_aload_n C 0 dX4_clause_45 rfl rfl ?_
        obtain ⟨q17, hc16, h⟩ := bnd h
        refine v_callVi C [] (cX4_chainClause_ct l D cy ad q14.2 q17 hc16) ml_X4_74 pX_184 ⟨Nat.le_of_ble_eq_true rfl, Nat.le_of_ble_eq_true rfl⟩ ⟨rfl, rfl⟩ rfl rfl (Nat.le_of_ble_eq_true rfl) dX4_clause_46 ?_
        refine v_dia 57 (.int (bz (if q17.1 = true then true else false))) [] ?_ (fun hj => ?_)
        · cases h
          exact v_zret (b := (if q17.1 = true then true else false)) C hr hlk dX4_clause_57
        · refine p_z_eq C 56 dX4_clause_49 (by decide) (fun z18 => ?_) (fun z18 => ?_)
          · refine v_iconst C (v := 1) dX4_clause_52 (by decide) ?_
            refine v_goto C 57 dX4_clause_53 (by decide) ?_
            exact v_top (by rw [if_pos z18]; first | done | rfl) hj
          · refine v_iconst C (v := 0) dX4_clause_56 (by decide) ?_
            exact v_top (by rw [if_neg z18]; first | done | rfl) hj
      · refine v_iconst C (v := 0) dX4_clause_56 (by decide) ?_
        cases h
        exact v_zret (b := false) C hr hlk dX4_clause_57
    · refine v_aload_n C 0 dX4_clause_58 rfl rfl ?_
      refine v_ldcS C 2 (by decide) (by decide) dX4_clause_59 ?_
      obtain ⟨r20, hc19, h⟩ := bnd h
      refine v_callVi C [.ref (ad (1000 + 2))] (cX4_isWord_ct l D cy ad 2 u (by decide) r20 hc19) ml_X4_62 pX_184 ⟨Nat.le_of_ble_eq_true rfl, Nat.le_of_ble_eq_true rfl⟩ ⟨rfl, rfl⟩ rfl rfl (Nat.le_of_ble_eq_true rfl) dX4_clause_61 ?_
      refine v_z_eq C 100 dX4_clause_64 (by decide) h (fun h => ?_) (fun h => ?_)
      · refine v_aload_n C 0 dX4_clause_67 rfl rfl ?_
        obtain ⟨q23, hc22, h⟩ := bnd h
        refine v_callVi C [] (cX4_hasRoom_ct l D cy ad u q23 hc22) ml_X4_66 pX_184 ⟨Nat.le_of_ble_eq_true rfl, Nat.le_of_ble_eq_true rfl⟩ ⟨rfl, rfl⟩ rfl rfl (Nat.le_of_ble_eq_true rfl) dX4_clause_68 ?_
        refine v_z_eq C 98 dX4_clause_71 (by decide) h (fun h => ?_) (fun h => ?_)
        · refine v_aload_n C 0 dX4_clause_74 rfl rfl ?_
          obtain ⟨q26, hc25, h⟩ := bnd h
          refine v_callVi C [] (cX4_rateNumber_ct l D cy ad q23.2 q26 hc25) ml_X4_79 pX_184 ⟨Nat.le_of_ble_eq_true rfl, Nat.le_of_ble_eq_true rfl⟩ ⟨rfl, rfl⟩ rfl rfl (Nat.le_of_ble_eq_true rfl) dX4_clause_75 ?_
          refine v_z_eq C 98 dX4_clause_78 (by decide) h (fun h => ?_) (fun h => ?_)
          · refine v_aload_n C 0 dX4_clause_81 rfl rfl ?_
            refine v_iconst C (v := 2) dX4_clause_82 (by decide) ?_
            refine v_aload_n C 0 dX4_clause_83 rfl rfl ?_
            refine v_geti C pX_184 fd_X4_82 rfl dX4_clause_84 ?_
            refine v_iadd C dX4_clause_87 ?_
            obtain ⟨q29, hc28, h⟩ := bnd h
            refine v_callVi C [.int (2 + (q26.2.1 184 6))] (cX4_tableClause_ct l D cy ad (2 + (q26.2.1 184 6)) q26.2 q29 hc28) ml_X4_85 pX_184 ⟨Nat.le_of_ble_eq_true rfl, Nat.le_of_ble_eq_true rfl⟩ ⟨rfl, rfl⟩ rfl rfl (Nat.le_of_ble_eq_true rfl) dX4_clause_88 ?_
            refine v_dia 99 (.int (bz (if q29.1 = true then true else false))) [] ?_ (fun hj => ?_)
            · cases h
              exact v_zret (b := (if q29.1 = true then true else false)) C hr hlk dX4_clause_99
            · refine p_z_eq C 98 dX4_clause_91 (by decide) (fun z30 => ?_) (fun z30 => ?_)
              · refine v_iconst C (v := 1) dX4_clause_94 (by decide) ?_
                refine v_goto C 99 dX4_clause_95 (by decide) ?_
                exact v_top (by rw [if_pos z30]; first | done | rfl) hj
              · refine v_iconst C (v := 0) dX4_clause_98 (by decide) ?_
                exact v_top (by rw [if_neg z30]; first | done | rfl) hj
          · refine v_iconst C (v := 0) dX4_clause_98 (by decide) ?_
            cases h
            exact v_zret (b := false) C hr hlk dX4_clause_99
        · refine v_iconst C (v := 0) dX4_clause_98 (by decide) ?_
          cases h
          exact v_zret (b := false) C hr hlk dX4_clause_99
      · refine v_aload_n C 0 dX4_clause_100 rfl rfl ?_
        refine v_ldcS C 3 (by decide) (by decide) dX4_clause_101 ?_
        obtain ⟨r32, hc31, h⟩ := bnd h
        refine v_callVi C [.ref (ad (1000 + 3))] (cX4_isWord_ct l D cy ad 3 u (by decide) r32 hc31) ml_X4_62 pX_184 ⟨Nat.le_of_ble_eq_true rfl, Nat.le_of_ble_eq_true rfl⟩ ⟨rfl, rfl⟩ rfl rfl (Nat.le_of_ble_eq_true rfl) dX4_clause_103 ?_
        refine v_z_eq C 139 dX4_clause_106 (by decide) h (fun h => ?_) (fun h => ?_)
        · refine v_aload_n C 0 dX4_clause_109 rfl rfl ?_
          refine v_bipush C (v := 11) dX4_clause_110 (by decide) ?_
          obtain ⟨q35, hc34, h⟩ := bnd h
          refine v_callVi C [.int 11] (cX4_once_ct l D cy ad 11 u q35 hc34) ml_X4_90 pX_184 ⟨Nat.le_of_ble_eq_true rfl, Nat.le_of_ble_eq_true rfl⟩ ⟨rfl, rfl⟩ rfl rfl (Nat.le_of_ble_eq_true rfl) dX4_clause_112 ?_
          refine v_z_eq C 137 dX4_clause_115 (by decide) h (fun h => ?_) (fun h => ?_)
          · refine v_aload_n C 0 dX4_clause_118 rfl rfl ?_
            obtain ⟨q38, hc37, h⟩ := bnd h
            refine v_callVi C [] (cX4_hasRoom_ct l D cy ad q35.2 q38 hc37) ml_X4_66 pX_184 ⟨Nat.le_of_ble_eq_true rfl, Nat.le_of_ble_eq_true rfl⟩ ⟨rfl, rfl⟩ rfl rfl (Nat.le_of_ble_eq_true rfl) dX4_clause_119 ?_
            refine v_z_eq C 137 dX4_clause_122 (by decide) h (fun h => ?_) (fun h => ?_)
            · refine v_aload_n C 0 dX4_clause_125 rfl rfl ?_
              refine v_iconst C (v := 0) dX4_clause_126 (by decide) ?_
              obtain ⟨q41, hc40, h⟩ := bnd h
              refine v_callVi C [.int 0] (cX4_tableClause_ct l D cy ad 0 q38.2 q41 hc40) ml_X4_85 pX_184 ⟨Nat.le_of_ble_eq_true rfl, Nat.le_of_ble_eq_true rfl⟩ ⟨rfl, rfl⟩ rfl rfl (Nat.le_of_ble_eq_true rfl) dX4_clause_127 ?_
              refine v_dia 138 (.int (bz (if q41.1 = true then true else false))) [] ?_ (fun hj => ?_)
              · cases h
                exact v_zret (b := (if q41.1 = true then true else false)) C hr hlk dX4_clause_138
              · refine p_z_eq C 137 dX4_clause_130 (by decide) (fun z42 => ?_) (fun z42 => ?_)
                · refine v_iconst C (v := 1) dX4_clause_133 (by decide) ?_
                  refine v_goto C 138 dX4_clause_134 (by decide) ?_
                  exact v_top (by rw [if_pos z42]; first | done | rfl) hj
                · refine v_iconst C (v := 0) dX4_clause_137 (by decide) ?_
                  exact v_top (by rw [if_neg z42]; first | done | rfl) hj
            · refine v_iconst C (v := 0) dX4_clause_137 (by decide) ?_
              cases h
              exact v_zret (b := false) C hr hlk dX4_clause_138
          · refine v_iconst C (v := 0) dX4_clause_137 (by decide) ?_
            cases h
            exact v_zret (b := false) C hr hlk dX4_clause_138
        · refine v_aload_n C 0 dX4_clause_139 rfl rfl ?_
          refine v_ldcS C 4 (by decide) (by decide) dX4_clause_140 ?_
          obtain ⟨r44, hc43, h⟩ := bnd h
          refine v_callVi C [.ref (ad (1000 + 4))] (cX4_isWord_ct l D cy ad 4 u (by decide) r44 hc43) ml_X4_62 pX_184 ⟨Nat.le_of_ble_eq_true rfl, Nat.le_of_ble_eq_true rfl⟩ ⟨rfl, rfl⟩ rfl rfl (Nat.le_of_ble_eq_true rfl) dX4_clause_142 ?_
          refine v_z_eq C 178 dX4_clause_145 (by decide) h (fun h => ?_) (fun h => ?_)
          · refine v_aload_n C 0 dX4_clause_148 rfl rfl ?_
            refine v_bipush C (v := 12) dX4_clause_149 (by decide) ?_
            obtain ⟨q47, hc46, h⟩ := bnd h
            refine v_callVi C [.int 12] (cX4_once_ct l D cy ad 12 u q47 hc46) ml_X4_90 pX_184 ⟨Nat.le_of_ble_eq_true rfl, Nat.le_of_ble_eq_true rfl⟩ ⟨rfl, rfl⟩ rfl rfl (Nat.le_of_ble_eq_true rfl) dX4_clause_151 ?_
            refine v_z_eq C 176 dX4_clause_154 (by decide) h (fun h => ?_) (fun h => ?_)
            · refine v_aload_n C 0 dX4_clause_157 rfl rfl ?_
              obtain ⟨q50, hc49, h⟩ := bnd h
              refine v_callVi C [] (cX4_hasRoom_ct l D cy ad q47.2 q50 hc49) ml_X4_66 pX_184 ⟨Nat.le_of_ble_eq_true rfl, Nat.le_of_ble_eq_true rfl⟩ ⟨rfl, rfl⟩ rfl rfl (Nat.le_of_ble_eq_true rfl) dX4_clause_158 ?_
              refine v_z_eq C 176 dX4_clause_161 (by decide) h (fun h => ?_) (fun h => ?_)
              · refine v_aload_n C 0 dX4_clause_164 rfl rfl ?_
                refine v_iconst C (v := 1) dX4_clause_165 (by decide) ?_
                obtain ⟨q53, hc52, h⟩ := bnd h
                refine v_callVi C [.int 1] (cX4_tableClause_ct l D cy ad 1 q50.2 q53 hc52) ml_X4_85 pX_184 ⟨Nat.le_of_ble_eq_true rfl, Nat.le_of_ble_eq_true rfl⟩ ⟨rfl, rfl⟩ rfl rfl (Nat.le_of_ble_eq_true rfl) dX4_clause_166 ?_
                refine v_dia 177 (.int (bz (if q53.1 = true then true else false))) [] ?_ (fun hj => ?_)
                · cases h
                  exact v_zret (b := (if q53.1 = true then true else false)) C hr hlk dX4_clause_177
                · refine p_z_eq C 176 dX4_clause_169 (by decide) (fun z54 => ?_) (fun z54 => ?_)
                  · refine v_iconst C (v := 1) dX4_clause_172 (by decide) ?_
                    refine v_goto C 177 dX4_clause_173 (by decide) ?_
                    exact v_top (by rw [if_pos z54]; first | done | rfl) hj
                  · refine v_iconst C (v := 0) dX4_clause_176 (by decide) ?_
                    exact v_top (by rw [if_neg z54]; first | done | rfl) hj
              · refine v_iconst C (v := 0) dX4_clause_176 (by decide) ?_
                cases h
                exact v_zret (b := false) C hr hlk dX4_clause_177
            · refine v_iconst C (v := 0) dX4_clause_176 (by decide) ?_
              cases h
              exact v_zret (b := false) C hr hlk dX4_clause_177
          · refine v_aload_n C 0 dX4_clause_178 rfl rfl ?_
            refine v_iconst C (v := 1) dX4_clause_179 (by decide) ?_
            obtain ⟨q56, hc55, h⟩ := bnd h
            refine v_callVi C [.int 1] (cX4_blame_ct l D cy ad 1 u q56 hc55) ml_X4_56 pX_184 ⟨Nat.le_of_ble_eq_true rfl, Nat.le_of_ble_eq_true rfl⟩ ⟨rfl, rfl⟩ rfl rfl (Nat.le_of_ble_eq_true rfl) dX4_clause_180 ?_
            cases h
            exact v_zret C hr hlk dX4_clause_183
def rX4_read : Room := { frames := 8, cells := 0, slots := 0, locals := 173 }
def fX4_read_L35  (K57 : Mem → Option (Bool × Mem)) : Nat → Int32 → Mem → Option (Bool × Mem)
  | 0, _, _ => none
  | t + 1, a2, u => (if 18 ≤ a2 then K57 u else (if inB a2 18 then fX4_read_L35 K57 t (a2 + 1) (si u 185 a2.toNatClampNeg 0) else none))
def fX4_read_L61  (K105 : Mem → Option (Bool × Mem)) : Nat → Mem → Option (Bool × Mem)
  | 0, _ => none
  | t + 1, u => (if (u.1 184 3) = 0 then K105 u else (if (u.1 184 2).toNatClampNeg < 32 then (if 20 < (u.1 (5 * ((u.1 184 2).toNatClampNeg)) 4) then K105 u else ((fX4_clause u).bind fun q12 => (if q12.1 = true then (if (q12.2.1 184 2).toNatClampNeg < 32 then ((some (si q12.2 (5 * ((q12.2.1 184 2).toNatClampNeg)) 4 ((q12.2.1 (5 * ((q12.2.1 184 2).toNatClampNeg)) 4) + 1))).bind fun u15 => fX4_read_L61 K105 t u15) else none) else (some (false, q12.2))))) else none))
def fX4_read (i1 : Nat) (u : Mem) : Option (Bool × Mem) := (if ((si u 184 2 (nI i1)).1 184 2).toNatClampNeg < 32 then ((some (si (si u 184 2 (nI i1)) (5 * (((si u 184 2 (nI i1)).1 184 2).toNatClampNeg)) 4 0)).bind fun u2 => ((some (si (si (si (si u2 184 8 1) 184 9 0) 184 10 (-1)) 184 5 0)).bind fun u3 => fX4_read_L35 (fun u5 => ((fX4_next u5).bind fun u7 => fX4_read_L61 (fun u16 => (if (u16.1 184 2).toNatClampNeg < 32 then ((fX3_isBalanced ((u16.1 184 2).toNatClampNeg) u16).bind fun r19 => (if r19 = true then (some (true, u16)) else ((fX4_blame 6 u16).bind fun q22 => (some ((if q22.1 = true then true else false), q22.2))))) else none)) fu0 u7)) fu0 0 u3)) else none)
set_option maxHeartbeats 4000000 in
set_option maxRecDepth 100000 in
theorem kX4_read_L35 {l : Launch} {D : va_G} {cy : Nat → ClassId} {ad : Nat → Nat} {p : Program} {e : Env} {s : State} {m : MethodId} {args : Array Value} {below : List Frame} {meth : Method} {c : Code} (C : Cx nX D cy ad 3 cX4_read RX4 rX4_read p s m args c) (hr : meth.sig.returnType = some .boolean) (hlk : meth.locks = false)   {out : (Bool × Mem)} (K57 : Mem → Option (Bool × Mem)) (hK57 : ∀ (w : Mem), K57 w = some out → V shX nX D cy ad 3 p l e rX4_read s m args below meth c (MQ below (qI shX nX D cy ad (bz out.1) out.2) args s 0 0 (rA ad nX)) 57 [(0, .ref (ad 184))] [] w) : ∀ (t : Nat) (a2 : Int32) (u : Mem), fX4_read_L35 K57 t a2 u = some out → V shX nX D cy ad 3 p l e rX4_read s m args below meth c (MQ below (qI shX nX D cy ad (bz out.1) out.2) args s 0 0 (rA ad nX)) 35 [(0, .ref (ad 184)), (2, .int a2)] [] u := by
  intro t
  induction t with
  | zero => intro a2 u h; rw [fX4_read_L35] at h; cases h
  | succ t ih =>
    intro a2 u h
    rw [fX4_read_L35] at h
    refine v_iload_n C 1 dX4_read_35 rfl rfl ?_
    refine v_aload_n C 0 dX4_read_36 rfl rfl ?_
    refine v_getr C pX_184 fd_X4_11 rfl dX4_read_37 ?_
    refine v_alen1 C pX_185 (v := 18) (by decide) dX4_read_40 ?_
    refine v_icmp_ge C 57 dX4_read_41 (by decide) h (fun h => ?_) (fun h => ?_)
    · refine v_sub [0] rfl ?_
      exact hK57 u h
    · refine v_aload_n C 0 dX4_read_44 rfl rfl ?_
      refine v_getr C pX_184 fd_X4_11 rfl dX4_read_45 ?_
      refine v_iload_n C 1 dX4_read_48 rfl rfl ?_
      refine v_iconst C (v := 0) dX4_read_49 (by decide) ?_
      refine v_zast C pX_185 (by decide) dX4_read_50 h (fun h => ?_)
      refine v_iinc C 1 (v := a2 + 1) [(2, .int (a2 + 1)), (0, .ref (ad 184))] dX4_read_51 rfl rfl (by decide) rfl ?_
      refine v_goto C 35 dX4_read_54 (by decide) ?_
      refine v_sub [1, 0] rfl ?_
      exact ih (a2 + 1) (si u 185 a2.toNatClampNeg 0) h
set_option maxHeartbeats 4000000 in
set_option maxRecDepth 100000 in
theorem kX4_read_L61 {l : Launch} {D : va_G} {cy : Nat → ClassId} {ad : Nat → Nat} {p : Program} {e : Env} {s : State} {m : MethodId} {args : Array Value} {below : List Frame} {meth : Method} {c : Code} (C : Cx nX D cy ad 3 cX4_read RX4 rX4_read p s m args c) (hr : meth.sig.returnType = some .boolean) (hlk : meth.locks = false)   {out : (Bool × Mem)} (K105 : Mem → Option (Bool × Mem)) (hK105 : ∀ (w : Mem), K105 w = some out → V shX nX D cy ad 3 p l e rX4_read s m args below meth c (MQ below (qI shX nX D cy ad (bz out.1) out.2) args s 0 0 (rA ad nX)) 105 [(0, .ref (ad 184))] [] w) : ∀ (t : Nat) (u : Mem), fX4_read_L61 K105 t u = some out → V shX nX D cy ad 3 p l e rX4_read s m args below meth c (MQ below (qI shX nX D cy ad (bz out.1) out.2) args s 0 0 (rA ad nX)) 61 [(0, .ref (ad 184))] [] u := by
  intro t
  induction t with
  | zero => intro u h; rw [fX4_read_L61] at h; cases h
  | succ t ih =>
    intro u h
    rw [fX4_read_L61] at h
    refine v_aload_n C 0 dX4_read_61 rfl rfl ?_
    refine v_geti C pX_184 fd_X4_46 rfl dX4_read_62 ?_
    refine v_if_eq C 105 dX4_read_65 (by decide) h (fun h => ?_) (fun h => ?_)
    · exact hK105 u h
    · refine v_aload_n C 0 dX4_read_68 rfl rfl ?_
      refine v_getq C pX_184 fd_X4_22 rfl dX4_read_69 ?_
      obtain ⟨hq9, h⟩ := chk h
      refine v_geti C (pL_0 ((u.1 184 2).toNatClampNeg) hq9) fd_X4_26 rfl dX4_read_72 ?_
      refine v_bipush C (v := 20) dX4_read_75 (by decide) ?_
      refine v_icmp_gt C 105 dX4_read_77 (by decide) h (fun h => ?_) (fun h => ?_)
      · exact hK105 u h
      · refine v_aload_n C 0 dX4_read_80 rfl rfl ?_
        obtain ⟨q12, hc11, h⟩ := bnd h
        refine v_callVi C [] (cX4_clause_ct l D cy ad u q12 hc11) ml_X4_49 pX_184 ⟨Nat.le_of_ble_eq_true rfl, Nat.le_of_ble_eq_true rfl⟩ ⟨rfl, rfl⟩ rfl rfl (Nat.le_of_ble_eq_true rfl) dX4_read_81 ?_
        refine v_z_ne C 89 dX4_read_84 (by decide) h (fun h => ?_) (fun h => ?_)
        · refine v_aload_n C 0 dX4_read_89 rfl rfl ?_
          refine v_getq C pX_184 fd_X4_22 rfl dX4_read_90 ?_
          obtain ⟨hq14, h⟩ := chk h
          refine v_dup C rfl dX4_read_93 ?_
          refine v_geti C (pL_0 ((q12.2.1 184 2).toNatClampNeg) hq14) fd_X4_26 rfl dX4_read_94 ?_
          refine v_iconst C (v := 1) dX4_read_97 (by decide) ?_
          refine v_iadd C dX4_read_98 ?_
          refine v_puti C (pL_0 ((q12.2.1 184 2).toNatClampNeg) hq14) fp_X4_26 rfl rfl rfl dX4_read_99 ?_
          refine v_mem (fun u15 hu15 => ?_)
          have h := nmd hu15 h
          refine v_goto C 61 dX4_read_102 (by decide) ?_
          exact ih u15 h
        · refine v_iconst C (v := 0) dX4_read_87 (by decide) ?_
          cases h
          exact v_zret (b := false) C hr hlk dX4_read_88
set_option maxHeartbeats 4000000 in
set_option maxRecDepth 100000 in
theorem cX4_read_ct (l : Launch) (D : va_G) (cy : Nat → ClassId) (ad : Nat → Nat) (i1 : Nat) (u : Mem) (hi1 : i1 < 32) (out : (Bool × Mem)) (h : fX4_read i1 u = some out) : Met l yX4_read (.code yX4_read cX4_read 3 (some .boolean) :: gw) rX4_read (va_Pc [.ref (ad 184), .ref (ad (5 * i1))] (wv shX nX D cy ad u)) (qI shX nX D cy ad (bz out.1) out.2) 0 0 (rA ad nX) := by
  refine met_of (cc := cX4_read) (nL := 3) (by decide) (Nat.le_of_ble_eq_true rfl) (fun p e s m below meth c C hr hlk => ?_)
  unfold fX4_read at h
  show V shX nX D cy ad 3 p l e rX4_read s m _ below meth c (MQ below (qI shX nX D cy ad (bz out.1) out.2) _ s 0 0 (rA ad nX)) 0 [(0, .ref (ad 184)), (1, .ref (ad (5 * i1)))] [] u
  refine v_aload_n C 0 dX4_read_0 rfl rfl ?_
  refine v_aload_n C 1 dX4_read_1 rfl rfl ?_
  refine v_putq C hi1 pX_184 fp_X4_22 rfl rfl rfl dX4_read_2 ?_
  refine v_aload_n C 0 dX4_read_5 rfl rfl ?_
  refine v_getq C pX_184 fd_X4_22 rfl dX4_read_6 ?_
  obtain ⟨hq1, h⟩ := chk h
  refine v_iconst C (v := 0) dX4_read_9 (by decide) ?_
  refine v_puti C (pL_0 (((si u 184 2 (nI i1)).1 184 2).toNatClampNeg) hq1) fp_X4_26 rfl rfl rfl dX4_read_10 ?_
  refine v_mem (fun u2 hu2 => ?_)
  have h := nmd hu2 h
  refine v_aload_n C 0 dX4_read_13 rfl rfl ?_
  refine v_iconst C (v := 1) dX4_read_14 (by decide) ?_
  refine v_puti C pX_184 fp_X4_30 rfl rfl rfl dX4_read_15 ?_
  refine v_aload_n C 0 dX4_read_18 rfl rfl ?_
  refine v_iconst C (v := 0) dX4_read_19 (by decide) ?_
  refine v_puti C pX_184 fp_X4_34 rfl rfl rfl dX4_read_20 ?_
  refine v_aload_n C 0 dX4_read_23 rfl rfl ?_
  refine v_iconst C (v := (-1)) dX4_read_24 (by decide) ?_
  refine v_puti C pX_184 fp_X4_37 rfl rfl rfl dX4_read_25 ?_
  refine v_aload_n C 0 dX4_read_28 rfl rfl ?_
  refine v_iconst C (v := 0) dX4_read_29 (by decide) ?_
  refine v_puti C pX_184 fp_X4_40 rfl rfl rfl dX4_read_30 ?_
  refine v_mem (fun u3 hu3 => ?_)
  have h := nmd hu3 h
  refine v_iconst C (v := 0) dX4_read_33 (by decide) ?_
  refine v_istore_n C [(2, .int 0), (0, .ref (ad 184)), (1, .ref (ad (5 * i1)))] dX4_read_34 rfl (by decide) rfl ?_
  refine v_sub [1, 0] rfl ?_
  refine kX4_read_L35 C hr hlk  _ (fun u5 h => ?_) fu0 0 u3 h
  · refine v_aload_n C 0 dX4_read_57 rfl rfl ?_
    obtain ⟨u7, hc6, h⟩ := bnd h
    refine v_callVv C [] (cX4_next_ct l D cy ad u5 u7 hc6) ml_X4_43 pX_184 ⟨Nat.le_of_ble_eq_true rfl, Nat.le_of_ble_eq_true rfl⟩ ⟨rfl, rfl⟩ rfl rfl (Nat.le_of_ble_eq_true rfl) dX4_read_58 ?_
    refine kX4_read_L61 C hr hlk  _ (fun u16 h => ?_) fu0 u7 h
    · refine v_aload_n C 0 dX4_read_105 rfl rfl ?_
      refine v_getq C pX_184 fd_X4_22 rfl dX4_read_106 ?_
      obtain ⟨hq17, h⟩ := chk h
      obtain ⟨r19, hc18, h⟩ := bnd h
      refine v_callVi C [] (cX3_isBalanced_ct l D cy ad ((u16.1 184 2).toNatClampNeg) u16 hq17 r19 hc18) ml_X4_53 (pL_0 ((u16.1 184 2).toNatClampNeg) hq17) ⟨Nat.le_of_ble_eq_true rfl, Nat.le_of_ble_eq_true rfl⟩ ⟨rfl, rfl⟩ rfl rfl (Nat.le_of_ble_eq_true rfl) dX4_read_109 ?_
      refine v_z_ne C 124 dX4_read_112 (by decide) h (fun h => ?_) (fun h => ?_)
      · refine v_iconst C (v := 1) dX4_read_124 (by decide) ?_
        refine v_goto C 129 dX4_read_125 (by decide) ?_
        cases h
        exact v_zret (b := true) C hr hlk dX4_read_129
      · refine v_aload_n C 0 dX4_read_115 rfl rfl ?_
        refine v_bipush C (v := 6) dX4_read_116 (by decide) ?_
        obtain ⟨q22, hc21, h⟩ := bnd h
        refine v_callVi C [.int 6] (cX4_blame_ct l D cy ad 6 u16 q22 hc21) ml_X4_56 pX_184 ⟨Nat.le_of_ble_eq_true rfl, Nat.le_of_ble_eq_true rfl⟩ ⟨rfl, rfl⟩ rfl rfl (Nat.le_of_ble_eq_true rfl) dX4_read_118 ?_
        refine v_dia 129 (.int (bz (if q22.1 = true then true else false))) [] ?_ (fun hj => ?_)
        · cases h
          exact v_zret (b := (if q22.1 = true then true else false)) C hr hlk dX4_read_129
        · refine p_z_eq C 128 dX4_read_121 (by decide) (fun z23 => ?_) (fun z23 => ?_)
          · refine v_iconst C (v := 1) dX4_read_124 (by decide) ?_
            refine v_goto C 129 dX4_read_125 (by decide) ?_
            exact v_top (by rw [if_pos z23]; first | done | rfl) hj
          · refine v_iconst C (v := 0) dX4_read_128 (by decide) ?_
            exact v_top (by rw [if_neg z23]; first | done | rfl) hj
