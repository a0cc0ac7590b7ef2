def rX4_isBlank : Room := { frames := 0, cells := 0, slots := 0, locals := 0 }
def fX4_isBlank (a0 : Int32) : Option Bool := (some (if a0 = 32 then true else (if a0 = 10 then true else false)))
set_option maxHeartbeats 4000000 in
set_option maxRecDepth 100000 in
theorem cX4_isBlank_ct (l : Launch) (D : va_G) (cy : Nat → ClassId) (ad : Nat → Nat) (a0 : Int32) (u : Mem)  (out : Bool) (h : fX4_isBlank a0 = some out) : Met l yX4_isBlank (.code yX4_isBlank cX4_isBlank 1 (some .boolean) :: gw) rX4_isBlank (va_Pc [.int a0] (wv shX nX D cy ad u)) (qI shX nX D cy ad (bz out) u) 0 0 (rA ad nX) := by
  refine met_of (cc := cX4_isBlank) (nL := 1) (by decide) (Nat.le_of_ble_eq_true rfl) (fun p e s m below meth c C hr hlk => ?_)
  unfold fX4_isBlank at h
  show V shX nX D cy ad 1 p l e rX4_isBlank s m _ below meth c (MQ below (qI shX nX D cy ad (bz out) u) _ s 0 0 (rA ad nX)) 0 [(0, .int a0)] [] u
  refine v_iload_n C 0 dX4_isBlank_0 rfl rfl ?_
  refine v_bipush C (v := 32) dX4_isBlank_1 (by decide) ?_
  refine v_dia 17 (.int (bz (if a0 = 32 then true else (if a0 = 10 then true else false)))) [] ?_ (fun hj => ?_)
  · cases h
    exact v_zret (b := (if a0 = 32 then true else (if a0 = 10 then true else false))) C hr hlk dX4_isBlank_17
  · refine p_icmp_eq C 12 dX4_isBlank_3 (by decide) (fun z1 => ?_) (fun z1 => ?_)
    · refine v_iconst C (v := 1) dX4_isBlank_12 (by decide) ?_
      refine v_goto C 17 dX4_isBlank_13 (by decide) ?_
      exact v_top (by rw [if_pos z1]; first | done | rfl) hj
    · refine v_iload_n C 0 dX4_isBlank_6 rfl rfl ?_
      refine v_bipush C (v := 10) dX4_isBlank_7 (by decide) ?_
      refine p_icmp_ne C 16 dX4_isBlank_9 (by decide) (fun z2 => ?_) (fun z2 => ?_)
      · refine v_iconst C (v := 1) dX4_isBlank_12 (by decide) ?_
        refine v_goto C 17 dX4_isBlank_13 (by decide) ?_
        exact v_top (by rw [if_neg z1, if_pos z2]; first | done | rfl) hj
      · refine v_iconst C (v := 0) dX4_isBlank_16 (by decide) ?_
        exact v_top (by rw [if_neg z1, if_neg z2]; first | done | rfl) hj
def rX4_isLetter : Room := { frames := 0, cells := 0, slots := 0, locals := 0 }
def fX4_isLetter (a0 : Int32) : Option Bool := (some (if a0 < 97 then (if a0 < 65 then false else (if 90 < a0 then false else true)) else (if a0 ≤ 122 then true else (if a0 < 65 then false else (if 90 < a0 then false else true)))))
set_option maxHeartbeats 4000000 in
set_option maxRecDepth 100000 in
theorem cX4_isLetter_ct (l : Launch) (D : va_G) (cy : Nat → ClassId) (ad : Nat → Nat) (a0 : Int32) (u : Mem)  (out : Bool) (h : fX4_isLetter a0 = some out) : Met l yX4_isLetter (.code yX4_isLetter cX4_isLetter 1 (some .boolean) :: gw) rX4_isLetter (va_Pc [.int a0] (wv shX nX D cy ad u)) (qI shX nX D cy ad (bz out) u) 0 0 (rA ad nX) := by
  refine met_of (cc := cX4_isLetter) (nL := 1) (by decide) (Nat.le_of_ble_eq_true rfl) (fun p e s m below meth c C hr hlk => ?_)
  unfold fX4_isLetter at h
  show V shX nX D cy ad 1 p l e rX4_isLetter s m _ below meth c (MQ below (qI shX nX D cy ad (bz out) u) _ s 0 0 (rA ad nX)) 0 [(0, .int a0)] [] u
  refine v_iload_n C 0 dX4_isLetter_0 rfl rfl ?_
  refine v_bipush C (v := 97) dX4_isLetter_1 (by decide) ?_
  refine v_dia 29 (.int (bz (if a0 < 97 then (if a0 < 65 then false else (if 90 < a0 then false else true)) else (if a0 ≤ 122 then true else (if a0 < 65 then false else (if 90 < a0 then false else true)))))) [] ?_ (fun hj => ?_)
  · cases h
    exact v_zret (b := (if a0 < 97 then (if a0 < 65 then false else (if 90 < a0 then false else true)) else (if a0 ≤ 122 then true else (if a0 < 65 then false else (if 90 < a0 then false else true))))) C hr hlk dX4_isLetter_29
  · refine p_icmp_lt C 12 dX4_isLetter_3 (by decide) (fun z1 => ?_) (fun z1 => ?_)
    · refine v_iload_n C 0 dX4_isLetter_12 rfl rfl ?_
      refine v_bipush C (v := 65) dX4_isLetter_13 (by decide) ?_
      refine p_icmp_lt C 28 dX4_isLetter_15 (by decide) (fun z2 => ?_) (fun z2 => ?_)
      · refine v_iconst C (v := 0) dX4_isLetter_28 (by decide) ?_
        exact v_top (by rw [if_pos z1, if_pos z2]; first | done | rfl) hj
      · refine v_iload_n C 0 dX4_isLetter_18 rfl rfl ?_
        refine v_bipush C (v := 90) dX4_isLetter_19 (by decide) ?_
        refine p_icmp_gt C 28 dX4_isLetter_21 (by decide) (fun z3 => ?_) (fun z3 => ?_)
        · refine v_iconst C (v := 0) dX4_isLetter_28 (by decide) ?_
          exact v_top (by rw [if_pos z1, if_neg z2, if_pos z3]; first | done | rfl) hj
        · refine v_iconst C (v := 1) dX4_isLetter_24 (by decide) ?_
          refine v_goto C 29 dX4_isLetter_25 (by decide) ?_
          exact v_top (by rw [if_pos z1, if_neg z2, if_neg z3]; first | done | rfl) hj
    · refine v_iload_n C 0 dX4_isLetter_6 rfl rfl ?_
      refine v_bipush C (v := 122) dX4_isLetter_7 (by decide) ?_
      refine p_icmp_le C 24 dX4_isLetter_9 (by decide) (fun z4 => ?_) (fun z4 => ?_)
      · refine v_iconst C (v := 1) dX4_isLetter_24 (by decide) ?_
        refine v_goto C 29 dX4_isLetter_25 (by decide) ?_
        exact v_top (by rw [if_neg z1, if_pos z4]; first | done | rfl) hj
      · refine v_iload_n C 0 dX4_isLetter_12 rfl rfl ?_
        refine v_bipush C (v := 65) dX4_isLetter_13 (by decide) ?_
        refine p_icmp_lt C 28 dX4_isLetter_15 (by decide) (fun z5 => ?_) (fun z5 => ?_)
        · refine v_iconst C (v := 0) dX4_isLetter_28 (by decide) ?_
          exact v_top (by rw [if_neg z1, if_neg z4, if_pos z5]; first | done | rfl) hj
        · refine v_iload_n C 0 dX4_isLetter_18 rfl rfl ?_
          refine v_bipush C (v := 90) dX4_isLetter_19 (by decide) ?_
          refine p_icmp_gt C 28 dX4_isLetter_21 (by decide) (fun z6 => ?_) (fun z6 => ?_)
          · refine v_iconst C (v := 0) dX4_isLetter_28 (by decide) ?_
            exact v_top (by rw [if_neg z1, if_neg z4, if_neg z5, if_pos z6]; first | done | rfl) hj
          · refine v_iconst C (v := 1) dX4_isLetter_24 (by decide) ?_
            refine v_goto C 29 dX4_isLetter_25 (by decide) ?_
            exact v_top (by rw [if_neg z1, if_neg z4, if_neg z5, if_neg z6]; first | done | rfl) hj
def rX4_isDigit : Room := { frames := 0, cells := 0, slots := 0, locals := 0 }
def fX4_isDigit (a0 : Int32) : Option Bool := (some (if a0 < 48 then false else (if 57 < a0 then false else true)))
set_option maxHeartbeats 4000000 in
set_option maxRecDepth 100000 in
theorem cX4_isDigit_ct (l : Launch) (D : va_G) (cy : Nat → ClassId) (ad : Nat → Nat) (a0 : Int32) (u : Mem)  (out : Bool) (h : fX4_isDigit a0 = some out) : Met l yX4_isDigit (.code yX4_isDigit cX4_isDigit 1 (some .boolean) :: gw) rX4_isDigit (va_Pc [.int a0] (wv shX nX D cy ad u)) (qI shX nX D cy ad (bz out) u) 0 0 (rA ad nX) := by
  refine met_of (cc := cX4_isDigit) (nL := 1) (by decide) (Nat.le_of_ble_eq_true rfl) (fun p e s m below meth c C hr hlk => ?_)
  unfold fX4_isDigit at h
  show V shX nX D cy ad 1 p l e rX4_isDigit s m _ below meth c (MQ below (qI shX nX D cy ad (bz out) u) _ s 0 0 (rA ad nX)) 0 [(0, .int a0)] [] u
  refine v_iload_n C 0 dX4_isDigit_0 rfl rfl ?_
  refine v_bipush C (v := 48) dX4_isDigit_1 (by decide) ?_
  refine v_dia 17 (.int (bz (if a0 < 48 then false else (if 57 < a0 then false else true)))) [] ?_ (fun hj => ?_)
  · cases h
    exact v_zret (b := (if a0 < 48 then false else (if 57 < a0 then false else true))) C hr hlk dX4_isDigit_17
  · refine p_icmp_lt C 16 dX4_isDigit_3 (by decide) (fun z1 => ?_) (fun z1 => ?_)
    · refine v_iconst C (v := 0) dX4_isDigit_16 (by decide) ?_
      exact v_top (by rw [if_pos z1]; first | done | rfl) hj
    · refine v_iload_n C 0 dX4_isDigit_6 rfl rfl ?_
      refine v_bipush C (v := 57) dX4_isDigit_7 (by decide) ?_
      refine p_icmp_gt C 16 dX4_isDigit_9 (by decide) (fun z2 => ?_) (fun z2 => ?_)
      · refine v_iconst C (v := 0) dX4_isDigit_16 (by decide) ?_
        exact v_top (by rw [if_neg z1, if_pos z2]; first | done | rfl) hj
      · refine v_iconst C (v := 1) dX4_isDigit_12 (by decide) ?_
        refine v_goto C 17 dX4_isDigit_13 (by decide) ?_
        exact v_top (by rw [if_neg z1, if_neg z2]; first | done | rfl) hj
def rX4_next : Room := { frames := 1, cells := 0, slots := 0, locals := 23 }
def fX4_next_L8  (K53 : Mem → Option Mem) : Nat → Mem → Option Mem
  | 0, _ => none
  | t + 1, u => (if (u.1 182 1) ≤ (u.1 184 4) then K53 u else (if inB (u.1 184 4) 400 then ((fX4_isBlank (u.1 183 (u.1 184 4).toNatClampNeg)).bind fun r3 => (if r3 = true then fX4_next_L8 K53 t (si u 184 4 ((u.1 184 4) + 1)) else K53 u)) else none))
def fX4_next_L111  : Nat → Mem → Option Mem
  | 0, _ => none
  | t + 1, u => (if (u.1 182 1) ≤ (u.1 184 5) then (some u) else (if inB (u.1 184 5) 400 then ((fX4_isLetter (u.1 183 (u.1 184 5).toNatClampNeg)).bind fun r14 => (if r14 = true then fX4_next_L111 t (si u 184 5 ((u.1 184 5) + 1)) else (some u))) else none))
def fX4_next_L179  : Nat → Mem → Option Mem
  | 0, _ => none
  | t + 1, u => (if (u.1 182 1) ≤ (u.1 184 5) then (some u) else (if inB (u.1 184 5) 400 then ((fX4_isDigit (u.1 183 (u.1 184 5).toNatClampNeg)).bind fun r23 => (if r23 = true then (if inB (u.1 184 5) 400 then ((some ((if 100000 < ((((u.1 184 6) * 10) + (u.1 183 (u.1 184 5).toNatClampNeg)) - 48) then 100000 else ((((u.1 184 6) * 10) + (u.1 183 (u.1 184 5).toNatClampNeg)) - 48)))).bind fun x25 => ((some (si (si u 184 6 x25) 184 5 (((si u 184 6 x25).1 184 5) + 1))).bind fun u26 => fX4_next_L179 t u26)) else none) else (some u))) else none))
def fX4_next (u : Mem) : Option Mem := fX4_next_L8 (fun u5 => (if ((si (si u5 184 5 (u5.1 184 4)) 184 6 0).1 184 4) < ((si (si u5 184 5 (u5.1 184 4)) 184 6 0).1 182 1) then (if inB ((si (si u5 184 5 (u5.1 184 4)) 184 6 0).1 184 4) 400 then ((some ((si (si u5 184 5 (u5.1 184 4)) 184 6 0).1 183 ((si (si u5 184 5 (u5.1 184 4)) 184 6 0).1 184 4).toNatClampNeg)).bind fun x7 => ((fX4_isLetter x7).bind fun r9 => (if r9 = true then ((some (si (si (si u5 184 5 (u5.1 184 4)) 184 6 0) 184 3 1)).bind fun u11 => fX4_next_L111 fu0 u11) else (if inB ((si (si u5 184 5 (u5.1 184 4)) 184 6 0).1 184 4) 400 then ((some ((si (si u5 184 5 (u5.1 184 4)) 184 6 0).1 183 ((si (si u5 184 5 (u5.1 184 4)) 184 6 0).1 184 4).toNatClampNeg)).bind fun x16 => ((fX4_isDigit x16).bind fun r18 => (if r18 = true then ((some (si (si (si u5 184 5 (u5.1 184 4)) 184 6 0) 184 3 2)).bind fun u20 => fX4_next_L179 fu0 u20) else (if inB ((si (si u5 184 5 (u5.1 184 4)) 184 6 0).1 184 4) 400 then ((some ((si (si u5 184 5 (u5.1 184 4)) 184 6 0).1 183 ((si (si u5 184 5 (u5.1 184 4)) 184 6 0).1 184 4).toNatClampNeg)).bind fun x27 => ((some (si (si (si u5 184 5 (u5.1 184 4)) 184 6 0) 184 3 (if x27 = 61 then x27 else (if x27 = 44 then x27 else (if x27 = 59 then x27 else 3))))).bind fun u31 => (some (si u31 184 5 ((u31.1 184 5) + 1))))) else none)))) else none)))) else none) else ((some (si (si (si u5 184 5 (u5.1 184 4)) 184 6 0) 184 3 0)).bind fun u32 => (some u32)))) fu0 (si u 184 4 (u.1 184 5))
set_option maxHeartbeats 4000000 in
set_option maxRecDepth 100000 in
theorem kX4_next_L8 {l : Launch} {D : va_G} {cy : Nat → ClassId} {ad : Nat → Nat} {p : Program} {e : Env} {s : State} {m : MethodId} {args : Array Value} {below : List Frame} {meth : Method} {c : Code} (C : Cx nX D cy ad 2 cX4_next RX4 rX4_next p s m args c) (hr : meth.sig.returnType = none) (hlk : meth.locks = false)   {out : Mem} (K53 : Mem → Option Mem) (hK53 : ∀ (w : Mem), K53 w = some out → V shX nX D cy ad 2 p l e rX4_next s m args below meth c (MQ below (qV shX nX D cy ad out) args s 0 0 (rA ad nX)) 53 [(0, .ref (ad 184))] [] w) : ∀ (t : Nat) (u : Mem), fX4_next_L8 K53 t u = some out → V shX nX D cy ad 2 p l e rX4_next s m args below meth c (MQ below (qV shX nX D cy ad out) args s 0 0 (rA ad nX)) 8 [(0, .ref (ad 184))] [] u := by
  intro t
  induction t with
  | zero => intro u h; rw [fX4_next_L8] at h; cases h
  | succ t ih =>
    intro u h
    rw [fX4_next_L8] at h
    refine v_aload_n C 0 dX4_next_8 rfl rfl ?_
    refine v_geti C pX_184 fd_X4_135 rfl dX4_next_9 ?_
    refine v_aload_n C 0 dX4_next_12 rfl rfl ?_
    refine v_getr C pX_184 fd_X4_15 rfl dX4_next_13 ?_
    refine v_geti C pX_182 fd_X4_153 rfl dX4_next_16 ?_
    refine v_icmp_ge C 53 dX4_next_19 (by decide) h (fun h => ?_) (fun h => ?_)
    · exact hK53 u h
    · refine v_aload_n C 0 dX4_next_22 rfl rfl ?_
      refine v_getr C pX_184 fd_X4_15 rfl dX4_next_23 ?_
      refine v_getr C pX_182 fd_X4_138 rfl dX4_next_26 ?_
      refine v_aload_n C 0 dX4_next_29 rfl rfl ?_
      refine v_geti C pX_184 fd_X4_135 rfl dX4_next_30 ?_
      refine v_iald C pX_183 dX4_next_33 h (fun h => ?_)
      obtain ⟨r3, hc2, h⟩ := bnd h
      refine v_callSi C [.int (u.1 183 (u.1 184 4).toNatClampNeg)] (cX4_isBlank_ct l D cy ad (u.1 183 (u.1 184 4).toNatClampNeg) _ r3 hc2) ml_X4_155 ⟨Nat.le_of_ble_eq_true rfl, Nat.le_of_ble_eq_true rfl⟩ ⟨rfl, rfl⟩ rfl rfl (Nat.le_of_ble_eq_true rfl) dX4_next_34 ?_
      refine v_z_eq C 53 dX4_next_37 (by decide) h (fun h => ?_) (fun h => ?_)
      · refine v_aload_n C 0 dX4_next_40 rfl rfl ?_
        refine v_dup C rfl dX4_next_41 ?_
        refine v_geti C pX_184 fd_X4_135 rfl dX4_next_42 ?_
        refine v_iconst C (v := 1) dX4_next_45 (by decide) ?_
        refine v_iadd C dX4_next_46 ?_
        refine v_puti C pX_184 fp_X4_135 rfl rfl rfl dX4_next_47 ?_
        refine v_goto C 8 dX4_next_50 (by decide) ?_
        exact ih (si u 184 4 ((u.1 184 4) + 1)) h
      · exact hK53 u h
set_option maxHeartbeats 4000000 in
set_option maxRecDepth 100000 in
theorem kX4_next_L111 {l : Launch} {D : va_G} {cy : Nat → ClassId} {ad : Nat → Nat} {p : Program} {e : Env} {s : State} {m : MethodId} {args : Array Value} {below : List Frame} {meth : Method} {c : Code} (C : Cx nX D cy ad 2 cX4_next RX4 rX4_next p s m args c) (hr : meth.sig.returnType = none) (hlk : meth.locks = false)   {out : Mem}  : ∀ (t : Nat) (u : Mem), fX4_next_L111 t u = some out → V shX nX D cy ad 2 p l e rX4_next s m args below meth c (MQ below (qV shX nX D cy ad out) args s 0 0 (rA ad nX)) 111 [(0, .ref (ad 184))] [] u := by
  intro t
  induction t with
  | zero => intro u h; rw [fX4_next_L111] at h; cases h
  | succ t ih =>
    intro u h
    rw [fX4_next_L111] at h
    refine v_aload_n C 0 dX4_next_111 rfl rfl ?_
    refine v_geti C pX_184 fd_X4_40 rfl dX4_next_112 ?_
    refine v_aload_n C 0 dX4_next_115 rfl rfl ?_
    refine v_getr C pX_184 fd_X4_15 rfl dX4_next_116 ?_
    refine v_geti C pX_182 fd_X4_153 rfl dX4_next_119 ?_
    refine v_icmp_ge C 306 dX4_next_122 (by decide) h (fun h => ?_) (fun h => ?_)
    · cases h
      exact v_vret C hr hlk dX4_next_306
    · refine v_aload_n C 0 dX4_next_125 rfl rfl ?_
      refine v_getr C pX_184 fd_X4_15 rfl dX4_next_126 ?_
      refine v_getr C pX_182 fd_X4_138 rfl dX4_next_129 ?_
      refine v_aload_n C 0 dX4_next_132 rfl rfl ?_
      refine v_geti C pX_184 fd_X4_40 rfl dX4_next_133 ?_
      refine v_iald C pX_183 dX4_next_136 h (fun h => ?_)
      obtain ⟨r14, hc13, h⟩ := bnd h
      refine v_callSi C [.int (u.1 183 (u.1 184 5).toNatClampNeg)] (cX4_isLetter_ct l D cy ad (u.1 183 (u.1 184 5).toNatClampNeg) _ r14 hc13) ml_X4_158 ⟨Nat.le_of_ble_eq_true rfl, Nat.le_of_ble_eq_true rfl⟩ ⟨rfl, rfl⟩ rfl rfl (Nat.le_of_ble_eq_true rfl) dX4_next_137 ?_
      refine v_z_eq C 306 dX4_next_140 (by decide) h (fun h => ?_) (fun h => ?_)
      · refine v_aload_n C 0 dX4_next_143 rfl rfl ?_
        refine v_dup C rfl dX4_next_144 ?_
        refine v_geti C pX_184 fd_X4_40 rfl dX4_next_145 ?_
        refine v_iconst C (v := 1) dX4_next_148 (by decide) ?_
        refine v_iadd C dX4_next_149 ?_
        refine v_puti C pX_184 fp_X4_40 rfl rfl rfl dX4_next_150 ?_
        refine v_goto C 111 dX4_next_153 (by decide) ?_
        exact ih (si u 184 5 ((u.1 184 5) + 1)) h
      · cases h
        exact v_vret C hr hlk dX4_next_306
set_option maxHeartbeats 4000000 in
set_option maxRecDepth 100000 in
theorem kX4_next_L179 {l : Launch} {D : va_G} {cy : Nat → ClassId} {ad : Nat → Nat} {p : Program} {e : Env} {s : State} {m : MethodId} {args : Array Value} {below : List Frame} {meth : Method} {c : Code} (C : Cx nX D cy ad 2 cX4_next RX4 rX4_next p s m args c) (hr : meth.sig.returnType = none) (hlk : meth.locks = false)   {out : Mem}  : ∀ (t : Nat) (u : Mem), fX4_next_L179 t u = some out → V shX nX D cy ad 2 p l e rX4_next s m args below meth c (MQ below (qV shX nX D cy ad out) args s 0 0 (rA ad nX)) 179 [(0, .ref (ad 184))] [] u := by
  intro t
  induction t with
  | zero => intro u h; rw [fX4_next_L179] at h; cases h
  | succ t ih =>
    intro u h
    rw [fX4_next_L179] at h
    refine v_aload_n C 0 dX4_next_179 rfl rfl ?_
    refine v_geti C pX_184 fd_X4_40 rfl dX4_next_180 ?_
    refine v_aload_n C 0 dX4_next_183 rfl rfl ?_
    refine v_getr C pX_184 fd_X4_15 rfl dX4_next_184 ?_
    refine v_geti C pX_182 fd_X4_153 rfl dX4_next_187 ?_
    refine v_icmp_ge C 306 dX4_next_190 (by decide) h (fun h => ?_) (fun h => ?_)
    · cases h
      exact v_vret C hr hlk dX4_next_306
    · refine v_aload_n C 0 dX4_next_193 rfl rfl ?_
      refine v_getr C pX_184 fd_X4_15 rfl dX4_next_194 ?_
      refine v_getr C pX_182 fd_X4_138 rfl dX4_next_197 ?_
      refine v_aload_n C 0 dX4_next_200 rfl rfl ?_
      refine v_geti C pX_184 fd_X4_40 rfl dX4_next_201 ?_
      refine v_iald C pX_183 dX4_next_204 h (fun h => ?_)
      obtain ⟨r23, hc22, h⟩ := bnd h
      refine v_callSi C [.int (u.1 183 (u.1 184 5).toNatClampNeg)] (cX4_isDigit_ct l D cy ad (u.1 183 (u.1 184 5).toNatClampNeg) _ r23 hc22) ml_X4_161 ⟨Nat.le_of_ble_eq_true rfl, Nat.le_of_ble_eq_true rfl⟩ ⟨rfl, rfl⟩ rfl rfl (Nat.le_of_ble_eq_true rfl) dX4_next_205 ?_
      refine v_z_eq C 306 dX4_next_208 (by decide) h (fun h => ?_) (fun h => ?_)
      · refine v_aload_n C 0 dX4_next_211 rfl rfl ?_
        refine v_aload_n C 0 dX4_next_212 rfl rfl ?_
        refine v_geti C pX_184 fd_X4_82 rfl dX4_next_213 ?_
        refine v_bipush C (v := 10) dX4_next_216 (by decide) ?_
        refine v_imul C dX4_next_218 ?_
        refine v_aload_n C 0 dX4_next_219 rfl rfl ?_
        refine v_getr C pX_184 fd_X4_15 rfl dX4_next_220 ?_
        refine v_getr C pX_182 fd_X4_138 rfl dX4_next_223 ?_
        refine v_aload_n C 0 dX4_next_226 rfl rfl ?_
        refine v_geti C pX_184 fd_X4_40 rfl dX4_next_227 ?_
        refine v_iald C pX_183 dX4_next_230 h (fun h => ?_)
        refine v_iadd C dX4_next_231 ?_
        refine v_bipush C (v := 48) dX4_next_232 (by decide) ?_
        refine v_isub C dX4_next_234 ?_
        refine v_ldc C kc_X4_164 dX4_next_235 ?_
        refine v_mmin C ma_X4_165 (Nat.le_of_ble_eq_true rfl) (Nat.le_of_ble_eq_true rfl) (Nat.le_of_ble_eq_true rfl) dX4_next_237 ?_
        refine v_nmi (fun x25 hx25 => ?_)
        have h := nmd hx25 h
        refine v_puti C pX_184 fp_X4_82 rfl rfl rfl dX4_next_240 ?_
        refine v_aload_n C 0 dX4_next_243 rfl rfl ?_
        refine v_dup C rfl dX4_next_244 ?_
        refine v_geti C pX_184 fd_X4_40 rfl dX4_next_245 ?_
        refine v_iconst C (v := 1) dX4_next_248 (by decide) ?_
        refine v_iadd C dX4_next_249 ?_
        refine v_puti C pX_184 fp_X4_40 rfl rfl rfl dX4_next_250 ?_
        refine v_mem (fun u26 hu26 => ?_)
        have h := nmd hu26 h
        refine v_goto C 179 dX4_next_253 (by decide) ?_
        exact ih u26 h
      · cases h
        exact v_vret C hr hlk dX4_next_306
set_option maxHeartbeats 4000000 in
set_option maxRecDepth 100000 in
theorem cX4_next_ct (l : Launch) (D : va_G) (cy : Nat → ClassId) (ad : Nat → Nat) (u : Mem)  (out : Mem) (h : fX4_next u = some out) : Met l yX4_next (.code yX4_next cX4_next 2 (none) :: gw) rX4_next (va_Pc [.ref (ad 184)] (wv shX nX D cy ad u)) (qV shX nX D cy ad out) 0 0 (rA ad nX) := by
  refine met_of (cc := cX4_next) (nL := 2) (by decide) (Nat.le_of_ble_eq_true rfl) (fun p e s m below meth c C hr hlk => ?_)
  unfold fX4_next at h
  show V shX nX D cy ad 2 p l e rX4_next s m _ below meth c (MQ below (qV shX nX D cy ad out) _ s 0 0 (rA ad nX)) 0 [(0, .ref (ad 184))] [] u
  refine v_aload_n C 0 dX4_next_0 rfl rfl ?_
  refine v_aload_n C 0 dX4_next_1 rfl rfl ?_
  refine v_geti C pX_184 fd_X4_40 rfl dX4_next_2 ?_
  refine v_puti C pX_184 fp_X4_135 rfl rfl rfl dX4_next_5 ?_
  refine kX4_next_L8 C hr hlk  _ (fun u5 h => ?_) fu0 (si u 184 4 (u.1 184 5)) h
  · refine v_aload_n C 0 dX4_next_53 rfl rfl ?_
    refine v_aload_n C 0 dX4_next_54 rfl rfl ?_
    refine v_geti C pX_184 fd_X4_135 rfl dX4_next_55 ?_
    refine v_puti C pX_184 fp_X4_40 rfl rfl rfl dX4_next_58 ?_
    refine v_aload_n C 0 dX4_next_61 rfl rfl ?_
    refine v_iconst C (v := 0) dX4_next_62 (by decide) ?_
    refine v_puti C pX_184 fp_X4_82 rfl rfl rfl dX4_next_63 ?_
    refine v_aload_n C 0 dX4_next_66 rfl rfl ?_
    refine v_geti C pX_184 fd_X4_135 rfl dX4_next_67 ?_
    refine v_aload_n C 0 dX4_next_70 rfl rfl ?_
    refine v_getr C pX_184 fd_X4_15 rfl dX4_next_71 ?_
    refine v_geti C pX_182 fd_X4_153 rfl dX4_next_74 ?_
    refine v_icmp_lt C 88 dX4_next_77 (by decide) h (fun h => ?_) (fun h => ?_)
    · refine v_aload_n C 0 dX4_next_88 rfl rfl ?_
      refine v_getr C pX_184 fd_X4_15 rfl dX4_next_89 ?_
      refine v_getr C pX_182 fd_X4_138 rfl dX4_next_92 ?_
      refine v_aload_n C 0 dX4_next_95 rfl rfl ?_
      refine v_geti C pX_184 fd_X4_135 rfl dX4_next_96 ?_
      refine v_iald C pX_183 dX4_next_99 h (fun h => ?_)
      refine v_nmi (fun x7 hx7 => ?_)
      have h := nmd hx7 h
      obtain ⟨r9, hc8, h⟩ := bnd h
      refine v_callSi C [.int x7] (cX4_isLetter_ct l D cy ad x7 _ r9 hc8) ml_X4_158 ⟨Nat.le_of_ble_eq_true rfl, Nat.le_of_ble_eq_true rfl⟩ ⟨rfl, rfl⟩ rfl rfl (Nat.le_of_ble_eq_true rfl) dX4_next_100 ?_
      refine v_z_eq C 156 dX4_next_103 (by decide) h (fun h => ?_) (fun h => ?_)
      · refine v_aload_n C 0 dX4_next_106 rfl rfl ?_
        refine v_iconst C (v := 1) dX4_next_107 (by decide) ?_
        refine v_puti C pX_184 fp_X4_46 rfl rfl rfl dX4_next_108 ?_
        refine v_mem (fun u11 hu11 => ?_)
        have h := nmd hu11 h
        refine kX4_next_L111 C hr hlk    fu0 u11 h
      · refine v_aload_n C 0 dX4_next_156 rfl rfl ?_
        refine v_getr C pX_184 fd_X4_15 rfl dX4_next_157 ?_
        refine v_getr C pX_182 fd_X4_138 rfl dX4_next_160 ?_
        refine v_aload_n C 0 dX4_next_163 rfl rfl ?_
        refine v_geti C pX_184 fd_X4_135 rfl dX4_next_164 ?_
        refine v_iald C pX_183 dX4_next_167 h (fun h => ?_)
        refine v_nmi (fun x16 hx16 => ?_)
        have h := nmd hx16 h
        obtain ⟨r18, hc17, h⟩ := bnd h
        refine v_callSi C [.int x16] (cX4_isDigit_ct l D cy ad x16 _ r18 hc17) ml_X4_161 ⟨Nat.le_of_ble_eq_true rfl, Nat.le_of_ble_eq_true rfl⟩ ⟨rfl, rfl⟩ rfl rfl (Nat.le_of_ble_eq_true rfl) dX4_next_168 ?_
        refine v_z_eq C 256 dX4_next_171 (by decide) h (fun h => ?_) (fun h => ?_)
        · refine v_aload_n C 0 dX4_next_174 rfl rfl ?_
          refine v_iconst C (v := 2) dX4_next_175 (by decide) ?_
          refine v_puti C pX_184 fp_X4_46 rfl rfl rfl dX4_next_176 ?_
          refine v_mem (fun u20 hu20 => ?_)
          have h := nmd hu20 h
          refine kX4_next_L179 C hr hlk    fu0 u20 h
        · refine v_aload_n C 0 dX4_next_256 rfl rfl ?_
          refine v_getr C pX_184 fd_X4_15 rfl dX4_next_257 ?_
          refine v_getr C pX_182 fd_X4_138 rfl dX4_next_260 ?_
          refine v_aload_n C 0 dX4_next_263 rfl rfl ?_
          refine v_geti C pX_184 fd_X4_135 rfl dX4_next_264 ?_
          refine v_iald C pX_183 dX4_next_267 h (fun h => ?_)
          refine v_nmi (fun x27 hx27 => ?_)
          have h := nmd hx27 h
          refine v_istore_n C [(1, .int x27), (0, .ref (ad 184))] dX4_next_268 rfl (by decide) rfl ?_
          refine v_aload_n C 1 dX4_next_269 rfl rfl ?_
          refine v_iload_n C 0 dX4_next_270 rfl rfl ?_
          refine v_bipush C (v := 61) dX4_next_271 (by decide) ?_
          refine v_dia 293 (.int (if x27 = 61 then x27 else (if x27 = 44 then x27 else (if x27 = 59 then x27 else 3)))) [.ref (ad 184)] ?_ (fun hj => ?_)
          · refine v_puti C pX_184 fp_X4_46 rfl rfl rfl dX4_next_293 ?_
            refine v_mem (fun u31 hu31 => ?_)
            have h := nmd hu31 h
            refine v_aload_n C 1 dX4_next_296 rfl rfl ?_
            refine v_dup C rfl dX4_next_297 ?_
            refine v_geti C pX_184 fd_X4_40 rfl dX4_next_298 ?_
            refine v_iconst C (v := 1) dX4_next_301 (by decide) ?_
            refine v_iadd C dX4_next_302 ?_
            refine v_puti C pX_184 fp_X4_40 rfl rfl rfl dX4_next_303 ?_
            cases h
            exact v_vret C hr hlk dX4_next_306
          · refine p_icmp_eq C 288 dX4_next_273 (by decide) (fun z28 => ?_) (fun z28 => ?_)
            · refine v_iload_n C 0 dX4_next_288 rfl rfl ?_
              refine v_goto C 293 dX4_next_289 (by decide) ?_
              exact v_top (by rw [if_pos z28]; first | done | rfl) hj
            · refine v_iload_n C 0 dX4_next_276 rfl rfl ?_
              refine v_bipush C (v := 44) dX4_next_277 (by decide) ?_
              refine p_icmp_eq C 288 dX4_next_279 (by decide) (fun z29 => ?_) (fun z29 => ?_)
              · refine v_iload_n C 0 dX4_next_288 rfl rfl ?_
                refine v_goto C 293 dX4_next_289 (by decide) ?_
                exact v_top (by rw [if_neg z28, if_pos z29]; first | done | rfl) hj
              · refine v_iload_n C 0 dX4_next_282 rfl rfl ?_
                refine v_bipush C (v := 59) dX4_next_283 (by decide) ?_
                refine p_icmp_ne C 292 dX4_next_285 (by decide) (fun z30 => ?_) (fun z30 => ?_)
                · refine v_iload_n C 0 dX4_next_288 rfl rfl ?_
                  refine v_goto C 293 dX4_next_289 (by decide) ?_
                  exact v_top (by rw [if_neg z28, if_neg z29, if_pos z30]; first | done | rfl) hj
                · refine v_iconst C (v := 3) dX4_next_292 (by decide) ?_
                  exact v_top (by rw [if_neg z28, if_neg z29, if_neg z30]; first | done | rfl) hj
    · refine v_aload_n C 0 dX4_next_80 rfl rfl ?_
      refine v_iconst C (v := 0) dX4_next_81 (by decide) ?_
      refine v_puti C pX_184 fp_X4_46 rfl rfl rfl dX4_next_82 ?_
      refine v_mem (fun u32 hu32 => ?_)
      have h := nmd hu32 h
      refine v_goto C 306 dX4_next_85 (by decide) ?_
      cases h
      exact v_vret C hr hlk dX4_next_306
def rX4_blame : Room := { frames := 0, cells := 0, slots := 0, locals := 0 }
def fX4_blame (a1 : Int32) (u : Mem) : Option (Bool × Mem) := ((some (si (si u 184 9 a1) 184 10 ((si u 184 9 a1).1 184 4))).bind fun u1 => (some (false, u1)))
set_option maxHeartbeats 4000000 in
set_option maxRecDepth 100000 in
theorem cX4_blame_ct (l : Launch) (D : va_G) (cy : Nat → ClassId) (ad : Nat → Nat) (a1 : Int32) (u : Mem)  (out : (Bool × Mem)) (h : fX4_blame a1 u = some out) : Met l yX4_blame (.code yX4_blame cX4_blame 2 (some .boolean) :: gw) rX4_blame (va_Pc [.ref (ad 184), .int a1] (wv shX nX D cy ad u)) (qI shX nX D cy ad (bz out.1) out.2) 0 0 (rA ad nX) := by
  refine met_of (cc := cX4_blame) (nL := 2) (by decide) (Nat.le_of_ble_eq_true rfl) (fun p e s m below meth c C hr hlk => ?_)
  unfold fX4_blame at h
  show V shX nX D cy ad 2 p l e rX4_blame s m _ below meth c (MQ below (qI shX nX D cy ad (bz out.1) out.2) _ s 0 0 (rA ad nX)) 0 [(0, .ref (ad 184)), (1, .int a1)] [] u
  refine v_aload_n C 0 dX4_blame_0 rfl rfl ?_
  refine v_iload_n C 1 dX4_blame_1 rfl rfl ?_
  refine v_puti C pX_184 fp_X4_34 rfl rfl rfl dX4_blame_2 ?_
  refine v_aload_n C 0 dX4_blame_5 rfl rfl ?_
  refine v_aload_n C 0 dX4_blame_6 rfl rfl ?_
  refine v_geti C pX_184 fd_X4_135 rfl dX4_blame_7 ?_
  refine v_puti C pX_184 fp_X4_37 rfl rfl rfl dX4_blame_10 ?_
  refine v_mem (fun u1 hu1 => ?_)
  have h := nmd hu1 h
  refine v_iconst C (v := 0) dX4_blame_13 (by decide) ?_
  cases h
  exact v_zret (b := false) C hr hlk dX4_blame_14
def rX4_hasRoom : Room := { frames := 1, cells := 0, slots := 0, locals := 21 }
def fX4_hasRoom (u : Mem) : Option (Bool × Mem) := (if (u.1 184 2).toNatClampNeg < 32 then (if (u.1 (5 * ((u.1 184 2).toNatClampNeg)) 4) < 20 then (some (true, u)) else ((fX4_blame 5 u).bind fun q4 => (some ((if q4.1 = true then true else false), q4.2)))) else none)
set_option maxHeartbeats 4000000 in
set_option maxRecDepth 100000 in
theorem cX4_hasRoom_ct (l : Launch) (D : va_G) (cy : Nat → ClassId) (ad : Nat → Nat) (u : Mem)  (out : (Bool × Mem)) (h : fX4_hasRoom u = some out) : Met l yX4_hasRoom (.code yX4_hasRoom cX4_hasRoom 1 (some .boolean) :: gw) rX4_hasRoom (va_Pc [.ref (ad 184)] (wv shX nX D cy ad u)) (qI shX nX D cy ad (bz out.1) out.2) 0 0 (rA ad nX) := by
  refine met_of (cc := cX4_hasRoom) (nL := 1) (by decide) (Nat.le_of_ble_eq_true rfl) (fun p e s m below meth c C hr hlk => ?_)
  unfold fX4_hasRoom at h
  show V shX nX D cy ad 1 p l e rX4_hasRoom s m _ below meth c (MQ below (qI shX nX D cy ad (bz out.1) out.2) _ s 0 0 (rA ad nX)) 0 [(0, .ref (ad 184))] [] u
  refine v_aload_n C 0 dX4_hasRoom_0 rfl rfl ?_
  refine v_getq C pX_184 fd_X4_22 rfl dX4_hasRoom_1 ?_
  obtain ⟨hq1, h⟩ := chk h
  refine v_geti C (pL_0 ((u.1 184 2).toNatClampNeg) hq1) fd_X4_26 rfl dX4_hasRoom_4 ?_
  refine v_bipush C (v := 20) dX4_hasRoom_7 (by decide) ?_
  refine v_icmp_lt C 20 dX4_hasRoom_9 (by decide) h (fun h => ?_) (fun h => ?_)
  · refine v_iconst C (v := 1) dX4_hasRoom_20 (by decide) ?_
    refine v_goto C 25 dX4_hasRoom_21 (by decide) ?_
    cases h
    exact v_zret (b := true) C hr hlk dX4_hasRoom_25
  · refine v_aload_n C 0 dX4_hasRoom_12 rfl rfl ?_
    refine v_iconst C (v := 5) dX4_hasRoom_13 (by decide) ?_
    obtain ⟨q4, hc3, h⟩ := bnd h
    refine v_callVi C [.int 5] (cX4_blame_ct l D cy ad 5 u q4 hc3) ml_X4_56 pX_184 ⟨Nat.le_of_ble_eq_true rfl, Nat.le_of_ble_eq_true rfl⟩ ⟨rfl, rfl⟩ rfl rfl (Nat.le_of_ble_eq_true rfl) dX4_hasRoom_14 ?_
    refine v_dia 25 (.int (bz (if q4.1 = true then true else false))) [] ?_ (fun hj => ?_)
    · cases h
      exact v_zret (b := (if q4.1 = true then true else false)) C hr hlk dX4_hasRoom_25
    · refine p_z_eq C 24 dX4_hasRoom_17 (by decide) (fun z5 => ?_) (fun z5 => ?_)
      · refine v_iconst C (v := 1) dX4_hasRoom_20 (by decide) ?_
        refine v_goto C 25 dX4_hasRoom_21 (by decide) ?_
        exact v_top (by rw [if_pos z5]; first | done | rfl) hj
      · refine v_iconst C (v := 0) dX4_hasRoom_24 (by decide) ?_
        exact v_top (by rw [if_neg z5]; first | done | rfl) hj
def rX4_atKind : Room := { frames := 1, cells := 0, slots := 0, locals := 21 }
def fX4_atKind_J37 (s0 : Int32) (u : Mem) : Option (Bool × Mem) := (if s0 < 65 then ((fX4_blame 1 u).bind fun q6 => (some (q6.1, q6.2))) else (if s0 < 71 then (some (true, si u 184 6 (s0 - 65))) else ((fX4_blame 1 u).bind fun q9 => (some (q9.1, q9.2)))))
def fX4_atKind_J36 (u : Mem) : Option (Bool × Mem) := fX4_atKind_J37 0 u
def fX4_atKind (u : Mem) : Option (Bool × Mem) := (if (u.1 184 3) = 1 then (if ((u.1 184 5) - (u.1 184 4)) = 1 then (if inB (u.1 184 4) 400 then fX4_atKind_J37 (u.1 183 (u.1 184 4).toNatClampNeg) u else none) else fX4_atKind_J36 u) else fX4_atKind_J36 u)
set_option maxHeartbeats 4000000 in
set_option maxRecDepth 100000 in
theorem kX4_atKind_J37 {l : Launch} {D : va_G} {cy : Nat → ClassId} {ad : Nat → Nat} {p : Program} {e : Env} {s : State} {m : MethodId} {args : Array Value} {below : List Frame} {meth : Method} {c : Code} (C : Cx nX D cy ad 2 cX4_atKind RX4 rX4_atKind p s m args c) (hr : meth.sig.returnType = some .boolean) (hlk : meth.locks = false) {out : (Bool × Mem)}  (s0 : Int32) (u : Mem)   (h : fX4_atKind_J37 s0 u = some out) : V shX nX D cy ad 2 p l e rX4_atKind s m args below meth c (MQ below (qI shX nX D cy ad (bz out.1) out.2) args s 0 0 (rA ad nX)) 37 [(0, .ref (ad 184))] [.int s0] u := by
  unfold fX4_atKind_J37 at h
  refine v_istore_n C [(1, .int s0), (0, .ref (ad 184))] dX4_atKind_37 rfl (by decide) rfl ?_
  refine v_iload_n C 0 dX4_atKind_38 rfl rfl ?_
  refine v_bipush C (v := 65) dX4_atKind_39 (by decide) ?_
  refine v_icmp_lt C 50 dX4_atKind_41 (by decide) h (fun h => ?_) (fun h => ?_)
  · refine v_aload_n C 1 dX4_atKind_50 rfl rfl ?_
    refine v_iconst C (v := 1) dX4_atKind_51 (by decide) ?_
    obtain ⟨q6, hc5, h⟩ := bnd h
    refine v_callVi C [.int 1] (cX4_blame_ct l D cy ad 1 u q6 hc5) ml_X4_56 pX_184 ⟨Nat.le_of_ble_eq_true rfl, Nat.le_of_ble_eq_true rfl⟩ ⟨rfl, rfl⟩ rfl rfl (Nat.le_of_ble_eq_true rfl) dX4_atKind_52 ?_
    cases h
    exact v_zret C hr hlk dX4_atKind_55
  · refine v_iload_n C 0 dX4_atKind_44 rfl rfl ?_
    refine v_bipush C (v := 71) dX4_atKind_45 (by decide) ?_
    refine v_icmp_lt C 56 dX4_atKind_47 (by decide) h (fun h => ?_) (fun h => ?_)
    · refine v_aload_n C 1 dX4_atKind_56 rfl rfl ?_
      refine v_iload_n C 0 dX4_atKind_57 rfl rfl ?_
      refine v_bipush C (v := 65) dX4_atKind_58 (by decide) ?_
      refine v_isub C dX4_atKind_60 ?_
      refine v_puti C pX_184 fp_X4_82 rfl rfl rfl dX4_atKind_61 ?_
      refine v_iconst C (v := 1) dX4_atKind_64 (by decide) ?_
      cases h
      exact v_zret (b := true) C hr hlk dX4_atKind_65
    · refine v_aload_n C 1 dX4_atKind_50 rfl rfl ?_
      refine v_iconst C (v := 1) dX4_atKind_51 (by decide) ?_
      obtain ⟨q9, hc8, h⟩ := bnd h
      refine v_callVi C [.int 1] (cX4_blame_ct l D cy ad 1 u q9 hc8) ml_X4_56 pX_184 ⟨Nat.le_of_ble_eq_true rfl, Nat.le_of_ble_eq_true rfl⟩ ⟨rfl, rfl⟩ rfl rfl (Nat.le_of_ble_eq_true rfl) dX4_atKind_52 ?_
      cases h
      exact v_zret C hr hlk dX4_atKind_55
set_option maxHeartbeats 4000000 in
set_option maxRecDepth 100000 in
theorem kX4_atKind_J36 {l : Launch} {D : va_G} {cy : Nat → ClassId} {ad : Nat → Nat} {p : Program} {e : Env} {s : State} {m : MethodId} {args : Array Value} {below : List Frame} {meth : Method} {c : Code} (C : Cx nX D cy ad 2 cX4_atKind RX4 rX4_atKind p s m args c) (hr : meth.sig.returnType = some .boolean) (hlk : meth.locks = false) {out : (Bool × Mem)}  (u : Mem)   (h : fX4_atKind_J36 u = some out) : V shX nX D cy ad 2 p l e rX4_atKind s m args below meth c (MQ below (qI shX nX D cy ad (bz out.1) out.2) args s 0 0 (rA ad nX)) 36 [(0, .ref (ad 184))] [] u := by
  unfold fX4_atKind_J36 at h
  refine v_iconst C (v := 0) dX4_atKind_36 (by decide) ?_
  exact kX4_atKind_J37 C hr hlk 0 u h
set_option maxHeartbeats 4000000 in
set_option maxRecDepth 100000 in
theorem cX4_atKind_ct (l : Launch) (D : va_G) (cy : Nat → ClassId) (ad : Nat → Nat) (u : Mem)  (out : (Bool × Mem)) (h : fX4_atKind u = some out) : Met l yX4_atKind (.code yX4_atKind cX4_atKind 2 (some .boolean) :: gw) rX4_atKind (va_Pc [.ref (ad 184)] (wv shX nX D cy ad u)) (qI shX nX D cy ad (bz out.1) out.2) 0 0 (rA ad nX) := by
  refine met_of (cc := cX4_atKind) (nL := 2) (by decide) (Nat.le_of_ble_eq_true rfl) (fun p e s m below meth c C hr hlk => ?_)
  unfold fX4_atKind at h
  show V shX nX D cy ad 2 p l e rX4_atKind s m _ below meth c (MQ below (qI shX nX D cy ad (bz out.1) out.2) _ s 0 0 (rA ad nX)) 0 [(0, .ref (ad 184))] [] u
  refine v_aload_n C 0 dX4_atKind_0 rfl rfl ?_
  refine v_geti C pX_184 fd_X4_46 rfl dX4_atKind_1 ?_
  refine v_iconst C (v := 1) dX4_atKind_4 (by decide) ?_
  refine v_icmp_ne C 36 dX4_atKind_5 (by decide) h (fun h => ?_) (fun h => ?_)
  · refine v_aload_n C 0 dX4_atKind_8 rfl rfl ?_
    refine v_geti C pX_184 fd_X4_40 rfl dX4_atKind_9 ?_
    refine v_aload_n C 0 dX4_atKind_12 rfl rfl ?_
    refine v_geti C pX_184 fd_X4_135 rfl dX4_atKind_13 ?_
    refine v_isub C dX4_atKind_16 ?_
    refine v_iconst C (v := 1) dX4_atKind_17 (by decide) ?_
    refine v_icmp_ne C 36 dX4_atKind_18 (by decide) h (fun h => ?_) (fun h => ?_)
    · refine v_aload_n C 0 dX4_atKind_21 rfl rfl ?_
      refine v_getr C pX_184 fd_X4_15 rfl dX4_atKind_22 ?_
      refine v_getr C pX_182 fd_X4_138 rfl dX4_atKind_25 ?_
      refine v_aload_n C 0 dX4_atKind_28 rfl rfl ?_
      refine v_geti C pX_184 fd_X4_135 rfl dX4_atKind_29 ?_
      refine v_iald C pX_183 dX4_atKind_32 h (fun h => ?_)
      refine v_goto C 37 dX4_atKind_33 (by decide) ?_
      exact kX4_atKind_J37 C hr hlk (u.1 183 (u.1 184 4).toNatClampNeg) u h
    · exact kX4_atKind_J36 C hr hlk u h
  · exact kX4_atKind_J36 C hr hlk u h
def rX4_once : Room := { frames := 1, cells := 0, slots := 0, locals := 21 }
def fX4_once (a1 : Int32) (u : Mem) : Option (Bool × Mem) := (if inB a1 18 then (if (u.1 185 a1.toNatClampNeg) = 0 then (if inB a1 18 then (some (true, si u 185 a1.toNatClampNeg 1)) else none) else ((fX4_blame 4 u).bind fun q3 => (some (q3.1, q3.2)))) else none)
set_option maxHeartbeats 4000000 in
set_option maxRecDepth 100000 in
theorem cX4_once_ct (l : Launch) (D : va_G) (cy : Nat → ClassId) (ad : Nat → Nat) (a1 : Int32) (u : Mem)  (out : (Bool × Mem)) (h : fX4_once a1 u = some out) : Met l yX4_once (.code yX4_once cX4_once 2 (some .boolean) :: gw) rX4_once (va_Pc [.ref (ad 184), .int a1] (wv shX nX D cy ad u)) (qI shX nX D cy ad (bz out.1) out.2) 0 0 (rA ad nX) := by
  refine met_of (cc := cX4_once) (nL := 2) (by decide) (Nat.le_of_ble_eq_true rfl) (fun p e s m below meth c C hr hlk => ?_)
  unfold fX4_once at h
  show V shX nX D cy ad 2 p l e rX4_once s m _ below meth c (MQ below (qI shX nX D cy ad (bz out.1) out.2) _ s 0 0 (rA ad nX)) 0 [(0, .ref (ad 184)), (1, .int a1)] [] u
  refine v_aload_n C 0 dX4_once_0 rfl rfl ?_
  refine v_getr C pX_184 fd_X4_11 rfl dX4_once_1 ?_
  refine v_iload_n C 1 dX4_once_4 rfl rfl ?_
  refine v_zald C pX_185 dX4_once_5 h (fun h => ?_)
  refine v_if_eq C 15 dX4_once_6 (by decide) h (fun h => ?_) (fun h => ?_)
  · refine v_aload_n C 0 dX4_once_15 rfl rfl ?_
    refine v_getr C pX_184 fd_X4_11 rfl dX4_once_16 ?_
    refine v_iload_n C 1 dX4_once_19 rfl rfl ?_
    refine v_iconst C (v := 1) dX4_once_20 (by decide) ?_
    refine v_zast C pX_185 (by decide) dX4_once_21 h (fun h => ?_)
    refine v_iconst C (v := 1) dX4_once_22 (by decide) ?_
    cases h
    exact v_zret (b := true) C hr hlk dX4_once_23
  · refine v_aload_n C 0 dX4_once_9 rfl rfl ?_
    refine v_iconst C (v := 4) dX4_once_10 (by decide) ?_
    obtain ⟨q3, hc2, h⟩ := bnd h
    refine v_callVi C [.int 4] (cX4_blame_ct l D cy ad 4 u q3 hc2) ml_X4_56 pX_184 ⟨Nat.le_of_ble_eq_true rfl, Nat.le_of_ble_eq_true rfl⟩ ⟨rfl, rfl⟩ rfl rfl (Nat.le_of_ble_eq_true rfl) dX4_once_11 ?_
    cases h
    exact v_zret C hr hlk dX4_once_14
def rX4_atNumber : Room := { frames := 1, cells := 0, slots := 0, locals := 21 }
def fX4_atNumber (a1 : Int32) (a2 : Int32) (u : Mem) : Option (Bool × Mem) := (if (u.1 184 3) = 2 then (if (u.1 184 6) < a1 then ((fX4_blame 2 u).bind fun q5 => (some ((if q5.1 = true then true else false), q5.2))) else (if (u.1 184 6) ≤ a2 then (some (true, u)) else ((fX4_blame 2 u).bind fun q9 => (some ((if q9.1 = true then true else false), q9.2))))) else ((fX4_blame 1 u).bind fun q12 => (some (q12.1, q12.2))))
set_option maxHeartbeats 4000000 in
set_option maxRecDepth 100000 in
theorem cX4_atNumber_ct (l : Launch) (D : va_G) (cy : Nat → ClassId) (ad : Nat → Nat) (a1 : Int32) (a2 : Int32) (u : Mem)  (out : (Bool × Mem)) (h : fX4_atNumber a1 a2 u = some out) : Met l yX4_atNumber (.code yX4_atNumber cX4_atNumber 3 (some .boolean) :: gw) rX4_atNumber (va_Pc [.ref (ad 184), .int a1, .int a2] (wv shX nX D cy ad u)) (qI shX nX D cy ad (bz out.1) out.2) 0 0 (rA ad nX) := by
  refine met_of (cc := cX4_atNumber) (nL := 3) (by decide) (Nat.le_of_ble_eq_true rfl) (fun p e s m below meth c C hr hlk => ?_)
  unfold fX4_atNumber at h
  show V shX nX D cy ad 3 p l e rX4_atNumber s m _ below meth c (MQ below (qI shX nX D cy ad (bz out.1) out.2) _ s 0 0 (rA ad nX)) 0 [(0, .ref (ad 184)), (1, .int a1), (2, .int a2)] [] u
  refine v_aload_n C 0 dX4_atNumber_0 rfl rfl ?_
  refine v_geti C pX_184 fd_X4_46 rfl dX4_atNumber_1 ?_
  refine v_iconst C (v := 2) dX4_atNumber_4 (by decide) ?_
  refine v_icmp_eq C 14 dX4_atNumber_5 (by decide) h (fun h => ?_) (fun h => ?_)
  · refine v_aload_n C 0 dX4_atNumber_14 rfl rfl ?_
    refine v_geti C pX_184 fd_X4_82 rfl dX4_atNumber_15 ?_
    refine v_iload_n C 1 dX4_atNumber_18 rfl rfl ?_
    refine v_icmp_lt C 30 dX4_atNumber_19 (by decide) h (fun h => ?_) (fun h => ?_)
    · refine v_aload_n C 0 dX4_atNumber_30 rfl rfl ?_
      refine v_iconst C (v := 2) dX4_atNumber_31 (by decide) ?_
      obtain ⟨q5, hc4, h⟩ := bnd h
      refine v_callVi C [.int 2] (cX4_blame_ct l D cy ad 2 u q5 hc4) ml_X4_56 pX_184 ⟨Nat.le_of_ble_eq_true rfl, Nat.le_of_ble_eq_true rfl⟩ ⟨rfl, rfl⟩ rfl rfl (Nat.le_of_ble_eq_true rfl) dX4_atNumber_32 ?_
      refine v_dia 43 (.int (bz (if q5.1 = true then true else false))) [] ?_ (fun hj => ?_)
      · cases h
        exact v_zret (b := (if q5.1 = true then true else false)) C hr hlk dX4_atNumber_43
      · refine p_z_eq C 42 dX4_atNumber_35 (by decide) (fun z6 => ?_) (fun z6 => ?_)
        · refine v_iconst C (v := 1) dX4_atNumber_38 (by decide) ?_
          refine v_goto C 43 dX4_atNumber_39 (by decide) ?_
          exact v_top (by rw [if_pos z6]; first | done | rfl) hj
        · refine v_iconst C (v := 0) dX4_atNumber_42 (by decide) ?_
          exact v_top (by rw [if_neg z6]; first | done | rfl) hj
    · refine v_aload_n C 0 dX4_atNumber_22 rfl rfl ?_
      refine v_geti C pX_184 fd_X4_82 rfl dX4_atNumber_23 ?_
      refine v_iload_n C 2 dX4_atNumber_26 rfl rfl ?_
      refine v_icmp_le C 38 dX4_atNumber_27 (by decide) h (fun h => ?_) (fun h => ?_)
      · refine v_iconst C (v := 1) dX4_atNumber_38 (by decide) ?_
        refine v_goto C 43 dX4_atNumber_39 (by decide) ?_
        cases h
        exact v_zret (b := true) C hr hlk dX4_atNumber_43
      · refine v_aload_n C 0 dX4_atNumber_30 rfl rfl ?_
        refine v_iconst C (v := 2) dX4_atNumber_31 (by decide) ?_
        obtain ⟨q9, hc8, h⟩ := bnd h
        refine v_callVi C [.int 2] (cX4_blame_ct l D cy ad 2 u q9 hc8) ml_X4_56 pX_184 ⟨Nat.le_of_ble_eq_true rfl, Nat.le_of_ble_eq_true rfl⟩ ⟨rfl, rfl⟩ rfl rfl (Nat.le_of_ble_eq_true rfl) dX4_atNumber_32 ?_
        refine v_dia 43 (.int (bz (if q9.1 = true then true else false))) [] ?_ (fun hj => ?_)
        · cases h
          exact v_zret (b := (if q9.1 = true then true else false)) C hr hlk dX4_atNumber_43
        · refine p_z_eq C 42 dX4_atNumber_35 (by decide) (fun z10 => ?_) (fun z10 => ?_)
          · refine v_iconst C (v := 1) dX4_atNumber_38 (by decide) ?_
            refine v_goto C 43 dX4_atNumber_39 (by decide) ?_
            exact v_top (by rw [if_pos z10]; first | done | rfl) hj
          · refine v_iconst C (v := 0) dX4_atNumber_42 (by decide) ?_
            exact v_top (by rw [if_neg z10]; first | done | rfl) hj
  · refine v_aload_n C 0 dX4_atNumber_8 rfl rfl ?_
    refine v_iconst C (v := 1) dX4_atNumber_9 (by decide) ?_
    obtain ⟨q12, hc11, h⟩ := bnd h
    refine v_callVi C [.int 1] (cX4_blame_ct l D cy ad 1 u q12 hc11) ml_X4_56 pX_184 ⟨Nat.le_of_ble_eq_true rfl, Nat.le_of_ble_eq_true rfl⟩ ⟨rfl, rfl⟩ rfl rfl (Nat.le_of_ble_eq_true rfl) dX4_atNumber_10 ?_
    cases h
    exact v_zret C hr hlk dX4_atNumber_13
def rX4_takeNumber : Room := { frames := 2, cells := 0, slots := 0, locals := 44 }
def fX4_takeNumber (a1 : Int32) (a2 : Int32) (u : Mem) : Option (Bool × Mem) := ((fX4_atNumber a1 a2 u).bind fun q2 => (if q2.1 = true then ((fX4_next (si q2.2 184 7 (q2.2.1 184 6))).bind fun u5 => (some (true, u5))) else (some (false, q2.2))))
set_option maxHeartbeats 4000000 in
set_option maxRecDepth 100000 in
theorem cX4_takeNumber_ct (l : Launch) (D : va_G) (cy : Nat → ClassId) (ad : Nat → Nat) (a1 : Int32) (a2 : Int32) (u : Mem)  (out : (Bool × Mem)) (h : fX4_takeNumber a1 a2 u = some out) : Met l yX4_takeNumber (.code yX4_takeNumber cX4_takeNumber 3 (some .boolean) :: gw) rX4_takeNumber (va_Pc [.ref (ad 184), .int a1, .int a2] (wv shX nX D cy ad u)) (qI shX nX D cy ad (bz out.1) out.2) 0 0 (rA ad nX) := by
  refine met_of (cc := cX4_takeNumber) (nL := 3) (by decide) (Nat.le_of_ble_eq_true rfl) (fun p e s m below meth c C hr hlk => ?_)
  unfold fX4_takeNumber at h
  show V shX nX D cy ad 3 p l e rX4_takeNumber s m _ below meth c (MQ below (qI shX nX D cy ad (bz out.1) out.2) _ s 0 0 (rA ad nX)) 0 [(0, .ref (ad 184)), (1, .int a1), (2, .int a2)] [] u
  refine v_aload_n C 0 dX4_takeNumber_0 rfl rfl ?_
  refine v_iload_n C 1 dX4_takeNumber_1 rfl rfl ?_
  refine v_iload_n C 2 dX4_takeNumber_2 rfl rfl ?_
  obtain ⟨q2, hc1, h⟩ := bnd h
  refine v_callVi C [.int a1, .int a2] (cX4_atNumber_ct l D cy ad a1 a2 u q2 hc1) ml_X4_112 pX_184 ⟨Nat.le_of_ble_eq_true rfl, Nat.le_of_ble_eq_true rfl⟩ ⟨rfl, rfl⟩ rfl rfl (Nat.le_of_ble_eq_true rfl) dX4_takeNumber_3 ?_
  refine v_z_ne C 11 dX4_takeNumber_6 (by decide) h (fun h => ?_) (fun h => ?_)
  · refine v_aload_n C 0 dX4_takeNumber_11 rfl rfl ?_
    refine v_aload_n C 0 dX4_takeNumber_12 rfl rfl ?_
    refine v_geti C pX_184 fd_X4_82 rfl dX4_takeNumber_13 ?_
    refine v_puti C pX_184 fp_X4_106 rfl rfl rfl dX4_takeNumber_16 ?_
    refine v_aload_n C 0 dX4_takeNumber_19 rfl rfl ?_
    obtain ⟨u5, hc4, h⟩ := bnd h
    refine v_callVv C [] (cX4_next_ct l D cy ad (si q2.2 184 7 (q2.2.1 184 6)) u5 hc4) ml_X4_43 pX_184 ⟨Nat.le_of_ble_eq_true rfl, Nat.le_of_ble_eq_true rfl⟩ ⟨rfl, rfl⟩ rfl rfl (Nat.le_of_ble_eq_true rfl) dX4_takeNumber_20 ?_
    refine v_iconst C (v := 1) dX4_takeNumber_23 (by decide) ?_
    cases h
    exact v_zret (b := true) C hr hlk dX4_takeNumber_24
  · refine v_iconst C (v := 0) dX4_takeNumber_9 (by decide) ?_
    cases h
    exact v_zret (b := false) C hr hlk dX4_takeNumber_10
def rX4_takeSign : Room := { frames := 2, cells := 0, slots := 0, locals := 44 }
def fX4_takeSign (a1 : Int32) (u : Mem) : Option (Bool × Mem) := (if (u.1 184 3) = a1 then ((fX4_next u).bind fun u3 => (some (true, u3))) else ((fX4_blame 1 u).bind fun q5 => (some (q5.1, q5.2))))
set_option maxHeartbeats 4000000 in
set_option maxRecDepth 100000 in
theorem cX4_takeSign_ct (l : Launch) (D : va_G) (cy : Nat → ClassId) (ad : Nat → Nat) (a1 : Int32) (u : Mem)  (out : (Bool × Mem)) (h : fX4_takeSign a1 u = some out) : Met l yX4_takeSign (.code yX4_takeSign cX4_takeSign 2 (some .boolean) :: gw) rX4_takeSign (va_Pc [.ref (ad 184), .int a1] (wv shX nX D cy ad u)) (qI shX nX D cy ad (bz out.1) out.2) 0 0 (rA ad nX) := by
  refine met_of (cc := cX4_takeSign) (nL := 2) (by decide) (Nat.le_of_ble_eq_true rfl) (fun p e s m below meth c C hr hlk => ?_)
  unfold fX4_takeSign at h
  show V shX nX D cy ad 2 p l e rX4_takeSign s m _ below meth c (MQ below (qI shX nX D cy ad (bz out.1) out.2) _ s 0 0 (rA ad nX)) 0 [(0, .ref (ad 184)), (1, .int a1)] [] u
  refine v_aload_n C 0 dX4_takeSign_0 rfl rfl ?_
  refine v_geti C pX_184 fd_X4_46 rfl dX4_takeSign_1 ?_
  refine v_iload_n C 1 dX4_takeSign_4 rfl rfl ?_
  refine v_icmp_eq C 14 dX4_takeSign_5 (by decide) h (fun h => ?_) (fun h => ?_)
  · refine v_aload_n C 0 dX4_takeSign_14 rfl rfl ?_
    obtain ⟨u3, hc2, h⟩ := bnd h
    refine v_callVv C [] (cX4_next_ct l D cy ad u u3 hc2) ml_X4_43 pX_184 ⟨Nat.le_of_ble_eq_true rfl, Nat.le_of_ble_eq_true rfl⟩ ⟨rfl, rfl⟩ rfl rfl (Nat.le_of_ble_eq_true rfl) dX4_takeSign_15 ?_
    refine v_iconst C (v := 1) dX4_takeSign_18 (by decide) ?_
    cases h
    exact v_zret (b := true) C hr hlk dX4_takeSign_19
  · refine v_aload_n C 0 dX4_takeSign_8 rfl rfl ?_
    refine v_iconst C (v := 1) dX4_takeSign_9 (by decide) ?_
    obtain ⟨q5, hc4, h⟩ := bnd h
    refine v_callVi C [.int 1] (cX4_blame_ct l D cy ad 1 u q5 hc4) ml_X4_56 pX_184 ⟨Nat.le_of_ble_eq_true rfl, Nat.le_of_ble_eq_true rfl⟩ ⟨rfl, rfl⟩ rfl rfl (Nat.le_of_ble_eq_true rfl) dX4_takeSign_10 ?_
    cases h
    exact v_zret C hr hlk dX4_takeSign_13
def rX4_kindClause : Room := { frames := 3, cells := 0, slots := 0, locals := 66 }
def fX4_kindClause (u : Mem) : Option (Bool × Mem) := ((fX4_next u).bind fun u2 => ((fX4_atKind u2).bind fun q4 => (if q4.1 = true then ((fX4_once (q4.2.1 184 6) q4.2).bind fun q7 => (if q7.1 = true then ((fX4_next q7.2).bind fun u10 => ((fX4_takeNumber 1 99 u10).bind fun q12 => (if q12.1 = true then (if (q12.2.1 184 2).toNatClampNeg < 32 then (if inB (q7.2.1 184 6) 6 then ((some (si q12.2 (5 * ((q12.2.1 184 2).toNatClampNeg) + 1) (q7.2.1 184 6).toNatClampNeg (q12.2.1 184 7))).bind fun u15 => ((fX4_takeSign 59 u15).bind fun q17 => (some (q17.1, q17.2)))) else none) else none) else (some (false, q12.2))))) else (some (false, q7.2)))) else (some (false, q4.2)))))
set_option maxHeartbeats 4000000 in
set_option maxRecDepth 100000 in
theorem cX4_kindClause_ct (l : Launch) (D : va_G) (cy : Nat → ClassId) (ad : Nat → Nat) (u : Mem)  (out : (Bool × Mem)) (h : fX4_kindClause u = some out) : Met l yX4_kindClause (.code yX4_kindClause cX4_kindClause 2 (some .boolean) :: gw) rX4_kindClause (va_Pc [.ref (ad 184)] (wv shX nX D cy ad u)) (qI shX nX D cy ad (bz out.1) out.2) 0 0 (rA ad nX) := by
  refine met_of (cc := cX4_kindClause) (nL := 2) (by decide) (Nat.le_of_ble_eq_true rfl) (fun p e s m below meth c C hr hlk => ?_)
  unfold fX4_kindClause at h
  show V shX nX D cy ad 2 p l e rX4_kindClause s m _ below meth c (MQ below (qI shX nX D cy ad (bz out.1) out.2) _ s 0 0 (rA ad nX)) 0 [(0, .ref (ad 184))] [] u
  refine v_aload_n C 0 dX4_kindClause_0 rfl rfl ?_
  obtain ⟨u2, hc1, h⟩ := bnd h
  refine v_callVv C [] (cX4_next_ct l D cy ad u u2 hc1) ml_X4_43 pX_184 ⟨Nat.le_of_ble_eq_true rfl, Nat.le_of_ble_eq_true rfl⟩ ⟨rfl, rfl⟩ rfl rfl (Nat.le_of_ble_eq_true rfl) dX4_kindClause_1 ?_
  refine v_aload_n C 0 dX4_kindClause_4 rfl rfl ?_
  obtain ⟨q4, hc3, h⟩ := bnd h
  refine v_callVi C [] (cX4_atKind_ct l D cy ad u2 q4 hc3) ml_X4_95 pX_184 ⟨Nat.le_of_ble_eq_true rfl, Nat.le_of_ble_eq_true rfl⟩ ⟨rfl, rfl⟩ rfl rfl (Nat.le_of_ble_eq_true rfl) dX4_kindClause_5 ?_
  refine v_z_eq C 22 dX4_kindClause_8 (by decide) h (fun h => ?_) (fun h => ?_)
  · refine v_aload_n C 0 dX4_kindClause_11 rfl rfl ?_
    refine v_aload_n C 0 dX4_kindClause_12 rfl rfl ?_
    refine v_geti C pX_184 fd_X4_82 rfl dX4_kindClause_13 ?_
    obtain ⟨q7, hc6, h⟩ := bnd h
    refine v_callVi C [.int (q4.2.1 184 6)] (cX4_once_ct l D cy ad (q4.2.1 184 6) q4.2 q7 hc6) ml_X4_90 pX_184 ⟨Nat.le_of_ble_eq_true rfl, Nat.le_of_ble_eq_true rfl⟩ ⟨rfl, rfl⟩ rfl rfl (Nat.le_of_ble_eq_true rfl) dX4_kindClause_16 ?_
    refine v_z_ne C 24 dX4_kindClause_19 (by decide) h (fun h => ?_) (fun h => ?_)
    · refine v_aload_n C 0 dX4_kindClause_24 rfl rfl ?_
      refine v_geti C pX_184 fd_X4_82 rfl dX4_kindClause_25 ?_
      refine v_istore_n C [(1, .int (q7.2.1 184 6)), (0, .ref (ad 184))] dX4_kindClause_28 rfl (by decide) rfl ?_
      refine v_aload_n C 1 dX4_kindClause_29 rfl rfl ?_
      obtain ⟨u10, hc9, h⟩ := bnd h
      refine v_callVv C [] (cX4_next_ct l D cy ad q7.2 u10 hc9) ml_X4_43 pX_184 ⟨Nat.le_of_ble_eq_true rfl, Nat.le_of_ble_eq_true rfl⟩ ⟨rfl, rfl⟩ rfl rfl (Nat.le_of_ble_eq_true rfl) dX4_kindClause_30 ?_
      refine v_aload_n C 1 dX4_kindClause_33 rfl rfl ?_
      refine v_iconst C (v := 1) dX4_kindClause_34 (by decide) ?_
      refine v_bipush C (v := 99) dX4_kindClause_35 (by decide) ?_
      obtain ⟨q12, hc11, h⟩ := bnd h
      refine v_callVi C [.int 1, .int 99] (cX4_takeNumber_ct l D cy ad 1 99 u10 q12 hc11) ml_X4_98 pX_184 ⟨Nat.le_of_ble_eq_true rfl, Nat.le_of_ble_eq_true rfl⟩ ⟨rfl, rfl⟩ rfl rfl (Nat.le_of_ble_eq_true rfl) dX4_kindClause_37 ?_
      refine v_z_ne C 45 dX4_kindClause_40 (by decide) h (fun h => ?_) (fun h => ?_)
      · refine v_aload_n C 1 dX4_kindClause_45 rfl rfl ?_
        refine v_getq C pX_184 fd_X4_22 rfl dX4_kindClause_46 ?_
        obtain ⟨hq14, h⟩ := chk h
        refine v_getr C (pL_0 ((q12.2.1 184 2).toNatClampNeg) hq14) fd_X4_102 rfl dX4_kindClause_49 ?_
        refine v_iload_n C 0 dX4_kindClause_52 rfl rfl ?_
        refine v_aload_n C 1 dX4_kindClause_53 rfl rfl ?_
        refine v_geti C pX_184 fd_X4_106 rfl dX4_kindClause_54 ?_
        refine v_iast C (pL_1 ((q12.2.1 184 2).toNatClampNeg) hq14) dX4_kindClause_57 h (fun h => ?_)
        refine v_mem (fun u15 hu15 => ?_)
        have h := nmd hu15 h
        refine v_aload_n C 1 dX4_kindClause_58 rfl rfl ?_
        refine v_bipush C (v := 59) dX4_kindClause_59 (by decide) ?_
        obtain ⟨q17, hc16, h⟩ := bnd h
        refine v_callVi C [.int 59] (cX4_takeSign_ct l D cy ad 59 u15 q17 hc16) ml_X4_109 pX_184 ⟨Nat.le_of_ble_eq_true rfl, Nat.le_of_ble_eq_true rfl⟩ ⟨rfl, rfl⟩ rfl rfl (Nat.le_of_ble_eq_true rfl) dX4_kindClause_61 ?_
        cases h
        exact v_zret C hr hlk dX4_kindClause_64
      · refine v_iconst C (v := 0) dX4_kindClause_43 (by decide) ?_
        cases h
        exact v_zret (b := false) C hr hlk dX4_kindClause_44
    · refine v_iconst C (v := 0) dX4_kindClause_22 (by decide) ?_
      cases h
      exact v_zret (b := false) C hr hlk dX4_kindClause_23
  · refine v_iconst C (v := 0) dX4_kindClause_22 (by decide) ?_
    cases h
    exact v_zret (b := false) C hr hlk dX4_kindClause_23
def rX4_takeKind : Room := { frames := 2, cells := 0, slots := 0, locals := 44 }
def fX4_takeKind (a1 : Int32) (u : Mem) : Option (Bool × Mem) := ((fX4_atKind u).bind fun q2 => (if q2.1 = true then (if (q2.2.1 184 6) = a1 then ((fX4_blame 3 q2.2).bind fun q7 => (some (q7.1, q7.2))) else ((fX4_next (si q2.2 184 7 (q2.2.1 184 6))).bind fun u9 => (some (true, u9)))) else (some (false, q2.2))))
set_option maxHeartbeats 4000000 in
set_option maxRecDepth 100000 in
theorem cX4_takeKind_ct (l : Launch) (D : va_G) (cy : Nat → ClassId) (ad : Nat → Nat) (a1 : Int32) (u : Mem)  (out : (Bool × Mem)) (h : fX4_takeKind a1 u = some out) : Met l yX4_takeKind (.code yX4_takeKind cX4_takeKind 2 (some .boolean) :: gw) rX4_takeKind (va_Pc [.ref (ad 184), .int a1] (wv shX nX D cy ad u)) (qI shX nX D cy ad (bz out.1) out.2) 0 0 (rA ad nX) := by
  refine met_of (cc := cX4_takeKind) (nL := 2) (by decide) (Nat.le_of_ble_eq_true rfl) (fun p e s m below meth c C hr hlk => ?_)
  unfold fX4_takeKind at h
  show V shX nX D cy ad 2 p l e rX4_takeKind s m _ below meth c (MQ below (qI shX nX D cy ad (bz out.1) out.2) _ s 0 0 (rA ad nX)) 0 [(0, .ref (ad 184)), (1, .int a1)] [] u
  refine v_aload_n C 0 dX4_takeKind_0 rfl rfl ?_
  obtain ⟨q2, hc1, h⟩ := bnd h
  refine v_callVi C [] (cX4_atKind_ct l D cy ad u q2 hc1) ml_X4_95 pX_184 ⟨Nat.le_of_ble_eq_true rfl, Nat.le_of_ble_eq_true rfl⟩ ⟨rfl, rfl⟩ rfl rfl (Nat.le_of_ble_eq_true rfl) dX4_takeKind_1 ?_
  refine v_z_ne C 9 dX4_takeKind_4 (by decide) h (fun h => ?_) (fun h => ?_)
  · refine v_aload_n C 0 dX4_takeKind_9 rfl rfl ?_
    refine v_geti C pX_184 fd_X4_82 rfl dX4_takeKind_10 ?_
    refine v_iload_n C 1 dX4_takeKind_13 rfl rfl ?_
    refine v_icmp_ne C 23 dX4_takeKind_14 (by decide) h (fun h => ?_) (fun h => ?_)
    · refine v_aload_n C 0 dX4_takeKind_17 rfl rfl ?_
      refine v_iconst C (v := 3) dX4_takeKind_18 (by decide) ?_
      obtain ⟨q7, hc6, h⟩ := bnd h
      refine v_callVi C [.int 3] (cX4_blame_ct l D cy ad 3 q2.2 q7 hc6) ml_X4_56 pX_184 ⟨Nat.le_of_ble_eq_true rfl, Nat.le_of_ble_eq_true rfl⟩ ⟨rfl, rfl⟩ rfl rfl (Nat.le_of_ble_eq_true rfl) dX4_takeKind_19 ?_
      cases h
      exact v_zret C hr hlk dX4_takeKind_22
    · refine v_aload_n C 0 dX4_takeKind_23 rfl rfl ?_
      refine v_aload_n C 0 dX4_takeKind_24 rfl rfl ?_
      refine v_geti C pX_184 fd_X4_82 rfl dX4_takeKind_25 ?_
      refine v_puti C pX_184 fp_X4_106 rfl rfl rfl dX4_takeKind_28 ?_
      refine v_aload_n C 0 dX4_takeKind_31 rfl rfl ?_
      obtain ⟨u9, hc8, h⟩ := bnd h
      refine v_callVv C [] (cX4_next_ct l D cy ad (si q2.2 184 7 (q2.2.1 184 6)) u9 hc8) ml_X4_43 pX_184 ⟨Nat.le_of_ble_eq_true rfl, Nat.le_of_ble_eq_true rfl⟩ ⟨rfl, rfl⟩ rfl rfl (Nat.le_of_ble_eq_true rfl) dX4_takeKind_32 ?_
      refine v_iconst C (v := 1) dX4_takeKind_35 (by decide) ?_
      cases h
      exact v_zret (b := true) C hr hlk dX4_takeKind_36
  · refine v_iconst C (v := 0) dX4_takeKind_7 (by decide) ?_
    cases h
    exact v_zret (b := false) C hr hlk dX4_takeKind_8
def rX4_rateNumber : Room := { frames := 2, cells := 0, slots := 0, locals := 44 }
def fX4_rateNumber (u : Mem) : Option (Bool × Mem) := ((fX4_next u).bind fun u2 => ((fX4_atNumber 0 4 u2).bind fun q4 => (if q4.1 = true then ((fX4_once (13 + (q4.2.1 184 6)) q4.2).bind fun q7 => (some ((if q7.1 = true then true else false), q7.2))) else (some (false, q4.2)))))
set_option maxHeartbeats 4000000 in
set_option maxRecDepth 100000 in
theorem cX4_rateNumber_ct (l : Launch) (D : va_G) (cy : Nat → ClassId) (ad : Nat → Nat) (u : Mem)  (out : (Bool × Mem)) (h : fX4_rateNumber u = some out) : Met l yX4_rateNumber (.code yX4_rateNumber cX4_rateNumber 1 (some .boolean) :: gw) rX4_rateNumber (va_Pc [.ref (ad 184)] (wv shX nX D cy ad u)) (qI shX nX D cy ad (bz out.1) out.2) 0 0 (rA ad nX) := by
  refine met_of (cc := cX4_rateNumber) (nL := 1) (by decide) (Nat.le_of_ble_eq_true rfl) (fun p e s m below meth c C hr hlk => ?_)
  unfold fX4_rateNumber at h
  show V shX nX D cy ad 1 p l e rX4_rateNumber s m _ below meth c (MQ below (qI shX nX D cy ad (bz out.1) out.2) _ s 0 0 (rA ad nX)) 0 [(0, .ref (ad 184))] [] u
  refine v_aload_n C 0 dX4_rateNumber_0 rfl rfl ?_
  obtain ⟨u2, hc1, h⟩ := bnd h
  refine v_callVv C [] (cX4_next_ct l D cy ad u u2 hc1) ml_X4_43 pX_184 ⟨Nat.le_of_ble_eq_true rfl, Nat.le_of_ble_eq_true rfl⟩ ⟨rfl, rfl⟩ rfl rfl (Nat.le_of_ble_eq_true rfl) dX4_rateNumber_1 ?_
  refine v_aload_n C 0 dX4_rateNumber_4 rfl rfl ?_
  refine v_iconst C (v := 0) dX4_rateNumber_5 (by decide) ?_
  refine v_iconst C (v := 4) dX4_rateNumber_6 (by decide) ?_
  obtain ⟨q4, hc3, h⟩ := bnd h
  refine v_callVi C [.int 0, .int 4] (cX4_atNumber_ct l D cy ad 0 4 u2 q4 hc3) ml_X4_112 pX_184 ⟨Nat.le_of_ble_eq_true rfl, Nat.le_of_ble_eq_true rfl⟩ ⟨rfl, rfl⟩ rfl rfl (Nat.le_of_ble_eq_true rfl) dX4_rateNumber_7 ?_
  refine v_z_eq C 31 dX4_rateNumber_10 (by decide) h (fun h => ?_) (fun h => ?_)
  · refine v_aload_n C 0 dX4_rateNumber_13 rfl rfl ?_
    refine v_bipush C (v := 13) dX4_rateNumber_14 (by decide) ?_
    refine v_aload_n C 0 dX4_rateNumber_16 rfl rfl ?_
    refine v_geti C pX_184 fd_X4_82 rfl dX4_rateNumber_17 ?_
    refine v_iadd C dX4_rateNumber_20 ?_
    obtain ⟨q7, hc6, h⟩ := bnd h
    refine v_callVi C [.int (13 + (q4.2.1 184 6))] (cX4_once_ct l D cy ad (13 + (q4.2.1 184 6)) q4.2 q7 hc6) ml_X4_90 pX_184 ⟨Nat.le_of_ble_eq_true rfl, Nat.le_of_ble_eq_true rfl⟩ ⟨rfl, rfl⟩ rfl rfl (Nat.le_of_ble_eq_true rfl) dX4_rateNumber_21 ?_
    refine v_dia 32 (.int (bz (if q7.1 = true then true else false))) [] ?_ (fun hj => ?_)
    · cases h
      exact v_zret (b := (if q7.1 = true then true else false)) C hr hlk dX4_rateNumber_32
    · refine p_z_eq C 31 dX4_rateNumber_24 (by decide) (fun z8 => ?_) (fun z8 => ?_)
      · refine v_iconst C (v := 1) dX4_rateNumber_27 (by decide) ?_
        refine v_goto C 32 dX4_rateNumber_28 (by decide) ?_
        exact v_top (by rw [if_pos z8]; first | done | rfl) hj
      · refine v_iconst C (v := 0) dX4_rateNumber_31 (by decide) ?_
        exact v_top (by rw [if_neg z8]; first | done | rfl) hj
  · refine v_iconst C (v := 0) dX4_rateNumber_31 (by decide) ?_
    cases h
    exact v_zret (b := false) C hr hlk dX4_rateNumber_32
