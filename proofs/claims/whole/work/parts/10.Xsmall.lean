def rX11_cut : Room := { frames := 0, cells := 0, slots := 0, locals := 0 }
def fX11_cut (a0 : Int32) (a1 : Int32) : Option Int32 := (if a1 ≤ 0 then (some 0) else (if a1 = 0 then none else (some (a0 / a1))))
set_option maxHeartbeats 4000000 in
set_option maxRecDepth 100000 in
theorem cX11_cut_ct (l : Launch) (D : va_G) (cy : Nat → ClassId) (ad : Nat → Nat) (a0 : Int32) (a1 : Int32) (u : Mem)  (out : Int32) (h : fX11_cut a0 a1 = some out) : Met l yX11_cut (.code yX11_cut cX11_cut 2 (some .int) :: gw) rX11_cut (va_Pc [.int a0, .int a1] (wv shX nX D cy ad u)) (qI shX nX D cy ad out u) 0 0 (rA ad nX) := by
  refine met_of (cc := cX11_cut) (nL := 2) (by decide) (Nat.le_of_ble_eq_true rfl) (fun p e s m below meth c C hr hlk => ?_)
  unfold fX11_cut at h
  show V shX nX D cy ad 2 p l e rX11_cut s m _ below meth c (MQ below (qI shX nX D cy ad out u) _ s 0 0 (rA ad nX)) 0 [(0, .int a0), (1, .int a1)] [] u
  refine v_iload_n C 1 dX11_cut_0 rfl rfl ?_
  refine v_if_le C 10 dX11_cut_1 (by decide) h (fun h => ?_) (fun h => ?_)
  · refine v_iconst C (v := 0) dX11_cut_10 (by decide) ?_
    cases h
    exact v_iret C hr hlk dX11_cut_11
  · refine v_iload_n C 0 dX11_cut_4 rfl rfl ?_
    refine v_iload_n C 1 dX11_cut_5 rfl rfl ?_
    refine v_idiv C dX11_cut_6 h (fun h => ?_)
    refine v_goto C 11 dX11_cut_7 (by decide) ?_
    cases h
    exact v_iret C hr hlk dX11_cut_11
def rX11_isStar : Room := { frames := 0, cells := 0, slots := 0, locals := 0 }
def fX11_isStar (a0 : Int32) : Option Bool := (some (if a0 < 0 then false else (if 2 ≤ a0 then false else true)))
set_option maxHeartbeats 4000000 in
set_option maxRecDepth 100000 in
theorem cX11_isStar_ct (l : Launch) (D : va_G) (cy : Nat → ClassId) (ad : Nat → Nat) (a0 : Int32) (u : Mem)  (out : Bool) (h : fX11_isStar a0 = some out) : Met l yX11_isStar (.code yX11_isStar cX11_isStar 1 (some .boolean) :: gw) rX11_isStar (va_Pc [.int a0] (wv shX nX D cy ad u)) (qI shX nX D cy ad (bz out) u) 0 0 (rA ad nX) := by
  refine met_of (cc := cX11_isStar) (nL := 1) (by decide) (Nat.le_of_ble_eq_true rfl) (fun p e s m below meth c C hr hlk => ?_)
  unfold fX11_isStar at h
  show V shX nX D cy ad 1 p l e rX11_isStar s m _ below meth c (MQ below (qI shX nX D cy ad (bz out) u) _ s 0 0 (rA ad nX)) 0 [(0, .int a0)] [] u
  refine v_iload_n C 0 dX11_isStar_0 rfl rfl ?_
  refine v_dia 14 (.int (bz (if a0 < 0 then false else (if 2 ≤ a0 then false else true)))) [] ?_ (fun hj => ?_)
  · cases h
    exact v_zret (b := (if a0 < 0 then false else (if 2 ≤ a0 then false else true))) C hr hlk dX11_isStar_14
  · refine p_if_lt C 13 dX11_isStar_1 (by decide) (fun z1 => ?_) (fun z1 => ?_)
    · refine v_iconst C (v := 0) dX11_isStar_13 (by decide) ?_
      exact v_top (by rw [if_pos z1]; first | done | rfl) hj
    · refine v_iload_n C 0 dX11_isStar_4 rfl rfl ?_
      refine v_iconst C (v := 2) dX11_isStar_5 (by decide) ?_
      refine p_icmp_ge C 13 dX11_isStar_6 (by decide) (fun z2 => ?_) (fun z2 => ?_)
      · refine v_iconst C (v := 0) dX11_isStar_13 (by decide) ?_
        exact v_top (by rw [if_neg z1, if_pos z2]; first | done | rfl) hj
      · refine v_iconst C (v := 1) dX11_isStar_9 (by decide) ?_
        refine v_goto C 14 dX11_isStar_10 (by decide) ?_
        exact v_top (by rw [if_neg z1, if_neg z2]; first | done | rfl) hj
def rX11_isKind : Room := { frames := 0, cells := 0, slots := 0, locals := 0 }
def fX11_isKind (a0 : Int32) : Option Bool := (some (if a0 < 0 then false else (if 6 ≤ a0 then false else true)))
set_option maxHeartbeats 4000000 in
set_option maxRecDepth 100000 in
theorem cX11_isKind_ct (l : Launch) (D : va_G) (cy : Nat → ClassId) (ad : Nat → Nat) (a0 : Int32) (u : Mem)  (out : Bool) (h : fX11_isKind a0 = some out) : Met l yX11_isKind (.code yX11_isKind cX11_isKind 1 (some .boolean) :: gw) rX11_isKind (va_Pc [.int a0] (wv shX nX D cy ad u)) (qI shX nX D cy ad (bz out) u) 0 0 (rA ad nX) := by
  refine met_of (cc := cX11_isKind) (nL := 1) (by decide) (Nat.le_of_ble_eq_true rfl) (fun p e s m below meth c C hr hlk => ?_)
  unfold fX11_isKind at h
  show V shX nX D cy ad 1 p l e rX11_isKind s m _ below meth c (MQ below (qI shX nX D cy ad (bz out) u) _ s 0 0 (rA ad nX)) 0 [(0, .int a0)] [] u
  refine v_iload_n C 0 dX11_isKind_0 rfl rfl ?_
  refine v_dia 15 (.int (bz (if a0 < 0 then false else (if 6 ≤ a0 then false else true)))) [] ?_ (fun hj => ?_)
  · cases h
    exact v_zret (b := (if a0 < 0 then false else (if 6 ≤ a0 then false else true))) C hr hlk dX11_isKind_15
  · refine p_if_lt C 14 dX11_isKind_1 (by decide) (fun z1 => ?_) (fun z1 => ?_)
    · refine v_iconst C (v := 0) dX11_isKind_14 (by decide) ?_
      exact v_top (by rw [if_pos z1]; first | done | rfl) hj
    · refine v_iload_n C 0 dX11_isKind_4 rfl rfl ?_
      refine v_bipush C (v := 6) dX11_isKind_5 (by decide) ?_
      refine p_icmp_ge C 14 dX11_isKind_7 (by decide) (fun z2 => ?_) (fun z2 => ?_)
      · refine v_iconst C (v := 0) dX11_isKind_14 (by decide) ?_
        exact v_top (by rw [if_neg z1, if_pos z2]; first | done | rfl) hj
      · refine v_iconst C (v := 1) dX11_isKind_10 (by decide) ?_
        refine v_goto C 15 dX11_isKind_11 (by decide) ?_
        exact v_top (by rw [if_neg z1, if_neg z2]; first | done | rfl) hj
def rX11_isChain : Room := { frames := 0, cells := 0, slots := 0, locals := 0 }
def fX11_isChain (a0 : Int32) : Option Bool := (some (if a0 < 0 then false else (if 5 ≤ a0 then false else true)))
set_option maxHeartbeats 4000000 in
set_option maxRecDepth 100000 in
theorem cX11_isChain_ct (l : Launch) (D : va_G) (cy : Nat → ClassId) (ad : Nat → Nat) (a0 : Int32) (u : Mem)  (out : Bool) (h : fX11_isChain a0 = some out) : Met l yX11_isChain (.code yX11_isChain cX11_isChain 1 (some .boolean) :: gw) rX11_isChain (va_Pc [.int a0] (wv shX nX D cy ad u)) (qI shX nX D cy ad (bz out) u) 0 0 (rA ad nX) := by
  refine met_of (cc := cX11_isChain) (nL := 1) (by decide) (Nat.le_of_ble_eq_true rfl) (fun p e s m below meth c C hr hlk => ?_)
  unfold fX11_isChain at h
  show V shX nX D cy ad 1 p l e rX11_isChain s m _ below meth c (MQ below (qI shX nX D cy ad (bz out) u) _ s 0 0 (rA ad nX)) 0 [(0, .int a0)] [] u
  refine v_iload_n C 0 dX11_isChain_0 rfl rfl ?_
  refine v_dia 14 (.int (bz (if a0 < 0 then false else (if 5 ≤ a0 then false else true)))) [] ?_ (fun hj => ?_)
  · cases h
    exact v_zret (b := (if a0 < 0 then false else (if 5 ≤ a0 then false else true))) C hr hlk dX11_isChain_14
  · refine p_if_lt C 13 dX11_isChain_1 (by decide) (fun z1 => ?_) (fun z1 => ?_)
    · refine v_iconst C (v := 0) dX11_isChain_13 (by decide) ?_
      exact v_top (by rw [if_pos z1]; first | done | rfl) hj
    · refine v_iload_n C 0 dX11_isChain_4 rfl rfl ?_
      refine v_iconst C (v := 5) dX11_isChain_5 (by decide) ?_
      refine p_icmp_ge C 13 dX11_isChain_6 (by decide) (fun z2 => ?_) (fun z2 => ?_)
      · refine v_iconst C (v := 0) dX11_isChain_13 (by decide) ?_
        exact v_top (by rw [if_neg z1, if_pos z2]; first | done | rfl) hj
      · refine v_iconst C (v := 1) dX11_isChain_9 (by decide) ?_
        refine v_goto C 14 dX11_isChain_10 (by decide) ?_
        exact v_top (by rw [if_neg z1, if_neg z2]; first | done | rfl) hj
def rX11_lawsNow : Room := { frames := 0, cells := 0, slots := 0, locals := 0 }
def fX11_lawsNow (u : Mem) : Option Nat := (if inB (u.1 (176 + 2 * 0) 2) 31 then (some ((u.1 (176 + 2 * 0) 2).toNatClampNeg)) else none)
set_option maxHeartbeats 4000000 in
set_option maxRecDepth 100000 in
theorem cX11_lawsNow_ct (l : Launch) (D : va_G) (cy : Nat → ClassId) (ad : Nat → Nat) (u : Mem)  (out : Nat) (h : fX11_lawsNow u = some out) : Met l yX11_lawsNow (.code yX11_lawsNow cX11_lawsNow 1 (some (.object "StarShells$Laws")) :: gw) rX11_lawsNow (va_Pc [.ref (ad 180)] (wv shX nX D cy ad u)) (qA shX nX D cy ad out u) 0 0 (rA ad nX) := by
  refine met_of (cc := cX11_lawsNow) (nL := 1) (by decide) (Nat.le_of_ble_eq_true rfl) (fun p e s m below meth c C hr hlk => ?_)
  unfold fX11_lawsNow at h
  show V shX nX D cy ad 1 p l e rX11_lawsNow s m _ below meth c (MQ below (qA shX nX D cy ad out u) _ s 0 0 (rA ad nX)) 0 [(0, .ref (ad 180))] [] u
  refine v_aload_n C 0 dX11_lawsNow_0 rfl rfl ?_
  refine v_getr C pX_180 fd_X11_27 rfl dX11_lawsNow_1 ?_
  refine v_aload_n C 0 dX11_lawsNow_4 rfl rfl ?_
  refine v_getr C pX_180 fd_X11_35 rfl dX11_lawsNow_5 ?_
  refine v_geti C (pW_0 0 (by decide)) fd_X11_104 rfl dX11_lawsNow_8 ?_
  have hb1 := chk1 h
  refine v_aald4 C pX_181 dX11_lawsNow_11 h (fun h => ?_)
  cases h
  exact v_aret C hr hlk dX11_lawsNow_12
theorem iX11_lawsNow_lt {u : Mem} {r : Nat} (h : fX11_lawsNow u = some r) : r < 32 := by
  unfold fX11_lawsNow at h
  obtain ⟨h1, h2⟩ := chk h
  cases h2
  exact Nat.lt_trans (inB_lt h1) (by decide)
