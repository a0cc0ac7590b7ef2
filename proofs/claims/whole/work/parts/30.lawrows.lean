
/-- what holds all along the law's body -/
def CL (D : va_G) (cy : Nat → ClassId) (aX aM : Nat → Nat) (p : Program) (s : State) (m : MethodId) (c : Code) (b L : Nat) (xs : Nat → Int32) : Prop :=
  p.tables.exec = Jvm.exec ∧ c.code = code ∧ c.maxLocals = 4 ∧ s.vm.findClass RL = some m.cls ∧ (∀ w ∈ gw, w.before #[Value.ref b] s = true) ∧ va_K D vwCl (vty cy) s ∧ nwK s ∧ (inj aX nX ∧ inj aM nM ∧ (∀ i j, i < nX → j < nM → aX i ≠ aM j) ∧ (∀ i, i < nX → s.heap.size ≤ aX i) ∧ (∀ i, i < nM → s.heap.size ≤ aM i)) ∧ sF nX aX s ∧ sF nM aM s ∧ va_X b L xs s s.heap ∧ b < s.heap.size
def aG (s : State) : Nat → Prop := fun q => s.heap.size ≤ q
def VL (D : va_G) (cy : Nat → ClassId) (aX aM : Nat → Nat) (K0 S0 : Nat) (p : Program) (l : Launch) (e : Env) (s : State) (m : MethodId) (below : List Frame) (meth : Method) (c : Code) (b : Nat) (pc : Nat) (lv : List (Nat × Value)) (st : List Value) (u v : Mem) : Prop :=
  ∀ (H : Heap) (locs : List Loc) (la : Array Slot), va_P D vwCl (wl aX nX (wE cy aX shX u)) H → va_P D vwCl (wl aM nM (wE cy aM shM v)) H → va_S (aG s) s.heap H locs → lv_has la 4 lv → W p l e room_1 s m #[Value.ref b] below meth c H locs K0 S0 (lw_Z below #[Value.ref b] s) (F0 m pc la st)
section VLS
variable {D : va_G} {cy : Nat → ClassId} {aX aM : Nat → Nat} {K0 S0 : Nat} {p : Program} {l : Launch} {e : Env} {s : State} {m : MethodId} {below : List Frame} {meth : Method} {c : Code} {b L : Nat} {xs : Nat → Int32} {pc : Nat} {lv : List (Nat × Value)} {st st0 : List Value} {u v u2 v2 : Mem}

theorem l_iconst (C : CL D cy aX aM p s m c b L xs) {n0 : Int} {x : Int32} (hd : decode code pc = .ok (.iconst n0, 1)) (hv : Int32.ofInt n0 = x) (k : VL D cy aX aM K0 S0 p l e s m below meth c b (pc + 1) (lv) (.int x :: st) (u) (v)) : VL D cy aX aM K0 S0 p l e s m below meth c b (pc) (lv) (st) (u) (v) := fun H locs la hP hM hS hl => lv_iconst C.1 C.2.1 hd hv (k H locs la hP hM hS hl)
theorem l_bipush (C : CL D cy aX aM p s m c b L xs) {n0 : Int} {x : Int32} (hd : decode code pc = .ok (.bipush n0, 2)) (hv : (Int8.ofInt n0).toInt32 = x) (k : VL D cy aX aM K0 S0 p l e s m below meth c b (pc + 2) (lv) (.int x :: st) (u) (v)) : VL D cy aX aM K0 S0 p l e s m below meth c b (pc) (lv) (st) (u) (v) := fun H locs la hP hM hS hl => lv_bipush C.1 C.2.1 hd hv (k H locs la hP hM hS hl)
theorem l_ldc2 (C : CL D cy aX aM p s m c b L xs) {index : Nat} {x : Int64} (hw : Cond.constantLong RL index x ∈ gw) (hd : decode code pc = .ok (.ldc2_w index, 3)) (k : VL D cy aX aM K0 S0 p l e s m below meth c b (pc + 3) (lv) (.long x :: st) (u) (v)) : VL D cy aX aM K0 S0 p l e s m below meth c b (pc) (lv) (st) (u) (v) := fun H locs la hP hM hS hl => lv_ldc2 C.1 C.2.1 C.2.2.2.1 (C.2.2.2.2.1 _ hw) hd (k H locs la hP hM hS hl)
theorem l_iload_n (C : CL D cy aX aM p s m c b L xs) (q : Nat) {k0 : Fin 4} {i : Nat} {x : Int32} (hd : decode code pc = .ok (.iload_n k0, 1)) (hi : (k0 : Nat) = i) (hq : lv[q]? = some (i, .int x)) (k : VL D cy aX aM K0 S0 p l e s m below meth c b (pc + 1) (lv) (.int x :: st) (u) (v)) : VL D cy aX aM K0 S0 p l e s m below meth c b (pc) (lv) (st) (u) (v) := fun H locs la hP hM hS hl => lv_iload_n C.1 C.2.1 hd hi (lv_at hl q hq) (k H locs la hP hM hS hl)
theorem l_aload_n (C : CL D cy aX aM p s m c b L xs) (q : Nat) {k0 : Fin 4} {i : Nat} {x : Nat} (hd : decode code pc = .ok (.aload_n k0, 1)) (hi : (k0 : Nat) = i) (hq : lv[q]? = some (i, .ref x)) (k : VL D cy aX aM K0 S0 p l e s m below meth c b (pc + 1) (lv) (.ref x :: st) (u) (v)) : VL D cy aX aM K0 S0 p l e s m below meth c b (pc) (lv) (st) (u) (v) := fun H locs la hP hM hS hl => lv_aload_n C.1 C.2.1 hd hi (lv_at hl q hq) (k H locs la hP hM hS hl)
theorem l_iadd (C : CL D cy aX aM p s m c b L xs) {x y : Int32} (hd : decode code pc = .ok (.iadd, 1)) (k : VL D cy aX aM K0 S0 p l e s m below meth c b (pc + 1) (lv) (.int (x + y) :: st) (u) (v)) : VL D cy aX aM K0 S0 p l e s m below meth c b (pc) (lv) (.int y :: .int x :: st) (u) (v) := fun H locs la hP hM hS hl => lv_iadd C.1 C.2.1 hd (k H locs la hP hM hS hl)
theorem l_isub (C : CL D cy aX aM p s m c b L xs) {x y : Int32} (hd : decode code pc = .ok (.isub, 1)) (k : VL D cy aX aM K0 S0 p l e s m below meth c b (pc + 1) (lv) (.int (x - y) :: st) (u) (v)) : VL D cy aX aM K0 S0 p l e s m below meth c b (pc) (lv) (.int y :: .int x :: st) (u) (v) := fun H locs la hP hM hS hl => lv_isub C.1 C.2.1 hd (k H locs la hP hM hS hl)
theorem l_iand (C : CL D cy aX aM p s m c b L xs) {x y : Int32} (hd : decode code pc = .ok (.iand, 1)) (k : VL D cy aX aM K0 S0 p l e s m below meth c b (pc + 1) (lv) (.int (x &&& y) :: st) (u) (v)) : VL D cy aX aM K0 S0 p l e s m below meth c b (pc) (lv) (.int y :: .int x :: st) (u) (v) := fun H locs la hP hM hS hl => lv_iand C.1 C.2.1 hd (k H locs la hP hM hS hl)
theorem l_land (C : CL D cy aX aM p s m c b L xs) {x y : Int64} (hd : decode code pc = .ok (.land, 1)) (k : VL D cy aX aM K0 S0 p l e s m below meth c b (pc + 1) (lv) (.long (x &&& y) :: st) (u) (v)) : VL D cy aX aM K0 S0 p l e s m below meth c b (pc) (lv) (.long y :: .long x :: st) (u) (v) := fun H locs la hP hM hS hl => lv_land C.1 C.2.1 hd (k H locs la hP hM hS hl)
theorem l_lor (C : CL D cy aX aM p s m c b L xs) {x y : Int64} (hd : decode code pc = .ok (.lor, 1)) (k : VL D cy aX aM K0 S0 p l e s m below meth c b (pc + 1) (lv) (.long (x ||| y) :: st) (u) (v)) : VL D cy aX aM K0 S0 p l e s m below meth c b (pc) (lv) (.long y :: .long x :: st) (u) (v) := fun H locs la hP hM hS hl => lv_lor C.1 C.2.1 hd (k H locs la hP hM hS hl)
theorem l_i2l (C : CL D cy aX aM p s m c b L xs) {x : Int32} (hd : decode code pc = .ok (.i2l, 1)) (k : VL D cy aX aM K0 S0 p l e s m below meth c b (pc + 1) (lv) (.long x.toInt64 :: st) (u) (v)) : VL D cy aX aM K0 S0 p l e s m below meth c b (pc) (lv) (.int x :: st) (u) (v) := fun H locs la hP hM hS hl => lv_i2l C.1 C.2.1 hd rfl (k H locs la hP hM hS hl)
theorem l_lshl (C : CL D cy aX aM p s m c b L xs) {x : Int64} {y : Int32} (hd : decode code pc = .ok (.lshl, 1)) (k : VL D cy aX aM K0 S0 p l e s m below meth c b (pc + 1) (lv) (.long (x <<< (y.toInt64 &&& 63)) :: st) (u) (v)) : VL D cy aX aM K0 S0 p l e s m below meth c b (pc) (lv) (.int y :: .long x :: st) (u) (v) := fun H locs la hP hM hS hl => lv_lshl C.1 C.2.1 hd rfl (k H locs la hP hM hS hl)
theorem l_goto (C : CL D cy aX aM p s m c b L xs) {off : Int} (tgt : Nat) (hd : decode code pc = .ok (.goto off, 3)) (ht : (pc : Int) + off = (tgt : Int)) (k : VL D cy aX aM K0 S0 p l e s m below meth c b (tgt) (lv) (st) (u) (v)) : VL D cy aX aM K0 S0 p l e s m below meth c b (pc) (lv) (st) (u) (v) := fun H locs la hP hM hS hl =>  lv_goto C.1 C.2.1 hd ht (k H locs la hP hM hS hl)
theorem l_if_eq (C : CL D cy aX aM p s m c b L xs) {x : Int32} {off : Int} (tgt : Nat) (hd : decode code pc = .ok (.ifCond .eq off, 3)) (ht : (pc : Int) + off = (tgt : Int)) (k1 : x = 0 → VL D cy aX aM K0 S0 p l e s m below meth c b (tgt) (lv) (st) (u) (v)) (k2 : ¬ (x = 0) → VL D cy aX aM K0 S0 p l e s m below meth c b (pc + 3) (lv) (st) (u) (v)) : VL D cy aX aM K0 S0 p l e s m below meth c b (pc) (lv) (.int x :: st) (u) (v) := fun H locs la hP hM hS hl =>  lv_if_eq C.1 C.2.1 hd ht (fun z => k1 z H locs la hP hM hS hl) (fun z => k2 z H locs la hP hM hS hl)
theorem l_icmp_eq (C : CL D cy aX aM p s m c b L xs) {x y : Int32} {off : Int} (tgt : Nat) (hd : decode code pc = .ok (.if_icmp .eq off, 3)) (ht : (pc : Int) + off = (tgt : Int)) (k1 : x = y → VL D cy aX aM K0 S0 p l e s m below meth c b (tgt) (lv) (st) (u) (v)) (k2 : ¬ (x = y) → VL D cy aX aM K0 S0 p l e s m below meth c b (pc + 3) (lv) (st) (u) (v)) : VL D cy aX aM K0 S0 p l e s m below meth c b (pc) (lv) (.int y :: .int x :: st) (u) (v) := fun H locs la hP hM hS hl =>  lv_icmp_eq C.1 C.2.1 hd ht (fun z => k1 z H locs la hP hM hS hl) (fun z => k2 z H locs la hP hM hS hl)
theorem l_icmp_gt (C : CL D cy aX aM p s m c b L xs) {x y : Int32} {off : Int} (tgt : Nat) (hd : decode code pc = .ok (.if_icmp .gt off, 3)) (ht : (pc : Int) + off = (tgt : Int)) (k1 : y < x → VL D cy aX aM K0 S0 p l e s m below meth c b (tgt) (lv) (st) (u) (v)) (k2 : ¬ (y < x) → VL D cy aX aM K0 S0 p l e s m below meth c b (pc + 3) (lv) (st) (u) (v)) : VL D cy aX aM K0 S0 p l e s m below meth c b (pc) (lv) (.int y :: .int x :: st) (u) (v) := fun H locs la hP hM hS hl =>  lv_icmp_gt C.1 C.2.1 hd ht (fun z => k1 z H locs la hP hM hS hl) (fun z => k2 z H locs la hP hM hS hl)
theorem l_lcmp_eq (C : CL D cy aX aM p s m c b L xs) {x y : Int64} {off : Int} (tgt : Nat) (hd0 : decode code pc = .ok (.lcmp, 1)) (hd : decode code (pc + 1) = .ok (.ifCond .eq off, 3)) (ht : ((pc + 1 : Nat) : Int) + off = (tgt : Int)) (k1 : x = y → VL D cy aX aM K0 S0 p l e s m below meth c b (tgt) (lv) (st) (u) (v)) (k2 : ¬ x = y → VL D cy aX aM K0 S0 p l e s m below meth c b (pc + 1 + 3) (lv) (st) (u) (v)) : VL D cy aX aM K0 S0 p l e s m below meth c b (pc) (lv) (.long y :: .long x :: st) (u) (v) := fun H locs la hP hM hS hl =>  W.lcmp C.1 C.2.1 hd0 (lv_if_eq C.1 C.2.1 hd ht (fun z => k1 ((lg_cmp_eq x y).mp z) H locs la hP hM hS hl) (fun z => k2 (fun q => z ((lg_cmp_eq x y).mpr q)) H locs la hP hM hS hl))
theorem l_iinc (C : CL D cy aX aM p s m c b L xs) (q : Nat) {i : Nat} {n0 : Int} {x z : Int32} (lv2 : List (Nat × Value)) (hd : decode code pc = .ok (.iinc i n0, 3)) (hk : lv[q]? = some (i, .int x)) (hv : x + Int32.ofInt n0 = z) (hn : i < 4) (hq : (i, Value.int z) :: lv.filter (fun q => !(q.1 == i) && !(q.1 + 1 == i && q.2.category == 2)) = lv2) (k : VL D cy aX aM K0 S0 p l e s m below meth c b (pc + 3) (lv2) (st) (u) (v)) : VL D cy aX aM K0 S0 p l e s m below meth c b (pc) (lv) (st) (u) (v) := fun H locs la hP hM hS hl => lv_iinc C.1 C.2.1 hd hl hk hv hn hq (fun la2 hl2 => k H locs la2 hP hM hS hl2)
theorem l_sub {lv2 : List (Nat × Value)} (ks : List Nat) (hk : lv_pick lv ks = lv2) (k : VL D cy aX aM K0 S0 p l e s m below meth c b (pc) (lv2) (st) (u) (v)) : VL D cy aX aM K0 S0 p l e s m below meth c b (pc) (lv) (st) (u) (v) := fun H locs la hP hM hS hl => k H locs la hP hM hS (lv_sub hl ks hk)
theorem l_top {x y : Int32} (e0 : x = y) (k : VL D cy aX aM K0 S0 p l e s m below meth c b (pc) (lv) (.int x :: st) (u) (v)) : VL D cy aX aM K0 S0 p l e s m below meth c b (pc) (lv) (.int y :: st) (u) (v) := e0 ▸ k
theorem l_dia (J : Nat) (z : Value) (st1 : List Value) (k : VL D cy aX aM K0 S0 p l e s m below meth c b (J) (lv) (z :: st1) (u) (v)) (arms : VL D cy aX aM K0 S0 p l e s m below meth c b (J) (lv) (z :: st1) (u) (v) → VL D cy aX aM K0 S0 p l e s m below meth c b (pc) (lv) (st) (u) (v)) : VL D cy aX aM K0 S0 p l e s m below meth c b (pc) (lv) (st) (u) (v) := arms k
theorem l_tabIn (C : CL D cy aX aM p s m c b L xs) {x : Int32} (tgt : Nat) {k0 : Int32} {dflt lo hi : Int} {offs : Array Int} {len : Nat} (hx : x = k0) (hd : decode code pc = .ok (.tableswitch dflt lo hi offs, len)) (h1 : ¬ k0.toInt < lo) (h2 : ¬ hi < k0.toInt) (ho : offs[(k0.toInt - lo).toNat]? = some ((tgt : Int) - pc)) (ht : (pc : Int) + ((tgt : Int) - pc) = (tgt : Int)) (k : VL D cy aX aM K0 S0 p l e s m below meth c b (tgt) (lv) (st) (u) (v)) : VL D cy aX aM K0 S0 p l e s m below meth c b (pc) (lv) (.int x :: st) (u) (v) := by
  subst hx
  exact fun H locs la hP hM hS hl =>  lv_tableIn C.1 C.2.1 hd h1 h2 ho ht (k H locs la hP hM hS hl)
theorem l_tabOut (C : CL D cy aX aM p s m c b L xs) {x : Int32} (tgt : Nat) {dflt lo hi : Int} {offs : Array Int} {len : Nat} (hd : decode code pc = .ok (.tableswitch dflt lo hi offs, len)) (h : x.toInt < lo ∨ hi < x.toInt) (ht : (pc : Int) + dflt = (tgt : Int)) (k : VL D cy aX aM K0 S0 p l e s m below meth c b (tgt) (lv) (st) (u) (v)) : VL D cy aX aM K0 S0 p l e s m below meth c b (pc) (lv) (.int x :: st) (u) (v) := fun H locs la hP hM hS hl =>  lv_tableOut C.1 C.2.1 hd h ht (k H locs la hP hM hS hl)
theorem l_slen (C : CL D cy aX aM p s m c b L xs) (hd : decode code pc = .ok (.arraylength, 1)) (k : VL D cy aX aM K0 S0 p l e s m below meth c b (pc + 1) (lv) (.int (nI L) :: st) (u) (v)) : VL D cy aX aM K0 S0 p l e s m below meth c b (pc) (lv) (.ref b :: st) (u) (v) := fun H locs la hP hM hS hl =>  va_slen C.1 C.2.1 C.2.2.2.2.2.2.2.2.2.2.1 C.2.2.2.2.2.2.2.2.2.2.2 (Nat.not_le.mpr C.2.2.2.2.2.2.2.2.2.2.2) hS hd (k H locs la hP hM hS hl)
theorem l_sld (C : CL D cy aX aM p s m c b L xs) {i : Int32} {j : Nat} (hi : i = nI j) (hj : j < L) (hL : L ≤ 3072) (hd : decode code pc = .ok (.iaload, 1)) (k : VL D cy aX aM K0 S0 p l e s m below meth c b (pc + 1) (lv) (.int (xs j) :: st) (u) (v)) : VL D cy aX aM K0 S0 p l e s m below meth c b (pc) (lv) (.int i :: .ref b :: st) (u) (v) := by
  subst hi
  intro H locs la hP hM hS hl
  have e1 : (nI j).toNatClampNeg = j := nI_clamp (by omega)
  refine va_sld C.1 C.2.1 C.2.2.2.2.2.2.2.2.2.2.1 C.2.2.2.2.2.2.2.2.2.2.2 (Nat.not_le.mpr C.2.2.2.2.2.2.2.2.2.2.2) hS (vp_in_nI hj (by omega)) hd ?_
  rw [e1]
  exact k H locs la hP hM hS hl

theorem cl_wX (C : CL D cy aX aM p s m c b L xs) {H : Heap} {U : State} {locs : List Loc} (hP : va_P D vwCl (wl aX nX (wE cy aX shX u)) H) (hS : va_S (aG s) s.heap H locs) (hU : U.heap = H) (hW : s.WarmedH U.vm) : wv shX nX D cy aX u U := ⟨by rw [hU]; exact hP, va_K.moved hW.alike C.2.2.2.2.2.1, nwK_warm hW C.2.2.2.2.2.2.1, C.2.2.2.2.2.2.2.1.1, sF_end C.2.2.2.2.2.2.2.2.1 (fun a h1 _ => by rw [hU]; exact hS.2.1 a h1 (Nat.not_le.mpr h1)) hW⟩
theorem cl_wM (C : CL D cy aX aM p s m c b L xs) {H : Heap} {U : State} {locs : List Loc} (hP : va_P D vwCl (wl aM nM (wE cy aM shM v)) H) (hS : va_S (aG s) s.heap H locs) (hU : U.heap = H) (hW : s.WarmedH U.vm) : wv shM nM D cy aM v U := ⟨by rw [hU]; exact hP, va_K.moved hW.alike C.2.2.2.2.2.1, nwK_warm hW C.2.2.2.2.2.2.1, C.2.2.2.2.2.2.2.1.2.1, sF_end C.2.2.2.2.2.2.2.2.2.1 (fun a h1 _ => by rw [hU]; exact hS.2.1 a h1 (Nat.not_le.mpr h1)) hW⟩
theorem cl_keepM (C : CL D cy aX aM p s m c b L xs) {H H1 : Heap} (hM : va_P D vwCl (wl aM nM (wE cy aM shM v)) H) (hk : ∀ q : Nat, q < H.size → ¬ rA aX nX q → H1[q]? = H[q]?) : va_P D vwCl (wl aM nM (wE cy aM shM v)) H1 := by
  refine hM.kept (fun k q hq => ?_)
  obtain ⟨h1, h2⟩ := wl_some hq
  refine hk q.1 ((hM k q hq).lt) (fun h => ?_)
  obtain ⟨i, hi, e1⟩ := h
  rw [h2] at e1
  exact C.2.2.2.2.2.2.2.1.2.2.1 i k hi h1 e1
theorem cl_keepX (C : CL D cy aX aM p s m c b L xs) {H H1 : Heap} (hP : va_P D vwCl (wl aX nX (wE cy aX shX u)) H) (hk : ∀ q : Nat, q < H.size → ¬ rA aM nM q → H1[q]? = H[q]?) : va_P D vwCl (wl aX nX (wE cy aX shX u)) H1 := by
  refine hP.kept (fun k q hq => ?_)
  obtain ⟨h1, h2⟩ := wl_some hq
  refine hk q.1 ((hP k q hq).lt) (fun h => ?_)
  obtain ⟨i, hi, e1⟩ := h
  rw [h2] at e1
  exact C.2.2.2.2.2.2.2.1.2.2.1 k i h1 hi e1.symm
theorem cl_AX (C : CL D cy aX aM p s m c b L xs) : ∀ q, rA aX nX q → aG s q := fun q h => by obtain ⟨i, hi, rfl⟩ := h; exact C.2.2.2.2.2.2.2.1.2.2.2.1 i hi
theorem cl_AM (C : CL D cy aX aM p s m c b L xs) : ∀ q, rA aM nM q → aG s q := fun q h => by obtain ⟨i, hi, rfl⟩ := h; exact C.2.2.2.2.2.2.2.1.2.2.2.2 i hi

theorem l_callXi (C : CL D cy aX aM p s m c b L xs) {y : MethodName} {bytes : ByteArray} {maxL index nA : Nat} {ret : Option FieldType} {rm : Room} (As : List Value) {r : Int32} (hM0 : Met l y (.code y bytes maxL ret :: gw) rm (va_Pc (.ref (aX 180) :: As) (wv shX nX D cy aX u)) (qI shX nX D cy aX r u2) 0 0 (rA aX nX)) (hm : Mv RL index y bytes maxL ret 11 nA) (hroom : rm.frames + 1 ≤ 13 ∧ 8 + (maxL + 11) + rm.locals ≤ 480) (hrc : rm.cells = 0 ∧ rm.slots = 0) (hn : As.length = nA) (hs : st0 = As.reverse ++ .ref (aX 180) :: st) (hst : (st.map fun v => v.category).sum ≤ 8) (hKS : K0 ≤ 600000 ∧ S0 ≤ 7302250) (hd : decode code pc = .ok (.invokevirtual index, 3)) (k : VL D cy aX aM K0 S0 p l e s m below meth c b (pc + 3) (lv) (.int r :: st) (u2) (v)) : VL D cy aX aM K0 S0 p l e s m below meth c b (pc) (lv) (st0) (u) (v) := by
  subst hs
  intro H locs la hP hM hS hl
  have hfix : CallFix p m c code 4 s #[Value.ref b] gw RL := ⟨C.1, C.2.1, C.2.2.1, C.2.2.2.1, C.2.2.2.2.1⟩
  have hpre : ∀ U : State, U.heap = H → s.WarmedH U.vm → va_Pc (.ref (aX 180) :: As) (wv shX nX D cy aX u) (.ref (aX 180) :: As : List Value).toArray U := fun U hU hW => ⟨rfl, cl_wX C hP hS hU hW⟩
  obtain ⟨m1, m2, m3, m4, m5, m6, m7⟩ := hm
  have hrecv := va_recv C.2.2.2.2.2.1 hP (ci := 11) rfl (wE_o pX_180)
  have e7 : RX11 = y.cls := by have h9 := m7; simp only [vwCl, List.getElem?_cons_succ, List.getElem?_cons_zero, Option.map_some, Option.some.injEq] at h9; exact h9
  have hrecv : ∃ cell : Cell, H[aX 180]? = some cell ∧ cell.vm.isStatics = false ∧ s.vm.findClass y.cls = some cell.cls := by rw [← e7]; exact hrecv
  have cw : CallW room_1 s #[Value.ref b] RL y.cls index y bytes maxL ret (.code y bytes maxL ret :: gw) rm 0 0 nA := ⟨callB_of nA C.2.2.2.2.1 (gw_call m5) rfl hrc.1 hrc.2 (C.2.2.2.2.1 _ m4) (C.2.2.2.2.1 _ m1) m6 hroom, C.2.2.2.2.1 _ m2, C.2.2.2.2.1 _ m3⟩
  refine va_calli (va_runV (As := As) (rest := st) hfix hM0 cw ⟨wv_blind, hrecv, hpre⟩ rfl hn hl.1 rfl (lv_room hst) hd ⟨hKS.1, hKS.2⟩) hS (fun q _ h => cl_AX C q h) (fun q h => cl_AX C q h) (fun r2 x t H1 locs1 ht hvm hw hB hz1 hk1 hS1 => ?_)
  subst hw
  have hP1 := hB.1
  rw [ht] at hP1
  exact k H1 locs1 la hP1 (cl_keepM C hM hk1) hS1 hl
theorem l_callXl (C : CL D cy aX aM p s m c b L xs) {y : MethodName} {bytes : ByteArray} {maxL index nA : Nat} {ret : Option FieldType} {rm : Room} (As : List Value) {r : Int64} (hM0 : Met l y (.code y bytes maxL ret :: gw) rm (va_Pc (.ref (aX 180) :: As) (wv shX nX D cy aX u)) (qL shX nX D cy aX r u2) 0 0 (rA aX nX)) (hm : Mv RL index y bytes maxL ret 11 nA) (hroom : rm.frames + 1 ≤ 13 ∧ 8 + (maxL + 11) + rm.locals ≤ 480) (hrc : rm.cells = 0 ∧ rm.slots = 0) (hn : As.length = nA) (hs : st0 = As.reverse ++ .ref (aX 180) :: st) (hst : (st.map fun v => v.category).sum ≤ 8) (hKS : K0 ≤ 600000 ∧ S0 ≤ 7302250) (hd : decode code pc = .ok (.invokevirtual index, 3)) (k : VL D cy aX aM K0 S0 p l e s m below meth c b (pc + 3) (lv) (.long r :: st) (u2) (v)) : VL D cy aX aM K0 S0 p l e s m below meth c b (pc) (lv) (st0) (u) (v) := by
  subst hs
  intro H locs la hP hM hS hl
  have hfix : CallFix p m c code 4 s #[Value.ref b] gw RL := ⟨C.1, C.2.1, C.2.2.1, C.2.2.2.1, C.2.2.2.2.1⟩
  have hpre : ∀ U : State, U.heap = H → s.WarmedH U.vm → va_Pc (.ref (aX 180) :: As) (wv shX nX D cy aX u) (.ref (aX 180) :: As : List Value).toArray U := fun U hU hW => ⟨rfl, cl_wX C hP hS hU hW⟩
  obtain ⟨m1, m2, m3, m4, m5, m6, m7⟩ := hm
  have hrecv := va_recv C.2.2.2.2.2.1 hP (ci := 11) rfl (wE_o pX_180)
  have e7 : RX11 = y.cls := by have h9 := m7; simp only [vwCl, List.getElem?_cons_succ, List.getElem?_cons_zero, Option.map_some, Option.some.injEq] at h9; exact h9
  have hrecv : ∃ cell : Cell, H[aX 180]? = some cell ∧ cell.vm.isStatics = false ∧ s.vm.findClass y.cls = some cell.cls := by rw [← e7]; exact hrecv
  have cw : CallW room_1 s #[Value.ref b] RL y.cls index y bytes maxL ret (.code y bytes maxL ret :: gw) rm 0 0 nA := ⟨callB_of nA C.2.2.2.2.1 (gw_call m5) rfl hrc.1 hrc.2 (C.2.2.2.2.1 _ m4) (C.2.2.2.2.1 _ m1) m6 hroom, C.2.2.2.2.1 _ m2, C.2.2.2.2.1 _ m3⟩
  refine va_calll (va_runV (As := As) (rest := st) hfix hM0 cw ⟨wv_blind, hrecv, hpre⟩ rfl hn hl.1 rfl (lv_room hst) hd ⟨hKS.1, hKS.2⟩) hS (fun q _ h => cl_AX C q h) (fun q h => cl_AX C q h) (fun r2 x t H1 locs1 ht hvm hw hB hz1 hk1 hS1 => ?_)
  subst hw
  have hP1 := hB.1
  rw [ht] at hP1
  exact k H1 locs1 la hP1 (cl_keepM C hM hk1) hS1 hl
theorem l_callMi (C : CL D cy aX aM p s m c b L xs) {y : MethodName} {bytes : ByteArray} {maxL index nA : Nat} {ret : Option FieldType} {rm : Room} (As : List Value) {r : Int32} (hM0 : Met l y (.code y bytes maxL ret :: gw) rm (va_Pc (.ref (aM 0) :: As) (wv shM nM D cy aM v)) (qI shM nM D cy aM r v2) 0 0 (rA aM nM)) (hm : Mv RL index y bytes maxL ret 12 nA) (hroom : rm.frames + 1 ≤ 13 ∧ 8 + (maxL + 11) + rm.locals ≤ 480) (hrc : rm.cells = 0 ∧ rm.slots = 0) (hn : As.length = nA) (hs : st0 = As.reverse ++ .ref (aM 0) :: st) (hst : (st.map fun v => v.category).sum ≤ 8) (hKS : K0 ≤ 600000 ∧ S0 ≤ 7302250) (hd : decode code pc = .ok (.invokevirtual index, 3)) (k : VL D cy aX aM K0 S0 p l e s m below meth c b (pc + 3) (lv) (.int r :: st) (u) (v2)) : VL D cy aX aM K0 S0 p l e s m below meth c b (pc) (lv) (st0) (u) (v) := by
  subst hs
  intro H locs la hP hM hS hl
  have hfix : CallFix p m c code 4 s #[Value.ref b] gw RL := ⟨C.1, C.2.1, C.2.2.1, C.2.2.2.1, C.2.2.2.2.1⟩
  have hpre : ∀ U : State, U.heap = H → s.WarmedH U.vm → va_Pc (.ref (aM 0) :: As) (wv shM nM D cy aM v) (.ref (aM 0) :: As : List Value).toArray U := fun U hU hW => ⟨rfl, cl_wM C hM hS hU hW⟩
  obtain ⟨m1, m2, m3, m4, m5, m6, m7⟩ := hm
  have hrecv := va_recv C.2.2.2.2.2.1 hM (ci := 12) rfl (wE_o pM_0)
  have e7 : RX12 = y.cls := by have h9 := m7; simp only [vwCl, List.getElem?_cons_succ, List.getElem?_cons_zero, Option.map_some, Option.some.injEq] at h9; exact h9
  have hrecv : ∃ cell : Cell, H[aM 0]? = some cell ∧ cell.vm.isStatics = false ∧ s.vm.findClass y.cls = some cell.cls := by rw [← e7]; exact hrecv
  have cw : CallW room_1 s #[Value.ref b] RL y.cls index y bytes maxL ret (.code y bytes maxL ret :: gw) rm 0 0 nA := ⟨callB_of nA C.2.2.2.2.1 (gw_call m5) rfl hrc.1 hrc.2 (C.2.2.2.2.1 _ m4) (C.2.2.2.2.1 _ m1) m6 hroom, C.2.2.2.2.1 _ m2, C.2.2.2.2.1 _ m3⟩
  refine va_calli (va_runV (As := As) (rest := st) hfix hM0 cw ⟨wv_blind, hrecv, hpre⟩ rfl hn hl.1 rfl (lv_room hst) hd ⟨hKS.1, hKS.2⟩) hS (fun q _ h => cl_AM C q h) (fun q h => cl_AM C q h) (fun r2 x t H1 locs1 ht hvm hw hB hz1 hk1 hS1 => ?_)
  subst hw
  have hP1 := hB.1
  rw [ht] at hP1
  exact k H1 locs1 la (cl_keepX C hP hk1) hP1 hS1 hl
theorem l_callMl (C : CL D cy aX aM p s m c b L xs) {y : MethodName} {bytes : ByteArray} {maxL index nA : Nat} {ret : Option FieldType} {rm : Room} (As : List Value) {r : Int64} (hM0 : Met l y (.code y bytes maxL ret :: gw) rm (va_Pc (.ref (aM 0) :: As) (wv shM nM D cy aM v)) (qL shM nM D cy aM r v2) 0 0 (rA aM nM)) (hm : Mv RL index y bytes maxL ret 12 nA) (hroom : rm.frames + 1 ≤ 13 ∧ 8 + (maxL + 11) + rm.locals ≤ 480) (hrc : rm.cells = 0 ∧ rm.slots = 0) (hn : As.length = nA) (hs : st0 = As.reverse ++ .ref (aM 0) :: st) (hst : (st.map fun v => v.category).sum ≤ 8) (hKS : K0 ≤ 600000 ∧ S0 ≤ 7302250) (hd : decode code pc = .ok (.invokevirtual index, 3)) (k : VL D cy aX aM K0 S0 p l e s m below meth c b (pc + 3) (lv) (.long r :: st) (u) (v2)) : VL D cy aX aM K0 S0 p l e s m below meth c b (pc) (lv) (st0) (u) (v) := by
  subst hs
  intro H locs la hP hM hS hl
  have hfix : CallFix p m c code 4 s #[Value.ref b] gw RL := ⟨C.1, C.2.1, C.2.2.1, C.2.2.2.1, C.2.2.2.2.1⟩
  have hpre : ∀ U : State, U.heap = H → s.WarmedH U.vm → va_Pc (.ref (aM 0) :: As) (wv shM nM D cy aM v) (.ref (aM 0) :: As : List Value).toArray U := fun U hU hW => ⟨rfl, cl_wM C hM hS hU hW⟩
  obtain ⟨m1, m2, m3, m4, m5, m6, m7⟩ := hm
  have hrecv := va_recv C.2.2.2.2.2.1 hM (ci := 12) rfl (wE_o pM_0)
  have e7 : RX12 = y.cls := by have h9 := m7; simp only [vwCl, List.getElem?_cons_succ, List.getElem?_cons_zero, Option.map_some, Option.some.injEq] at h9; exact h9
  have hrecv : ∃ cell : Cell, H[aM 0]? = some cell ∧ cell.vm.isStatics = false ∧ s.vm.findClass y.cls = some cell.cls := by rw [← e7]; exact hrecv
  have cw : CallW room_1 s #[Value.ref b] RL y.cls index y bytes maxL ret (.code y bytes maxL ret :: gw) rm 0 0 nA := ⟨callB_of nA C.2.2.2.2.1 (gw_call m5) rfl hrc.1 hrc.2 (C.2.2.2.2.1 _ m4) (C.2.2.2.2.1 _ m1) m6 hroom, C.2.2.2.2.1 _ m2, C.2.2.2.2.1 _ m3⟩
  refine va_calll (va_runV (As := As) (rest := st) hfix hM0 cw ⟨wv_blind, hrecv, hpre⟩ rfl hn hl.1 rfl (lv_room hst) hd ⟨hKS.1, hKS.2⟩) hS (fun q _ h => cl_AM C q h) (fun q h => cl_AM C q h) (fun r2 x t H1 locs1 ht hvm hw hB hz1 hk1 hS1 => ?_)
  subst hw
  have hP1 := hB.1
  rw [ht] at hP1
  exact k H1 locs1 la (cl_keepX C hP hk1) hP1 hS1 hl
end VLS
theorem ml_L_13 : Mv RL 13 yX11_feed cX11_feed 6 (some .int) 11 5 := ⟨(tk_2 (List.mem_of_getElem? (i := 134) rfl) rfl), mv_X11_feed.1, mv_X11_feed.2.1, mv_X11_feed.2.2.1, mv_X11_feed.2.2.2, mn_X11_feed, rfl⟩
theorem ml_L_17 : Mv RL 17 yX12_feed cX12_feed 6 (some .int) 12 5 := ⟨(tk_5 (List.mem_of_getElem? (i := 0) rfl) rfl), mv_X12_feed.1, mv_X12_feed.2.1, mv_X12_feed.2.2.1, mv_X12_feed.2.2.2, mn_X12_feed, rfl⟩
theorem ml_L_18 : Mv RL 18 yX11_end cX11_end 2 (some .int) 11 1 := ⟨(tk_2 (List.mem_of_getElem? (i := 142) rfl) rfl), mv_X11_end.1, mv_X11_end.2.1, mv_X11_end.2.2.1, mv_X11_end.2.2.2, mn_X11_end, rfl⟩
theorem ml_L_22 : Mv RL 22 yX12_end cX12_end 2 (some .int) 12 1 := ⟨(tk_5 (List.mem_of_getElem? (i := 8) rfl) rfl), mv_X12_end.1, mv_X12_end.2.1, mv_X12_end.2.2.1, mv_X12_end.2.2.2, mn_X12_end, rfl⟩
theorem ml_L_23 : Mv RL 23 yX11_text cX11_text 3 (some .int) 11 0 := ⟨(tk_2 (List.mem_of_getElem? (i := 146) rfl) rfl), mv_X11_text.1, mv_X11_text.2.1, mv_X11_text.2.2.1, mv_X11_text.2.2.2, mn_X11_text, rfl⟩
theorem ml_L_27 : Mv RL 27 yX12_text cX12_text 4 (some .int) 12 0 := ⟨(tk_5 (List.mem_of_getElem? (i := 15) rfl) rfl), mv_X12_text.1, mv_X12_text.2.1, mv_X12_text.2.2.1, mv_X12_text.2.2.2, mn_X12_text, rfl⟩
theorem ml_L_28 : Mv RL 28 yX11_fault cX11_fault 2 (some .int) 11 1 := ⟨(tk_3 (List.mem_of_getElem? (i := 66) rfl) rfl), mv_X11_fault.1, mv_X11_fault.2.1, mv_X11_fault.2.2.1, mv_X11_fault.2.2.2, mn_X11_fault, rfl⟩
theorem ml_L_31 : Mv RL 31 yX12_fault cX12_fault 2 (some .int) 12 1 := ⟨(tk_5 (List.mem_of_getElem? (i := 87) rfl) rfl), mv_X12_fault.1, mv_X12_fault.2.1, mv_X12_fault.2.2.1, mv_X12_fault.2.2.2, mn_X12_fault, rfl⟩
theorem ml_L_32 : Mv RL 32 yX11_look cX11_look 2 (some .boolean) 11 1 := ⟨(tk_3 (List.mem_of_getElem? (i := 70) rfl) rfl), mv_X11_look.1, mv_X11_look.2.1, mv_X11_look.2.2.1, mv_X11_look.2.2.2, mn_X11_look, rfl⟩
theorem ml_L_36 : Mv RL 36 yX12_look cX12_look 2 (some .boolean) 12 1 := ⟨(tk_5 (List.mem_of_getElem? (i := 91) rfl) rfl), mv_X12_look.1, mv_X12_look.2.1, mv_X12_look.2.2.1, mv_X12_look.2.2.2, mn_X12_look, rfl⟩
theorem ml_L_37 : Mv RL 37 yX11_weight cX11_weight 2 (some .int) 11 1 := ⟨(tk_3 (List.mem_of_getElem? (i := 74) rfl) rfl), mv_X11_weight.1, mv_X11_weight.2.1, mv_X11_weight.2.2.1, mv_X11_weight.2.2.2, mn_X11_weight, rfl⟩
theorem ml_L_40 : Mv RL 40 yX12_weight cX12_weight 2 (some .int) 12 1 := ⟨(tk_5 (List.mem_of_getElem? (i := 95) rfl) rfl), mv_X12_weight.1, mv_X12_weight.2.1, mv_X12_weight.2.2.1, mv_X12_weight.2.2.2, mn_X12_weight, rfl⟩
theorem ml_L_41 : Mv RL 41 yX11_chain cX11_chain 3 (some .int) 11 2 := ⟨(tk_3 (List.mem_of_getElem? (i := 85) rfl) rfl), mv_X11_chain.1, mv_X11_chain.2.1, mv_X11_chain.2.2.1, mv_X11_chain.2.2.2, mn_X11_chain, rfl⟩
theorem ml_L_45 : Mv RL 45 yX12_chain cX12_chain 3 (some .int) 12 2 := ⟨(tk_5 (List.mem_of_getElem? (i := 108) rfl) rfl), mv_X12_chain.1, mv_X12_chain.2.1, mv_X12_chain.2.2.1, mv_X12_chain.2.2.2, mn_X12_chain, rfl⟩
theorem ml_L_46 : Mv RL 46 yX11_law cX11_law 4 (some .int) 11 3 := ⟨(tk_3 (List.mem_of_getElem? (i := 97) rfl) rfl), mv_X11_law.1, mv_X11_law.2.1, mv_X11_law.2.2.1, mv_X11_law.2.2.2, mn_X11_law, rfl⟩
theorem ml_L_50 : Mv RL 50 yX12_law cX12_law 4 (some .int) 12 3 := ⟨(tk_5 (List.mem_of_getElem? (i := 120) rfl) rfl), mv_X12_law.1, mv_X12_law.2.1, mv_X12_law.2.2.1, mv_X12_law.2.2.2, mn_X12_law, rfl⟩
theorem ml_L_51 : Mv RL 51 yX11_shell cX11_shell 2 (some .int) 11 1 := ⟨(tk_3 (List.mem_of_getElem? (i := 116) rfl) rfl), mv_X11_shell.1, mv_X11_shell.2.1, mv_X11_shell.2.2.1, mv_X11_shell.2.2.2, mn_X11_shell, rfl⟩
theorem ml_L_54 : Mv RL 54 yX12_shell cX12_shell 2 (some .int) 12 1 := ⟨(tk_5 (List.mem_of_getElem? (i := 132) rfl) rfl), mv_X12_shell.1, mv_X12_shell.2.1, mv_X12_shell.2.2.1, mv_X12_shell.2.2.2, mn_X12_shell, rfl⟩
theorem ml_L_55 : Mv RL 55 yX11_fill cX11_fill 5 (some .boolean) 11 4 := ⟨(tk_3 (List.mem_of_getElem? (i := 123) rfl) rfl), mv_X11_fill.1, mv_X11_fill.2.1, mv_X11_fill.2.2.1, mv_X11_fill.2.2.2, mn_X11_fill, rfl⟩
theorem ml_L_59 : Mv RL 59 yX12_fill cX12_fill 5 (some .boolean) 12 4 := ⟨(tk_5 (List.mem_of_getElem? (i := 139) rfl) rfl), mv_X12_fill.1, mv_X12_fill.2.1, mv_X12_fill.2.2.1, mv_X12_fill.2.2.2, mn_X12_fill, rfl⟩
theorem ml_L_60 : Mv RL 60 yX11_parts cX11_parts 4 (some .int) 11 3 := ⟨(tk_3 (List.mem_of_getElem? (i := 136) rfl) rfl), mv_X11_parts.1, mv_X11_parts.2.1, mv_X11_parts.2.2.1, mv_X11_parts.2.2.2, mn_X11_parts, rfl⟩
theorem ml_L_64 : Mv RL 64 yX12_parts cX12_parts 4 (some .int) 12 3 := ⟨(tk_5 (List.mem_of_getElem? (i := 152) rfl) rfl), mv_X12_parts.1, mv_X12_parts.2.1, mv_X12_parts.2.2.1, mv_X12_parts.2.2.2, mn_X12_parts, rfl⟩
theorem ml_L_65 : Mv RL 65 yX11_rules cX11_rules 4 (some .boolean) 11 3 := ⟨(tk_3 (List.mem_of_getElem? (i := 144) rfl) rfl), mv_X11_rules.1, mv_X11_rules.2.1, mv_X11_rules.2.2.1, mv_X11_rules.2.2.2, mn_X11_rules, rfl⟩
theorem ml_L_69 : Mv RL 69 yX12_rules cX12_rules 4 (some .boolean) 12 3 := ⟨(tk_5 (List.mem_of_getElem? (i := 160) rfl) rfl), mv_X12_rules.1, mv_X12_rules.2.1, mv_X12_rules.2.2.1, mv_X12_rules.2.2.2, mn_X12_rules, rfl⟩
theorem ml_L_70 : Mv RL 70 yX11_of cX11_of 4 (some .int) 11 3 := ⟨(tk_3 (List.mem_of_getElem? (i := 149) rfl) rfl), mv_X11_of.1, mv_X11_of.2.1, mv_X11_of.2.2.1, mv_X11_of.2.2.2, mn_X11_of, rfl⟩
theorem ml_L_73 : Mv RL 73 yX12_of cX12_of 5 (some .int) 12 3 := ⟨(tk_5 (List.mem_of_getElem? (i := 165) rfl) rfl), mv_X12_of.1, mv_X12_of.2.1, mv_X12_of.2.2.1, mv_X12_of.2.2.2, mn_X12_of, rfl⟩
theorem ml_L_74 : Mv RL 74 yX11_box cX11_box 6 (some .int) 11 4 := ⟨(tk_3 (List.mem_of_getElem? (i := 232) rfl) rfl), mv_X11_box.1, mv_X11_box.2.1, mv_X11_box.2.2.1, mv_X11_box.2.2.2, mn_X11_box, rfl⟩
theorem ml_L_78 : Mv RL 78 yX12_box cX12_box 9 (some .int) 12 4 := ⟨(tk_5 (List.mem_of_getElem? (i := 204) rfl) rfl), mv_X12_box.1, mv_X12_box.2.1, mv_X12_box.2.2.1, mv_X12_box.2.2.2, mn_X12_box, rfl⟩
theorem ml_L_79 : Mv RL 79 yX11_through cX11_through 4 (some .long) 11 3 := ⟨(tk_3 (List.mem_of_getElem? (i := 237) rfl) rfl), mv_X11_through.1, mv_X11_through.2.1, mv_X11_through.2.2.1, mv_X11_through.2.2.2, mn_X11_through, rfl⟩
theorem ml_L_83 : Mv RL 83 yX12_through cX12_through 5 (some .long) 12 3 := ⟨(tk_5 (List.mem_of_getElem? (i := 208) rfl) rfl), mv_X12_through.1, mv_X12_through.2.1, mv_X12_through.2.2.1, mv_X12_through.2.2.2, mn_X12_through, rfl⟩
theorem ml_L_84 : Mv RL 84 yX11_settled cX11_settled 2 (some .int) 11 1 := ⟨(tk_4 (List.mem_of_getElem? (i := 2) rfl) rfl), mv_X11_settled.1, mv_X11_settled.2.1, mv_X11_settled.2.2.1, mv_X11_settled.2.2.2, mn_X11_settled, rfl⟩
theorem ml_L_87 : Mv RL 87 yX12_settled cX12_settled 4 (some .int) 12 1 := ⟨(tk_5 (List.mem_of_getElem? (i := 213) rfl) rfl), mv_X12_settled.1, mv_X12_settled.2.1, mv_X12_settled.2.2.1, mv_X12_settled.2.2.2, mn_X12_settled, rfl⟩
theorem ml_L_88 : Mv RL 88 yX11_steps cX11_steps 4 (some .int) 11 2 := ⟨(tk_4 (List.mem_of_getElem? (i := 6) rfl) rfl), mv_X11_steps.1, mv_X11_steps.2.1, mv_X11_steps.2.2.1, mv_X11_steps.2.2.2, mn_X11_steps, rfl⟩
theorem ml_L_91 : Mv RL 91 yX12_steps cX12_steps 4 (some .int) 12 2 := ⟨(tk_5 (List.mem_of_getElem? (i := 217) rfl) rfl), mv_X12_steps.1, mv_X12_steps.2.1, mv_X12_steps.2.2.1, mv_X12_steps.2.2.2, mn_X12_steps, rfl⟩
theorem ml_L_92 : Mv RL 92 yX11_event cX11_event 3 (some .int) 11 2 := ⟨(tk_4 (List.mem_of_getElem? (i := 41) rfl) rfl), mv_X11_event.1, mv_X11_event.2.1, mv_X11_event.2.2.1, mv_X11_event.2.2.2, mn_X11_event, rfl⟩
theorem ml_L_95 : Mv RL 95 yX12_event cX12_event 3 (some .int) 12 2 := ⟨(tk_6 (List.mem_of_getElem? (i := 3) rfl) rfl), mv_X12_event.1, mv_X12_event.2.1, mv_X12_event.2.2.1, mv_X12_event.2.2.2, mn_X12_event, rfl⟩
theorem ml_L_96 : Mv RL 96 yX11_hand cX11_hand 3 (some .boolean) 11 2 := ⟨(tk_4 (List.mem_of_getElem? (i := 45) rfl) rfl), mv_X11_hand.1, mv_X11_hand.2.1, mv_X11_hand.2.2.1, mv_X11_hand.2.2.2, mn_X11_hand, rfl⟩
theorem ml_L_100 : Mv RL 100 yX12_hand cX12_hand 10 (some .boolean) 12 2 := ⟨(tk_6 (List.mem_of_getElem? (i := 7) rfl) rfl), mv_X12_hand.1, mv_X12_hand.2.1, mv_X12_hand.2.2.1, mv_X12_hand.2.2.2, mn_X12_hand, rfl⟩
theorem ml_L_101 : Mv RL 101 yX11_light cX11_light 4 (some .long) 11 3 := ⟨(tk_4 (List.mem_of_getElem? (i := 53) rfl) rfl), mv_X11_light.1, mv_X11_light.2.1, mv_X11_light.2.2.1, mv_X11_light.2.2.2, mn_X11_light, rfl⟩
theorem ml_L_105 : Mv RL 105 yX12_light cX12_light 4 (some .long) 12 3 := ⟨(tk_6 (List.mem_of_getElem? (i := 11) rfl) rfl), mv_X12_light.1, mv_X12_light.2.1, mv_X12_light.2.2.1, mv_X12_light.2.2.2, mn_X12_light, rfl⟩
theorem ml_L_106 : Mv RL 106 yX11_sheet cX11_sheet 2 (some .boolean) 11 1 := ⟨(tk_4 (List.mem_of_getElem? (i := 57) rfl) rfl), mv_X11_sheet.1, mv_X11_sheet.2.1, mv_X11_sheet.2.2.1, mv_X11_sheet.2.2.2, mn_X11_sheet, rfl⟩
theorem ml_L_109 : Mv RL 109 yX12_sheet cX12_sheet 3 (some .boolean) 12 1 := ⟨(tk_6 (List.mem_of_getElem? (i := 15) rfl) rfl), mv_X12_sheet.1, mv_X12_sheet.2.1, mv_X12_sheet.2.2.1, mv_X12_sheet.2.2.2, mn_X12_sheet, rfl⟩
theorem ml_L_112 : Mv RL 112 yX11_alter cX11_alter 5 (some .boolean) 11 3 := ⟨(tk_4 (List.mem_of_getElem? (i := 66) rfl) rfl), mv_X11_alter.1, mv_X11_alter.2.1, mv_X11_alter.2.2.1, mv_X11_alter.2.2.2, mn_X11_alter, rfl⟩
theorem ml_L_116 : Mv RL 116 yX12_alter cX12_alter 5 (some .boolean) 12 3 := ⟨(tk_6 (List.mem_of_getElem? (i := 19) rfl) rfl), mv_X12_alter.1, mv_X12_alter.2.1, mv_X12_alter.2.2.1, mv_X12_alter.2.2.2, mn_X12_alter, rfl⟩
theorem ml_L_117 : Mv RL 117 yX11_check cX11_check 2 (some .int) 11 1 := ⟨(tk_4 (List.mem_of_getElem? (i := 70) rfl) rfl), mv_X11_check.1, mv_X11_check.2.1, mv_X11_check.2.2.1, mv_X11_check.2.2.2, mn_X11_check, rfl⟩
theorem ml_L_120 : Mv RL 120 yX12_check cX12_check 5 (some .int) 12 1 := ⟨(tk_6 (List.mem_of_getElem? (i := 24) rfl) rfl), mv_X12_check.1, mv_X12_check.2.1, mv_X12_check.2.2.1, mv_X12_check.2.2.2, mn_X12_check, rfl⟩
theorem ml_L_121 : Mv RL 121 yX11_below cX11_below 3 (some .int) 11 2 := ⟨(tk_4 (List.mem_of_getElem? (i := 78) rfl) rfl), mv_X11_below.1, mv_X11_below.2.1, mv_X11_below.2.2.1, mv_X11_below.2.2.2, mn_X11_below, rfl⟩
theorem ml_L_124 : Mv RL 124 yX12_below cX12_below 3 (some .int) 12 2 := ⟨(tk_6 (List.mem_of_getElem? (i := 29) rfl) rfl), mv_X12_below.1, mv_X12_below.2.1, mv_X12_below.2.2.1, mv_X12_below.2.2.2, mn_X12_below, rfl⟩
theorem ml_L_125 : Mv RL 125 yX11_tone cX11_tone 3 (some .int) 11 2 := ⟨(tk_4 (List.mem_of_getElem? (i := 94) rfl) rfl), mv_X11_tone.1, mv_X11_tone.2.1, mv_X11_tone.2.2.1, mv_X11_tone.2.2.2, mn_X11_tone, rfl⟩
theorem ml_L_128 : Mv RL 128 yX12_tone cX12_tone 3 (some .int) 12 2 := ⟨(tk_6 (List.mem_of_getElem? (i := 46) rfl) rfl), mv_X12_tone.1, mv_X12_tone.2.1, mv_X12_tone.2.2.1, mv_X12_tone.2.2.2, mn_X12_tone, rfl⟩
theorem ml_L_129 : Mv RL 129 yX11_seen cX11_seen 6 (some .int) 11 4 := ⟨(tk_4 (List.mem_of_getElem? (i := 103) rfl) rfl), mv_X11_seen.1, mv_X11_seen.2.1, mv_X11_seen.2.2.1, mv_X11_seen.2.2.2, mn_X11_seen, rfl⟩
theorem ml_L_133 : Mv RL 133 yX12_seen cX12_seen 7 (some .int) 12 4 := ⟨(tk_6 (List.mem_of_getElem? (i := 54) rfl) rfl), mv_X12_seen.1, mv_X12_seen.2.1, mv_X12_seen.2.2.1, mv_X12_seen.2.2.2, mn_X12_seen, rfl⟩
theorem ml_L_134 : Mv RL 134 yX11_fits cX11_fits 6 (some .int) 11 2 := ⟨(tk_4 (List.mem_of_getElem? (i := 108) rfl) rfl), mv_X11_fits.1, mv_X11_fits.2.1, mv_X11_fits.2.2.1, mv_X11_fits.2.2.2, mn_X11_fits, rfl⟩
theorem ml_L_137 : Mv RL 137 yX12_fits cX12_fits 5 (some .int) 12 2 := ⟨(tk_6 (List.mem_of_getElem? (i := 59) rfl) rfl), mv_X12_fits.1, mv_X12_fits.2.1, mv_X12_fits.2.2.1, mv_X12_fits.2.2.2, mn_X12_fits, rfl⟩
theorem ml_L_138 : Mv RL 138 yX11_image cX11_image 1 (some .int) 11 0 := ⟨(tk_4 (List.mem_of_getElem? (i := 124) rfl) rfl), mv_X11_image.1, mv_X11_image.2.1, mv_X11_image.2.2.1, mv_X11_image.2.2.2, mn_X11_image, rfl⟩
theorem ml_L_141 : Mv RL 141 yX12_image cX12_image 1 (some .int) 12 0 := ⟨(tk_6 (List.mem_of_getElem? (i := 71) rfl) rfl), mv_X12_image.1, mv_X12_image.2.1, mv_X12_image.2.2.1, mv_X12_image.2.2.2, mn_X12_image, rfl⟩
theorem ml_L_142 : Mv RL 142 yX11_back cX11_back 1 (some .int) 11 0 := ⟨(tk_4 (List.mem_of_getElem? (i := 137) rfl) rfl), mv_X11_back.1, mv_X11_back.2.1, mv_X11_back.2.2.1, mv_X11_back.2.2.2, mn_X11_back, rfl⟩
theorem ml_L_145 : Mv RL 145 yX12_back cX12_back 1 (some .int) 12 0 := ⟨(tk_6 (List.mem_of_getElem? (i := 75) rfl) rfl), mv_X12_back.1, mv_X12_back.2.1, mv_X12_back.2.2.1, mv_X12_back.2.2.2, mn_X12_back, rfl⟩
theorem ml_L_146 : Mv RL 146 yX11_about cX11_about 2 (some .int) 11 1 := ⟨(tk_4 (List.mem_of_getElem? (i := 141) rfl) rfl), mv_X11_about.1, mv_X11_about.2.1, mv_X11_about.2.2.1, mv_X11_about.2.2.2, mn_X11_about, rfl⟩
theorem ml_L_149 : Mv RL 149 yX12_about cX12_about 2 (some .int) 12 1 := ⟨(tk_6 (List.mem_of_getElem? (i := 79) rfl) rfl), mv_X12_about.1, mv_X12_about.2.1, mv_X12_about.2.2.1, mv_X12_about.2.2.2, mn_X12_about, rfl⟩
theorem kc_L_110 : Cond.constantLong RL 110 (4294967295) ∈ gw := (tk_6 (List.mem_of_getElem? (i := 83) rfl) rfl)
