
def qI (sh : Nat → Sh) (n : Nat) (D : va_G) (cy : Nat → ClassId) (ad : Nat → Nat) (r : Int32) (u : Mem) : Array Value → State → Outcome → State → Prop := va_Qi (fun r2 (_ : Unit) => r2 = r) (fun _ t => wv sh n D cy ad u t) (rA ad n)
def qL (sh : Nat → Sh) (n : Nat) (D : va_G) (cy : Nat → ClassId) (ad : Nat → Nat) (r : Int64) (u : Mem) : Array Value → State → Outcome → State → Prop := va_Ql (fun r2 (_ : Unit) => r2 = r) (fun _ t => wv sh n D cy ad u t) (rA ad n)
def qV (sh : Nat → Sh) (n : Nat) (D : va_G) (cy : Nat → ClassId) (ad : Nat → Nat) (u : Mem) : Array Value → State → Outcome → State → Prop := va_Qv (fun (_ : Unit) => True) (fun _ t => wv sh n D cy ad u t) (rA ad n)
def qA (sh : Nat → Sh) (n : Nat) (D : va_G) (cy : Nat → ClassId) (ad : Nat → Nat) (r : Nat) (u : Mem) : Array Value → State → Outcome → State → Prop := va_Qr (fun (_ : Unit) => True) (fun _ a t => a = ad (5 * r) ∧ wv sh n D cy ad u t) (rA ad n)
def rmK (f k : Nat) : Room := { frames := f, cells := 0, slots := 0, locals := k }
/-- the words of a virtual, a static call -/
def Mv (own : String) (index : Nat) (y : MethodName) (b : ByteArray) (k : Nat) (r : Option FieldType) (ci nA : Nat) : Prop := Cond.methodLink own index y ∈ gw ∧ Cond.instanceMethod y ∈ gw ∧ Cond.selects y.cls y y ∈ gw ∧ Cond.initialized y.cls ∈ gw ∧ Cond.code y b k r ∈ gw ∧ (y.cls ≠ "java/lang/invoke/MethodHandle" ∧ y.cls ≠ "java/lang/invoke/VarHandle" ∧ (parseMethodDescriptor y.desc).map (fun d => d.parameters.length) = some nA) ∧ (vwCl[ci]?).map (fun q => q.1) = some y.cls
def Mt (own : String) (index : Nat) (y : MethodName) (b : ByteArray) (k : Nat) (r : Option FieldType) (nA : Nat) : Prop := Cond.methodLink own index y ∈ gw ∧ Cond.instanceMethod y ∈ gw ∧ Cond.selects y.cls y y ∈ gw ∧ Cond.initialized y.cls ∈ gw ∧ Cond.code y b k r ∈ gw ∧ (y.cls ≠ "java/lang/invoke/MethodHandle" ∧ y.cls ≠ "java/lang/invoke/VarHandle" ∧ (parseMethodDescriptor y.desc).map (fun d => d.parameters.length) = some nA) ∧ y.cls = "java/lang/String"
def Ms (own : String) (index : Nat) (y : MethodName) (b : ByteArray) (k : Nat) (r : Option FieldType) (nA : Nat) : Prop := Cond.methodLink own index y ∈ gw ∧ Cond.static y ∈ gw ∧ Cond.initialized y.cls ∈ gw ∧ Cond.code y b k r ∈ gw ∧ (y.cls ≠ "java/lang/invoke/MethodHandle" ∧ y.cls ≠ "java/lang/invoke/VarHandle" ∧ (parseMethodDescriptor y.desc).map (fun d => d.parameters.length) = some nA)
def Mn (own : String) (index : Nat) (y : MethodName) (host : String) (b : ByteArray) (k : Nat) (r : Option FieldType) (nA : Nat) : Prop := Cond.methodLinkNest own index y host ∈ nws ∧ Cond.static y ∈ gw ∧ Cond.initialized y.cls ∈ gw ∧ Cond.code y b k r ∈ gw ∧ (y.cls ≠ "java/lang/invoke/MethodHandle" ∧ y.cls ≠ "java/lang/invoke/VarHandle" ∧ (parseMethodDescriptor y.desc).map (fun d => d.parameters.length) = some nA)
section VM
variable {sh : Nat → Sh} {n : Nat} {D : va_G} {cy : Nat → ClassId} {ad : Nat → Nat} {nL : Nat} {cc : ByteArray} {own : String} {p : Program} {l : Launch} {e : Env} {R : Room} {s : State} {m : MethodId} {args : Array Value} {below : List Frame} {meth : Method} {c : Code} {Q : State → Prop} {pc : Nat} {lv : List (Nat × Value)} {st st0 : List Value} {u u2 : Mem}
theorem wv_end (C : Cx n D cy ad nL cc own R p s m args c) {H : Heap} {t : State} (hP : va_P D vwCl (wl ad n (wE cy ad sh u)) H) {locs : List Loc} (hS : va_S (rA ad n) s.heap H locs) (ht : t.heap = H) (hW : s.WarmedH t.vm) : wv sh n D cy ad u t := ⟨by rw [ht]; exact hP, va_K.moved hW.alike C.2.2.2.2.2.1, nwK_warm hW C.2.2.2.2.2.2.1, C.2.2.2.2.2.2.2.1, sF_end C.2.2.2.2.2.2.2.2 (fun a h1 h2 => by rw [ht]; exact hS.2.1 a h1 h2) hW⟩
theorem wv_blind {av : List Value} : FrameBlind (va_Pc av (wv sh n D cy ad u)) := fun a U g mk q => ⟨q.1, q.2.1, va_K.moved (u := U) (U := U.calling g mk a) (Vm.Alike.refl U.vm) q.2.2.1, nwK_same (s := U) (U := U.calling g mk a) rfl q.2.2.2.1, q.2.2.2.2.1, sF_same (s := U) (U := U.calling g mk a) rfl rfl q.2.2.2.2.2⟩
theorem v_iret (C : Cx n D cy ad nL cc own R p s m args c) (hr : meth.sig.returnType = some .int) (hlk : meth.locks = false) {v : Int32} (hd : decode cc pc = .ok (.ireturn, 1)) : V sh n D cy ad nL p l e R s m args below meth c (MQ below (qI sh n D cy ad v u) args s 0 0 (rA ad n)) (pc) (lv) ([.int v]) (u) :=
  fun H locs la hP hS hl => W.iret C.1 C.2.1 hr (fun t ht hW => ⟨⟨v, (), rfl, rfl, wv_end C hP hS ht hW⟩, hS.F ht⟩) hS.2.2 hd hlk
theorem v_zret (C : Cx n D cy ad nL cc own R p s m args c) (hr : meth.sig.returnType = some .boolean) (hlk : meth.locks = false) {b : Bool} (hd : decode cc pc = .ok (.ireturn, 1)) : V sh n D cy ad nL p l e R s m args below meth c (MQ below (qI sh n D cy ad (bz b) u) args s 0 0 (rA ad n)) (pc) (lv) ([.int (bz b)]) (u) :=
  fun H locs la hP hS hl => W.zret C.1 C.2.1 hr (by cases b <;> rfl) (fun t ht hW => ⟨⟨bz b, (), rfl, rfl, wv_end C hP hS ht hW⟩, hS.F ht⟩) hS.2.2 hd hlk
theorem v_nret (C : Cx n D cy ad nL cc own R p s m args c) {ty : FieldType} (hr : meth.sig.returnType = some ty) (hlk : meth.locks = false) {v : Int32} (hn : narrow ty (.int v) = .int v) (hd : decode cc pc = .ok (.ireturn, 1)) : V sh n D cy ad nL p l e R s m args below meth c (MQ below (qI sh n D cy ad v u) args s 0 0 (rA ad n)) (pc) (lv) ([.int v]) (u) :=
  fun H locs la hP hS hl => W.zret C.1 C.2.1 hr hn (fun t ht hW => ⟨⟨v, (), rfl, rfl, wv_end C hP hS ht hW⟩, hS.F ht⟩) hS.2.2 hd hlk
theorem v_lret (C : Cx n D cy ad nL cc own R p s m args c) (hr : meth.sig.returnType = some .long) (hlk : meth.locks = false) {v : Int64} (hd : decode cc pc = .ok (.lreturn, 1)) : V sh n D cy ad nL p l e R s m args below meth c (MQ below (qL sh n D cy ad v u) args s 0 0 (rA ad n)) (pc) (lv) ([.long v]) (u) :=
  fun H locs la hP hS hl => W.lret C.1 C.2.1 hr (fun t ht hW => ⟨⟨v, (), rfl, rfl, wv_end C hP hS ht hW⟩, hS.F ht⟩) hS.2.2 hd hlk
theorem v_vret (C : Cx n D cy ad nL cc own R p s m args c) (hr : meth.sig.returnType = none) (hlk : meth.locks = false) (hd : decode cc pc = .ok (.return_, 1)) : V sh n D cy ad nL p l e R s m args below meth c (MQ below (qV sh n D cy ad u) args s 0 0 (rA ad n)) (pc) (lv) ([]) (u) :=
  fun H locs la hP hS hl => W.vret C.1 C.2.1 hr (fun t ht hW => ⟨⟨(), rfl, trivial, wv_end C hP hS ht hW⟩, hS.F ht⟩) hS.2.2 hd hlk
theorem v_aret (C : Cx n D cy ad nL cc own R p s m args c) {Cn : String} (hr : meth.sig.returnType = some (.object Cn)) (hlk : meth.locks = false) {i : Nat} (hd : decode cc pc = .ok (.areturn, 1)) : V sh n D cy ad nL p l e R s m args below meth c (MQ below (qA sh n D cy ad i u) args s 0 0 (rA ad n)) (pc) (lv) ([.ref (ad (5 * i))]) (u) :=
  fun H locs la hP hS hl => W.aret C.1 C.2.1 hr (Or.inl ⟨_, rfl⟩) (Or.inr ⟨_, rfl⟩) (fun t ht hW => ⟨⟨(), ad (5 * i), rfl, trivial, rfl, wv_end C hP hS ht hW⟩, hS.F ht⟩) hS.2.2 hd hlk
theorem met_of {y : MethodName} {ret : Option FieldType} {av : List Value} {Qc : Array Value → State → Outcome → State → Prop} (hy : plainName y.cls = true) (hn : (lg_sl av).length ≤ nL) (body : ∀ (p : Program) (e : Env) (s : State) (m : MethodId) (below : List Frame) (meth : Method) (c : Code), Cx n D cy ad nL cc y.cls R p s m av.toArray c → meth.sig.returnType = ret → meth.locks = false → V sh n D cy ad nL p l e R s m av.toArray below meth c (MQ below Qc av.toArray s 0 0 (rA ad n)) (0) (lv_args 0 av) ([]) (u)) : Met l y (.code y cc nL ret :: gw) R (va_Pc av (wv sh n D cy ad u)) Qc 0 0 (rA ad n) := by
  refine Met.ofW (cc := cc) (maxL := nL) (ret := ret) hy rfl ?_
  intro p e s m args below meth c s₁ B hml hv
  obtain ⟨rfl, hw⟩ := hv
  have hl := lv_entry av hn
  rw [lg_entry_eq]
  exact body p e s m below meth c ⟨B.exec, B.bytes, hml, findClass_of_methodNamed B.named, fun w h => atoms_spec (ws := Cond.code y cc nL ret :: gw) B.pre w (List.mem_cons_of_mem _ h), hw.2.1, hw.2.2.1, hw.2.2.2.1, hw.2.2.2.2⟩ B.returns B.notSynchronized s.heap [] _ hw.1 va_S.rf hl
theorem met_ofJ {y : MethodName} {ret : Option FieldType} {av : List Value} {Qc : Array Value → State → Outcome → State → Prop} (hy : plainFor y = true) (hn : (lg_sl av).length ≤ nL) (body : ∀ (p : Program) (e : Env) (s : State) (m : MethodId) (below : List Frame) (meth : Method) (c : Code), Cx n D cy ad nL cc y.cls R p s m av.toArray c → meth.sig.returnType = ret → meth.locks = false → V sh n D cy ad nL p l e R s m av.toArray below meth c (MQ below Qc av.toArray s 0 0 (rA ad n)) (0) (lv_args 0 av) ([]) (u)) : Met l y (.code y cc nL ret :: gw) R (va_Pc av (wv sh n D cy ad u)) Qc 0 0 (rA ad n) := by
  refine va_MetF (cc := cc) (maxL := nL) (ret := ret) hy rfl ?_
  intro p e s m args below meth c s₁ B hml hv
  obtain ⟨rfl, hw⟩ := hv
  have hl := lv_entry av hn
  rw [lg_entry_eq]
  exact body p e s m below meth c ⟨B.exec, B.bytes, hml, findClass_of_methodNamed B.named, fun w h => atoms_spec (ws := Cond.code y cc nL ret :: gw) B.pre w (List.mem_cons_of_mem _ h), hw.2.1, hw.2.2.1, hw.2.2.2.1, hw.2.2.2.2⟩ B.returns B.notSynchronized s.heap [] _ hw.1 va_S.rf hl

theorem v_callVi (C : Cx n D cy ad nL cc own R p s m args c) {y : MethodName} {bytes : ByteArray} {maxL index nA : Nat} {ret : Option FieldType} {rm : Room} {k0 ci : Nat} {l0 : List Nat} (As : List Value) {r : Int32} (hM : Met l y (.code y bytes maxL ret :: gw) rm (va_Pc (.ref (ad k0) :: As) (wv sh n D cy ad u)) (qI sh n D cy ad r u2) 0 0 (rA ad n)) (hm : Mv own index y bytes maxL ret ci nA) (hp : Pl sh n k0 (.inl (ci, l0))) (hroom : rm.frames + 1 ≤ R.frames ∧ 8 + (maxL + 11) + rm.locals ≤ R.locals) (hrc : rm.cells = 0 ∧ rm.slots = 0) (hn : As.length = nA) (hs : st0 = As.reverse ++ .ref (ad k0) :: st) (hst : (st.map fun v => v.category).sum ≤ 8) (hd : decode cc pc = .ok (.invokevirtual index, 3)) (k : V sh n D cy ad nL p l e R s m args below meth c (Q) (pc + 3) (lv) (.int r :: st) (u2)) : V sh n D cy ad nL p l e R s m args below meth c (Q) (pc) (lv) (st0) (u) := by
  subst hs
  intro H locs la hP hS hl
  have hfix : CallFix p m c cc nL s args gw own := ⟨C.1, C.2.1, C.2.2.1, C.2.2.2.1, C.2.2.2.2.1⟩
  have hpre : ∀ U : State, U.heap = H → s.WarmedH U.vm → va_Pc (.ref (ad k0) :: As) (wv sh n D cy ad u) ((.ref (ad k0) :: As) : List Value).toArray U := fun U hU hW => ⟨rfl, wv_end C hP hS hU hW⟩
  obtain ⟨m1, m2, m3, m4, m5, m6, m7⟩ := hm
  obtain ⟨qc, hqc, hqn⟩ : ∃ qc : vw_C, vwCl[ci]? = some qc ∧ qc.1 = y.cls := by
    cases hq : vwCl[ci]? with
    | none => rw [hq] at m7; cases m7
    | some qc => rw [hq] at m7; exact ⟨qc, rfl, Option.some.inj m7⟩
  have hrecv := va_recv C.2.2.2.2.2.1 hP hqc (wE_o hp)
  rw [hqn] at hrecv
  have cw : CallW R s args own y.cls index y bytes maxL ret (.code y bytes maxL ret :: gw) rm 0 0 nA := ⟨callB_of nA C.2.2.2.2.1 (gw_call m5) rfl hrc.1 hrc.2 (C.2.2.2.2.1 _ m4) (C.2.2.2.2.1 _ m1) m6 hroom, C.2.2.2.2.1 _ m2, C.2.2.2.2.1 _ m3⟩
  refine va_calli (va_runV (As := As) (rest := st) hfix hM cw ⟨wv_blind, hrecv, hpre⟩ rfl hn hl.1 rfl (lv_room hst) hd ⟨by omega, by omega⟩) hS (fun q _ h => h) (fun q h => h) (fun r2 x t H1 locs1 ht hvm hw hB hz1 hk1 hS1 => ?_)
  subst hw; 
  have hP1 := hB.1
  rw [ht] at hP1
  exact k H1 locs1 la hP1 hS1 hl
theorem v_callSi (C : Cx n D cy ad nL cc own R p s m args c) {y : MethodName} {bytes : ByteArray} {maxL index nA : Nat} {ret : Option FieldType} {rm : Room} (As : List Value) {r : Int32} (hM : Met l y (.code y bytes maxL ret :: gw) rm (va_Pc As (wv sh n D cy ad u)) (qI sh n D cy ad r u2) 0 0 (rA ad n)) (hm : Ms own index y bytes maxL ret nA) (hroom : rm.frames + 1 ≤ R.frames ∧ 8 + (maxL + 11) + rm.locals ≤ R.locals) (hrc : rm.cells = 0 ∧ rm.slots = 0) (hn : As.length = nA) (hs : st0 = As.reverse ++ st) (hst : (st.map fun v => v.category).sum ≤ 8) (hd : decode cc pc = .ok (.invokestatic index, 3)) (k : V sh n D cy ad nL p l e R s m args below meth c (Q) (pc + 3) (lv) (.int r :: st) (u2)) : V sh n D cy ad nL p l e R s m args below meth c (Q) (pc) (lv) (st0) (u) := by
  subst hs
  intro H locs la hP hS hl
  have hfix : CallFix p m c cc nL s args gw own := ⟨C.1, C.2.1, C.2.2.1, C.2.2.2.1, C.2.2.2.2.1⟩
  have hpre : ∀ U : State, U.heap = H → s.WarmedH U.vm → va_Pc As (wv sh n D cy ad u) (As : List Value).toArray U := fun U hU hW => ⟨rfl, wv_end C hP hS hU hW⟩
  obtain ⟨m1, m2, m4, m5, m6⟩ := hm
  have cw : CallB R s args own index y bytes maxL ret (.code y bytes maxL ret :: gw) rm 0 0 nA ∧ (Cond.static y).before args s = true := ⟨callB_of nA C.2.2.2.2.1 (gw_call m5) rfl hrc.1 hrc.2 (C.2.2.2.2.1 _ m4) (C.2.2.2.2.1 _ m1) m6 hroom, C.2.2.2.2.1 _ m2⟩
  refine va_calli (va_runS (As := As) (rest := st) hfix hM cw ⟨wv_blind, hpre⟩ rfl hn hl.1 rfl (lv_room hst) hd ⟨by omega, by omega⟩) hS (fun q _ h => h) (fun q h => h) (fun r2 x t H1 locs1 ht hvm hw hB hz1 hk1 hS1 => ?_)
  subst hw; 
  have hP1 := hB.1
  rw [ht] at hP1
  exact k H1 locs1 la hP1 hS1 hl
theorem v_callNi (C : Cx n D cy ad nL cc own R p s m args c) {y : MethodName} {bytes : ByteArray} {maxL index nA : Nat} {ret : Option FieldType} {rm : Room} {host : String} (As : List Value) {r : Int32} (hM : Met l y (.code y bytes maxL ret :: gw) rm (va_Pc As (wv sh n D cy ad u)) (qI sh n D cy ad r u2) 0 0 (rA ad n)) (hm : Mn own index y host bytes maxL ret nA) (hroom : rm.frames + 1 ≤ R.frames ∧ 8 + (maxL + 11) + rm.locals ≤ R.locals) (hrc : rm.cells = 0 ∧ rm.slots = 0) (hn : As.length = nA) (hs : st0 = As.reverse ++ st) (hst : (st.map fun v => v.category).sum ≤ 8) (hd : decode cc pc = .ok (.invokestatic index, 3)) (k : V sh n D cy ad nL p l e R s m args below meth c (Q) (pc + 3) (lv) (.int r :: st) (u2)) : V sh n D cy ad nL p l e R s m args below meth c (Q) (pc) (lv) (st0) (u) := by
  subst hs
  intro H locs la hP hS hl
  have hfix : CallFix p m c cc nL s args gw own := ⟨C.1, C.2.1, C.2.2.1, C.2.2.2.1, C.2.2.2.2.1⟩
  have hpre : ∀ U : State, U.heap = H → s.WarmedH U.vm → va_Pc As (wv sh n D cy ad u) (As : List Value).toArray U := fun U hU hW => ⟨rfl, wv_end C hP hS hU hW⟩
  obtain ⟨m1, m2, m4, m5, m6⟩ := hm
  have cw : va_CN R s args own index y host bytes maxL ret (.code y bytes maxL ret :: gw) rm 0 0 nA ∧ (Cond.static y).before args s = true ∧ True := ⟨va_cnB nA C.2.2.2.2.1 (gw_call m5) rfl hrc.1 hrc.2 (C.2.2.2.2.2.2.1 _ m1) (C.2.2.2.2.1 _ m4) m6 hroom, C.2.2.2.2.1 _ m2, trivial⟩
  refine va_calli (va_runSN (As := As) (rest := st) hfix hM cw ⟨wv_blind, hpre⟩ rfl hn hl.1 rfl (lv_room hst) hd ⟨by omega, by omega⟩) hS (fun q _ h => h) (fun q h => h) (fun r2 x t H1 locs1 ht hvm hw hB hz1 hk1 hS1 => ?_)
  subst hw; 
  have hP1 := hB.1
  rw [ht] at hP1
  exact k H1 locs1 la hP1 hS1 hl
theorem v_callTi (C : Cx n D cy ad nL cc own R p s m args c) {y : MethodName} {bytes : ByteArray} {maxL index nA : Nat} {ret : Option FieldType} {rm : Room} {k0 : Nat} (As : List Value) {r : Int32} (hM : Met l y (.code y bytes maxL ret :: gw) rm (va_Pc (.ref (ad (1000 + k0)) :: As) (wv sh n D cy ad u)) (qI sh n D cy ad r u2) 0 0 (rA ad n)) (hm : Mt own index y bytes maxL ret nA) (hp : k0 < 7) (hroom : rm.frames + 1 ≤ R.frames ∧ 8 + (maxL + 11) + rm.locals ≤ R.locals) (hrc : rm.cells = 0 ∧ rm.slots = 0) (hn : As.length = nA) (hs : st0 = As.reverse ++ .ref (ad (1000 + k0)) :: st) (hst : (st.map fun v => v.category).sum ≤ 8) (hd : decode cc pc = .ok (.invokevirtual index, 3)) (k : V sh n D cy ad nL p l e R s m args below meth c (Q) (pc + 3) (lv) (.int r :: st) (u2)) : V sh n D cy ad nL p l e R s m args below meth c (Q) (pc) (lv) (st0) (u) := by
  subst hs
  intro H locs la hP hS hl
  have hfix : CallFix p m c cc nL s args gw own := ⟨C.1, C.2.1, C.2.2.1, C.2.2.2.1, C.2.2.2.2.1⟩
  have hpre : ∀ U : State, U.heap = H → s.WarmedH U.vm → va_Pc (.ref (ad (1000 + k0)) :: As) (wv sh n D cy ad u) ((.ref (ad (1000 + k0)) :: As) : List Value).toArray U := fun U hU hW => ⟨rfl, wv_end C hP hS hU hW⟩
  obtain ⟨m1, m2, m3, m4, m5, m6, m7⟩ := hm
  have hrecv := vk_recv C.2.2.2.2.2.2.2.2.1 hp hS
  rw [← m7] at hrecv
  have cw : CallW R s args own y.cls index y bytes maxL ret (.code y bytes maxL ret :: gw) rm 0 0 nA := ⟨callB_of nA C.2.2.2.2.1 (gw_call m5) rfl hrc.1 hrc.2 (C.2.2.2.2.1 _ m4) (C.2.2.2.2.1 _ m1) m6 hroom, C.2.2.2.2.1 _ m2, C.2.2.2.2.1 _ m3⟩
  refine va_calli (va_runV (As := As) (rest := st) hfix hM cw ⟨wv_blind, hrecv, hpre⟩ rfl hn hl.1 rfl (lv_room hst) hd ⟨by omega, by omega⟩) hS (fun q _ h => h) (fun q h => h) (fun r2 x t H1 locs1 ht hvm hw hB hz1 hk1 hS1 => ?_)
  subst hw; 
  have hP1 := hB.1
  rw [ht] at hP1
  exact k H1 locs1 la hP1 hS1 hl
theorem v_callVl (C : Cx n D cy ad nL cc own R p s m args c) {y : MethodName} {bytes : ByteArray} {maxL index nA : Nat} {ret : Option FieldType} {rm : Room} {k0 ci : Nat} {l0 : List Nat} (As : List Value) {r : Int64} (hM : Met l y (.code y bytes maxL ret :: gw) rm (va_Pc (.ref (ad k0) :: As) (wv sh n D cy ad u)) (qL sh n D cy ad r u2) 0 0 (rA ad n)) (hm : Mv own index y bytes maxL ret ci nA) (hp : Pl sh n k0 (.inl (ci, l0))) (hroom : rm.frames + 1 ≤ R.frames ∧ 8 + (maxL + 11) + rm.locals ≤ R.locals) (hrc : rm.cells = 0 ∧ rm.slots = 0) (hn : As.length = nA) (hs : st0 = As.reverse ++ .ref (ad k0) :: st) (hst : (st.map fun v => v.category).sum ≤ 8) (hd : decode cc pc = .ok (.invokevirtual index, 3)) (k : V sh n D cy ad nL p l e R s m args below meth c (Q) (pc + 3) (lv) (.long r :: st) (u2)) : V sh n D cy ad nL p l e R s m args below meth c (Q) (pc) (lv) (st0) (u) := by
  subst hs
  intro H locs la hP hS hl
  have hfix : CallFix p m c cc nL s args gw own := ⟨C.1, C.2.1, C.2.2.1, C.2.2.2.1, C.2.2.2.2.1⟩
  have hpre : ∀ U : State, U.heap = H → s.WarmedH U.vm → va_Pc (.ref (ad k0) :: As) (wv sh n D cy ad u) ((.ref (ad k0) :: As) : List Value).toArray U := fun U hU hW => ⟨rfl, wv_end C hP hS hU hW⟩
  obtain ⟨m1, m2, m3, m4, m5, m6, m7⟩ := hm
  obtain ⟨qc, hqc, hqn⟩ : ∃ qc : vw_C, vwCl[ci]? = some qc ∧ qc.1 = y.cls := by
    cases hq : vwCl[ci]? with
    | none => rw [hq] at m7; cases m7
    | some qc => rw [hq] at m7; exact ⟨qc, rfl, Option.some.inj m7⟩
  have hrecv := va_recv C.2.2.2.2.2.1 hP hqc (wE_o hp)
  rw [hqn] at hrecv
  have cw : CallW R s args own y.cls index y bytes maxL ret (.code y bytes maxL ret :: gw) rm 0 0 nA := ⟨callB_of nA C.2.2.2.2.1 (gw_call m5) rfl hrc.1 hrc.2 (C.2.2.2.2.1 _ m4) (C.2.2.2.2.1 _ m1) m6 hroom, C.2.2.2.2.1 _ m2, C.2.2.2.2.1 _ m3⟩
  refine va_calll (va_runV (As := As) (rest := st) hfix hM cw ⟨wv_blind, hrecv, hpre⟩ rfl hn hl.1 rfl (lv_room hst) hd ⟨by omega, by omega⟩) hS (fun q _ h => h) (fun q h => h) (fun r2 x t H1 locs1 ht hvm hw hB hz1 hk1 hS1 => ?_)
  subst hw; 
  have hP1 := hB.1
  rw [ht] at hP1
  exact k H1 locs1 la hP1 hS1 hl
theorem v_callSl (C : Cx n D cy ad nL cc own R p s m args c) {y : MethodName} {bytes : ByteArray} {maxL index nA : Nat} {ret : Option FieldType} {rm : Room} (As : List Value) {r : Int64} (hM : Met l y (.code y bytes maxL ret :: gw) rm (va_Pc As (wv sh n D cy ad u)) (qL sh n D cy ad r u2) 0 0 (rA ad n)) (hm : Ms own index y bytes maxL ret nA) (hroom : rm.frames + 1 ≤ R.frames ∧ 8 + (maxL + 11) + rm.locals ≤ R.locals) (hrc : rm.cells = 0 ∧ rm.slots = 0) (hn : As.length = nA) (hs : st0 = As.reverse ++ st) (hst : (st.map fun v => v.category).sum ≤ 8) (hd : decode cc pc = .ok (.invokestatic index, 3)) (k : V sh n D cy ad nL p l e R s m args below meth c (Q) (pc + 3) (lv) (.long r :: st) (u2)) : V sh n D cy ad nL p l e R s m args below meth c (Q) (pc) (lv) (st0) (u) := by
  subst hs
  intro H locs la hP hS hl
  have hfix : CallFix p m c cc nL s args gw own := ⟨C.1, C.2.1, C.2.2.1, C.2.2.2.1, C.2.2.2.2.1⟩
  have hpre : ∀ U : State, U.heap = H → s.WarmedH U.vm → va_Pc As (wv sh n D cy ad u) (As : List Value).toArray U := fun U hU hW => ⟨rfl, wv_end C hP hS hU hW⟩
  obtain ⟨m1, m2, m4, m5, m6⟩ := hm
  have cw : CallB R s args own index y bytes maxL ret (.code y bytes maxL ret :: gw) rm 0 0 nA ∧ (Cond.static y).before args s = true := ⟨callB_of nA C.2.2.2.2.1 (gw_call m5) rfl hrc.1 hrc.2 (C.2.2.2.2.1 _ m4) (C.2.2.2.2.1 _ m1) m6 hroom, C.2.2.2.2.1 _ m2⟩
  refine va_calll (va_runS (As := As) (rest := st) hfix hM cw ⟨wv_blind, hpre⟩ rfl hn hl.1 rfl (lv_room hst) hd ⟨by omega, by omega⟩) hS (fun q _ h => h) (fun q h => h) (fun r2 x t H1 locs1 ht hvm hw hB hz1 hk1 hS1 => ?_)
  subst hw; 
  have hP1 := hB.1
  rw [ht] at hP1
  exact k H1 locs1 la hP1 hS1 hl
theorem v_callNl (C : Cx n D cy ad nL cc own R p s m args c) {y : MethodName} {bytes : ByteArray} {maxL index nA : Nat} {ret : Option FieldType} {rm : Room} {host : String} (As : List Value) {r : Int64} (hM : Met l y (.code y bytes maxL ret :: gw) rm (va_Pc As (wv sh n D cy ad u)) (qL sh n D cy ad r u2) 0 0 (rA ad n)) (hm : Mn own index y host bytes maxL ret nA) (hroom : rm.frames + 1 ≤ R.frames ∧ 8 + (maxL + 11) + rm.locals ≤ R.locals) (hrc : rm.cells = 0 ∧ rm.slots = 0) (hn : As.length = nA) (hs : st0 = As.reverse ++ st) (hst : (st.map fun v => v.category).sum ≤ 8) (hd : decode cc pc = .ok (.invokestatic index, 3)) (k : V sh n D cy ad nL p l e R s m args below meth c (Q) (pc + 3) (lv) (.long r :: st) (u2)) : V sh n D cy ad nL p l e R s m args below meth c (Q) (pc) (lv) (st0) (u) := by
  subst hs
  intro H locs la hP hS hl
  have hfix : CallFix p m c cc nL s args gw own := ⟨C.1, C.2.1, C.2.2.1, C.2.2.2.1, C.2.2.2.2.1⟩
  have hpre : ∀ U : State, U.heap = H → s.WarmedH U.vm → va_Pc As (wv sh n D cy ad u) (As : List Value).toArray U := fun U hU hW => ⟨rfl, wv_end C hP hS hU hW⟩
  obtain ⟨m1, m2, m4, m5, m6⟩ := hm
  have cw : va_CN R s args own index y host bytes maxL ret (.code y bytes maxL ret :: gw) rm 0 0 nA ∧ (Cond.static y).before args s = true ∧ True := ⟨va_cnB nA C.2.2.2.2.1 (gw_call m5) rfl hrc.1 hrc.2 (C.2.2.2.2.2.2.1 _ m1) (C.2.2.2.2.1 _ m4) m6 hroom, C.2.2.2.2.1 _ m2, trivial⟩
  refine va_calll (va_runSN (As := As) (rest := st) hfix hM cw ⟨wv_blind, hpre⟩ rfl hn hl.1 rfl (lv_room hst) hd ⟨by omega, by omega⟩) hS (fun q _ h => h) (fun q h => h) (fun r2 x t H1 locs1 ht hvm hw hB hz1 hk1 hS1 => ?_)
  subst hw; 
  have hP1 := hB.1
  rw [ht] at hP1
  exact k H1 locs1 la hP1 hS1 hl
theorem v_callVv (C : Cx n D cy ad nL cc own R p s m args c) {y : MethodName} {bytes : ByteArray} {maxL index nA : Nat} {ret : Option FieldType} {rm : Room} {k0 ci : Nat} {l0 : List Nat} (As : List Value)  (hM : Met l y (.code y bytes maxL ret :: gw) rm (va_Pc (.ref (ad k0) :: As) (wv sh n D cy ad u)) (qV sh n D cy ad  u2) 0 0 (rA ad n)) (hm : Mv own index y bytes maxL ret ci nA) (hp : Pl sh n k0 (.inl (ci, l0))) (hroom : rm.frames + 1 ≤ R.frames ∧ 8 + (maxL + 11) + rm.locals ≤ R.locals) (hrc : rm.cells = 0 ∧ rm.slots = 0) (hn : As.length = nA) (hs : st0 = As.reverse ++ .ref (ad k0) :: st) (hst : (st.map fun v => v.category).sum ≤ 8) (hd : decode cc pc = .ok (.invokevirtual index, 3)) (k : V sh n D cy ad nL p l e R s m args below meth c (Q) (pc + 3) (lv) (st) (u2)) : V sh n D cy ad nL p l e R s m args below meth c (Q) (pc) (lv) (st0) (u) := by
  subst hs
  intro H locs la hP hS hl
  have hfix : CallFix p m c cc nL s args gw own := ⟨C.1, C.2.1, C.2.2.1, C.2.2.2.1, C.2.2.2.2.1⟩
  have hpre : ∀ U : State, U.heap = H → s.WarmedH U.vm → va_Pc (.ref (ad k0) :: As) (wv sh n D cy ad u) ((.ref (ad k0) :: As) : List Value).toArray U := fun U hU hW => ⟨rfl, wv_end C hP hS hU hW⟩
  obtain ⟨m1, m2, m3, m4, m5, m6, m7⟩ := hm
  obtain ⟨qc, hqc, hqn⟩ : ∃ qc : vw_C, vwCl[ci]? = some qc ∧ qc.1 = y.cls := by
    cases hq : vwCl[ci]? with
    | none => rw [hq] at m7; cases m7
    | some qc => rw [hq] at m7; exact ⟨qc, rfl, Option.some.inj m7⟩
  have hrecv := va_recv C.2.2.2.2.2.1 hP hqc (wE_o hp)
  rw [hqn] at hrecv
  have cw : CallW R s args own y.cls index y bytes maxL ret (.code y bytes maxL ret :: gw) rm 0 0 nA := ⟨callB_of nA C.2.2.2.2.1 (gw_call m5) rfl hrc.1 hrc.2 (C.2.2.2.2.1 _ m4) (C.2.2.2.2.1 _ m1) m6 hroom, C.2.2.2.2.1 _ m2, C.2.2.2.2.1 _ m3⟩
  refine va_callv (va_runV (As := As) (rest := st) hfix hM cw ⟨wv_blind, hrecv, hpre⟩ rfl hn hl.1 rfl (lv_room hst) hd ⟨by omega, by omega⟩) hS (fun q _ h => h) (fun q h => h) (fun x t H1 locs1 ht hvm hw hB hz1 hk1 hS1 => ?_)
  have hP1 := hB.1
  rw [ht] at hP1
  exact k H1 locs1 la hP1 hS1 hl
theorem v_callSv (C : Cx n D cy ad nL cc own R p s m args c) {y : MethodName} {bytes : ByteArray} {maxL index nA : Nat} {ret : Option FieldType} {rm : Room} (As : List Value)  (hM : Met l y (.code y bytes maxL ret :: gw) rm (va_Pc As (wv sh n D cy ad u)) (qV sh n D cy ad  u2) 0 0 (rA ad n)) (hm : Ms own index y bytes maxL ret nA) (hroom : rm.frames + 1 ≤ R.frames ∧ 8 + (maxL + 11) + rm.locals ≤ R.locals) (hrc : rm.cells = 0 ∧ rm.slots = 0) (hn : As.length = nA) (hs : st0 = As.reverse ++ st) (hst : (st.map fun v => v.category).sum ≤ 8) (hd : decode cc pc = .ok (.invokestatic index, 3)) (k : V sh n D cy ad nL p l e R s m args below meth c (Q) (pc + 3) (lv) (st) (u2)) : V sh n D cy ad nL p l e R s m args below meth c (Q) (pc) (lv) (st0) (u) := by
  subst hs
  intro H locs la hP hS hl
  have hfix : CallFix p m c cc nL s args gw own := ⟨C.1, C.2.1, C.2.2.1, C.2.2.2.1, C.2.2.2.2.1⟩
  have hpre : ∀ U : State, U.heap = H → s.WarmedH U.vm → va_Pc As (wv sh n D cy ad u) (As : List Value).toArray U := fun U hU hW => ⟨rfl, wv_end C hP hS hU hW⟩
  obtain ⟨m1, m2, m4, m5, m6⟩ := hm
  have cw : CallB R s args own index y bytes maxL ret (.code y bytes maxL ret :: gw) rm 0 0 nA ∧ (Cond.static y).before args s = true := ⟨callB_of nA C.2.2.2.2.1 (gw_call m5) rfl hrc.1 hrc.2 (C.2.2.2.2.1 _ m4) (C.2.2.2.2.1 _ m1) m6 hroom, C.2.2.2.2.1 _ m2⟩
  refine va_callv (va_runS (As := As) (rest := st) hfix hM cw ⟨wv_blind, hpre⟩ rfl hn hl.1 rfl (lv_room hst) hd ⟨by omega, by omega⟩) hS (fun q _ h => h) (fun q h => h) (fun x t H1 locs1 ht hvm hw hB hz1 hk1 hS1 => ?_)
  have hP1 := hB.1
  rw [ht] at hP1
  exact k H1 locs1 la hP1 hS1 hl
theorem v_callNv (C : Cx n D cy ad nL cc own R p s m args c) {y : MethodName} {bytes : ByteArray} {maxL index nA : Nat} {ret : Option FieldType} {rm : Room} {host : String} (As : List Value)  (hM : Met l y (.code y bytes maxL ret :: gw) rm (va_Pc As (wv sh n D cy ad u)) (qV sh n D cy ad  u2) 0 0 (rA ad n)) (hm : Mn own index y host bytes maxL ret nA) (hroom : rm.frames + 1 ≤ R.frames ∧ 8 + (maxL + 11) + rm.locals ≤ R.locals) (hrc : rm.cells = 0 ∧ rm.slots = 0) (hn : As.length = nA) (hs : st0 = As.reverse ++ st) (hst : (st.map fun v => v.category).sum ≤ 8) (hd : decode cc pc = .ok (.invokestatic index, 3)) (k : V sh n D cy ad nL p l e R s m args below meth c (Q) (pc + 3) (lv) (st) (u2)) : V sh n D cy ad nL p l e R s m args below meth c (Q) (pc) (lv) (st0) (u) := by
  subst hs
  intro H locs la hP hS hl
  have hfix : CallFix p m c cc nL s args gw own := ⟨C.1, C.2.1, C.2.2.1, C.2.2.2.1, C.2.2.2.2.1⟩
  have hpre : ∀ U : State, U.heap = H → s.WarmedH U.vm → va_Pc As (wv sh n D cy ad u) (As : List Value).toArray U := fun U hU hW => ⟨rfl, wv_end C hP hS hU hW⟩
  obtain ⟨m1, m2, m4, m5, m6⟩ := hm
  have cw : va_CN R s args own index y host bytes maxL ret (.code y bytes maxL ret :: gw) rm 0 0 nA ∧ (Cond.static y).before args s = true ∧ True := ⟨va_cnB nA C.2.2.2.2.1 (gw_call m5) rfl hrc.1 hrc.2 (C.2.2.2.2.2.2.1 _ m1) (C.2.2.2.2.1 _ m4) m6 hroom, C.2.2.2.2.1 _ m2, trivial⟩
  refine va_callv (va_runSN (As := As) (rest := st) hfix hM cw ⟨wv_blind, hpre⟩ rfl hn hl.1 rfl (lv_room hst) hd ⟨by omega, by omega⟩) hS (fun q _ h => h) (fun q h => h) (fun x t H1 locs1 ht hvm hw hB hz1 hk1 hS1 => ?_)
  have hP1 := hB.1
  rw [ht] at hP1
  exact k H1 locs1 la hP1 hS1 hl
theorem v_callVa (C : Cx n D cy ad nL cc own R p s m args c) {y : MethodName} {bytes : ByteArray} {maxL index nA : Nat} {ret : Option FieldType} {rm : Room} {k0 ci : Nat} {l0 : List Nat} (As : List Value) {r : Nat} (hM : Met l y (.code y bytes maxL ret :: gw) rm (va_Pc (.ref (ad k0) :: As) (wv sh n D cy ad u)) (qA sh n D cy ad r u2) 0 0 (rA ad n)) (hm : Mv own index y bytes maxL ret ci nA) (hp : Pl sh n k0 (.inl (ci, l0))) (hroom : rm.frames + 1 ≤ R.frames ∧ 8 + (maxL + 11) + rm.locals ≤ R.locals) (hrc : rm.cells = 0 ∧ rm.slots = 0) (hn : As.length = nA) (hs : st0 = As.reverse ++ .ref (ad k0) :: st) (hst : (st.map fun v => v.category).sum ≤ 8) (hd : decode cc pc = .ok (.invokevirtual index, 3)) (k : V sh n D cy ad nL p l e R s m args below meth c (Q) (pc + 3) (lv) (.ref (ad (5 * r)) :: st) (u2)) : V sh n D cy ad nL p l e R s m args below meth c (Q) (pc) (lv) (st0) (u) := by
  subst hs
  intro H locs la hP hS hl
  have hfix : CallFix p m c cc nL s args gw own := ⟨C.1, C.2.1, C.2.2.1, C.2.2.2.1, C.2.2.2.2.1⟩
  have hpre : ∀ U : State, U.heap = H → s.WarmedH U.vm → va_Pc (.ref (ad k0) :: As) (wv sh n D cy ad u) ((.ref (ad k0) :: As) : List Value).toArray U := fun U hU hW => ⟨rfl, wv_end C hP hS hU hW⟩
  obtain ⟨m1, m2, m3, m4, m5, m6, m7⟩ := hm
  obtain ⟨qc, hqc, hqn⟩ : ∃ qc : vw_C, vwCl[ci]? = some qc ∧ qc.1 = y.cls := by
    cases hq : vwCl[ci]? with
    | none => rw [hq] at m7; cases m7
    | some qc => rw [hq] at m7; exact ⟨qc, rfl, Option.some.inj m7⟩
  have hrecv := va_recv C.2.2.2.2.2.1 hP hqc (wE_o hp)
  rw [hqn] at hrecv
  have cw : CallW R s args own y.cls index y bytes maxL ret (.code y bytes maxL ret :: gw) rm 0 0 nA := ⟨callB_of nA C.2.2.2.2.1 (gw_call m5) rfl hrc.1 hrc.2 (C.2.2.2.2.1 _ m4) (C.2.2.2.2.1 _ m1) m6 hroom, C.2.2.2.2.1 _ m2, C.2.2.2.2.1 _ m3⟩
  refine va_callr (va_runV (As := As) (rest := st) hfix hM cw ⟨wv_blind, hrecv, hpre⟩ rfl hn hl.1 rfl (lv_room hst) hd ⟨by omega, by omega⟩) hS (fun q _ h => h) (fun q h => h) (fun x a t H1 locs1 ht hvm hw hB hz1 hk1 hS1 => ?_)
  obtain ⟨rfl, hB⟩ := hB
  have hP1 := hB.1
  rw [ht] at hP1
  exact k H1 locs1 la hP1 hS1 hl
theorem v_mmax (C : Cx n D cy ad nL cc own R p s m args c) {x y : Int32} {index : Nat} (h1 : Cond.methodLink own index Lib.Math.max.name ∈ gw ∧ Cond.static Lib.Math.max.name ∈ gw ∧ Cond.initialized "java/lang/Math" ∈ gw ∧ Cond.code Lib.Math.max.name Lib.Math.max.code 2 (some .int) ∈ gw) (hf : 1 ≤ R.frames) (hlo : 8 + 15 ≤ R.locals) (hst : (st.map fun v => v.category).sum ≤ 8) (hd : decode cc pc = .ok (.invokestatic index, 3)) (k : V sh n D cy ad nL p l e R s m args below meth c (Q) (pc + 3) (lv) (.int (if x < y then y else x) :: st) (u)) : V sh n D cy ad nL p l e R s m args below meth c (Q) (pc) (lv) (.int y :: .int x :: st) (u) :=
  fun H locs la hP hS hl => va_mmax C.1 C.2.1 (C.2.2.1.trans hl.1.symm) C.2.2.2.1 (C.2.2.2.2.1 _ h1.1) (C.2.2.2.2.1 _ h1.2.1) (C.2.2.2.2.1 _ h1.2.2.1) (C.2.2.2.2.1 _ h1.2.2.2) hf (by omega) (Nat.zero_le _) (Nat.zero_le _) hd (k H locs la hP hS hl)
theorem v_mmin (C : Cx n D cy ad nL cc own R p s m args c) {x y : Int32} {index : Nat} (h1 : Cond.methodLink own index Lib.Math.min.name ∈ gw ∧ Cond.static Lib.Math.min.name ∈ gw ∧ Cond.initialized "java/lang/Math" ∈ gw ∧ Cond.code Lib.Math.min.name Lib.Math.min.code 2 (some .int) ∈ gw) (hf : 1 ≤ R.frames) (hlo : 8 + 15 ≤ R.locals) (hst : (st.map fun v => v.category).sum ≤ 8) (hd : decode cc pc = .ok (.invokestatic index, 3)) (k : V sh n D cy ad nL p l e R s m args below meth c (Q) (pc + 3) (lv) (.int (if y < x then y else x) :: st) (u)) : V sh n D cy ad nL p l e R s m args below meth c (Q) (pc) (lv) (.int y :: .int x :: st) (u) :=
  fun H locs la hP hS hl => va_mmin C.1 C.2.1 (C.2.2.1.trans hl.1.symm) C.2.2.2.1 (C.2.2.2.2.1 _ h1.1) (C.2.2.2.2.1 _ h1.2.1) (C.2.2.2.2.1 _ h1.2.2.1) (C.2.2.2.2.1 _ h1.2.2.2) hf (by omega) (Nat.zero_le _) (Nat.zero_le _) hd (k H locs la hP hS hl)
theorem v_mmax_long (C : Cx n D cy ad nL cc own R p s m args c) {x y : Int64} {index : Nat} (h1 : Cond.methodLink own index Lib.MathLoose.max_long.x ∈ gw ∧ Cond.static Lib.MathLoose.max_long.x ∈ gw ∧ Cond.initialized "java/lang/Math" ∈ gw ∧ Cond.code Lib.MathLoose.max_long.x Lib.MathLoose.max_long.code 4 (some .long) ∈ gw) (hf : 1 ≤ R.frames) (hlo : 8 + 15 ≤ R.locals) (hst : (st.map fun v => v.category).sum ≤ 8) (hd : decode cc pc = .ok (.invokestatic index, 3)) (k : V sh n D cy ad nL p l e R s m args below meth c (Q) (pc + 3) (lv) (.long (if y < x then x else y) :: st) (u)) : V sh n D cy ad nL p l e R s m args below meth c (Q) (pc) (lv) (.long y :: .long x :: st) (u) :=
  fun H locs la hP hS hl => va_mmax_long C.1 C.2.1 (C.2.2.1.trans hl.1.symm) C.2.2.2.1 (C.2.2.2.2.1 _ h1.1) (C.2.2.2.2.1 _ h1.2.1) (C.2.2.2.2.1 _ h1.2.2.1) (C.2.2.2.2.1 _ h1.2.2.2) hf (by omega) (Nat.zero_le _) (Nat.zero_le _) hd (k H locs la hP hS hl)
theorem v_mmin_long (C : Cx n D cy ad nL cc own R p s m args c) {x y : Int64} {index : Nat} (h1 : Cond.methodLink own index Lib.MathLoose.min_long.x ∈ gw ∧ Cond.static Lib.MathLoose.min_long.x ∈ gw ∧ Cond.initialized "java/lang/Math" ∈ gw ∧ Cond.code Lib.MathLoose.min_long.x Lib.MathLoose.min_long.code 4 (some .long) ∈ gw) (hf : 1 ≤ R.frames) (hlo : 8 + 15 ≤ R.locals) (hst : (st.map fun v => v.category).sum ≤ 8) (hd : decode cc pc = .ok (.invokestatic index, 3)) (k : V sh n D cy ad nL p l e R s m args below meth c (Q) (pc + 3) (lv) (.long (if y < x then y else x) :: st) (u)) : V sh n D cy ad nL p l e R s m args below meth c (Q) (pc) (lv) (.long y :: .long x :: st) (u) :=
  fun H locs la hP hS hl => va_mmin_long C.1 C.2.1 (C.2.2.1.trans hl.1.symm) C.2.2.2.1 (C.2.2.2.2.1 _ h1.1) (C.2.2.2.2.1 _ h1.2.1) (C.2.2.2.2.1 _ h1.2.2.1) (C.2.2.2.2.1 _ h1.2.2.2) hf (by omega) (Nat.zero_le _) (Nat.zero_le _) hd (k H locs la hP hS hl)
end VM
