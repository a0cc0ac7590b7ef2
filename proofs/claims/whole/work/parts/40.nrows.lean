
theorem nd_app : ∀ (l : List Nat) (a : Nat), va_nd l = true → a ∉ l → va_nd (l ++ [a]) = true
  | [], a, _, _ => by simp [va_nd]
  | b :: l, a, h, ha => by
    simp only [va_nd, Bool.and_eq_true, decide_eq_true_eq, List.cons_append] at h ⊢
    refine ⟨?_, nd_app l a h.2 (fun q => ha (List.mem_cons_of_mem _ q))⟩
    intro q
    rcases List.mem_append.mp q with q | q
    · exact h.1 q
    · simp at q; exact ha (by rw [q]; exact List.mem_cons_self)
theorem nd_range : ∀ n, va_nd (List.range n) = true
  | 0 => rfl
  | n + 1 => by
    rw [List.range_succ]
    exact nd_app _ _ (nd_range n) (by simp)
theorem range_join (W0 : va_W) (x : Nat × va_E) : (List.range W0.length).map (fun i => (W0 ++ [x])[i]?) = W0.map some := by
  apply List.ext_getElem?
  intro i
  by_cases hi : i < W0.length
  · simp [hi, List.getElem?_append_left hi]
  · simp [hi]

def CN (D : va_G) (cy : Nat → ClassId) (A : Nat → Prop) (nL : Nat) (cc : ByteArray) (own : String) (p : Program) (s : State) (m : MethodId) (args : Array Value) (meth : Method) (c : Code) : Prop :=
  p.tables.exec = Jvm.exec ∧ c.code = cc ∧ c.maxLocals = nL ∧ s.vm.findClass own = some m.cls ∧ (∀ w ∈ gw, w.before args s = true) ∧ va_K D vwCl (vty cy) s ∧ nwK s ∧ (∀ q, s.heap.size ≤ q → A q) ∧ (own ≠ RL → meth.name = "<init>")
def VN (D : va_G) (A : Nat → Prop) (nL : Nat) (p : Program) (l : Launch) (e : Env) (R : Room) (s : State) (m : MethodId) (args : Array Value) (below : List Frame) (meth : Method) (c : Code) (Q : State → Prop) (K S pc : Nat) (lv : List (Nat × Value)) (st : List Value) (ws : va_W) : Prop :=
  ∀ (H : Heap) (locs : List Loc) (la : Array Slot), va_P D vwCl ws H → va_D A ws → va_S A s.heap H locs → lv_has la nL lv → W p l e R s m args below meth c H locs K S Q (F0 m pc la st)
def wn (D : va_G) (cy : Nat → ClassId) (A : Nat → Prop) (ws : va_W) (U : State) : Prop := va_P D vwCl ws U.heap ∧ va_K D vwCl (vty cy) U ∧ nwK U ∧ va_D A ws
def fpF (own : String) (index ci j : Nat) (ty : FieldType) : Prop := ∃ (C : String) (T : u_T) (N : Nat) (t0 : Nat → FieldType), vwCl[ci]? = some (C, T, N) ∧ (∀ w ∈ u_ws C T N, w ∈ gw) ∧ j < N ∧ Cond.fieldLink own index (T j).1 (T j).2.1 (T j).2.2.1 ∈ gw ∧ (∀ k, k < N → parseFieldDescriptor (T k).2.2.1 = some (t0 k)) ∧ (∀ a, a < N → ∀ b, b < N → a ≠ b → (T a).2.1 ≠ (T b).2.1) ∧ (T j).2.2.2 = true ∧ (T j).1 = own ∧ parseFieldDescriptor (T j).2.2.1 = some ty
def nwW (own : String) (index ci N : Nat) (fs : List Value) : Prop := ∃ (C : String) (T : u_T) (t0 : Nat → FieldType), vwCl[ci]? = some (C, T, N) ∧ (∀ w ∈ u_ws C T N, w ∈ gw) ∧ (∀ k, k < N → parseFieldDescriptor (T k).2.2.1 = some (t0 k)) ∧ Cond.classLink own index C ∈ gw ∧ Cond.instantiable C N ∈ gw ∧ Cond.initialized C ∈ gw ∧ ∀ j, j < N → defaultValue (t0 j) = vp_V fs j
section VNS
variable {D : va_G} {cy : Nat → ClassId} {A : Nat → Prop} {nL : Nat} {cc : ByteArray} {own : String} {p : Program} {l : Launch} {e : Env} {R : Room} {s : State} {m : MethodId} {args : Array Value} {below : List Frame} {meth : Method} {c : Code} {Q : State → Prop} {K S pc : Nat} {lv : List (Nat × Value)} {st st0 : List Value} {ws : va_W}

theorem n_iconst (C : CN D cy A nL cc own p s m args meth c) {n0 : Int} {v : Int32} (hd : decode cc pc = .ok (.iconst n0, 1)) (hv : Int32.ofInt n0 = v) (k : VN D A nL p l e R s m args below meth c Q (K) (S) (pc + 1) (lv) (.int v :: st) (ws)) : VN D A nL p l e R s m args below meth c Q (K) (S) (pc) (lv) (st) (ws) := fun H locs la hP hD hS hl => lv_iconst C.1 C.2.1 hd hv (k H locs la hP hD hS hl)
theorem n_bipush (C : CN D cy A nL cc own p s m args meth c) {n0 : Int} {v : Int32} (hd : decode cc pc = .ok (.bipush n0, 2)) (hv : (Int8.ofInt n0).toInt32 = v) (k : VN D A nL p l e R s m args below meth c Q (K) (S) (pc + 2) (lv) (.int v :: st) (ws)) : VN D A nL p l e R s m args below meth c Q (K) (S) (pc) (lv) (st) (ws) := fun H locs la hP hD hS hl => lv_bipush C.1 C.2.1 hd hv (k H locs la hP hD hS hl)
theorem n_sipush (C : CN D cy A nL cc own p s m args meth c) {n0 : Int} {v : Int32} (hd : decode cc pc = .ok (.sipush n0, 3)) (hv : (Int16.ofInt n0).toInt32 = v) (k : VN D A nL p l e R s m args below meth c Q (K) (S) (pc + 3) (lv) (.int v :: st) (ws)) : VN D A nL p l e R s m args below meth c Q (K) (S) (pc) (lv) (st) (ws) := fun H locs la hP hD hS hl => lv_sipush C.1 C.2.1 hd hv (k H locs la hP hD hS hl)
theorem n_iload_n (C : CN D cy A nL cc own p s m args meth c) (q : Nat) {k0 : Fin 4} {i : Nat} {x : Int32} (hd : decode cc pc = .ok (.iload_n k0, 1)) (hi : (k0 : Nat) = i) (hq : lv[q]? = some (i, .int x)) (k : VN D A nL p l e R s m args below meth c Q (K) (S) (pc + 1) (lv) (.int x :: st) (ws)) : VN D A nL p l e R s m args below meth c Q (K) (S) (pc) (lv) (st) (ws) := fun H locs la hP hD hS hl => lv_iload_n C.1 C.2.1 hd hi (lv_at hl q hq) (k H locs la hP hD hS hl)
theorem n_aload_n (C : CN D cy A nL cc own p s m args meth c) (q : Nat) {k0 : Fin 4} {i : Nat} {x : Nat} (hd : decode cc pc = .ok (.aload_n k0, 1)) (hi : (k0 : Nat) = i) (hq : lv[q]? = some (i, .ref x)) (k : VN D A nL p l e R s m args below meth c Q (K) (S) (pc + 1) (lv) (.ref x :: st) (ws)) : VN D A nL p l e R s m args below meth c Q (K) (S) (pc) (lv) (st) (ws) := fun H locs la hP hD hS hl => lv_aload_n C.1 C.2.1 hd hi (lv_at hl q hq) (k H locs la hP hD hS hl)
theorem n_istore_n (C : CN D cy A nL cc own p s m args meth c) {k0 : Fin 4} {i : Nat} {x : Int32} (lv2 : List (Nat × Value)) (hd : decode cc pc = .ok (.istore_n k0, 1)) (hi : (k0 : Nat) = i) (hn : i < nL) (hq : (i, .int x) :: lv.filter (fun q => !(q.1 == i) && !(q.1 + 1 == i && q.2.category == 2)) = lv2) (k : VN D A nL p l e R s m args below meth c Q (K) (S) (pc + 1) (lv2) (st) (ws)) : VN D A nL p l e R s m args below meth c Q (K) (S) (pc) (lv) (.int x :: st) (ws) := fun H locs la hP hD hS hl => lv_istore_n C.1 C.2.1 hd hi hl hn hq (fun la2 hl2 => k H locs la2 hP hD hS hl2)
theorem n_astore_n (C : CN D cy A nL cc own p s m args meth c) {k0 : Fin 4} {i : Nat} {x : Nat} (lv2 : List (Nat × Value)) (hd : decode cc pc = .ok (.astore_n k0, 1)) (hi : (k0 : Nat) = i) (hn : i < nL) (hq : (i, .ref x) :: lv.filter (fun q => !(q.1 == i) && !(q.1 + 1 == i && q.2.category == 2)) = lv2) (k : VN D A nL p l e R s m args below meth c Q (K) (S) (pc + 1) (lv2) (st) (ws)) : VN D A nL p l e R s m args below meth c Q (K) (S) (pc) (lv) (.ref x :: st) (ws) := fun H locs la hP hD hS hl => lv_astore_n C.1 C.2.1 hd hi hl hn hq (fun la2 hl2 => k H locs la2 hP hD hS hl2)
theorem n_iinc (C : CN D cy A nL cc own p s m args meth c) (q : Nat) {i : Nat} {n0 : Int} {x v : Int32} (lv2 : List (Nat × Value)) (hd : decode cc pc = .ok (.iinc i n0, 3)) (hk : lv[q]? = some (i, .int x)) (hv : x + Int32.ofInt n0 = v) (hn : i < nL) (hq : (i, Value.int v) :: lv.filter (fun q => !(q.1 == i) && !(q.1 + 1 == i && q.2.category == 2)) = lv2) (k : VN D A nL p l e R s m args below meth c Q (K) (S) (pc + 3) (lv2) (st) (ws)) : VN D A nL p l e R s m args below meth c Q (K) (S) (pc) (lv) (st) (ws) := fun H locs la hP hD hS hl => lv_iinc C.1 C.2.1 hd hl hk hv hn hq (fun la2 hl2 => k H locs la2 hP hD hS hl2)
theorem n_dup (C : CN D cy A nL cc own p s m args meth c) {va : Value} (hva : va.category = 1) (hd : decode cc pc = .ok (.dup, 1)) (k : VN D A nL p l e R s m args below meth c Q (K) (S) (pc + 1) (lv) (va :: va :: st) (ws)) : VN D A nL p l e R s m args below meth c Q (K) (S) (pc) (lv) (va :: st) (ws) := fun H locs la hP hD hS hl => lv_dup C.1 C.2.1 hd hva (k H locs la hP hD hS hl)
theorem n_goto (C : CN D cy A nL cc own p s m args meth c) {off : Int} (tgt : Nat) (hd : decode cc pc = .ok (.goto off, 3)) (ht : (pc : Int) + off = (tgt : Int)) (k : VN D A nL p l e R s m args below meth c Q (K) (S) (tgt) (lv) (st) (ws)) : VN D A nL p l e R s m args below meth c Q (K) (S) (pc) (lv) (st) (ws) := fun H locs la hP hD hS hl =>  lv_goto C.1 C.2.1 hd ht (k H locs la hP hD hS hl)
theorem n_icmp_ge (C : CN D cy A nL cc own p s m args meth c) {x y : Int32} {off : Int} (tgt : Nat) (hd : decode cc pc = .ok (.if_icmp .ge off, 3)) (ht : (pc : Int) + off = (tgt : Int)) (k1 : y ≤ x → VN D A nL p l e R s m args below meth c Q (K) (S) (tgt) (lv) (st) (ws)) (k2 : ¬ (y ≤ x) → VN D A nL p l e R s m args below meth c Q (K) (S) (pc + 3) (lv) (st) (ws)) : VN D A nL p l e R s m args below meth c Q (K) (S) (pc) (lv) (.int y :: .int x :: st) (ws) := fun H locs la hP hD hS hl =>  lv_icmp_ge C.1 C.2.1 hd ht (fun q => k1 q H locs la hP hD hS hl) (fun q => k2 q H locs la hP hD hS hl)
theorem n_icmp_gt (C : CN D cy A nL cc own p s m args meth c) {x y : Int32} {off : Int} (tgt : Nat) (hd : decode cc pc = .ok (.if_icmp .gt off, 3)) (ht : (pc : Int) + off = (tgt : Int)) (k1 : y < x → VN D A nL p l e R s m args below meth c Q (K) (S) (tgt) (lv) (st) (ws)) (k2 : ¬ (y < x) → VN D A nL p l e R s m args below meth c Q (K) (S) (pc + 3) (lv) (st) (ws)) : VN D A nL p l e R s m args below meth c Q (K) (S) (pc) (lv) (.int y :: .int x :: st) (ws) := fun H locs la hP hD hS hl =>  lv_icmp_gt C.1 C.2.1 hd ht (fun q => k1 q H locs la hP hD hS hl) (fun q => k2 q H locs la hP hD hS hl)
theorem n_sub {lv2 : List (Nat × Value)} (ks : List Nat) (hk : lv_pick lv ks = lv2) (k : VN D A nL p l e R s m args below meth c Q (K) (S) (pc) (lv2) (st) (ws)) : VN D A nL p l e R s m args below meth c Q (K) (S) (pc) (lv) (st) (ws) := fun H locs la hP hD hS hl => k H locs la hP hD hS (lv_sub hl ks hk)
theorem n_obj (C : CN D cy A nL cc own p s m args meth c) {idx a : Nat} (h1 : Cond.methodLink own idx Lib.objectInit ∈ gw) (h2 : Cond.instanceMethod Lib.objectInit ∈ gw) (h3 : Cond.code Lib.objectInit ⟨#[0xb1]⟩ 1 none ∈ gw) (hf : 1 ≤ R.frames) (hlo : 12 ≤ R.locals) (hd : decode cc pc = .ok (.invokespecial idx, 3)) (k : VN D A nL p l e R s m args below meth c Q (K) (S) (pc + 3) (lv) ([]) (ws)) : VN D A nL p l e R s m args below meth c Q (K) (S) (pc) (lv) ([.ref a]) (ws) := by
  intro H locs la hP hD hS hl
  refine W.objInit C.1 C.2.1 C.2.2.2.1 (C.2.2.2.2.1 _ h1) (C.2.2.2.2.1 _ h2) (C.2.2.2.2.1 _ h3) rfl (by rw [C.2.2.1]; exact hl.1) rfl hd hf ?_ (W.eq (g2 := F0 m (pc + 3) la []) rfl (k H locs la hP hD hS hl))
  show 2 * 0 + 0 + 12 ≤ R.locals
  omega
theorem n_putF (C : CN D cy A nL cc own p s m args meth c) (j : Nat) {ci k0 index a : Nat} {fs : List Value} {ty : FieldType} {v : Value} (ws2 : va_W) (he : ws[j]? = some (a, .inr (ci, fs))) (hf : fpF own index ci k0 ty) (hno : own ≠ RL) (hn : narrow ty v = v) (hfit : fits ty v = true) (hl0 : k0 < fs.length) (hd : decode cc pc = .ok (.putfield index, 3)) (hE : ws.set j (a, .inr (ci, fs.set k0 v)) = ws2) (k : VN D A nL p l e R s m args below meth c Q (K) (S) (pc + 3) (lv) (st) (ws2)) : VN D A nL p l e R s m args below meth c Q (K) (S) (pc) (lv) (v :: .ref a :: st) (ws) := by
  subst hE
  obtain ⟨Cn, T, N, t0, h1, h2, h3, h4, h5, h6, h7, h9, h8⟩ := hf
  intro H locs la hP hD hS hl
  exact va_putF (D := D) (cl := vwCl) (tys := vty cy) (Ts := gw) (own := own) (ty := ty) C.1 C.2.1 C.2.2.2.2.1 h2 t0 h5 h6 C.2.2.2.1 C.2.2.2.2.2.1 hP hD hS j he h1 k0 h3 (C.2.2.2.2.1 _ h4) (fun _ h9 => h9) h7 (C.2.2.2.2.2.2.2.2 hno) h9 h8 hn hfit hl0 hd (fun H1 locs1 hP1 hD1 hS1 => k H1 locs1 la hP1 hD1 hS1 hl)
theorem n_put (C : CN D cy A nL cc own p s m args meth c) (j : Nat) {ci k0 index a : Nat} {fs : List Value} {ty : FieldType} {v : Value} (ws2 : va_W) (he : ws[j]? = some (a, .inr (ci, fs))) (hf : fpW own index ci k0 ty) (hn : narrow ty v = v) (hfit : fits ty v = true) (hl0 : k0 < fs.length) (hd : decode cc pc = .ok (.putfield index, 3)) (hE : ws.set j (a, .inr (ci, fs.set k0 v)) = ws2) (k : VN D A nL p l e R s m args below meth c Q (K) (S) (pc + 3) (lv) (st) (ws2)) : VN D A nL p l e R s m args below meth c Q (K) (S) (pc) (lv) (v :: .ref a :: st) (ws) := by
  subst hE
  obtain ⟨Cn, T, N, t0, h1, h2, h3, h4, h5, h6, h7, h8⟩ := hf
  intro H locs la hP hD hS hl
  exact va_put (D := D) (cl := vwCl) (tys := vty cy) (Ts := gw) (own := own) (ty := ty) C.1 C.2.1 C.2.2.2.2.1 h2 t0 h5 h6 C.2.2.2.1 C.2.2.2.2.2.1 hP hD hS j he h1 k0 h3 (C.2.2.2.2.1 _ h4) (fun _ h9 => h9) h7 h8 hn hfit hl0 hd (fun H1 locs1 hP1 hD1 hS1 => k H1 locs1 la hP1 hD1 hS1 hl)
theorem n_get (C : CN D cy A nL cc own p s m args meth c) (j : Nat) {ci k0 index a : Nat} {fs : List Value} {v : Value} (he : ws[j]? = some (a, .inr (ci, fs))) (hf : fdW own index ci k0) (hv : fs[k0]? = some v) (hd : decode cc pc = .ok (.getfield index, 3)) (k : VN D A nL p l e R s m args below meth c Q (K) (S) (pc + 3) (lv) (v :: st) (ws)) : VN D A nL p l e R s m args below meth c Q (K) (S) (pc) (lv) (.ref a :: st) (ws) := by
  obtain ⟨Cn, T, N, h1, h2, h3, h4⟩ := hf
  exact fun H locs la hP hD hS hl =>  va_get (D := D) (cl := vwCl) (tys := vty cy) (Ts := gw) (own := own) C.1 C.2.1 C.2.2.2.2.1 h2 C.2.2.2.1 C.2.2.2.2.2.1 hP j he h1 k0 h3 (C.2.2.2.2.1 _ h4) (fun _ h9 => h9) hv hd (k H locs la hP hD hS hl)
theorem n_iast (C : CN D cy A nL cc own p s m args meth c) (j : Nat) {a N j0 : Nat} {f : Nat → Int32} {i x : Int32} (ws2 : va_W) (ha : ws[j]? = some (a, .inl (cy 0, N, .inl f))) (hin : vp_in i N) (hj : i.toNatClampNeg = j0) (hd : decode cc pc = .ok (.iastore, 1)) (hE : ws.set j (a, .inl (cy 0, N, .inl (upd f j0 x))) = ws2) (k : VN D A nL p l e R s m args below meth c Q (K) (S) (pc + 1) (lv) (st) (ws2)) : VN D A nL p l e R s m args below meth c Q (K) (S) (pc) (lv) (.int x :: .int i :: .ref a :: st) (ws) := by
  subst hj; subst hE
  exact fun H locs la hP hD hS hl =>  va_iast (D := D) (cl := vwCl) (tys := vty cy) C.1 C.2.1 C.2.2.2.2.2.1 hP hD hS j 0 ha rfl hin hd (fun H1 locs1 hP1 hD1 hS1 => k H1 locs1 la hP1 hD1 hS1 hl)
theorem n_aast4 (C : CN D cy A nL cc own p s m args meth c) (j qk ci : Nat) {r : vw_C} {a N j0 v : Nat} {vs : List Value} {f : Nat → Option Nat} {i : Int32} (ws2 : va_W) (ha : ws[j]? = some (a, .inl (cy 4, N, .inr (.inr (.inr (.inr f)))))) (hv : ws[qk]? = some (v, .inr (ci, vs))) (hc : vwCl[ci]? = some r) (hr : r.1 = "StarShells$Laws") (hin : vp_in i N) (hj : i.toNatClampNeg = j0) (hd : decode cc pc = .ok (.aastore, 1)) (hE : ws.set j (a, .inl (cy 4, N, .inr (.inr (.inr (.inr (va_up f j0 (some v))))))) = ws2) (k : VN D A nL p l e R s m args below meth c Q (K) (S) (pc + 1) (lv) (st) (ws2)) : VN D A nL p l e R s m args below meth c Q (K) (S) (pc) (lv) (.ref v :: .int i :: .ref a :: st) (ws) := by
  subst hj; subst hE
  exact fun H locs la hP hD hS hl =>  va_astq (D := D) (cl := vwCl) (tys := vty cy) C.1 C.2.1 C.2.2.2.2.2.1 hP hD hS j 4 qk ci ha (by rw [hr]; rfl) hv hc hin hd (fun H1 locs1 hP1 hD1 hS1 => k H1 locs1 la hP1 hD1 hS1 hl)
theorem n_aast5 (C : CN D cy A nL cc own p s m args meth c) (j qk ci : Nat) {r : vw_C} {a N j0 v : Nat} {vs : List Value} {f : Nat → Option Nat} {i : Int32} (ws2 : va_W) (ha : ws[j]? = some (a, .inl (cy 5, N, .inr (.inr (.inr (.inr f)))))) (hv : ws[qk]? = some (v, .inr (ci, vs))) (hc : vwCl[ci]? = some r) (hr : r.1 = "StarShells$Star") (hin : vp_in i N) (hj : i.toNatClampNeg = j0) (hd : decode cc pc = .ok (.aastore, 1)) (hE : ws.set j (a, .inl (cy 5, N, .inr (.inr (.inr (.inr (va_up f j0 (some v))))))) = ws2) (k : VN D A nL p l e R s m args below meth c Q (K) (S) (pc + 1) (lv) (st) (ws2)) : VN D A nL p l e R s m args below meth c Q (K) (S) (pc) (lv) (.ref v :: .int i :: .ref a :: st) (ws) := by
  subst hj; subst hE
  exact fun H locs la hP hD hS hl =>  va_astq (D := D) (cl := vwCl) (tys := vty cy) C.1 C.2.1 C.2.2.2.2.2.1 hP hD hS j 5 qk ci ha (by rw [hr]; rfl) hv hc hin hd (fun H1 locs1 hP1 hD1 hS1 => k H1 locs1 la hP1 hD1 hS1 hl)
theorem n_newa0 (C : CN D cy A nL cc own p s m args meth c) {n : Int32} {N : Nat} (harr : Cond.arrayClass .int ∈ gw) (hn : ¬ n < 0) (hN : n.toNatClampNeg = N) (hby : N * componentBytes .int ≤ 536870912) (hc : K + 1 ≤ R.cells) (hs : S + N ≤ R.slots) (hd : decode cc pc = .ok (.newarray .int, 2)) (k : ∀ q : Nat, VN D A nL p l e R s m args below meth c Q (K + 1) (S + N) (pc + 2) (lv) (.ref q :: st) (ws ++ [(q, .inl (cy 0, N, .inl (fun _ => 0)))])) : VN D A nL p l e R s m args below meth c Q (K) (S) (pc) (lv) (.int n :: st) (ws) := by
  intro H locs la hP hD hS hl
  refine va_newa (atype := .int) (D := D) (cl := vwCl) (tys := vty cy) C.1 C.2.1 (C.2.2.2.2.1 _ harr) (ty := .int) rfl C.2.2.2.2.2.1 hP hD hS C.2.2.2.2.2.2.2.1 (a0 := (N, .inl (fun _ => 0))) (fun _ => rfl) hn hN hby hc hs hd (fun q cA H1 hK1 hP1 hD1 hS1 => ?_)
  have e1 : s.vm.findClass ("[" ++ (FieldType.int).toString) = some cA := (hK1.2 6 (cA, .int) rfl).2
  have e2 : s.vm.findClass ("[" ++ (FieldType.int).toString) = some (cy 0) := (C.2.2.2.2.2.1.2 0 (cy 0, .int) rfl).2
  have e3 : cA = cy 0 := Option.some.inj (e1.symm.trans e2)
  subst e3
  exact k q H1 locs la hP1 hD1 hS1 hl
theorem n_newa1 (C : CN D cy A nL cc own p s m args meth c) {n : Int32} {N : Nat} (harr : Cond.arrayClass .boolean ∈ gw) (hn : ¬ n < 0) (hN : n.toNatClampNeg = N) (hby : N * componentBytes .boolean ≤ 536870912) (hc : K + 1 ≤ R.cells) (hs : S + N ≤ R.slots) (hd : decode cc pc = .ok (.newarray .boolean, 2)) (k : ∀ q : Nat, VN D A nL p l e R s m args below meth c Q (K + 1) (S + N) (pc + 2) (lv) (.ref q :: st) (ws ++ [(q, .inl (cy 1, N, .inl (fun _ => 0)))])) : VN D A nL p l e R s m args below meth c Q (K) (S) (pc) (lv) (.int n :: st) (ws) := by
  intro H locs la hP hD hS hl
  refine va_newa (atype := .boolean) (D := D) (cl := vwCl) (tys := vty cy) C.1 C.2.1 (C.2.2.2.2.1 _ harr) (ty := .boolean) rfl C.2.2.2.2.2.1 hP hD hS C.2.2.2.2.2.2.2.1 (a0 := (N, .inl (fun _ => 0))) (fun _ => rfl) hn hN hby hc hs hd (fun q cA H1 hK1 hP1 hD1 hS1 => ?_)
  have e1 : s.vm.findClass ("[" ++ (FieldType.boolean).toString) = some cA := (hK1.2 6 (cA, .boolean) rfl).2
  have e2 : s.vm.findClass ("[" ++ (FieldType.boolean).toString) = some (cy 1) := (C.2.2.2.2.2.1.2 1 (cy 1, .boolean) rfl).2
  have e3 : cA = cy 1 := Option.some.inj (e1.symm.trans e2)
  subst e3
  exact k q H1 locs la hP1 hD1 hS1 hl
theorem n_newa2 (C : CN D cy A nL cc own p s m args meth c) {n : Int32} {N : Nat} (harr : Cond.arrayClass .byte ∈ gw) (hn : ¬ n < 0) (hN : n.toNatClampNeg = N) (hby : N * componentBytes .byte ≤ 536870912) (hc : K + 1 ≤ R.cells) (hs : S + N ≤ R.slots) (hd : decode cc pc = .ok (.newarray .byte, 2)) (k : ∀ q : Nat, VN D A nL p l e R s m args below meth c Q (K + 1) (S + N) (pc + 2) (lv) (.ref q :: st) (ws ++ [(q, .inl (cy 2, N, .inl (fun _ => 0)))])) : VN D A nL p l e R s m args below meth c Q (K) (S) (pc) (lv) (.int n :: st) (ws) := by
  intro H locs la hP hD hS hl
  refine va_newa (atype := .byte) (D := D) (cl := vwCl) (tys := vty cy) C.1 C.2.1 (C.2.2.2.2.1 _ harr) (ty := .byte) rfl C.2.2.2.2.2.1 hP hD hS C.2.2.2.2.2.2.2.1 (a0 := (N, .inl (fun _ => 0))) (fun _ => rfl) hn hN hby hc hs hd (fun q cA H1 hK1 hP1 hD1 hS1 => ?_)
  have e1 : s.vm.findClass ("[" ++ (FieldType.byte).toString) = some cA := (hK1.2 6 (cA, .byte) rfl).2
  have e2 : s.vm.findClass ("[" ++ (FieldType.byte).toString) = some (cy 2) := (C.2.2.2.2.2.1.2 2 (cy 2, .byte) rfl).2
  have e3 : cA = cy 2 := Option.some.inj (e1.symm.trans e2)
  subst e3
  exact k q H1 locs la hP1 hD1 hS1 hl
theorem n_newa3 (C : CN D cy A nL cc own p s m args meth c) {n : Int32} {N : Nat} (harr : Cond.arrayClass .long ∈ gw) (hn : ¬ n < 0) (hN : n.toNatClampNeg = N) (hby : N * componentBytes .long ≤ 536870912) (hc : K + 1 ≤ R.cells) (hs : S + N ≤ R.slots) (hd : decode cc pc = .ok (.newarray .long, 2)) (k : ∀ q : Nat, VN D A nL p l e R s m args below meth c Q (K + 1) (S + N) (pc + 2) (lv) (.ref q :: st) (ws ++ [(q, .inl (cy 3, N, .inr (.inl (fun _ => 0))))])) : VN D A nL p l e R s m args below meth c Q (K) (S) (pc) (lv) (.int n :: st) (ws) := by
  intro H locs la hP hD hS hl
  refine va_newa (atype := .long) (D := D) (cl := vwCl) (tys := vty cy) C.1 C.2.1 (C.2.2.2.2.1 _ harr) (ty := .long) rfl C.2.2.2.2.2.1 hP hD hS C.2.2.2.2.2.2.2.1 (a0 := (N, .inr (.inl (fun _ => 0)))) (fun _ => rfl) hn hN hby hc hs hd (fun q cA H1 hK1 hP1 hD1 hS1 => ?_)
  have e1 : s.vm.findClass ("[" ++ (FieldType.long).toString) = some cA := (hK1.2 6 (cA, .long) rfl).2
  have e2 : s.vm.findClass ("[" ++ (FieldType.long).toString) = some (cy 3) := (C.2.2.2.2.2.1.2 3 (cy 3, .long) rfl).2
  have e3 : cA = cy 3 := Option.some.inj (e1.symm.trans e2)
  subst e3
  exact k q H1 locs la hP1 hD1 hS1 hl
theorem n_newq4 (C : CN D cy A nL cc own p s m args meth c) {n : Int32} {N index : Nat} (hcl : Cond.classLink own index "StarShells$Laws" ∈ gw) (hov : va_AO "StarShells$Laws" s) (hn : ¬ n < 0) (hN : n.toNatClampNeg = N) (hby : N * 4 ≤ 536870912) (hc : K + 1 ≤ R.cells) (hs : S + N ≤ R.slots) (hd : decode cc pc = .ok (.anewarray index, 3)) (k : ∀ q : Nat, VN D A nL p l e R s m args below meth c Q (K + 1) (S + N) (pc + 3) (lv) (.ref q :: st) (ws ++ [(q, .inl (cy 4, N, .inr (.inr (.inr (.inr (fun _ => none))))))])) : VN D A nL p l e R s m args below meth c Q (K) (S) (pc) (lv) (.int n :: st) (ws) := by
  intro H locs la hP hD hS hl
  refine va_newq (D := D) (cl := vwCl) (tys := vty cy) C.1 C.2.1 C.2.2.2.1 (C.2.2.2.2.1 _ hcl) hov C.2.2.2.2.2.1 hP hD hS C.2.2.2.2.2.2.2.1 hn hN hby hc hs hd (fun q cA H1 hK1 hP1 hD1 hS1 => ?_)
  obtain ⟨_, _, _, _, _, e1⟩ := (hK1.2 6 (cA, .object "StarShells$Laws") rfl).2
  obtain ⟨_, _, _, _, _, e2⟩ := (C.2.2.2.2.2.1.2 4 (cy 4, .object "StarShells$Laws") rfl).2
  have e3 : cA = cy 4 := Option.some.inj (e1.symm.trans e2)
  subst e3
  exact k q H1 locs la hP1 hD1 hS1 hl
theorem n_newq5 (C : CN D cy A nL cc own p s m args meth c) {n : Int32} {N index : Nat} (hcl : Cond.classLink own index "StarShells$Star" ∈ gw) (hov : va_AO "StarShells$Star" s) (hn : ¬ n < 0) (hN : n.toNatClampNeg = N) (hby : N * 4 ≤ 536870912) (hc : K + 1 ≤ R.cells) (hs : S + N ≤ R.slots) (hd : decode cc pc = .ok (.anewarray index, 3)) (k : ∀ q : Nat, VN D A nL p l e R s m args below meth c Q (K + 1) (S + N) (pc + 3) (lv) (.ref q :: st) (ws ++ [(q, .inl (cy 5, N, .inr (.inr (.inr (.inr (fun _ => none))))))])) : VN D A nL p l e R s m args below meth c Q (K) (S) (pc) (lv) (.int n :: st) (ws) := by
  intro H locs la hP hD hS hl
  refine va_newq (D := D) (cl := vwCl) (tys := vty cy) C.1 C.2.1 C.2.2.2.1 (C.2.2.2.2.1 _ hcl) hov C.2.2.2.2.2.1 hP hD hS C.2.2.2.2.2.2.2.1 hn hN hby hc hs hd (fun q cA H1 hK1 hP1 hD1 hS1 => ?_)
  obtain ⟨_, _, _, _, _, e1⟩ := (hK1.2 6 (cA, .object "StarShells$Star") rfl).2
  obtain ⟨_, _, _, _, _, e2⟩ := (C.2.2.2.2.2.1.2 5 (cy 5, .object "StarShells$Star") rfl).2
  have e3 : cA = cy 5 := Option.some.inj (e1.symm.trans e2)
  subst e3
  exact k q H1 locs la hP1 hD1 hS1 hl
theorem n_new (C : CN D cy A nL cc own p s m args meth c) {index ci N : Nat} {fs : List Value} (hf : nwW own index ci N fs) (hc : K + 1 ≤ R.cells) (hs : S + N ≤ R.slots) (hd : decode cc pc = .ok (.new index, 3)) (k : ∀ q : Nat, VN D A nL p l e R s m args below meth c Q (K + 1) (S + N) (pc + 3) (lv) (.ref q :: st) (ws ++ [(q, .inr (ci, fs))])) : VN D A nL p l e R s m args below meth c Q (K) (S) (pc) (lv) (st) (ws) := by
  obtain ⟨Cn, T, t0, h1, h2, h3, h4, h5, h6, h7⟩ := hf
  intro H locs la hP hD hS hl
  exact va_new (D := D) (cl := vwCl) (tys := vty cy) (Ts := gw) (own := own) C.1 C.2.1 C.2.2.2.2.1 h2 t0 h3 C.2.2.2.1 (C.2.2.2.2.1 _ h4) (C.2.2.2.2.1 _ h5) (C.2.2.2.2.1 _ h6) C.2.2.2.2.2.1 hP hD hS C.2.2.2.2.2.2.2.1 h1 h7 hc hs hd (fun q H1 hP1 hD1 hS1 => k q H1 locs la hP1 hD1 hS1 hl)
theorem n_conv {ws2 : va_W} (h1 : ∀ H, va_P D vwCl ws H → va_P D vwCl ws2 H) (h2 : va_D A ws → va_D A ws2) (k : VN D A nL p l e R s m args below meth c Q (K) (S) (pc) (lv) (st) (ws2)) : VN D A nL p l e R s m args below meth c Q (K) (S) (pc) (lv) (st) (ws) := fun H locs la hP hD hS hl => k H locs la (h1 H hP) (h2 hD) hS hl
theorem n_ws {ws2 : va_W} (hE : ws = ws2) (k : VN D A nL p l e R s m args below meth c Q (K) (S) (pc) (lv) (st) (ws2)) : VN D A nL p l e R s m args below meth c Q (K) (S) (pc) (lv) (st) (ws) := hE ▸ k
theorem n_widen (K2 S2 : Nat) (h1 : K ≤ K2) (h2 : S ≤ S2) (k : VN D A nL p l e R s m args below meth c Q (K2) (S2) (pc) (lv) (st) (ws)) : VN D A nL p l e R s m args below meth c Q (K) (S) (pc) (lv) (st) (ws) := fun H locs la hP hD hS hl => W.widen h1 h2 (k H locs la hP hD hS hl)

/-- a constructor's contract: from its blank cell to the cells g a, for some addresses a -/
def Mc (l : Launch) (D : va_G) (cy : Nat → ClassId) (y : MethodName) (cc : ByteArray) (k : Nat) (rm : Room) (mc ms : Nat) (e0 : va_E) (av : List Value) (g : (Nat → Nat) → va_W) : Prop :=
  ∀ (h0 sz : Nat), Met l y (.code y cc k none :: gw) rm (va_Pc (.ref h0 :: av) (fun U => U.heap.size = sz ∧ wn D cy (fun _ => True) [(h0, e0)] U ∧ (va_AO "StarShells$Laws" U ∧ va_AO "StarShells$Star" U))) (va_Qv (fun a : Nat → Nat => a 0 = h0) (fun a t => wn D cy (va_A [(h0, e0)] sz) (g a) t) (va_A [(h0, e0)] sz)) mc ms (va_A [(h0, e0)] sz)
def MiW (own : String) (index : Nat) (y : MethodName) (b : ByteArray) (k nA : Nat) : Prop := Cond.methodLink own index y ∈ gw ∧ Cond.instanceMethod y ∈ gw ∧ Cond.initialized y.cls ∈ gw ∧ Cond.code y b k none ∈ gw ∧ y.name = "<init>" ∧ (y.cls ≠ "java/lang/invoke/MethodHandle" ∧ y.cls ≠ "java/lang/invoke/VarHandle" ∧ (parseMethodDescriptor y.desc).map (fun d => d.parameters.length) = some nA)
def MiN (own : String) (index : Nat) (y : MethodName) (host : String) (b : ByteArray) (k nA : Nat) : Prop := Cond.methodLinkNest own index y host ∈ nws ∧ Cond.instanceMethod y ∈ gw ∧ Cond.initialized y.cls ∈ gw ∧ Cond.code y b k none ∈ gw ∧ y.name = "<init>" ∧ (y.cls ≠ "java/lang/invoke/MethodHandle" ∧ y.cls ≠ "java/lang/invoke/VarHandle" ∧ (parseMethodDescriptor y.desc).map (fun d => d.parameters.length) = some nA)
theorem ao_moved {Cn : String} {s U : State} (h : s.vm.Alike U.vm) (hh : va_AO Cn s) : va_AO Cn U := va_AO.moved h hh

theorem n_ctorI (C : CN D cy A nL cc own p s m args meth c) {y : MethodName} {bytes : ByteArray} {maxL index nA : Nat} {rm : Room} {mc ms : Nat} {e0 : va_E} {av : List Value} {g : (Nat → Nat) → va_W} {q0 : Nat} {W0 : va_W} (hM : Mc l D cy y bytes maxL rm mc ms e0 av g) (hov : va_AO "StarShells$Laws" s ∧ va_AO "StarShells$Star" s) (hm : MiW own index y bytes maxL nA) (hroom : rm.frames + 1 ≤ R.frames ∧ 8 + (maxL + 11) + rm.locals ≤ R.locals) (hrc : rm.cells = mc ∧ rm.slots = ms) (hn : av.length = nA) (hs : st0 = av.reverse ++ .ref q0 :: st) (hst : (st.map fun v => v.category).sum ≤ 8) (hws : ws = W0 ++ [(q0, e0)]) (hc : K + mc ≤ R.cells) (hsl : S + ms ≤ R.slots) (hd : decode cc pc = .ok (.invokespecial index, 3)) (k : ∀ a : Nat → Nat, a 0 = q0 → VN D A nL p l e R s m args below meth c Q (K + mc) (S + ms) (pc + 3) (lv) (st) (W0 ++ g a)) : VN D A nL p l e R s m args below meth c Q (K) (S) (pc) (lv) (st0) (ws) := by
  subst hs hws
  intro H locs la hP hD hS hl
  have hfix : CallFix p m c cc nL s args gw own := ⟨C.1, C.2.1, C.2.2.1, C.2.2.2.1, C.2.2.2.2.1⟩
  obtain ⟨m1, m2, m4, m5, m8, m6⟩ := hm
  have hq : (W0 ++ [(q0, e0)])[W0.length]? = some (q0, e0) := by simp
  have hC1 : [W0.length].map (fun i => (W0 ++ [(q0, e0)])[i]?) = [(q0, e0)].map some := by simp
  have hPc : va_P D vwCl [(q0, e0)] H := hP.sub [W0.length] (by simp)
  have hDc : va_D A [(q0, e0)] := hD.sub [W0.length] (by simp [va_nd]) hC1
  have hFc := va_free hD hS C.2.2.2.2.2.2.2.1 [W0.length] hC1
  have hbl : FrameBlind (va_Pc (.ref q0 :: av) (fun U => U.heap.size = H.size ∧ wn D cy (fun _ => True) [(q0, e0)] U ∧ (va_AO "StarShells$Laws" U ∧ va_AO "StarShells$Star" U))) := fun a U g mk q => ⟨q.1, q.2.1, ⟨q.2.2.1.1, va_K.moved (u := U) (U := U.calling g mk a) (Vm.Alike.refl U.vm) q.2.2.1.2.1, nwK_same (s := U) (U := U.calling g mk a) rfl q.2.2.1.2.2.1, q.2.2.1.2.2.2⟩, ao_moved (s := U) (U := U.calling g mk a) (Vm.Alike.refl U.vm) q.2.2.2.1, ao_moved (s := U) (U := U.calling g mk a) (Vm.Alike.refl U.vm) q.2.2.2.2⟩
  have hpre : ∀ U : State, U.heap = H → s.WarmedH U.vm → va_Pc (.ref q0 :: av) (fun U => U.heap.size = H.size ∧ wn D cy (fun _ => True) [(q0, e0)] U ∧ (va_AO "StarShells$Laws" U ∧ va_AO "StarShells$Star" U)) (.ref q0 :: av : List Value).toArray U := fun U hU hW => ⟨rfl, by rw [hU], ⟨by rw [hU]; exact hPc, va_K.moved hW.alike C.2.2.2.2.2.1, nwK_warm hW C.2.2.2.2.2.2.1, hDc.weaken (fun _ _ _ _ => trivial)⟩, ao_moved hW.alike hov.1, ao_moved hW.alike hov.2⟩
  have cw : CallB R s args own index y bytes maxL none (.code y bytes maxL none :: gw) rm mc ms nA ∧ y.name = "<init>" ∧ (Cond.instanceMethod y).before args s = true := ⟨callB_of nA C.2.2.2.2.1 (gw_call m5) rfl hrc.1 hrc.2 (C.2.2.2.2.1 _ m4) (C.2.2.2.2.1 _ m1) m6 hroom, m8, C.2.2.2.2.1 _ m2⟩
  refine va_callv (va_runI (As := av) (rest := st) hfix (hM q0 H.size) cw ⟨hbl, hpre⟩ rfl hn hl.1 rfl (lv_room hst) hd ⟨hc, hsl⟩) hS (fun q _ h => hFc q h) hFc (fun a t H1 locs1 ht hvm hw hB hz1 hk1 hS1 => ?_)
  obtain ⟨hP1, -, -, hD1⟩ := hB
  rw [ht] at hP1
  obtain ⟨hP2, hD2⟩ := va_join (wr := W0) (w1 := g a) hP hD [W0.length] (List.range W0.length) hC1 (range_join W0 (q0, e0)) (nd_range _) (fun i hi => by simp at hi ⊢; omega) hk1 hFc hP1 hD1
  exact k a hw H1 locs1 la hP2 hD2 hS1 hl
theorem n_ctorN (C : CN D cy A nL cc own p s m args meth c) {y : MethodName} {bytes : ByteArray} {maxL index nA : Nat} {rm : Room} {mc ms : Nat} {e0 : va_E} {av : List Value} {g : (Nat → Nat) → va_W} {q0 : Nat} {W0 : va_W} {host : String} (hM : Mc l D cy y bytes maxL rm mc ms e0 av g) (hov : va_AO "StarShells$Laws" s ∧ va_AO "StarShells$Star" s) (hm : MiN own index y host bytes maxL nA) (hroom : rm.frames + 1 ≤ R.frames ∧ 8 + (maxL + 11) + rm.locals ≤ R.locals) (hrc : rm.cells = mc ∧ rm.slots = ms) (hn : av.length = nA) (hs : st0 = av.reverse ++ .ref q0 :: st) (hst : (st.map fun v => v.category).sum ≤ 8) (hws : ws = W0 ++ [(q0, e0)]) (hc : K + mc ≤ R.cells) (hsl : S + ms ≤ R.slots) (hd : decode cc pc = .ok (.invokespecial index, 3)) (k : ∀ a : Nat → Nat, a 0 = q0 → VN D A nL p l e R s m args below meth c Q (K + mc) (S + ms) (pc + 3) (lv) (st) (W0 ++ g a)) : VN D A nL p l e R s m args below meth c Q (K) (S) (pc) (lv) (st0) (ws) := by
  subst hs hws
  intro H locs la hP hD hS hl
  have hfix : CallFix p m c cc nL s args gw own := ⟨C.1, C.2.1, C.2.2.1, C.2.2.2.1, C.2.2.2.2.1⟩
  obtain ⟨m1, m2, m4, m5, m8, m6⟩ := hm
  have hq : (W0 ++ [(q0, e0)])[W0.length]? = some (q0, e0) := by simp
  have hC1 : [W0.length].map (fun i => (W0 ++ [(q0, e0)])[i]?) = [(q0, e0)].map some := by simp
  have hPc : va_P D vwCl [(q0, e0)] H := hP.sub [W0.length] (by simp)
  have hDc : va_D A [(q0, e0)] := hD.sub [W0.length] (by simp [va_nd]) hC1
  have hFc := va_free hD hS C.2.2.2.2.2.2.2.1 [W0.length] hC1
  have hbl : FrameBlind (va_Pc (.ref q0 :: av) (fun U => U.heap.size = H.size ∧ wn D cy (fun _ => True) [(q0, e0)] U ∧ (va_AO "StarShells$Laws" U ∧ va_AO "StarShells$Star" U))) := fun a U g mk q => ⟨q.1, q.2.1, ⟨q.2.2.1.1, va_K.moved (u := U) (U := U.calling g mk a) (Vm.Alike.refl U.vm) q.2.2.1.2.1, nwK_same (s := U) (U := U.calling g mk a) rfl q.2.2.1.2.2.1, q.2.2.1.2.2.2⟩, ao_moved (s := U) (U := U.calling g mk a) (Vm.Alike.refl U.vm) q.2.2.2.1, ao_moved (s := U) (U := U.calling g mk a) (Vm.Alike.refl U.vm) q.2.2.2.2⟩
  have hpre : ∀ U : State, U.heap = H → s.WarmedH U.vm → va_Pc (.ref q0 :: av) (fun U => U.heap.size = H.size ∧ wn D cy (fun _ => True) [(q0, e0)] U ∧ (va_AO "StarShells$Laws" U ∧ va_AO "StarShells$Star" U)) (.ref q0 :: av : List Value).toArray U := fun U hU hW => ⟨rfl, by rw [hU], ⟨by rw [hU]; exact hPc, va_K.moved hW.alike C.2.2.2.2.2.1, nwK_warm hW C.2.2.2.2.2.2.1, hDc.weaken (fun _ _ _ _ => trivial)⟩, ao_moved hW.alike hov.1, ao_moved hW.alike hov.2⟩
  have cw : va_CN R s args own index y host bytes maxL none (.code y bytes maxL none :: gw) rm mc ms nA ∧ y.name = "<init>" ∧ (Cond.instanceMethod y).before args s = true := ⟨va_cnB nA C.2.2.2.2.1 (gw_call m5) rfl hrc.1 hrc.2 (C.2.2.2.2.2.2.1 _ m1) (C.2.2.2.2.1 _ m4) m6 hroom, m8, C.2.2.2.2.1 _ m2⟩
  refine va_callv (va_runIN (As := av) (rest := st) hfix (hM q0 H.size) cw ⟨hbl, hpre⟩ rfl hn hl.1 rfl (lv_room hst) hd ⟨hc, hsl⟩) hS (fun q _ h => hFc q h) hFc (fun a t H1 locs1 ht hvm hw hB hz1 hk1 hS1 => ?_)
  obtain ⟨hP1, -, -, hD1⟩ := hB
  rw [ht] at hP1
  obtain ⟨hP2, hD2⟩ := va_join (wr := W0) (w1 := g a) hP hD [W0.length] (List.range W0.length) hC1 (range_join W0 (q0, e0)) (nd_range _) (fun i hi => by simp at hi ⊢; omega) hk1 hFc hP1 hD1
  exact k a hw H1 locs1 la hP2 hD2 hS1 hl

theorem n_ret (C : CN D cy A nL cc own p s m args meth c) {mc ms h0 : Nat} {e0 : va_E} {g : (Nat → Nat) → va_W} (a : Nat → Nat) (ha : a 0 = h0) (hA : A = va_A [(h0, e0)] s.heap.size) (hr : meth.sig.returnType = none) (hlk : meth.locks = false) (hg : ws = g a) (h1 : K ≤ mc) (h2 : S ≤ ms) (hd : decode cc pc = .ok (.return_, 1)) : VN D A nL p l e R s m args below meth c (MQ below (va_Qv (fun a : Nat → Nat => a 0 = h0) (fun a t => wn D cy (va_A [(h0, e0)] s.heap.size) (g a) t) (va_A [(h0, e0)] s.heap.size)) args s mc ms (va_A [(h0, e0)] s.heap.size)) K S pc lv [] ws := by
  subst hg
  intro H locs la hP hD hS hl
  refine W.widen h1 h2 ?_
  rw [hA] at hD hS
  exact W.vret C.1 C.2.1 hr (fun t ht hW => ⟨⟨a, rfl, ha, by rw [ht]; exact hP, va_K.moved hW.alike C.2.2.2.2.2.1, nwK_warm hW C.2.2.2.2.2.2.1, hD⟩, hS.F ht⟩) hS.2.2 hd hlk
end VNS
theorem mc_of {l : Launch} {D : va_G} {cy : Nat → ClassId} {y : MethodName} {cc : ByteArray} {k : Nat} {rm : Room} {mc ms : Nat} {e0 : va_E} {av : List Value} {g : (Nat → Nat) → va_W} (hy : plainName y.cls = true) (hyn : y.name = "<init>") (hn : ∀ h0, (lg_sl (.ref h0 :: av)).length ≤ k) (body : ∀ (h0 : Nat) (p : Program) (e : Env) (s : State) (m : MethodId) (below : List Frame) (meth : Method) (c : Code), CN D cy (va_A [(h0, e0)] s.heap.size) k cc y.cls p s m (.ref h0 :: av : List Value).toArray meth c → (va_AO "StarShells$Laws" s ∧ va_AO "StarShells$Star" s) → meth.sig.returnType = none → meth.locks = false → VN D (va_A [(h0, e0)] s.heap.size) k p l e rm s m (.ref h0 :: av : List Value).toArray below meth c (MQ below (va_Qv (fun a : Nat → Nat => a 0 = h0) (fun a t => wn D cy (va_A [(h0, e0)] s.heap.size) (g a) t) (va_A [(h0, e0)] s.heap.size)) (.ref h0 :: av : List Value).toArray s mc ms (va_A [(h0, e0)] s.heap.size)) 0 0 0 (lv_args 0 (.ref h0 :: av)) [] [(h0, e0)]) : Mc l D cy y cc k rm mc ms e0 av g := by
  intro h0 sz
  refine Met.ofW (cc := cc) (maxL := k) (ret := none) hy rfl ?_
  intro p e s m args below meth c s₁ B hml hv
  obtain ⟨rfl, rfl, hw, hov⟩ := hv
  have hl := lv_entry (.ref h0 :: av) (hn h0)
  rw [lg_entry_eq]
  have hin : meth.name = "<init>" := by rw [← hyn]; exact (name_of_methodNamed B.named B.method).1
  exact body h0 p e s m below meth c ⟨B.exec, B.bytes, hml, findClass_of_methodNamed B.named, fun w h => atoms_spec (ws := Cond.code y cc k none :: gw) B.pre w (List.mem_cons_of_mem _ h), hw.2.1, hw.2.2.1, fun q hq => Or.inr hq, fun _ => hin⟩ hov B.returns B.notSynchronized s.heap [] _ hw.1 hw.2.2.2.self va_S.rf hl

/-- a world in another order, places by f -/
theorem cv_P {D : va_G} {ws : va_W} {n : Nat} {ad : Nat → Nat} {E : Nat → va_E} (f : Nat → Nat) (hf : ∀ k, k < n → ∃ e, ws[f k]? = some (ad k, e) ∧ ∀ H, va_at D vwCl (ad k, e) H → va_at D vwCl (ad k, E k) H) : ∀ H, va_P D vwCl ws H → va_P D vwCl (wl ad n E) H := by
  intro H hP k q hq
  obtain ⟨h1, h2⟩ := wl_some hq
  obtain ⟨e, h3, h4⟩ := hf k h1
  rw [h2]
  exact h4 H (hP (f k) _ h3)
theorem cv_D {D : va_G} {A : Nat → Prop} {ws : va_W} {n : Nat} {ad : Nat → Nat} {E : Nat → va_E} (f : Nat → Nat) (hf : ∀ k, k < n → ∃ e, ws[f k]? = some (ad k, e) ∧ ∀ H, va_at D vwCl (ad k, e) H → va_at D vwCl (ad k, E k) H) (hi : ∀ i, i < n → ∀ j, j < n → f i = f j → i = j) : va_D A ws → va_D A (wl ad n E) := by
  intro hD
  refine ⟨fun i j p q h1 h2 e => ?_, fun k q hq => ?_⟩
  · obtain ⟨a1, b1⟩ := wl_some h1
    obtain ⟨a2, b2⟩ := wl_some h2
    obtain ⟨e1, c1, -⟩ := hf i a1
    obtain ⟨e2, c2, -⟩ := hf j a2
    rw [b1, b2] at e
    exact hi i a1 j a2 (hD.1 (f i) (f j) _ _ c1 c2 e)
  · obtain ⟨a1, b1⟩ := wl_some hq
    obtain ⟨e1, c1, -⟩ := hf k a1
    rw [b1]
    exact (hD.2 (f k) (ad k, e1) c1 : A (ad k))
theorem arr_congr {cA : ClassId} {N : Nat} {f g : Nat → Option Nat} (h : ∀ i, i < N → f i = g i) : vp_cell cA (N, .inr (.inr (.inr (.inr f)))) = vp_cell cA (N, .inr (.inr (.inr (.inr g)))) := by
  show arrV cA N (fun j => va_rf (f j)) = arrV cA N (fun j => va_rf (g j))
  have e1 : ∀ (f : Nat → Value) (g : Nat → Value), (∀ i, i < N → f i = g i) → arrV cA N f = arrV cA N g := by
    intro f g h
    have hs : (arrV cA N f).slots = (arrV cA N g).slots := by
      apply Array.ext_getElem?
      intro i
      by_cases hi : i < N
      · rw [arrV_read cA f hi, arrV_read cA g hi, h i hi]
      · rw [Array.getElem?_eq_none (by rw [arrV_size]; omega), Array.getElem?_eq_none (by rw [arrV_size]; omega)]
    show ({ cls := cA, slots := (arrV cA N f).slots, vm := .none } : Cell) = { cls := cA, slots := (arrV cA N g).slots, vm := .none }
    rw [hs]
  exact e1 _ _ (fun i hi => by rw [h i hi])

