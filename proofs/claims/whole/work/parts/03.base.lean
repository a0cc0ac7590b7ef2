
abbrev Mem : Type := (Nat → Nat → Int32) × (Nat → Nat → Int64)
def si (u : Mem) (k j : Nat) (v : Int32) : Mem := (va_up u.1 k (upd (u.1 k) j v), u.2)
def sl (u : Mem) (k j : Nat) (v : Int64) : Mem := (u.1, va_up u.2 k (vp_updL (u.2 k) j v))
/-- a whole row at place k -/
def sr (u : Mem) (k : Nat) (f : Nat → Int32) : Mem := (va_up u.1 k f, u.2)
def srl (u : Mem) (k : Nat) (f : Nat → Int64) : Mem := (u.1, va_up u.2 k f)
abbrev Sh : Type := (Nat × List Nat) ⊕ (Nat × Nat × (Nat → Nat))
def sv (ad : Nat → Nat) (mi : Nat → Int32) (ml : Nat → Int64) (j : Nat) : Nat → Value
  | 0 => .int (mi j)
  | 1 => .long (ml j)
  | 2 => .ref (ad (5 * (mi j).toNatClampNeg))
  | p + 3 => .ref (ad p)
def sE (cy : Nat → ClassId) (ad : Nat → Nat) (mi : Nat → Int32) (ml : Nat → Int64) : Sh → va_E
  | .inl (ci, l) => .inr (ci, l.mapIdx (sv ad mi ml))
  | .inr (0, n, _) => .inl (cy 0, n, .inl mi)
  | .inr (1, n, _) => .inl (cy 1, n, .inl mi)
  | .inr (2, n, _) => .inl (cy 2, n, .inl mi)
  | .inr (3, n, _) => .inl (cy 3, n, .inr (.inl ml))
  | .inr (t + 4, n, f) => .inl (cy (t + 4), n, .inr (.inr (.inr (.inr (fun i => some (ad (f i)))))))
def wl (ad : Nat → Nat) (n : Nat) (E : Nat → va_E) : va_W := (List.range n).map (fun k => (ad k, E k))
theorem wl_at {ad : Nat → Nat} {n k : Nat} {E : Nat → va_E} (h : k < n) : (wl ad n E)[k]? = some (ad k, E k) := by
  simp [wl, h]
theorem wl_some {ad : Nat → Nat} {n k : Nat} {E : Nat → va_E} {q : Nat × va_E} (h : (wl ad n E)[k]? = some q) : k < n ∧ q = (ad k, E k) := by
  by_cases hk : k < n
  · rw [wl_at hk] at h
    exact ⟨hk, (Option.some.inj h).symm⟩
  · have h2 : (wl ad n E).length ≤ k := by simp [wl]; omega
    rw [List.getElem?_eq_none h2] at h
    cases h
theorem wl_set {ad : Nat → Nat} {n k : Nat} {E : Nat → va_E} {e : va_E} : (wl ad n E).set k (ad k, e) = wl ad n (va_up E k e) := by
  apply List.ext_getElem?
  intro j
  by_cases hj : j < n
  · rw [wl_at hj, List.getElem?_set]
    by_cases hk : k = j
    · subst hk
      simp [wl, hj, va_up]
    · rw [if_neg hk, wl_at hj, va_up_ne _ _ (Ne.symm hk)]
  · rw [List.getElem?_eq_none (by simp [wl]; omega), List.getElem?_eq_none (by simp [wl]; omega)]
def wE (cy : Nat → ClassId) (ad : Nat → Nat) (sh : Nat → Sh) (u : Mem) : Nat → va_E := fun k => sE cy ad (u.1 k) (u.2 k) (sh k)
theorem wE_si {cy : Nat → ClassId} {ad : Nat → Nat} {sh : Nat → Sh} {u : Mem} {k j : Nat} {v : Int32} {e : va_E} (h : sE cy ad (upd (u.1 k) j v) (u.2 k) (sh k) = e) : va_up (wE cy ad sh u) k e = wE cy ad sh (si u k j v) := by
  funext a
  by_cases ha : a = k
  · subst ha
    simp only [va_up_self, wE, si]
    exact h.symm
  · simp only [va_up_ne _ _ ha, wE, si]
theorem wE_sr {cy : Nat → ClassId} {ad : Nat → Nat} {sh : Nat → Sh} {u : Mem} {k : Nat} {f : Nat → Int32} {e : va_E} (h : sE cy ad f (u.2 k) (sh k) = e) : va_up (wE cy ad sh u) k e = wE cy ad sh (sr u k f) := by
  funext a
  by_cases ha : a = k
  · subst ha
    simp only [va_up_self, wE, sr]
    exact h.symm
  · simp only [va_up_ne _ _ ha, wE, sr]
theorem wE_sl {cy : Nat → ClassId} {ad : Nat → Nat} {sh : Nat → Sh} {u : Mem} {k j : Nat} {v : Int64} {e : va_E} (h : sE cy ad (u.1 k) (vp_updL (u.2 k) j v) (sh k) = e) : va_up (wE cy ad sh u) k e = wE cy ad sh (sl u k j v) := by
  funext a
  by_cases ha : a = k
  · subst ha
    simp only [va_up_self, wE, sl]
    exact h.symm
  · simp only [va_up_ne _ _ ha, wE, sl]
theorem wE_srl {cy : Nat → ClassId} {ad : Nat → Nat} {sh : Nat → Sh} {u : Mem} {k : Nat} {f : Nat → Int64} {e : va_E} (h : sE cy ad (u.1 k) f (sh k) = e) : va_up (wE cy ad sh u) k e = wE cy ad sh (srl u k f) := by
  funext a
  by_cases ha : a = k
  · subst ha
    simp only [va_up_self, wE, srl]
    exact h.symm
  · simp only [va_up_ne _ _ ha, wE, srl]
theorem sv_seti (ad : Nat → Nat) (mi : Nat → Int32) (ml : Nat → Int64) {l : List Nat} {j : Nat} (v : Int32) (h : l[j]? = some 0) : l.mapIdx (sv ad (upd mi j v) ml) = (l.mapIdx (sv ad mi ml)).set j (.int v) := by
  apply List.ext_getElem?
  intro i
  rw [List.getElem?_set, List.getElem?_mapIdx]
  by_cases hi : j = i
  · subst hi
    obtain ⟨hlt, hv⟩ := List.getElem?_eq_some_iff.mp h
    simp [hlt, hv, sv, upd]
  · rw [if_neg hi, List.getElem?_mapIdx]
    cases hq : l[i]? with
    | none => rfl
    | some c =>
      have hne : i ≠ j := fun z => hi z.symm
      match c with
      | 0 => simp [sv, upd, hne]
      | 1 => simp [sv]
      | 2 => simp [sv, upd, hne]
      | p + 3 => simp [sv]
theorem sv_setq (ad : Nat → Nat) (mi : Nat → Int32) (ml : Nat → Int64) {l : List Nat} {j : Nat} (v : Int32) (h : l[j]? = some 2) : l.mapIdx (sv ad (upd mi j v) ml) = (l.mapIdx (sv ad mi ml)).set j (.ref (ad (5 * v.toNatClampNeg))) := by
  apply List.ext_getElem?
  intro i
  rw [List.getElem?_set, List.getElem?_mapIdx]
  by_cases hi : j = i
  · subst hi
    obtain ⟨hlt, hv⟩ := List.getElem?_eq_some_iff.mp h
    simp [hlt, hv, sv, upd]
  · rw [if_neg hi, List.getElem?_mapIdx]
    cases hq : l[i]? with
    | none => rfl
    | some c =>
      have hne : i ≠ j := fun z => hi z.symm
      match c with
      | 0 => simp [sv, upd, hne]
      | 1 => simp [sv]
      | 2 => simp [sv, upd, hne]
      | p + 3 => simp [sv]
theorem sv_setl (ad : Nat → Nat) (mi : Nat → Int32) (ml : Nat → Int64) {l : List Nat} {j : Nat} (v : Int64) (h : l[j]? = some 1) : l.mapIdx (sv ad mi (vp_updL ml j v)) = (l.mapIdx (sv ad mi ml)).set j (.long v) := by
  apply List.ext_getElem?
  intro i
  rw [List.getElem?_set, List.getElem?_mapIdx]
  by_cases hi : j = i
  · subst hi
    obtain ⟨hlt, hv⟩ := List.getElem?_eq_some_iff.mp h
    simp [hlt, hv, sv, vp_updL]
  · rw [if_neg hi, List.getElem?_mapIdx]
    cases hq : l[i]? with
    | none => rfl
    | some c =>
      have hne : i ≠ j := fun z => hi z.symm
      match c with
      | 0 => simp [sv]
      | 1 => simp [sv, vp_updL, hne]
      | 2 => simp [sv]
      | p + 3 => simp [sv]
def rA (ad : Nat → Nat) (n : Nat) : Nat → Prop := fun q => ∃ k, k < n ∧ ad k = q
def inj (ad : Nat → Nat) (n : Nat) : Prop := ∀ i j, i < n → j < n → ad i = ad j → i = j
theorem wl_D {ad : Nat → Nat} {n : Nat} {E : Nat → va_E} (h : inj ad n) : va_D (rA ad n) (wl ad n E) := by
  refine ⟨fun i j p q hi hj e => ?_, fun k q hk => ?_⟩
  · obtain ⟨h1, h2⟩ := wl_some hi
    obtain ⟨h3, h4⟩ := wl_some hj
    rw [h2, h4] at e
    exact h i j h1 h3 e
  · obtain ⟨h1, h2⟩ := wl_some hk
    exact ⟨k, h1, by rw [h2]⟩
def fmV : Nat → Value
  | 0 => .null
  | k + 1 => .ref k
theorem fmV_or (n : Nat) : fmV n = .null ∨ ∃ k, fmV n = .ref k := by
  cases n with
  | zero => exact Or.inl rfl
  | succ k => exact Or.inr ⟨k, rfl⟩
def lenS : List Nat := [4, 5, 4, 4, 4, 2, 5]
def bytS : List (List Int32) := [[107, 105, 110, 100], [99, 104, 97, 105, 110], [114, 97, 116, 101], [112, 117, 115, 104], [104, 97, 122, 101], [116, 111], [108, 105, 103, 104, 116]]
def kS : List Nat := [60, 72, 77, 88, 93, 121, 126]
def tS : List String := ["kind", "chain", "rate", "push", "haze", "to", "light"]
/-- the words of the texts, as constants: their cells are none of the region's; two statics of the JDK -/
def sF (n : Nat) (ad : Nat → Nat) (U : State) : Prop := vk_S 7 lenS bytS (fun i => ad (1000 + i)) (fun i => ad (2000 + i)) (rA ad n) U U.heap ∧ (∀ i, i < 7 → vk_R "StarShells$Reader" (kS.getD i 0) (tS.getD i "") (ad (1000 + i)) U) ∧ va_Z "java/lang/String" "COMPACT_STRINGS" "Z" (.int 1) (rA ad n) U U.heap ∧ va_Z "jdk/internal/util/Preconditions" "SIOOBE_FORMATTER" "Ljava/util/function/BiFunction;" (fmV (ad 3000)) (rA ad n) U U.heap
theorem sF_end {n : Nat} {ad : Nat → Nat} {s t : State} (h : sF n ad s) (hq : ∀ a, a < s.heap.size → ¬ rA ad n a → t.heap[a]? = s.heap[a]?) (hW : s.WarmedH t.vm) : sF n ad t := ⟨vk_S.kept (vk_S.moved hW.alike h.1) hq, fun i hi => vk_R.warm hW (h.2.1 i hi), va_Z.kept (va_Z.moved hW.alike h.2.2.1) hq, va_Z.kept (va_Z.moved hW.alike h.2.2.2) hq⟩
theorem sF_same {n : Nat} {ad : Nat → Nat} {s U : State} (hh : U.heap = s.heap) (hv : U.vm = s.vm) (h : sF n ad s) : sF n ad U := by
  have ha : s.vm.Alike U.vm := by rw [hv]; exact Vm.Alike.refl s.vm
  refine ⟨?_, fun i hi => vk_R.same hv (h.2.1 i hi), ?_, ?_⟩
  · rw [hh]; exact vk_S.moved ha h.1
  · rw [hh]; exact va_Z.moved ha h.2.2.1
  · rw [hh]; exact va_Z.moved ha h.2.2.2
abbrev vty (cy : Nat → ClassId) : List (ClassId × FieldType) := [(cy 0, .int), (cy 1, .boolean), (cy 2, .byte), (cy 3, .long), (cy 4, .object "StarShells$Laws"), (cy 5, .object "StarShells$Star")]
def nws : List Cond := [.methodLinkNest "StarShells$Inside" 58 yX11_cut "StarShells", .methodLinkNest "StarShells$Laws" 46 yX11_cut "StarShells", .methodLinkNest "StarShells$Star" 51 yX11_cut "StarShells", .methodLinkNest "StarShells" 11 yX8_init "StarShells", .methodLinkNest "StarShells" 44 yX1_init "StarShells", .methodLinkNest "StarShells" 51 yX6_init "StarShells", .methodLinkNest "StarShells" 58 yX5_init "StarShells", .methodLinkNest "StarShells" 65 yX2_init "StarShells", .methodLinkNest "StarShells" 72 yX9_init "StarShells", .methodLinkNest "StarShells$Inside" 39 yX0_init "StarShells", .methodLinkNest "StarShells$World" 17 yX7_init "StarShells"]
def nwK (U : State) : Prop := ∀ w ∈ nws, va_Nw w U
theorem nwK_warm {s U : State} (hW : s.WarmedH U.vm) (h : nwK s) : nwK U := by
  intro w hw
  have h2 := h w hw
  simp only [nws, List.mem_cons, List.not_mem_nil, or_false] at hw
  rcases hw with rfl | rfl | rfl | rfl | rfl | rfl | rfl | rfl | rfl | rfl | rfl <;> exact va_Nw.warmM hW h2
theorem nwK_same {s U : State} (hv : s.vm = U.vm) (h : nwK s) : nwK U := by
  intro w hw
  have h2 := h w hw
  simp only [nws, List.mem_cons, List.not_mem_nil, or_false] at hw
  rcases hw with rfl | rfl | rfl | rfl | rfl | rfl | rfl | rfl | rfl | rfl | rfl <;> exact va_Nw.same rfl hv h2
/-- the world of a region -/
def wv (sh : Nat → Sh) (n : Nat) (D : va_G) (cy : Nat → ClassId) (ad : Nat → Nat) (u : Mem) (U : State) : Prop := va_P D vwCl (wl ad n (wE cy ad sh u)) U.heap ∧ va_K D vwCl (vty cy) U ∧ nwK U ∧ inj ad n ∧ sF n ad U
def bz (b : Bool) : Int32 := if b then 1 else 0
def Cx (n : Nat) (D : va_G) (cy : Nat → ClassId) (ad : Nat → Nat) (nL : Nat) (cc : ByteArray) (own : String) (R : Room) (p : Program) (s : State) (m : MethodId) (args : Array Value) (c : Code) : Prop :=
  p.tables.exec = Jvm.exec ∧ c.code = cc ∧ c.maxLocals = nL ∧ s.vm.findClass own = some m.cls ∧ (∀ w ∈ gw, w.before args s = true) ∧ va_K D vwCl (vty cy) s ∧ nwK s ∧ inj ad n ∧ sF n ad s
def V (sh : Nat → Sh) (n : Nat) (D : va_G) (cy : Nat → ClassId) (ad : Nat → Nat) (nL : Nat) (p : Program) (l : Launch) (e : Env) (R : Room) (s : State) (m : MethodId) (args : Array Value) (below : List Frame) (meth : Method) (c : Code) (Q : State → Prop) (pc : Nat) (lv : List (Nat × Value)) (st : List Value) (u : Mem) : Prop :=
  ∀ (H : Heap) (locs : List Loc) (la : Array Slot), va_P D vwCl (wl ad n (wE cy ad sh u)) H → va_S (rA ad n) s.heap H locs → lv_has la nL lv → W p l e R s m args below meth c H locs 0 0 Q (F0 m pc la st)
theorem gw_of {w : Cond} (h : w ∈ lw_tbl) (g : goodWord w = true) : w ∈ gw := List.mem_filter.mpr ⟨h, g⟩
theorem gw_good : ∀ w ∈ gw, (w.onTables && w.keeps) = true ∨ ∃ ty, w = .arrayClass ty := fun w h => good_of_word (List.mem_filter.mp h).2
theorem gw_call {y : MethodName} {b : ByteArray} {k : Nat} {r : Option FieldType} (h : Cond.code y b k r ∈ gw) : GoodIn gw (.code y b k r :: gw) := by
  intro w hw
  rcases List.mem_cons.mp hw with rfl | hw
  · exact ⟨h, gw_good _ h⟩
  · exact ⟨hw, gw_good _ hw⟩
/-- a field that a method of 'own' links at 'index': slot j of class ci -/
def fdW (own : String) (index ci j : Nat) : Prop := ∃ (C : String) (T : u_T) (N : Nat), vwCl[ci]? = some (C, T, N) ∧ (∀ w ∈ u_ws C T N, w ∈ gw) ∧ j < N ∧ Cond.fieldLink own index (T j).1 (T j).2.1 (T j).2.2.1 ∈ gw
def fpW (own : String) (index ci j : Nat) (ty : FieldType) : Prop := ∃ (C : String) (T : u_T) (N : Nat) (t0 : Nat → FieldType), vwCl[ci]? = some (C, T, N) ∧ (∀ w ∈ u_ws C T N, w ∈ gw) ∧ j < N ∧ Cond.fieldLink own index (T j).1 (T j).2.1 (T j).2.2.1 ∈ gw ∧ (∀ k, k < N → parseFieldDescriptor (T k).2.2.1 = some (t0 k)) ∧ (∀ a, a < N → ∀ b, b < N → a ≠ b → (T a).2.1 ≠ (T b).2.1) ∧ (T j).2.2.2 = false ∧ parseFieldDescriptor (T j).2.2.1 = some ty
/-- place k of a region has shape S -/
def Pl (sh : Nat → Sh) (n k : Nat) (S : Sh) : Prop := k < n ∧ sh k = S
abbrev inB (i : Int32) (n : Nat) : Prop := 0 ≤ i.toInt ∧ i.toInt < (n : Int)
theorem inB_vp {i : Int32} {n : Nat} (h : inB i n) : vp_in i n := vp_in_iff.mpr h
theorem inB_lt {i : Int32} {n : Nat} (h : inB i n) : i.toNatClampNeg < n := by
  have h2 := inB_vp h
  exact Nat.not_le.mp fun q => h2 (Or.inr q)

section VR
variable {sh : Nat → Sh} {n : Nat} {D : va_G} {cy : Nat → ClassId} {ad : Nat → Nat} {nL : Nat} {cc : ByteArray} {own : String} {p : Program} {l : Launch} {e : Env} {R : Room} {s : State} {m : MethodId} {args : Array Value} {below : List Frame} {meth : Method} {c : Code} {Q : State → Prop} {pc : Nat} {lv : List (Nat × Value)} {st : List Value} {u : Mem} {O : Type} {out : O}
theorem v_iconst (C : Cx n D cy ad nL cc own R p s m args c) {n0 : Int} {v : Int32} (hd : decode cc pc = .ok (.iconst n0, 1)) (hv : Int32.ofInt n0 = v) (k : V sh n D cy ad nL p l e R s m args below meth c Q (pc + 1) (lv) (.int v :: st) (u)) : V sh n D cy ad nL p l e R s m args below meth c Q (pc) (lv) (st) (u) := fun H locs la hP hS hl => lv_iconst C.1 C.2.1 hd hv (k H locs la hP hS hl)
theorem v_bipush (C : Cx n D cy ad nL cc own R p s m args c) {n0 : Int} {v : Int32} (hd : decode cc pc = .ok (.bipush n0, 2)) (hv : (Int8.ofInt n0).toInt32 = v) (k : V sh n D cy ad nL p l e R s m args below meth c Q (pc + 2) (lv) (.int v :: st) (u)) : V sh n D cy ad nL p l e R s m args below meth c Q (pc) (lv) (st) (u) := fun H locs la hP hS hl => lv_bipush C.1 C.2.1 hd hv (k H locs la hP hS hl)
theorem v_sipush (C : Cx n D cy ad nL cc own R p s m args c) {n0 : Int} {v : Int32} (hd : decode cc pc = .ok (.sipush n0, 3)) (hv : (Int16.ofInt n0).toInt32 = v) (k : V sh n D cy ad nL p l e R s m args below meth c Q (pc + 3) (lv) (.int v :: st) (u)) : V sh n D cy ad nL p l e R s m args below meth c Q (pc) (lv) (st) (u) := fun H locs la hP hS hl => lv_sipush C.1 C.2.1 hd hv (k H locs la hP hS hl)
theorem v_lconst (C : Cx n D cy ad nL cc own R p s m args c) {n0 : Fin 2} {v : Int64} (hd : decode cc pc = .ok (.lconst n0, 1)) (hv : Int64.ofNat (n0 : Nat) = v) (k : V sh n D cy ad nL p l e R s m args below meth c Q (pc + 1) (lv) (.long v :: st) (u)) : V sh n D cy ad nL p l e R s m args below meth c Q (pc) (lv) (st) (u) := fun H locs la hP hS hl => lv_lconst C.1 C.2.1 hd hv (k H locs la hP hS hl)
theorem v_ldc (C : Cx n D cy ad nL cc own R p s m args c) {index : Nat} {v : Int32} (hw : Cond.constant own index v ∈ gw) (hd : decode cc pc = .ok (.ldc index, 2)) (k : V sh n D cy ad nL p l e R s m args below meth c Q (pc + 2) (lv) (.int v :: st) (u)) : V sh n D cy ad nL p l e R s m args below meth c Q (pc) (lv) (st) (u) := fun H locs la hP hS hl => lv_ldc C.1 C.2.1 C.2.2.2.1 (C.2.2.2.2.1 _ hw) hd (k H locs la hP hS hl)
theorem v_ldc2 (C : Cx n D cy ad nL cc own R p s m args c) {index : Nat} {v : Int64} (hw : Cond.constantLong own index v ∈ gw) (hd : decode cc pc = .ok (.ldc2_w index, 3)) (k : V sh n D cy ad nL p l e R s m args below meth c Q (pc + 3) (lv) (.long v :: st) (u)) : V sh n D cy ad nL p l e R s m args below meth c Q (pc) (lv) (st) (u) := fun H locs la hP hS hl => lv_ldc2 C.1 C.2.1 C.2.2.2.1 (C.2.2.2.2.1 _ hw) hd (k H locs la hP hS hl)
theorem v_iload_n (C : Cx n D cy ad nL cc own R p s m args c) (q : Nat) {k0 : Fin 4} {i : Nat} {x : Int32} (hd : decode cc pc = .ok (.iload_n k0, 1)) (hi : (k0 : Nat) = i) (hq : lv[q]? = some (i, .int x)) (k : V sh n D cy ad nL p l e R s m args below meth c Q (pc + 1) (lv) (.int x :: st) (u)) : V sh n D cy ad nL p l e R s m args below meth c Q (pc) (lv) (st) (u) := fun H locs la hP hS hl => lv_iload_n C.1 C.2.1 hd hi (lv_at hl q hq) (k H locs la hP hS hl)
theorem v_iload (C : Cx n D cy ad nL cc own R p s m args c) (q : Nat) {i : Nat} {x : Int32} (hd : decode cc pc = .ok (.iload i, 2)) (hq : lv[q]? = some (i, .int x)) (k : V sh n D cy ad nL p l e R s m args below meth c Q (pc + 2) (lv) (.int x :: st) (u)) : V sh n D cy ad nL p l e R s m args below meth c Q (pc) (lv) (st) (u) := fun H locs la hP hS hl => lv_iload C.1 C.2.1 hd (lv_at hl q hq) (k H locs la hP hS hl)
theorem v_istore_n (C : Cx n D cy ad nL cc own R p s m args c) {k0 : Fin 4} {i : Nat} {x : Int32} (lv2 : List (Nat × Value)) (hd : decode cc pc = .ok (.istore_n k0, 1)) (hi : (k0 : Nat) = i) (hn : i < nL) (hq : (i, .int x) :: lv.filter (fun q => !(q.1 == i) && !(q.1 + 1 == i && q.2.category == 2)) = lv2) (k : V sh n D cy ad nL p l e R s m args below meth c Q (pc + 1) (lv2) (st) (u)) : V sh n D cy ad nL p l e R s m args below meth c Q (pc) (lv) (.int x :: st) (u) := fun H locs la hP hS hl => lv_istore_n C.1 C.2.1 hd hi hl hn hq (fun la2 hl2 => k H locs la2 hP hS hl2)
theorem v_istore (C : Cx n D cy ad nL cc own R p s m args c) {i : Nat} {x : Int32} (lv2 : List (Nat × Value)) (hd : decode cc pc = .ok (.istore i, 2)) (hn : i < nL) (hq : (i, .int x) :: lv.filter (fun q => !(q.1 == i) && !(q.1 + 1 == i && q.2.category == 2)) = lv2) (k : V sh n D cy ad nL p l e R s m args below meth c Q (pc + 2) (lv2) (st) (u)) : V sh n D cy ad nL p l e R s m args below meth c Q (pc) (lv) (.int x :: st) (u) := fun H locs la hP hS hl => lv_istore C.1 C.2.1 hd hl hn hq (fun la2 hl2 => k H locs la2 hP hS hl2)
theorem v_lload_n (C : Cx n D cy ad nL cc own R p s m args c) (q : Nat) {k0 : Fin 4} {i : Nat} {x : Int64} (hd : decode cc pc = .ok (.lload_n k0, 1)) (hi : (k0 : Nat) = i) (hq : lv[q]? = some (i, .long x)) (k : V sh n D cy ad nL p l e R s m args below meth c Q (pc + 1) (lv) (.long x :: st) (u)) : V sh n D cy ad nL p l e R s m args below meth c Q (pc) (lv) (st) (u) := fun H locs la hP hS hl => lv_lload_n C.1 C.2.1 hd hi (lv_at hl q hq) (k H locs la hP hS hl)
theorem v_lload (C : Cx n D cy ad nL cc own R p s m args c) (q : Nat) {i : Nat} {x : Int64} (hd : decode cc pc = .ok (.lload i, 2)) (hq : lv[q]? = some (i, .long x)) (k : V sh n D cy ad nL p l e R s m args below meth c Q (pc + 2) (lv) (.long x :: st) (u)) : V sh n D cy ad nL p l e R s m args below meth c Q (pc) (lv) (st) (u) := fun H locs la hP hS hl => lv_lload C.1 C.2.1 hd (lv_at hl q hq) (k H locs la hP hS hl)
theorem v_lstore_n (C : Cx n D cy ad nL cc own R p s m args c) {k0 : Fin 4} {i : Nat} {x : Int64} (lv2 : List (Nat × Value)) (hd : decode cc pc = .ok (.lstore_n k0, 1)) (hi : (k0 : Nat) = i) (hn : i + 1 < nL) (hq : (i, .long x) :: lv.filter (fun q => !(q.1 == i) && (!(q.1 == i + 1) && !(q.1 + 1 == i && q.2.category == 2))) = lv2) (k : V sh n D cy ad nL p l e R s m args below meth c Q (pc + 1) (lv2) (st) (u)) : V sh n D cy ad nL p l e R s m args below meth c Q (pc) (lv) (.long x :: st) (u) := fun H locs la hP hS hl => lv_lstore_n C.1 C.2.1 hd hi hl hn hq (fun la2 hl2 => k H locs la2 hP hS hl2)
theorem v_lstore (C : Cx n D cy ad nL cc own R p s m args c) {i : Nat} {x : Int64} (lv2 : List (Nat × Value)) (hd : decode cc pc = .ok (.lstore i, 2)) (hn : i + 1 < nL) (hq : (i, .long x) :: lv.filter (fun q => !(q.1 == i) && (!(q.1 == i + 1) && !(q.1 + 1 == i && q.2.category == 2))) = lv2) (k : V sh n D cy ad nL p l e R s m args below meth c Q (pc + 2) (lv2) (st) (u)) : V sh n D cy ad nL p l e R s m args below meth c Q (pc) (lv) (.long x :: st) (u) := fun H locs la hP hS hl => lv_lstore C.1 C.2.1 hd hl hn hq (fun la2 hl2 => k H locs la2 hP hS hl2)
theorem v_aload_n (C : Cx n D cy ad nL cc own R p s m args c) (q : Nat) {k0 : Fin 4} {i : Nat} {x : Nat} (hd : decode cc pc = .ok (.aload_n k0, 1)) (hi : (k0 : Nat) = i) (hq : lv[q]? = some (i, .ref x)) (k : V sh n D cy ad nL p l e R s m args below meth c Q (pc + 1) (lv) (.ref x :: st) (u)) : V sh n D cy ad nL p l e R s m args below meth c Q (pc) (lv) (st) (u) := fun H locs la hP hS hl => lv_aload_n C.1 C.2.1 hd hi (lv_at hl q hq) (k H locs la hP hS hl)
theorem v_aload (C : Cx n D cy ad nL cc own R p s m args c) (q : Nat) {i : Nat} {x : Nat} (hd : decode cc pc = .ok (.aload i, 2)) (hq : lv[q]? = some (i, .ref x)) (k : V sh n D cy ad nL p l e R s m args below meth c Q (pc + 2) (lv) (.ref x :: st) (u)) : V sh n D cy ad nL p l e R s m args below meth c Q (pc) (lv) (st) (u) := fun H locs la hP hS hl => lv_aload C.1 C.2.1 hd (lv_at hl q hq) (k H locs la hP hS hl)
theorem v_astore_n (C : Cx n D cy ad nL cc own R p s m args c) {k0 : Fin 4} {i : Nat} {x : Nat} (lv2 : List (Nat × Value)) (hd : decode cc pc = .ok (.astore_n k0, 1)) (hi : (k0 : Nat) = i) (hn : i < nL) (hq : (i, .ref x) :: lv.filter (fun q => !(q.1 == i) && !(q.1 + 1 == i && q.2.category == 2)) = lv2) (k : V sh n D cy ad nL p l e R s m args below meth c Q (pc + 1) (lv2) (st) (u)) : V sh n D cy ad nL p l e R s m args below meth c Q (pc) (lv) (.ref x :: st) (u) := fun H locs la hP hS hl => lv_astore_n C.1 C.2.1 hd hi hl hn hq (fun la2 hl2 => k H locs la2 hP hS hl2)
theorem v_astore (C : Cx n D cy ad nL cc own R p s m args c) {i : Nat} {x : Nat} (lv2 : List (Nat × Value)) (hd : decode cc pc = .ok (.astore i, 2)) (hn : i < nL) (hq : (i, .ref x) :: lv.filter (fun q => !(q.1 == i) && !(q.1 + 1 == i && q.2.category == 2)) = lv2) (k : V sh n D cy ad nL p l e R s m args below meth c Q (pc + 2) (lv2) (st) (u)) : V sh n D cy ad nL p l e R s m args below meth c Q (pc) (lv) (.ref x :: st) (u) := fun H locs la hP hS hl => lv_astore C.1 C.2.1 hd hl hn hq (fun la2 hl2 => k H locs la2 hP hS hl2)
theorem v_iinc (C : Cx n D cy ad nL cc own R p s m args c) (q : Nat) {i : Nat} {n0 : Int} {x v : Int32} (lv2 : List (Nat × Value)) (hd : decode cc pc = .ok (.iinc i n0, 3)) (hk : lv[q]? = some (i, .int x)) (hv : x + Int32.ofInt n0 = v) (hn : i < nL) (hq : (i, Value.int v) :: lv.filter (fun q => !(q.1 == i) && !(q.1 + 1 == i && q.2.category == 2)) = lv2) (k : V sh n D cy ad nL p l e R s m args below meth c Q (pc + 3) (lv2) (st) (u)) : V sh n D cy ad nL p l e R s m args below meth c Q (pc) (lv) (st) (u) := fun H locs la hP hS hl => lv_iinc C.1 C.2.1 hd hl hk hv hn hq (fun la2 hl2 => k H locs la2 hP hS hl2)
theorem v_iadd (C : Cx n D cy ad nL cc own R p s m args c) {x y : Int32} (hd : decode cc pc = .ok (.iadd, 1)) (k : V sh n D cy ad nL p l e R s m args below meth c Q (pc + 1) (lv) (.int (x + y) :: st) (u)) : V sh n D cy ad nL p l e R s m args below meth c Q (pc) (lv) (.int y :: .int x :: st) (u) := fun H locs la hP hS hl => lv_iadd C.1 C.2.1 hd (k H locs la hP hS hl)
theorem v_isub (C : Cx n D cy ad nL cc own R p s m args c) {x y : Int32} (hd : decode cc pc = .ok (.isub, 1)) (k : V sh n D cy ad nL p l e R s m args below meth c Q (pc + 1) (lv) (.int (x - y) :: st) (u)) : V sh n D cy ad nL p l e R s m args below meth c Q (pc) (lv) (.int y :: .int x :: st) (u) := fun H locs la hP hS hl => lv_isub C.1 C.2.1 hd (k H locs la hP hS hl)
theorem v_imul (C : Cx n D cy ad nL cc own R p s m args c) {x y : Int32} (hd : decode cc pc = .ok (.imul, 1)) (k : V sh n D cy ad nL p l e R s m args below meth c Q (pc + 1) (lv) (.int (x * y) :: st) (u)) : V sh n D cy ad nL p l e R s m args below meth c Q (pc) (lv) (.int y :: .int x :: st) (u) := fun H locs la hP hS hl => lv_imul C.1 C.2.1 hd (k H locs la hP hS hl)
theorem v_iand (C : Cx n D cy ad nL cc own R p s m args c) {x y : Int32} (hd : decode cc pc = .ok (.iand, 1)) (k : V sh n D cy ad nL p l e R s m args below meth c Q (pc + 1) (lv) (.int (x &&& y) :: st) (u)) : V sh n D cy ad nL p l e R s m args below meth c Q (pc) (lv) (.int y :: .int x :: st) (u) := fun H locs la hP hS hl => lv_iand C.1 C.2.1 hd (k H locs la hP hS hl)
theorem v_ior (C : Cx n D cy ad nL cc own R p s m args c) {x y : Int32} (hd : decode cc pc = .ok (.ior, 1)) (k : V sh n D cy ad nL p l e R s m args below meth c Q (pc + 1) (lv) (.int (x ||| y) :: st) (u)) : V sh n D cy ad nL p l e R s m args below meth c Q (pc) (lv) (.int y :: .int x :: st) (u) := fun H locs la hP hS hl => lv_ior C.1 C.2.1 hd (k H locs la hP hS hl)
theorem v_ixor (C : Cx n D cy ad nL cc own R p s m args c) {x y : Int32} (hd : decode cc pc = .ok (.ixor, 1)) (k : V sh n D cy ad nL p l e R s m args below meth c Q (pc + 1) (lv) (.int (x ^^^ y) :: st) (u)) : V sh n D cy ad nL p l e R s m args below meth c Q (pc) (lv) (.int y :: .int x :: st) (u) := fun H locs la hP hS hl => lv_ixor C.1 C.2.1 hd (k H locs la hP hS hl)
theorem v_ladd (C : Cx n D cy ad nL cc own R p s m args c) {x y : Int64} (hd : decode cc pc = .ok (.ladd, 1)) (k : V sh n D cy ad nL p l e R s m args below meth c Q (pc + 1) (lv) (.long (x + y) :: st) (u)) : V sh n D cy ad nL p l e R s m args below meth c Q (pc) (lv) (.long y :: .long x :: st) (u) := fun H locs la hP hS hl => lv_ladd C.1 C.2.1 hd (k H locs la hP hS hl)
theorem v_lsub (C : Cx n D cy ad nL cc own R p s m args c) {x y : Int64} (hd : decode cc pc = .ok (.lsub, 1)) (k : V sh n D cy ad nL p l e R s m args below meth c Q (pc + 1) (lv) (.long (x - y) :: st) (u)) : V sh n D cy ad nL p l e R s m args below meth c Q (pc) (lv) (.long y :: .long x :: st) (u) := fun H locs la hP hS hl => lv_lsub C.1 C.2.1 hd (k H locs la hP hS hl)
theorem v_lmul (C : Cx n D cy ad nL cc own R p s m args c) {x y : Int64} (hd : decode cc pc = .ok (.lmul, 1)) (k : V sh n D cy ad nL p l e R s m args below meth c Q (pc + 1) (lv) (.long (x * y) :: st) (u)) : V sh n D cy ad nL p l e R s m args below meth c Q (pc) (lv) (.long y :: .long x :: st) (u) := fun H locs la hP hS hl => lv_lmul C.1 C.2.1 hd (k H locs la hP hS hl)
theorem v_land (C : Cx n D cy ad nL cc own R p s m args c) {x y : Int64} (hd : decode cc pc = .ok (.land, 1)) (k : V sh n D cy ad nL p l e R s m args below meth c Q (pc + 1) (lv) (.long (x &&& y) :: st) (u)) : V sh n D cy ad nL p l e R s m args below meth c Q (pc) (lv) (.long y :: .long x :: st) (u) := fun H locs la hP hS hl => lv_land C.1 C.2.1 hd (k H locs la hP hS hl)
theorem v_lor (C : Cx n D cy ad nL cc own R p s m args c) {x y : Int64} (hd : decode cc pc = .ok (.lor, 1)) (k : V sh n D cy ad nL p l e R s m args below meth c Q (pc + 1) (lv) (.long (x ||| y) :: st) (u)) : V sh n D cy ad nL p l e R s m args below meth c Q (pc) (lv) (.long y :: .long x :: st) (u) := fun H locs la hP hS hl => lv_lor C.1 C.2.1 hd (k H locs la hP hS hl)
theorem v_lxor (C : Cx n D cy ad nL cc own R p s m args c) {x y : Int64} (hd : decode cc pc = .ok (.lxor, 1)) (k : V sh n D cy ad nL p l e R s m args below meth c Q (pc + 1) (lv) (.long (x ^^^ y) :: st) (u)) : V sh n D cy ad nL p l e R s m args below meth c Q (pc) (lv) (.long y :: .long x :: st) (u) := fun H locs la hP hS hl => lv_lxor C.1 C.2.1 hd (k H locs la hP hS hl)
theorem v_lneg (C : Cx n D cy ad nL cc own R p s m args c) {x : Int64} (hd : decode cc pc = .ok (.lneg, 1)) (k : V sh n D cy ad nL p l e R s m args below meth c Q (pc + 1) (lv) (.long (-x) :: st) (u)) : V sh n D cy ad nL p l e R s m args below meth c Q (pc) (lv) (.long x :: st) (u) := fun H locs la hP hS hl => lv_lneg C.1 C.2.1 hd (k H locs la hP hS hl)
theorem v_ineg (C : Cx n D cy ad nL cc own R p s m args c) {x : Int32} (hd : decode cc pc = .ok (.ineg, 1)) (k : V sh n D cy ad nL p l e R s m args below meth c Q (pc + 1) (lv) (.int (-x) :: st) (u)) : V sh n D cy ad nL p l e R s m args below meth c Q (pc) (lv) (.int x :: st) (u) := fun H locs la hP hS hl => lv_ineg C.1 C.2.1 hd (k H locs la hP hS hl)
theorem v_ishr (C : Cx n D cy ad nL cc own R p s m args c) {x y : Int32} (hd : decode cc pc = .ok (.ishr, 1)) (k : V sh n D cy ad nL p l e R s m args below meth c Q (pc + 1) (lv) (.int (x >>> (y &&& 31)) :: st) (u)) : V sh n D cy ad nL p l e R s m args below meth c Q (pc) (lv) (.int y :: .int x :: st) (u) := fun H locs la hP hS hl => lv_ishr C.1 C.2.1 hd (k H locs la hP hS hl)
theorem v_i2l (C : Cx n D cy ad nL cc own R p s m args c) {x : Int32} (hd : decode cc pc = .ok (.i2l, 1)) (k : V sh n D cy ad nL p l e R s m args below meth c Q (pc + 1) (lv) (.long x.toInt64 :: st) (u)) : V sh n D cy ad nL p l e R s m args below meth c Q (pc) (lv) (.int x :: st) (u) := fun H locs la hP hS hl => lv_i2l C.1 C.2.1 hd rfl (k H locs la hP hS hl)
theorem v_l2i (C : Cx n D cy ad nL cc own R p s m args c) {x : Int64} (hd : decode cc pc = .ok (.l2i, 1)) (k : V sh n D cy ad nL p l e R s m args below meth c Q (pc + 1) (lv) (.int x.toInt32 :: st) (u)) : V sh n D cy ad nL p l e R s m args below meth c Q (pc) (lv) (.long x :: st) (u) := fun H locs la hP hS hl => lv_l2i C.1 C.2.1 hd rfl (k H locs la hP hS hl)
theorem v_i2b (C : Cx n D cy ad nL cc own R p s m args c) {x : Int32} (hd : decode cc pc = .ok (.i2b, 1)) (k : V sh n D cy ad nL p l e R s m args below meth c Q (pc + 1) (lv) (.int x.toInt8.toInt32 :: st) (u)) : V sh n D cy ad nL p l e R s m args below meth c Q (pc) (lv) (.int x :: st) (u) := fun H locs la hP hS hl => lv_i2b C.1 C.2.1 hd rfl (k H locs la hP hS hl)
theorem v_iushr (C : Cx n D cy ad nL cc own R p s m args c) {x y : Int32} (hd : decode cc pc = .ok (.iushr, 1)) (k : V sh n D cy ad nL p l e R s m args below meth c Q (pc + 1) (lv) (.int (x.toUInt32 >>> (y.toUInt32 &&& Int32.toUInt32 31)).toInt32 :: st) (u)) : V sh n D cy ad nL p l e R s m args below meth c Q (pc) (lv) (.int y :: .int x :: st) (u) := fun H locs la hP hS hl => lv_iushr C.1 C.2.1 hd rfl (k H locs la hP hS hl)
theorem v_lshl (C : Cx n D cy ad nL cc own R p s m args c) {x : Int64} {y : Int32} (hd : decode cc pc = .ok (.lshl, 1)) (k : V sh n D cy ad nL p l e R s m args below meth c Q (pc + 1) (lv) (.long (x <<< (y.toInt64 &&& 63)) :: st) (u)) : V sh n D cy ad nL p l e R s m args below meth c Q (pc) (lv) (.int y :: .long x :: st) (u) := fun H locs la hP hS hl => lv_lshl C.1 C.2.1 hd rfl (k H locs la hP hS hl)
theorem v_dup (C : Cx n D cy ad nL cc own R p s m args c) {va : Value} (hva : va.category = 1) (hd : decode cc pc = .ok (.dup, 1)) (k : V sh n D cy ad nL p l e R s m args below meth c Q (pc + 1) (lv) (va :: va :: st) (u)) : V sh n D cy ad nL p l e R s m args below meth c Q (pc) (lv) (va :: st) (u) := fun H locs la hP hS hl => lv_dup C.1 C.2.1 hd hva (k H locs la hP hS hl)
theorem v_pop (C : Cx n D cy ad nL cc own R p s m args c) {va : Value} (hva : va.category = 1) (hd : decode cc pc = .ok (.pop, 1)) (k : V sh n D cy ad nL p l e R s m args below meth c Q (pc + 1) (lv) (st) (u)) : V sh n D cy ad nL p l e R s m args below meth c Q (pc) (lv) (va :: st) (u) := fun H locs la hP hS hl => lv_pop C.1 C.2.1 hd hva (k H locs la hP hS hl)
theorem v_dup2 (C : Cx n D cy ad nL cc own R p s m args c) {va vb : Value} (hva : va.category = 1) (hvb : vb.category = 1) (hd : decode cc pc = .ok (.dup2, 1)) (k : V sh n D cy ad nL p l e R s m args below meth c Q (pc + 1) (lv) (va :: vb :: va :: vb :: st) (u)) : V sh n D cy ad nL p l e R s m args below meth c Q (pc) (lv) (va :: vb :: st) (u) := fun H locs la hP hS hl => lv_dup2_11 C.1 C.2.1 hd hva hvb (k H locs la hP hS hl)
theorem v_goto (C : Cx n D cy ad nL cc own R p s m args c) {off : Int} (tgt : Nat) (hd : decode cc pc = .ok (.goto off, 3)) (ht : (pc : Int) + off = (tgt : Int)) (k : V sh n D cy ad nL p l e R s m args below meth c Q (tgt) (lv) (st) (u)) : V sh n D cy ad nL p l e R s m args below meth c Q (pc) (lv) (st) (u) := fun H locs la hP hS hl =>  lv_goto C.1 C.2.1 hd ht (k H locs la hP hS hl)
theorem v_idiv (C : Cx n D cy ad nL cc own R p s m args c) {x y : Int32} {A : Option O} (hd : decode cc pc = .ok (.idiv, 1)) (h : (if y = 0 then none else A) = some out) (k : A = some out → V sh n D cy ad nL p l e R s m args below meth c Q (pc + 1) (lv) (.int (x / y) :: st) (u)) : V sh n D cy ad nL p l e R s m args below meth c Q (pc) (lv) (.int y :: .int x :: st) (u) := by
  by_cases hy : y = 0
  · rw [if_pos hy] at h; cases h
  · rw [if_neg hy] at h
    exact fun H locs la hP hS hl =>  lv_idiv C.1 C.2.1 hd hy (k h H locs la hP hS hl)
theorem v_irem (C : Cx n D cy ad nL cc own R p s m args c) {x y : Int32} {A : Option O} (hd : decode cc pc = .ok (.irem, 1)) (h : (if y = 0 then none else A) = some out) (k : A = some out → V sh n D cy ad nL p l e R s m args below meth c Q (pc + 1) (lv) (.int (x - x / y * y) :: st) (u)) : V sh n D cy ad nL p l e R s m args below meth c Q (pc) (lv) (.int y :: .int x :: st) (u) := by
  by_cases hy : y = 0
  · rw [if_pos hy] at h; cases h
  · rw [if_neg hy] at h
    exact fun H locs la hP hS hl =>  lv_irem C.1 C.2.1 hd hy (k h H locs la hP hS hl)
theorem v_ldiv (C : Cx n D cy ad nL cc own R p s m args c) {x y : Int64} {A : Option O} (hd : decode cc pc = .ok (.ldiv, 1)) (h : (if y = 0 then none else A) = some out) (k : A = some out → V sh n D cy ad nL p l e R s m args below meth c Q (pc + 1) (lv) (.long (x / y) :: st) (u)) : V sh n D cy ad nL p l e R s m args below meth c Q (pc) (lv) (.long y :: .long x :: st) (u) := by
  by_cases hy : y = 0
  · rw [if_pos hy] at h; cases h
  · rw [if_neg hy] at h
    exact fun H locs la hP hS hl =>  lv_ldiv C.1 C.2.1 hd hy (k h H locs la hP hS hl)
theorem v_lrem (C : Cx n D cy ad nL cc own R p s m args c) {x y : Int64} {A : Option O} (hd : decode cc pc = .ok (.lrem, 1)) (h : (if y = 0 then none else A) = some out) (k : A = some out → V sh n D cy ad nL p l e R s m args below meth c Q (pc + 1) (lv) (.long (x - x / y * y) :: st) (u)) : V sh n D cy ad nL p l e R s m args below meth c Q (pc) (lv) (.long y :: .long x :: st) (u) := by
  by_cases hy : y = 0
  · rw [if_pos hy] at h; cases h
  · rw [if_neg hy] at h
    exact fun H locs la hP hS hl =>  lv_lrem C.1 C.2.1 hd hy (k h H locs la hP hS hl)
theorem v_idivN (C : Cx n D cy ad nL cc own R p s m args c) {x y : Int32} (hd : decode cc pc = .ok (.idiv, 1)) (hy : ¬ y = 0) (k : V sh n D cy ad nL p l e R s m args below meth c Q (pc + 1) (lv) (.int (x / y) :: st) (u)) : V sh n D cy ad nL p l e R s m args below meth c Q (pc) (lv) (.int y :: .int x :: st) (u) := fun H locs la hP hS hl =>  lv_idiv C.1 C.2.1 hd hy (k H locs la hP hS hl)
theorem v_iremN (C : Cx n D cy ad nL cc own R p s m args c) {x y : Int32} (hd : decode cc pc = .ok (.irem, 1)) (hy : ¬ y = 0) (k : V sh n D cy ad nL p l e R s m args below meth c Q (pc + 1) (lv) (.int (x - x / y * y) :: st) (u)) : V sh n D cy ad nL p l e R s m args below meth c Q (pc) (lv) (.int y :: .int x :: st) (u) := fun H locs la hP hS hl =>  lv_irem C.1 C.2.1 hd hy (k H locs la hP hS hl)
theorem v_ldivN (C : Cx n D cy ad nL cc own R p s m args c) {x y : Int64} (hd : decode cc pc = .ok (.ldiv, 1)) (hy : ¬ y = 0) (k : V sh n D cy ad nL p l e R s m args below meth c Q (pc + 1) (lv) (.long (x / y) :: st) (u)) : V sh n D cy ad nL p l e R s m args below meth c Q (pc) (lv) (.long y :: .long x :: st) (u) := fun H locs la hP hS hl =>  lv_ldiv C.1 C.2.1 hd hy (k H locs la hP hS hl)
theorem v_if_eq (C : Cx n D cy ad nL cc own R p s m args c) {x : Int32} {A B : Option O} {off : Int} (tgt : Nat) (hd : decode cc pc = .ok (.ifCond .eq off, 3)) (ht : (pc : Int) + off = (tgt : Int)) (h : (if x = 0 then A else B) = some out) (k1 : A = some out → V sh n D cy ad nL p l e R s m args below meth c Q (tgt) (lv) (st) (u)) (k2 : B = some out → V sh n D cy ad nL p l e R s m args below meth c Q (pc + 3) (lv) (st) (u)) : V sh n D cy ad nL p l e R s m args below meth c Q (pc) (lv) (.int x :: st) (u) :=
  fun H locs la hP hS hl =>  lv_if_eq C.1 C.2.1 hd ht (fun z => k1 (by rw [if_pos z] at h; exact h) H locs la hP hS hl) (fun z => k2 (by rw [if_neg z] at h; exact h) H locs la hP hS hl)
theorem v_if_ne (C : Cx n D cy ad nL cc own R p s m args c) {x : Int32} {A B : Option O} {off : Int} (tgt : Nat) (hd : decode cc pc = .ok (.ifCond .ne off, 3)) (ht : (pc : Int) + off = (tgt : Int)) (h : (if x = 0 then A else B) = some out) (k1 : A = some out → V sh n D cy ad nL p l e R s m args below meth c Q (pc + 3) (lv) (st) (u)) (k2 : B = some out → V sh n D cy ad nL p l e R s m args below meth c Q (tgt) (lv) (st) (u)) : V sh n D cy ad nL p l e R s m args below meth c Q (pc) (lv) (.int x :: st) (u) :=
  fun H locs la hP hS hl =>  lv_if_ne C.1 C.2.1 hd ht (fun z => k2 (by rw [if_neg z] at h; exact h) H locs la hP hS hl) (fun z => k1 (by rw [if_pos z] at h; exact h) H locs la hP hS hl)
theorem v_if_lt (C : Cx n D cy ad nL cc own R p s m args c) {x : Int32} {A B : Option O} {off : Int} (tgt : Nat) (hd : decode cc pc = .ok (.ifCond .lt off, 3)) (ht : (pc : Int) + off = (tgt : Int)) (h : (if x < 0 then A else B) = some out) (k1 : A = some out → V sh n D cy ad nL p l e R s m args below meth c Q (tgt) (lv) (st) (u)) (k2 : B = some out → V sh n D cy ad nL p l e R s m args below meth c Q (pc + 3) (lv) (st) (u)) : V sh n D cy ad nL p l e R s m args below meth c Q (pc) (lv) (.int x :: st) (u) :=
  fun H locs la hP hS hl =>  lv_if_lt C.1 C.2.1 hd ht (fun z => k1 (by rw [if_pos z] at h; exact h) H locs la hP hS hl) (fun z => k2 (by rw [if_neg z] at h; exact h) H locs la hP hS hl)
theorem v_if_ge (C : Cx n D cy ad nL cc own R p s m args c) {x : Int32} {A B : Option O} {off : Int} (tgt : Nat) (hd : decode cc pc = .ok (.ifCond .ge off, 3)) (ht : (pc : Int) + off = (tgt : Int)) (h : (if 0 ≤ x then A else B) = some out) (k1 : A = some out → V sh n D cy ad nL p l e R s m args below meth c Q (tgt) (lv) (st) (u)) (k2 : B = some out → V sh n D cy ad nL p l e R s m args below meth c Q (pc + 3) (lv) (st) (u)) : V sh n D cy ad nL p l e R s m args below meth c Q (pc) (lv) (.int x :: st) (u) :=
  fun H locs la hP hS hl =>  lv_if_ge C.1 C.2.1 hd ht (fun z => k1 (by rw [if_pos z] at h; exact h) H locs la hP hS hl) (fun z => k2 (by rw [if_neg z] at h; exact h) H locs la hP hS hl)
theorem v_if_gt (C : Cx n D cy ad nL cc own R p s m args c) {x : Int32} {A B : Option O} {off : Int} (tgt : Nat) (hd : decode cc pc = .ok (.ifCond .gt off, 3)) (ht : (pc : Int) + off = (tgt : Int)) (h : (if 0 < x then A else B) = some out) (k1 : A = some out → V sh n D cy ad nL p l e R s m args below meth c Q (tgt) (lv) (st) (u)) (k2 : B = some out → V sh n D cy ad nL p l e R s m args below meth c Q (pc + 3) (lv) (st) (u)) : V sh n D cy ad nL p l e R s m args below meth c Q (pc) (lv) (.int x :: st) (u) :=
  fun H locs la hP hS hl =>  lv_if_gt C.1 C.2.1 hd ht (fun z => k1 (by rw [if_pos z] at h; exact h) H locs la hP hS hl) (fun z => k2 (by rw [if_neg z] at h; exact h) H locs la hP hS hl)
theorem v_if_le (C : Cx n D cy ad nL cc own R p s m args c) {x : Int32} {A B : Option O} {off : Int} (tgt : Nat) (hd : decode cc pc = .ok (.ifCond .le off, 3)) (ht : (pc : Int) + off = (tgt : Int)) (h : (if x ≤ 0 then A else B) = some out) (k1 : A = some out → V sh n D cy ad nL p l e R s m args below meth c Q (tgt) (lv) (st) (u)) (k2 : B = some out → V sh n D cy ad nL p l e R s m args below meth c Q (pc + 3) (lv) (st) (u)) : V sh n D cy ad nL p l e R s m args below meth c Q (pc) (lv) (.int x :: st) (u) :=
  fun H locs la hP hS hl =>  lv_if_le C.1 C.2.1 hd ht (fun z => k1 (by rw [if_pos z] at h; exact h) H locs la hP hS hl) (fun z => k2 (by rw [if_neg z] at h; exact h) H locs la hP hS hl)
theorem v_icmp_eq (C : Cx n D cy ad nL cc own R p s m args c) {x y : Int32} {A B : Option O} {off : Int} (tgt : Nat) (hd : decode cc pc = .ok (.if_icmp .eq off, 3)) (ht : (pc : Int) + off = (tgt : Int)) (h : (if x = y then A else B) = some out) (k1 : A = some out → V sh n D cy ad nL p l e R s m args below meth c Q (tgt) (lv) (st) (u)) (k2 : B = some out → V sh n D cy ad nL p l e R s m args below meth c Q (pc + 3) (lv) (st) (u)) : V sh n D cy ad nL p l e R s m args below meth c Q (pc) (lv) (.int y :: .int x :: st) (u) :=
  fun H locs la hP hS hl =>  lv_icmp_eq C.1 C.2.1 hd ht (fun z => k1 (by rw [if_pos z] at h; exact h) H locs la hP hS hl) (fun z => k2 (by rw [if_neg z] at h; exact h) H locs la hP hS hl)
theorem v_icmp_ne (C : Cx n D cy ad nL cc own R p s m args c) {x y : Int32} {A B : Option O} {off : Int} (tgt : Nat) (hd : decode cc pc = .ok (.if_icmp .ne off, 3)) (ht : (pc : Int) + off = (tgt : Int)) (h : (if x = y then A else B) = some out) (k1 : A = some out → V sh n D cy ad nL p l e R s m args below meth c Q (pc + 3) (lv) (st) (u)) (k2 : B = some out → V sh n D cy ad nL p l e R s m args below meth c Q (tgt) (lv) (st) (u)) : V sh n D cy ad nL p l e R s m args below meth c Q (pc) (lv) (.int y :: .int x :: st) (u) :=
  fun H locs la hP hS hl =>  lv_icmp_ne C.1 C.2.1 hd ht (fun z => k2 (by rw [if_neg z] at h; exact h) H locs la hP hS hl) (fun z => k1 (by rw [if_pos z] at h; exact h) H locs la hP hS hl)
theorem v_icmp_lt (C : Cx n D cy ad nL cc own R p s m args c) {x y : Int32} {A B : Option O} {off : Int} (tgt : Nat) (hd : decode cc pc = .ok (.if_icmp .lt off, 3)) (ht : (pc : Int) + off = (tgt : Int)) (h : (if x < y then A else B) = some out) (k1 : A = some out → V sh n D cy ad nL p l e R s m args below meth c Q (tgt) (lv) (st) (u)) (k2 : B = some out → V sh n D cy ad nL p l e R s m args below meth c Q (pc + 3) (lv) (st) (u)) : V sh n D cy ad nL p l e R s m args below meth c Q (pc) (lv) (.int y :: .int x :: st) (u) :=
  fun H locs la hP hS hl =>  lv_icmp_lt C.1 C.2.1 hd ht (fun z => k1 (by rw [if_pos z] at h; exact h) H locs la hP hS hl) (fun z => k2 (by rw [if_neg z] at h; exact h) H locs la hP hS hl)
theorem v_icmp_ge (C : Cx n D cy ad nL cc own R p s m args c) {x y : Int32} {A B : Option O} {off : Int} (tgt : Nat) (hd : decode cc pc = .ok (.if_icmp .ge off, 3)) (ht : (pc : Int) + off = (tgt : Int)) (h : (if y ≤ x then A else B) = some out) (k1 : A = some out → V sh n D cy ad nL p l e R s m args below meth c Q (tgt) (lv) (st) (u)) (k2 : B = some out → V sh n D cy ad nL p l e R s m args below meth c Q (pc + 3) (lv) (st) (u)) : V sh n D cy ad nL p l e R s m args below meth c Q (pc) (lv) (.int y :: .int x :: st) (u) :=
  fun H locs la hP hS hl =>  lv_icmp_ge C.1 C.2.1 hd ht (fun z => k1 (by rw [if_pos z] at h; exact h) H locs la hP hS hl) (fun z => k2 (by rw [if_neg z] at h; exact h) H locs la hP hS hl)
theorem v_icmp_gt (C : Cx n D cy ad nL cc own R p s m args c) {x y : Int32} {A B : Option O} {off : Int} (tgt : Nat) (hd : decode cc pc = .ok (.if_icmp .gt off, 3)) (ht : (pc : Int) + off = (tgt : Int)) (h : (if y < x then A else B) = some out) (k1 : A = some out → V sh n D cy ad nL p l e R s m args below meth c Q (tgt) (lv) (st) (u)) (k2 : B = some out → V sh n D cy ad nL p l e R s m args below meth c Q (pc + 3) (lv) (st) (u)) : V sh n D cy ad nL p l e R s m args below meth c Q (pc) (lv) (.int y :: .int x :: st) (u) :=
  fun H locs la hP hS hl =>  lv_icmp_gt C.1 C.2.1 hd ht (fun z => k1 (by rw [if_pos z] at h; exact h) H locs la hP hS hl) (fun z => k2 (by rw [if_neg z] at h; exact h) H locs la hP hS hl)
theorem v_icmp_le (C : Cx n D cy ad nL cc own R p s m args c) {x y : Int32} {A B : Option O} {off : Int} (tgt : Nat) (hd : decode cc pc = .ok (.if_icmp .le off, 3)) (ht : (pc : Int) + off = (tgt : Int)) (h : (if x ≤ y then A else B) = some out) (k1 : A = some out → V sh n D cy ad nL p l e R s m args below meth c Q (tgt) (lv) (st) (u)) (k2 : B = some out → V sh n D cy ad nL p l e R s m args below meth c Q (pc + 3) (lv) (st) (u)) : V sh n D cy ad nL p l e R s m args below meth c Q (pc) (lv) (.int y :: .int x :: st) (u) :=
  fun H locs la hP hS hl =>  lv_icmp_le C.1 C.2.1 hd ht (fun z => k1 (by rw [if_pos z] at h; exact h) H locs la hP hS hl) (fun z => k2 (by rw [if_neg z] at h; exact h) H locs la hP hS hl)
theorem bz_eq (b : Bool) : bz b = 0 ↔ ¬ b = true := by cases b <;> simp [bz]
theorem v_z_eq (C : Cx n D cy ad nL cc own R p s m args c) {b : Bool} {A B : Option O} {off : Int} (tgt : Nat) (hd : decode cc pc = .ok (.ifCond .eq off, 3)) (ht : (pc : Int) + off = (tgt : Int)) (h : (if b = true then A else B) = some out) (k1 : A = some out → V sh n D cy ad nL p l e R s m args below meth c Q (pc + 3) (lv) (st) (u)) (k2 : B = some out → V sh n D cy ad nL p l e R s m args below meth c Q (tgt) (lv) (st) (u)) : V sh n D cy ad nL p l e R s m args below meth c Q (pc) (lv) (.int (bz b) :: st) (u) :=
  fun H locs la hP hS hl =>  lv_if_eq C.1 C.2.1 hd ht (fun z => k2 (by rw [if_neg ((bz_eq b).mp z)] at h; exact h) H locs la hP hS hl) (fun z => k1 (by rw [if_pos (Decidable.not_not.mp (fun q => z ((bz_eq b).mpr q)))] at h; exact h) H locs la hP hS hl)
theorem v_z_ne (C : Cx n D cy ad nL cc own R p s m args c) {b : Bool} {A B : Option O} {off : Int} (tgt : Nat) (hd : decode cc pc = .ok (.ifCond .ne off, 3)) (ht : (pc : Int) + off = (tgt : Int)) (h : (if b = true then A else B) = some out) (k1 : A = some out → V sh n D cy ad nL p l e R s m args below meth c Q (tgt) (lv) (st) (u)) (k2 : B = some out → V sh n D cy ad nL p l e R s m args below meth c Q (pc + 3) (lv) (st) (u)) : V sh n D cy ad nL p l e R s m args below meth c Q (pc) (lv) (.int (bz b) :: st) (u) :=
  fun H locs la hP hS hl =>  lv_if_ne C.1 C.2.1 hd ht (fun z => k1 (by rw [if_pos (Decidable.not_not.mp (fun q => z ((bz_eq b).mpr q)))] at h; exact h) H locs la hP hS hl) (fun z => k2 (by rw [if_neg ((bz_eq b).mp z)] at h; exact h) H locs la hP hS hl)
theorem v_lcmp_lt (C : Cx n D cy ad nL cc own R p s m args c) {x y : Int64} {A B : Option O} {off : Int} (tgt : Nat) (hd0 : decode cc pc = .ok (.lcmp, 1)) (hd : decode cc (pc + 1) = .ok (.ifCond .lt off, 3)) (ht : ((pc + 1 : Nat) : Int) + off = (tgt : Int)) (h : (if x < y then A else B) = some out) (k1 : A = some out → V sh n D cy ad nL p l e R s m args below meth c Q (tgt) (lv) (st) (u)) (k2 : B = some out → V sh n D cy ad nL p l e R s m args below meth c Q (pc + 1 + 3) (lv) (st) (u)) : V sh n D cy ad nL p l e R s m args below meth c Q (pc) (lv) (.long y :: .long x :: st) (u) :=
  fun H locs la hP hS hl =>  W.lcmp C.1 C.2.1 hd0 (lv_if_lt C.1 C.2.1 hd ht (fun z => k1 (by rw [if_pos ((lg_cmp_lt x y).mp z)] at h; exact h) H locs la hP hS hl) (fun z => k2 (by rw [if_neg (fun q => z ((lg_cmp_lt x y).mpr q))] at h; exact h) H locs la hP hS hl))
theorem v_lcmp_ge (C : Cx n D cy ad nL cc own R p s m args c) {x y : Int64} {A B : Option O} {off : Int} (tgt : Nat) (hd0 : decode cc pc = .ok (.lcmp, 1)) (hd : decode cc (pc + 1) = .ok (.ifCond .ge off, 3)) (ht : ((pc + 1 : Nat) : Int) + off = (tgt : Int)) (h : (if y ≤ x then A else B) = some out) (k1 : A = some out → V sh n D cy ad nL p l e R s m args below meth c Q (tgt) (lv) (st) (u)) (k2 : B = some out → V sh n D cy ad nL p l e R s m args below meth c Q (pc + 1 + 3) (lv) (st) (u)) : V sh n D cy ad nL p l e R s m args below meth c Q (pc) (lv) (.long y :: .long x :: st) (u) :=
  fun H locs la hP hS hl =>  W.lcmp C.1 C.2.1 hd0 (lv_if_ge C.1 C.2.1 hd ht (fun z => k1 (by rw [if_pos ((lg_cmp_ge x y).mp z)] at h; exact h) H locs la hP hS hl) (fun z => k2 (by rw [if_neg (fun q => z ((lg_cmp_ge x y).mpr q))] at h; exact h) H locs la hP hS hl))
theorem v_lcmp_gt (C : Cx n D cy ad nL cc own R p s m args c) {x y : Int64} {A B : Option O} {off : Int} (tgt : Nat) (hd0 : decode cc pc = .ok (.lcmp, 1)) (hd : decode cc (pc + 1) = .ok (.ifCond .gt off, 3)) (ht : ((pc + 1 : Nat) : Int) + off = (tgt : Int)) (h : (if y < x then A else B) = some out) (k1 : A = some out → V sh n D cy ad nL p l e R s m args below meth c Q (tgt) (lv) (st) (u)) (k2 : B = some out → V sh n D cy ad nL p l e R s m args below meth c Q (pc + 1 + 3) (lv) (st) (u)) : V sh n D cy ad nL p l e R s m args below meth c Q (pc) (lv) (.long y :: .long x :: st) (u) :=
  fun H locs la hP hS hl =>  W.lcmp C.1 C.2.1 hd0 (lv_if_gt C.1 C.2.1 hd ht (fun z => k1 (by rw [if_pos ((lg_cmp_gt x y).mp z)] at h; exact h) H locs la hP hS hl) (fun z => k2 (by rw [if_neg (fun q => z ((lg_cmp_gt x y).mpr q))] at h; exact h) H locs la hP hS hl))
theorem v_lcmp_le (C : Cx n D cy ad nL cc own R p s m args c) {x y : Int64} {A B : Option O} {off : Int} (tgt : Nat) (hd0 : decode cc pc = .ok (.lcmp, 1)) (hd : decode cc (pc + 1) = .ok (.ifCond .le off, 3)) (ht : ((pc + 1 : Nat) : Int) + off = (tgt : Int)) (h : (if x ≤ y then A else B) = some out) (k1 : A = some out → V sh n D cy ad nL p l e R s m args below meth c Q (tgt) (lv) (st) (u)) (k2 : B = some out → V sh n D cy ad nL p l e R s m args below meth c Q (pc + 1 + 3) (lv) (st) (u)) : V sh n D cy ad nL p l e R s m args below meth c Q (pc) (lv) (.long y :: .long x :: st) (u) :=
  fun H locs la hP hS hl =>  W.lcmp C.1 C.2.1 hd0 (lv_if_le C.1 C.2.1 hd ht (fun z => k1 (by rw [if_pos ((lg_cmp_le x y).mp z)] at h; exact h) H locs la hP hS hl) (fun z => k2 (by rw [if_neg (fun q => z ((lg_cmp_le x y).mpr q))] at h; exact h) H locs la hP hS hl))
theorem v_lcmp_eq (C : Cx n D cy ad nL cc own R p s m args c) {x y : Int64} {A B : Option O} {off : Int} (tgt : Nat) (hd0 : decode cc pc = .ok (.lcmp, 1)) (hd : decode cc (pc + 1) = .ok (.ifCond .eq off, 3)) (ht : ((pc + 1 : Nat) : Int) + off = (tgt : Int)) (h : (if x = y then A else B) = some out) (k1 : A = some out → V sh n D cy ad nL p l e R s m args below meth c Q (tgt) (lv) (st) (u)) (k2 : B = some out → V sh n D cy ad nL p l e R s m args below meth c Q (pc + 1 + 3) (lv) (st) (u)) : V sh n D cy ad nL p l e R s m args below meth c Q (pc) (lv) (.long y :: .long x :: st) (u) :=
  fun H locs la hP hS hl =>  W.lcmp C.1 C.2.1 hd0 (lv_if_eq C.1 C.2.1 hd ht (fun z => k1 (by rw [if_pos ((lg_cmp_eq x y).mp z)] at h; exact h) H locs la hP hS hl) (fun z => k2 (by rw [if_neg (fun q => z ((lg_cmp_eq x y).mpr q))] at h; exact h) H locs la hP hS hl))
theorem v_lcmp_ne (C : Cx n D cy ad nL cc own R p s m args c) {x y : Int64} {A B : Option O} {off : Int} (tgt : Nat) (hd0 : decode cc pc = .ok (.lcmp, 1)) (hd : decode cc (pc + 1) = .ok (.ifCond .ne off, 3)) (ht : ((pc + 1 : Nat) : Int) + off = (tgt : Int)) (h : (if x = y then A else B) = some out) (k1 : A = some out → V sh n D cy ad nL p l e R s m args below meth c Q (pc + 1 + 3) (lv) (st) (u)) (k2 : B = some out → V sh n D cy ad nL p l e R s m args below meth c Q (tgt) (lv) (st) (u)) : V sh n D cy ad nL p l e R s m args below meth c Q (pc) (lv) (.long y :: .long x :: st) (u) :=
  fun H locs la hP hS hl =>  W.lcmp C.1 C.2.1 hd0 (lv_if_ne C.1 C.2.1 hd ht (fun z => k2 (by rw [if_neg (fun q => z ((lg_cmp_eq x y).mpr q))] at h; exact h) H locs la hP hS hl) (fun z => k1 (by rw [if_pos ((lg_cmp_eq x y).mp z)] at h; exact h) H locs la hP hS hl))
theorem v_sub {lv2 : List (Nat × Value)} (ks : List Nat) (hk : lv_pick lv ks = lv2) (k : V sh n D cy ad nL p l e R s m args below meth c Q (pc) (lv2) (st) (u)) : V sh n D cy ad nL p l e R s m args below meth c Q (pc) (lv) (st) (u) := fun H locs la hP hS hl => k H locs la hP hS (lv_sub hl ks hk)
theorem v_top {x y : Int32} (e0 : x = y) (k : V sh n D cy ad nL p l e R s m args below meth c Q (pc) (lv) (.int x :: st) (u)) : V sh n D cy ad nL p l e R s m args below meth c Q (pc) (lv) (.int y :: st) (u) := e0 ▸ k
theorem v_topl {x y : Int64} (e0 : x = y) (k : V sh n D cy ad nL p l e R s m args below meth c Q (pc) (lv) (.long x :: st) (u)) : V sh n D cy ad nL p l e R s m args below meth c Q (pc) (lv) (.long y :: st) (u) := e0 ▸ k
theorem v_bif {cnd : Prop} [Decidable cnd] {A B : Prop} (a : cnd → A) (b : ¬ cnd → B) : (cnd → A) ∧ (¬ cnd → B) := ⟨a, b⟩
theorem p_if_eq (C : Cx n D cy ad nL cc own R p s m args c) {x : Int32} {off : Int} (tgt : Nat) (hd : decode cc pc = .ok (.ifCond .eq off, 3)) (ht : (pc : Int) + off = (tgt : Int)) (k1 : x = 0 → V sh n D cy ad nL p l e R s m args below meth c Q (tgt) (lv) (st) (u)) (k2 : ¬ (x = 0) → V sh n D cy ad nL p l e R s m args below meth c Q (pc + 3) (lv) (st) (u)) : V sh n D cy ad nL p l e R s m args below meth c Q (pc) (lv) (.int x :: st) (u) :=
  fun H locs la hP hS hl =>  lv_if_eq C.1 C.2.1 hd ht (fun z => k1 z H locs la hP hS hl) (fun z => k2 z H locs la hP hS hl)
theorem p_if_lt (C : Cx n D cy ad nL cc own R p s m args c) {x : Int32} {off : Int} (tgt : Nat) (hd : decode cc pc = .ok (.ifCond .lt off, 3)) (ht : (pc : Int) + off = (tgt : Int)) (k1 : x < 0 → V sh n D cy ad nL p l e R s m args below meth c Q (tgt) (lv) (st) (u)) (k2 : ¬ (x < 0) → V sh n D cy ad nL p l e R s m args below meth c Q (pc + 3) (lv) (st) (u)) : V sh n D cy ad nL p l e R s m args below meth c Q (pc) (lv) (.int x :: st) (u) :=
  fun H locs la hP hS hl =>  lv_if_lt C.1 C.2.1 hd ht (fun z => k1 z H locs la hP hS hl) (fun z => k2 z H locs la hP hS hl)
theorem p_if_ge (C : Cx n D cy ad nL cc own R p s m args c) {x : Int32} {off : Int} (tgt : Nat) (hd : decode cc pc = .ok (.ifCond .ge off, 3)) (ht : (pc : Int) + off = (tgt : Int)) (k1 : 0 ≤ x → V sh n D cy ad nL p l e R s m args below meth c Q (tgt) (lv) (st) (u)) (k2 : ¬ (0 ≤ x) → V sh n D cy ad nL p l e R s m args below meth c Q (pc + 3) (lv) (st) (u)) : V sh n D cy ad nL p l e R s m args below meth c Q (pc) (lv) (.int x :: st) (u) :=
  fun H locs la hP hS hl =>  lv_if_ge C.1 C.2.1 hd ht (fun z => k1 z H locs la hP hS hl) (fun z => k2 z H locs la hP hS hl)
theorem p_if_gt (C : Cx n D cy ad nL cc own R p s m args c) {x : Int32} {off : Int} (tgt : Nat) (hd : decode cc pc = .ok (.ifCond .gt off, 3)) (ht : (pc : Int) + off = (tgt : Int)) (k1 : 0 < x → V sh n D cy ad nL p l e R s m args below meth c Q (tgt) (lv) (st) (u)) (k2 : ¬ (0 < x) → V sh n D cy ad nL p l e R s m args below meth c Q (pc + 3) (lv) (st) (u)) : V sh n D cy ad nL p l e R s m args below meth c Q (pc) (lv) (.int x :: st) (u) :=
  fun H locs la hP hS hl =>  lv_if_gt C.1 C.2.1 hd ht (fun z => k1 z H locs la hP hS hl) (fun z => k2 z H locs la hP hS hl)
theorem p_if_le (C : Cx n D cy ad nL cc own R p s m args c) {x : Int32} {off : Int} (tgt : Nat) (hd : decode cc pc = .ok (.ifCond .le off, 3)) (ht : (pc : Int) + off = (tgt : Int)) (k1 : x ≤ 0 → V sh n D cy ad nL p l e R s m args below meth c Q (tgt) (lv) (st) (u)) (k2 : ¬ (x ≤ 0) → V sh n D cy ad nL p l e R s m args below meth c Q (pc + 3) (lv) (st) (u)) : V sh n D cy ad nL p l e R s m args below meth c Q (pc) (lv) (.int x :: st) (u) :=
  fun H locs la hP hS hl =>  lv_if_le C.1 C.2.1 hd ht (fun z => k1 z H locs la hP hS hl) (fun z => k2 z H locs la hP hS hl)
theorem p_if_ne (C : Cx n D cy ad nL cc own R p s m args c) {x : Int32} {off : Int} (tgt : Nat) (hd : decode cc pc = .ok (.ifCond .ne off, 3)) (ht : (pc : Int) + off = (tgt : Int)) (k1 : x = 0 → V sh n D cy ad nL p l e R s m args below meth c Q (pc + 3) (lv) (st) (u)) (k2 : ¬ (x = 0) → V sh n D cy ad nL p l e R s m args below meth c Q (tgt) (lv) (st) (u)) : V sh n D cy ad nL p l e R s m args below meth c Q (pc) (lv) (.int x :: st) (u) :=
  fun H locs la hP hS hl =>  lv_if_ne C.1 C.2.1 hd ht (fun z => k2 z H locs la hP hS hl) (fun z => k1 z H locs la hP hS hl)
theorem p_icmp_eq (C : Cx n D cy ad nL cc own R p s m args c) {x y : Int32} {off : Int} (tgt : Nat) (hd : decode cc pc = .ok (.if_icmp .eq off, 3)) (ht : (pc : Int) + off = (tgt : Int)) (k1 : x = y → V sh n D cy ad nL p l e R s m args below meth c Q (tgt) (lv) (st) (u)) (k2 : ¬ (x = y) → V sh n D cy ad nL p l e R s m args below meth c Q (pc + 3) (lv) (st) (u)) : V sh n D cy ad nL p l e R s m args below meth c Q (pc) (lv) (.int y :: .int x :: st) (u) :=
  fun H locs la hP hS hl =>  lv_icmp_eq C.1 C.2.1 hd ht (fun z => k1 z H locs la hP hS hl) (fun z => k2 z H locs la hP hS hl)
theorem p_icmp_lt (C : Cx n D cy ad nL cc own R p s m args c) {x y : Int32} {off : Int} (tgt : Nat) (hd : decode cc pc = .ok (.if_icmp .lt off, 3)) (ht : (pc : Int) + off = (tgt : Int)) (k1 : x < y → V sh n D cy ad nL p l e R s m args below meth c Q (tgt) (lv) (st) (u)) (k2 : ¬ (x < y) → V sh n D cy ad nL p l e R s m args below meth c Q (pc + 3) (lv) (st) (u)) : V sh n D cy ad nL p l e R s m args below meth c Q (pc) (lv) (.int y :: .int x :: st) (u) :=
  fun H locs la hP hS hl =>  lv_icmp_lt C.1 C.2.1 hd ht (fun z => k1 z H locs la hP hS hl) (fun z => k2 z H locs la hP hS hl)
theorem p_icmp_ge (C : Cx n D cy ad nL cc own R p s m args c) {x y : Int32} {off : Int} (tgt : Nat) (hd : decode cc pc = .ok (.if_icmp .ge off, 3)) (ht : (pc : Int) + off = (tgt : Int)) (k1 : y ≤ x → V sh n D cy ad nL p l e R s m args below meth c Q (tgt) (lv) (st) (u)) (k2 : ¬ (y ≤ x) → V sh n D cy ad nL p l e R s m args below meth c Q (pc + 3) (lv) (st) (u)) : V sh n D cy ad nL p l e R s m args below meth c Q (pc) (lv) (.int y :: .int x :: st) (u) :=
  fun H locs la hP hS hl =>  lv_icmp_ge C.1 C.2.1 hd ht (fun z => k1 z H locs la hP hS hl) (fun z => k2 z H locs la hP hS hl)
theorem p_icmp_gt (C : Cx n D cy ad nL cc own R p s m args c) {x y : Int32} {off : Int} (tgt : Nat) (hd : decode cc pc = .ok (.if_icmp .gt off, 3)) (ht : (pc : Int) + off = (tgt : Int)) (k1 : y < x → V sh n D cy ad nL p l e R s m args below meth c Q (tgt) (lv) (st) (u)) (k2 : ¬ (y < x) → V sh n D cy ad nL p l e R s m args below meth c Q (pc + 3) (lv) (st) (u)) : V sh n D cy ad nL p l e R s m args below meth c Q (pc) (lv) (.int y :: .int x :: st) (u) :=
  fun H locs la hP hS hl =>  lv_icmp_gt C.1 C.2.1 hd ht (fun z => k1 z H locs la hP hS hl) (fun z => k2 z H locs la hP hS hl)
theorem p_icmp_le (C : Cx n D cy ad nL cc own R p s m args c) {x y : Int32} {off : Int} (tgt : Nat) (hd : decode cc pc = .ok (.if_icmp .le off, 3)) (ht : (pc : Int) + off = (tgt : Int)) (k1 : x ≤ y → V sh n D cy ad nL p l e R s m args below meth c Q (tgt) (lv) (st) (u)) (k2 : ¬ (x ≤ y) → V sh n D cy ad nL p l e R s m args below meth c Q (pc + 3) (lv) (st) (u)) : V sh n D cy ad nL p l e R s m args below meth c Q (pc) (lv) (.int y :: .int x :: st) (u) :=
  fun H locs la hP hS hl =>  lv_icmp_le C.1 C.2.1 hd ht (fun z => k1 z H locs la hP hS hl) (fun z => k2 z H locs la hP hS hl)
theorem p_icmp_ne (C : Cx n D cy ad nL cc own R p s m args c) {x y : Int32} {off : Int} (tgt : Nat) (hd : decode cc pc = .ok (.if_icmp .ne off, 3)) (ht : (pc : Int) + off = (tgt : Int)) (k1 : x = y → V sh n D cy ad nL p l e R s m args below meth c Q (pc + 3) (lv) (st) (u)) (k2 : ¬ (x = y) → V sh n D cy ad nL p l e R s m args below meth c Q (tgt) (lv) (st) (u)) : V sh n D cy ad nL p l e R s m args below meth c Q (pc) (lv) (.int y :: .int x :: st) (u) :=
  fun H locs la hP hS hl =>  lv_icmp_ne C.1 C.2.1 hd ht (fun z => k2 z H locs la hP hS hl) (fun z => k1 z H locs la hP hS hl)
theorem p_z_eq (C : Cx n D cy ad nL cc own R p s m args c) {b : Bool} {off : Int} (tgt : Nat) (hd : decode cc pc = .ok (.ifCond .eq off, 3)) (ht : (pc : Int) + off = (tgt : Int)) (k1 : b = true → V sh n D cy ad nL p l e R s m args below meth c Q (pc + 3) (lv) (st) (u)) (k2 : ¬ b = true → V sh n D cy ad nL p l e R s m args below meth c Q (tgt) (lv) (st) (u)) : V sh n D cy ad nL p l e R s m args below meth c Q (pc) (lv) (.int (bz b) :: st) (u) :=
  fun H locs la hP hS hl =>  lv_if_eq C.1 C.2.1 hd ht (fun z => k2 ((bz_eq b).mp z) H locs la hP hS hl) (fun z => k1 (Decidable.not_not.mp (fun q => z ((bz_eq b).mpr q))) H locs la hP hS hl)
theorem p_z_ne (C : Cx n D cy ad nL cc own R p s m args c) {b : Bool} {off : Int} (tgt : Nat) (hd : decode cc pc = .ok (.ifCond .ne off, 3)) (ht : (pc : Int) + off = (tgt : Int)) (k1 : b = true → V sh n D cy ad nL p l e R s m args below meth c Q (tgt) (lv) (st) (u)) (k2 : ¬ b = true → V sh n D cy ad nL p l e R s m args below meth c Q (pc + 3) (lv) (st) (u)) : V sh n D cy ad nL p l e R s m args below meth c Q (pc) (lv) (.int (bz b) :: st) (u) :=
  fun H locs la hP hS hl =>  lv_if_ne C.1 C.2.1 hd ht (fun z => k1 (Decidable.not_not.mp (fun q => z ((bz_eq b).mpr q))) H locs la hP hS hl) (fun z => k2 ((bz_eq b).mp z) H locs la hP hS hl)
theorem p_lcmp_lt (C : Cx n D cy ad nL cc own R p s m args c) {x y : Int64} {off : Int} (tgt : Nat) (hd0 : decode cc pc = .ok (.lcmp, 1)) (hd : decode cc (pc + 1) = .ok (.ifCond .lt off, 3)) (ht : ((pc + 1 : Nat) : Int) + off = (tgt : Int)) (k1 : x < y → V sh n D cy ad nL p l e R s m args below meth c Q (tgt) (lv) (st) (u)) (k2 : ¬ (x < y) → V sh n D cy ad nL p l e R s m args below meth c Q (pc + 1 + 3) (lv) (st) (u)) : V sh n D cy ad nL p l e R s m args below meth c Q (pc) (lv) (.long y :: .long x :: st) (u) :=
  fun H locs la hP hS hl =>  W.lcmp C.1 C.2.1 hd0 (lv_if_lt C.1 C.2.1 hd ht (fun z => k1 ((lg_cmp_lt x y).mp z) H locs la hP hS hl) (fun z => k2 (fun q => z ((lg_cmp_lt x y).mpr q)) H locs la hP hS hl))
theorem p_lcmp_ge (C : Cx n D cy ad nL cc own R p s m args c) {x y : Int64} {off : Int} (tgt : Nat) (hd0 : decode cc pc = .ok (.lcmp, 1)) (hd : decode cc (pc + 1) = .ok (.ifCond .ge off, 3)) (ht : ((pc + 1 : Nat) : Int) + off = (tgt : Int)) (k1 : y ≤ x → V sh n D cy ad nL p l e R s m args below meth c Q (tgt) (lv) (st) (u)) (k2 : ¬ (y ≤ x) → V sh n D cy ad nL p l e R s m args below meth c Q (pc + 1 + 3) (lv) (st) (u)) : V sh n D cy ad nL p l e R s m args below meth c Q (pc) (lv) (.long y :: .long x :: st) (u) :=
  fun H locs la hP hS hl =>  W.lcmp C.1 C.2.1 hd0 (lv_if_ge C.1 C.2.1 hd ht (fun z => k1 ((lg_cmp_ge x y).mp z) H locs la hP hS hl) (fun z => k2 (fun q => z ((lg_cmp_ge x y).mpr q)) H locs la hP hS hl))
theorem p_lcmp_gt (C : Cx n D cy ad nL cc own R p s m args c) {x y : Int64} {off : Int} (tgt : Nat) (hd0 : decode cc pc = .ok (.lcmp, 1)) (hd : decode cc (pc + 1) = .ok (.ifCond .gt off, 3)) (ht : ((pc + 1 : Nat) : Int) + off = (tgt : Int)) (k1 : y < x → V sh n D cy ad nL p l e R s m args below meth c Q (tgt) (lv) (st) (u)) (k2 : ¬ (y < x) → V sh n D cy ad nL p l e R s m args below meth c Q (pc + 1 + 3) (lv) (st) (u)) : V sh n D cy ad nL p l e R s m args below meth c Q (pc) (lv) (.long y :: .long x :: st) (u) :=
  fun H locs la hP hS hl =>  W.lcmp C.1 C.2.1 hd0 (lv_if_gt C.1 C.2.1 hd ht (fun z => k1 ((lg_cmp_gt x y).mp z) H locs la hP hS hl) (fun z => k2 (fun q => z ((lg_cmp_gt x y).mpr q)) H locs la hP hS hl))
theorem p_lcmp_le (C : Cx n D cy ad nL cc own R p s m args c) {x y : Int64} {off : Int} (tgt : Nat) (hd0 : decode cc pc = .ok (.lcmp, 1)) (hd : decode cc (pc + 1) = .ok (.ifCond .le off, 3)) (ht : ((pc + 1 : Nat) : Int) + off = (tgt : Int)) (k1 : x ≤ y → V sh n D cy ad nL p l e R s m args below meth c Q (tgt) (lv) (st) (u)) (k2 : ¬ (x ≤ y) → V sh n D cy ad nL p l e R s m args below meth c Q (pc + 1 + 3) (lv) (st) (u)) : V sh n D cy ad nL p l e R s m args below meth c Q (pc) (lv) (.long y :: .long x :: st) (u) :=
  fun H locs la hP hS hl =>  W.lcmp C.1 C.2.1 hd0 (lv_if_le C.1 C.2.1 hd ht (fun z => k1 ((lg_cmp_le x y).mp z) H locs la hP hS hl) (fun z => k2 (fun q => z ((lg_cmp_le x y).mpr q)) H locs la hP hS hl))
theorem p_lcmp_eq (C : Cx n D cy ad nL cc own R p s m args c) {x y : Int64} {off : Int} (tgt : Nat) (hd0 : decode cc pc = .ok (.lcmp, 1)) (hd : decode cc (pc + 1) = .ok (.ifCond .eq off, 3)) (ht : ((pc + 1 : Nat) : Int) + off = (tgt : Int)) (k1 : x = y → V sh n D cy ad nL p l e R s m args below meth c Q (tgt) (lv) (st) (u)) (k2 : ¬ (x = y) → V sh n D cy ad nL p l e R s m args below meth c Q (pc + 1 + 3) (lv) (st) (u)) : V sh n D cy ad nL p l e R s m args below meth c Q (pc) (lv) (.long y :: .long x :: st) (u) :=
  fun H locs la hP hS hl =>  W.lcmp C.1 C.2.1 hd0 (lv_if_eq C.1 C.2.1 hd ht (fun z => k1 ((lg_cmp_eq x y).mp z) H locs la hP hS hl) (fun z => k2 (fun q => z ((lg_cmp_eq x y).mpr q)) H locs la hP hS hl))
theorem p_lcmp_ne (C : Cx n D cy ad nL cc own R p s m args c) {x y : Int64} {off : Int} (tgt : Nat) (hd0 : decode cc pc = .ok (.lcmp, 1)) (hd : decode cc (pc + 1) = .ok (.ifCond .ne off, 3)) (ht : ((pc + 1 : Nat) : Int) + off = (tgt : Int)) (k1 : x = y → V sh n D cy ad nL p l e R s m args below meth c Q (pc + 1 + 3) (lv) (st) (u)) (k2 : ¬ x = y → V sh n D cy ad nL p l e R s m args below meth c Q (tgt) (lv) (st) (u)) : V sh n D cy ad nL p l e R s m args below meth c Q (pc) (lv) (.long y :: .long x :: st) (u) :=
  fun H locs la hP hS hl =>  W.lcmp C.1 C.2.1 hd0 (lv_if_ne C.1 C.2.1 hd ht (fun z => k2 (fun q => z ((lg_cmp_eq x y).mpr q)) H locs la hP hS hl) (fun z => k1 ((lg_cmp_eq x y).mp z) H locs la hP hS hl))

theorem wE_o {k ci : Nat} {l0 : List Nat} (h : Pl sh n k (.inl (ci, l0))) : (wl ad n (wE cy ad sh u))[k]? = some (ad k, .inr (ci, l0.mapIdx (sv ad (u.1 k) (u.2 k)))) := by
  rw [wl_at h.1, wE, h.2]
  rfl
theorem sv_at {l0 : List Nat} {j c0 : Nat} {mi : Nat → Int32} {ml : Nat → Int64} (h : l0[j]? = some c0) : (l0.mapIdx (sv ad mi ml))[j]? = some (sv ad mi ml j c0) := by
  rw [List.getElem?_mapIdx, h]
  rfl
theorem v_geti (C : Cx n D cy ad nL cc own R p s m args c) {k0 ci j index : Nat} {l0 : List Nat} (hp : Pl sh n k0 (.inl (ci, l0))) (hf : fdW own index ci j) (hc : l0[j]? = some 0) (hd : decode cc pc = .ok (.getfield index, 3)) (k : V sh n D cy ad nL p l e R s m args below meth c Q (pc + 3) (lv) (.int (u.1 k0 j) :: st) (u)) : V sh n D cy ad nL p l e R s m args below meth c Q (pc) (lv) (.ref (ad k0) :: st) (u) := by
  obtain ⟨Cn, T, N, h1, h2, h3, h4⟩ := hf
  exact fun H locs la hP hS hl =>  va_get (D := D) (cl := vwCl) (tys := vty cy) (Ts := gw) (own := own) C.1 C.2.1 C.2.2.2.2.1 h2 C.2.2.2.1 C.2.2.2.2.2.1 hP k0 (wE_o hp) h1 j h3 (C.2.2.2.2.1 _ h4) (fun _ h9 => h9) (sv_at hc) hd (k H locs la hP hS hl)
theorem v_getl (C : Cx n D cy ad nL cc own R p s m args c) {k0 ci j index : Nat} {l0 : List Nat} (hp : Pl sh n k0 (.inl (ci, l0))) (hf : fdW own index ci j) (hc : l0[j]? = some 1) (hd : decode cc pc = .ok (.getfield index, 3)) (k : V sh n D cy ad nL p l e R s m args below meth c Q (pc + 3) (lv) (.long (u.2 k0 j) :: st) (u)) : V sh n D cy ad nL p l e R s m args below meth c Q (pc) (lv) (.ref (ad k0) :: st) (u) := by
  obtain ⟨Cn, T, N, h1, h2, h3, h4⟩ := hf
  exact fun H locs la hP hS hl =>  va_get (D := D) (cl := vwCl) (tys := vty cy) (Ts := gw) (own := own) C.1 C.2.1 C.2.2.2.2.1 h2 C.2.2.2.1 C.2.2.2.2.2.1 hP k0 (wE_o hp) h1 j h3 (C.2.2.2.2.1 _ h4) (fun _ h9 => h9) (sv_at hc) hd (k H locs la hP hS hl)
theorem v_getq (C : Cx n D cy ad nL cc own R p s m args c) {k0 ci j index : Nat} {l0 : List Nat} (hp : Pl sh n k0 (.inl (ci, l0))) (hf : fdW own index ci j) (hc : l0[j]? = some 2) (hd : decode cc pc = .ok (.getfield index, 3)) (k : V sh n D cy ad nL p l e R s m args below meth c Q (pc + 3) (lv) (.ref (ad (5 * (u.1 k0 j).toNatClampNeg)) :: st) (u)) : V sh n D cy ad nL p l e R s m args below meth c Q (pc) (lv) (.ref (ad k0) :: st) (u) := by
  obtain ⟨Cn, T, N, h1, h2, h3, h4⟩ := hf
  exact fun H locs la hP hS hl =>  va_get (D := D) (cl := vwCl) (tys := vty cy) (Ts := gw) (own := own) C.1 C.2.1 C.2.2.2.2.1 h2 C.2.2.2.1 C.2.2.2.2.2.1 hP k0 (wE_o hp) h1 j h3 (C.2.2.2.2.1 _ h4) (fun _ h9 => h9) (sv_at hc) hd (k H locs la hP hS hl)
theorem v_getr (C : Cx n D cy ad nL cc own R p s m args c) {k0 ci j index p0 : Nat} {l0 : List Nat} (hp : Pl sh n k0 (.inl (ci, l0))) (hf : fdW own index ci j) (hc : l0[j]? = some (p0 + 3)) (hd : decode cc pc = .ok (.getfield index, 3)) (k : V sh n D cy ad nL p l e R s m args below meth c Q (pc + 3) (lv) (.ref (ad p0) :: st) (u)) : V sh n D cy ad nL p l e R s m args below meth c Q (pc) (lv) (.ref (ad k0) :: st) (u) := by
  obtain ⟨Cn, T, N, h1, h2, h3, h4⟩ := hf
  exact fun H locs la hP hS hl =>  va_get (D := D) (cl := vwCl) (tys := vty cy) (Ts := gw) (own := own) C.1 C.2.1 C.2.2.2.2.1 h2 C.2.2.2.1 C.2.2.2.2.2.1 hP k0 (wE_o hp) h1 j h3 (C.2.2.2.2.1 _ h4) (fun _ h9 => h9) (sv_at hc) hd (k H locs la hP hS hl)
theorem v_puti (C : Cx n D cy ad nL cc own R p s m args c) {k0 ci j index : Nat} {l0 : List Nat} {v : Int32} {ty : FieldType} (hp : Pl sh n k0 (.inl (ci, l0))) (hf : fpW own index ci j ty) (hc : l0[j]? = some 0) (hn : narrow ty (.int v) = .int v) (hfit : fits ty (.int v) = true) (hd : decode cc pc = .ok (.putfield index, 3)) (k : V sh n D cy ad nL p l e R s m args below meth c Q (pc + 3) (lv) (st) (si u k0 j v)) : V sh n D cy ad nL p l e R s m args below meth c Q (pc) (lv) (.int v :: .ref (ad k0) :: st) (u) := by
  obtain ⟨Cn, T, N, t0, h1, h2, h3, h4, h5, h6, h7, h8⟩ := hf
  intro H locs la hP hS hl
  refine va_put (D := D) (cl := vwCl) (tys := vty cy) (Ts := gw) (own := own) (ty := ty) C.1 C.2.1 C.2.2.2.2.1 h2 t0 h5 h6 C.2.2.2.1 C.2.2.2.2.2.1 hP (wl_D C.2.2.2.2.2.2.2.1) hS k0 (wE_o hp) h1 j h3 (C.2.2.2.2.1 _ h4) (fun _ h9 => h9) h7 h8 hn hfit (by rw [List.length_mapIdx]; exact (List.getElem?_eq_some_iff.mp hc).1) hd (fun H1 locs1 hP1 hD1 hS1 => ?_)
  have e0 : sE cy ad (upd (u.1 k0) j v) (u.2 k0) (sh k0) = .inr (ci, (l0.mapIdx (sv ad (u.1 k0) (u.2 k0))).set j (.int v)) := by rw [hp.2]; show (Sum.inr (ci, _) : va_E) = _; rw [sv_seti ad _ _ v hc]
  rw [wl_set, wE_si e0] at hP1
  exact k H1 locs1 la hP1 hS1 hl
theorem v_putl (C : Cx n D cy ad nL cc own R p s m args c) {k0 ci j index : Nat} {l0 : List Nat} {v : Int64} {ty : FieldType} (hp : Pl sh n k0 (.inl (ci, l0))) (hf : fpW own index ci j ty) (hc : l0[j]? = some 1) (hn : narrow ty (.long v) = .long v) (hfit : fits ty (.long v) = true) (hd : decode cc pc = .ok (.putfield index, 3)) (k : V sh n D cy ad nL p l e R s m args below meth c Q (pc + 3) (lv) (st) (sl u k0 j v)) : V sh n D cy ad nL p l e R s m args below meth c Q (pc) (lv) (.long v :: .ref (ad k0) :: st) (u) := by
  obtain ⟨Cn, T, N, t0, h1, h2, h3, h4, h5, h6, h7, h8⟩ := hf
  intro H locs la hP hS hl
  refine va_put (D := D) (cl := vwCl) (tys := vty cy) (Ts := gw) (own := own) (ty := ty) C.1 C.2.1 C.2.2.2.2.1 h2 t0 h5 h6 C.2.2.2.1 C.2.2.2.2.2.1 hP (wl_D C.2.2.2.2.2.2.2.1) hS k0 (wE_o hp) h1 j h3 (C.2.2.2.2.1 _ h4) (fun _ h9 => h9) h7 h8 hn hfit (by rw [List.length_mapIdx]; exact (List.getElem?_eq_some_iff.mp hc).1) hd (fun H1 locs1 hP1 hD1 hS1 => ?_)
  have e0 : sE cy ad (u.1 k0) (vp_updL (u.2 k0) j v) (sh k0) = .inr (ci, (l0.mapIdx (sv ad (u.1 k0) (u.2 k0))).set j (.long v)) := by rw [hp.2]; show (Sum.inr (ci, _) : va_E) = _; rw [sv_setl ad _ _ v hc]
  rw [wl_set, wE_sl e0] at hP1
  exact k H1 locs1 la hP1 hS1 hl
theorem v_putq (C : Cx n D cy ad nL cc own R p s m args c) {k0 ci j index : Nat} {l0 : List Nat} {i0 : Nat} (hi0 : i0 < 32) {ty : FieldType} (hp : Pl sh n k0 (.inl (ci, l0))) (hf : fpW own index ci j ty) (hc : l0[j]? = some 2) (hn : narrow ty (.ref (ad (5 * i0))) = .ref (ad (5 * i0))) (hfit : fits ty (.ref (ad (5 * i0))) = true) (hd : decode cc pc = .ok (.putfield index, 3)) (k : V sh n D cy ad nL p l e R s m args below meth c Q (pc + 3) (lv) (st) (si u k0 j (nI i0))) : V sh n D cy ad nL p l e R s m args below meth c Q (pc) (lv) (.ref (ad (5 * i0)) :: .ref (ad k0) :: st) (u) := by
  obtain ⟨Cn, T, N, t0, h1, h2, h3, h4, h5, h6, h7, h8⟩ := hf
  intro H locs la hP hS hl
  refine va_put (D := D) (cl := vwCl) (tys := vty cy) (Ts := gw) (own := own) (ty := ty) C.1 C.2.1 C.2.2.2.2.1 h2 t0 h5 h6 C.2.2.2.1 C.2.2.2.2.2.1 hP (wl_D C.2.2.2.2.2.2.2.1) hS k0 (wE_o hp) h1 j h3 (C.2.2.2.2.1 _ h4) (fun _ h9 => h9) h7 h8 hn hfit (by rw [List.length_mapIdx]; exact (List.getElem?_eq_some_iff.mp hc).1) hd (fun H1 locs1 hP1 hD1 hS1 => ?_)
  have e5 : (nI i0).toNatClampNeg = i0 := nI_clamp (by omega)
  have e0 : sE cy ad (upd (u.1 k0) j (nI i0)) (u.2 k0) (sh k0) = .inr (ci, (l0.mapIdx (sv ad (u.1 k0) (u.2 k0))).set j (.ref (ad (5 * i0)))) := by rw [hp.2]; show (Sum.inr (ci, _) : va_E) = _; rw [sv_setq ad _ _ (nI i0) hc, e5]
  rw [wl_set, wE_si e0] at hP1
  exact k H1 locs1 la hP1 hS1 hl

theorem wE_a {k t N : Nat} {f : Nat → Nat} (h : Pl sh n k (.inr (t, N, f))) (ht : t < 3) : (wl ad n (wE cy ad sh u))[k]? = some (ad k, .inl (cy t, N, .inl (u.1 k))) := by
  rw [wl_at h.1, wE, h.2]
  match t, ht with
  | 0, _ => rfl
  | 1, _ => rfl
  | 2, _ => rfl
theorem wE_al {k N : Nat} {f : Nat → Nat} (h : Pl sh n k (.inr (3, N, f))) : (wl ad n (wE cy ad sh u))[k]? = some (ad k, .inl (cy 3, N, .inr (.inl (u.2 k)))) := by
  rw [wl_at h.1, wE, h.2]
  rfl
theorem wE_ar {k t N : Nat} {f : Nat → Nat} (h : Pl sh n k (.inr (t + 4, N, f))) : (wl ad n (wE cy ad sh u))[k]? = some (ad k, .inl (cy (t + 4), N, .inr (.inr (.inr (.inr (fun i => some (ad (f i)))))))) := by
  rw [wl_at h.1, wE, h.2]
  rfl
theorem sE_a {k t N : Nat} {f : Nat → Nat} {mi : Nat → Int32} {ml : Nat → Int64} (h : Pl sh n k (.inr (t, N, f))) (ht : t < 3) : sE cy ad mi ml (sh k) = .inl (cy t, N, .inl mi) := by
  rw [h.2]
  match t, ht with
  | 0, _ => rfl
  | 1, _ => rfl
  | 2, _ => rfl
theorem sE_al {k N : Nat} {f : Nat → Nat} {mi : Nat → Int32} {ml : Nat → Int64} (h : Pl sh n k (.inr (3, N, f))) : sE cy ad mi ml (sh k) = .inl (cy 3, N, .inr (.inl ml)) := by
  rw [h.2]
  rfl
theorem v_iald (C : Cx n D cy ad nL cc own R p s m args c) {k0 N : Nat} {f0 : Nat → Nat} {i : Int32} {A : Option O} (hp : Pl sh n k0 (.inr (0, N, f0))) (hd : decode cc pc = .ok (.iaload, 1)) (h : (if inB i N then A else none) = some out) (k : A = some out → V sh n D cy ad nL p l e R s m args below meth c Q (pc + 1) (lv) (.int (u.1 k0 i.toNatClampNeg) :: st) (u)) : V sh n D cy ad nL p l e R s m args below meth c Q (pc) (lv) (.int i :: .ref (ad k0) :: st) (u) := by
  by_cases hi : inB i N
  · rw [if_pos hi] at h
    exact fun H locs la hP hS hl =>  va_iald (D := D) (cl := vwCl) (tys := vty cy) C.1 C.2.1 C.2.2.2.2.2.1 hP k0 0 (wE_a hp (by omega)) rfl (inB_vp hi) hd (k h H locs la hP hS hl)
  · rw [if_neg hi] at h; cases h
theorem v_zald (C : Cx n D cy ad nL cc own R p s m args c) {k0 N : Nat} {f0 : Nat → Nat} {i : Int32} {A : Option O} (hp : Pl sh n k0 (.inr (1, N, f0))) (hd : decode cc pc = .ok (.baload, 1)) (h : (if inB i N then A else none) = some out) (k : A = some out → V sh n D cy ad nL p l e R s m args below meth c Q (pc + 1) (lv) (.int (u.1 k0 i.toNatClampNeg) :: st) (u)) : V sh n D cy ad nL p l e R s m args below meth c Q (pc) (lv) (.int i :: .ref (ad k0) :: st) (u) := by
  by_cases hi : inB i N
  · rw [if_pos hi] at h
    exact fun H locs la hP hS hl =>  va_zald (D := D) (cl := vwCl) (tys := vty cy) C.1 C.2.1 C.2.2.2.2.2.1 hP k0 1 (wE_a hp (by omega)) rfl (inB_vp hi) hd (k h H locs la hP hS hl)
  · rw [if_neg hi] at h; cases h
theorem v_bald (C : Cx n D cy ad nL cc own R p s m args c) {k0 N : Nat} {f0 : Nat → Nat} {i : Int32} {A : Option O} (hp : Pl sh n k0 (.inr (2, N, f0))) (hd : decode cc pc = .ok (.baload, 1)) (h : (if inB i N then A else none) = some out) (k : A = some out → V sh n D cy ad nL p l e R s m args below meth c Q (pc + 1) (lv) (.int (u.1 k0 i.toNatClampNeg) :: st) (u)) : V sh n D cy ad nL p l e R s m args below meth c Q (pc) (lv) (.int i :: .ref (ad k0) :: st) (u) := by
  by_cases hi : inB i N
  · rw [if_pos hi] at h
    exact fun H locs la hP hS hl =>  va_bald (D := D) (cl := vwCl) (tys := vty cy) C.1 C.2.1 C.2.2.2.2.2.1 hP k0 2 (wE_a hp (by omega)) rfl (inB_vp hi) hd (k h H locs la hP hS hl)
  · rw [if_neg hi] at h; cases h
theorem v_lald (C : Cx n D cy ad nL cc own R p s m args c) {k0 N : Nat} {f0 : Nat → Nat} {i : Int32} {A : Option O} (hp : Pl sh n k0 (.inr (3, N, f0))) (hd : decode cc pc = .ok (.laload, 1)) (h : (if inB i N then A else none) = some out) (k : A = some out → V sh n D cy ad nL p l e R s m args below meth c Q (pc + 1) (lv) (.long (u.2 k0 i.toNatClampNeg) :: st) (u)) : V sh n D cy ad nL p l e R s m args below meth c Q (pc) (lv) (.int i :: .ref (ad k0) :: st) (u) := by
  by_cases hi : inB i N
  · rw [if_pos hi] at h
    exact fun H locs la hP hS hl =>  va_lald (D := D) (cl := vwCl) (tys := vty cy) C.1 C.2.1 C.2.2.2.2.2.1 hP k0 3 (wE_al hp) rfl (inB_vp hi) hd (k h H locs la hP hS hl)
  · rw [if_neg hi] at h; cases h
theorem v_aald4 (C : Cx n D cy ad nL cc own R p s m args c) {k0 N : Nat} {f0 : Nat → Nat} {i : Int32} {A : Option O} (hp : Pl sh n k0 (.inr (4, N, f0))) (hd : decode cc pc = .ok (.aaload, 1)) (h : (if inB i N then A else none) = some out) (k : A = some out → V sh n D cy ad nL p l e R s m args below meth c Q (pc + 1) (lv) (.ref (ad (f0 i.toNatClampNeg)) :: st) (u)) : V sh n D cy ad nL p l e R s m args below meth c Q (pc) (lv) (.int i :: .ref (ad k0) :: st) (u) := by
  by_cases hi : inB i N
  · rw [if_pos hi] at h
    exact fun H locs la hP hS hl =>  va_aldq (D := D) (cl := vwCl) (tys := vty cy) C.1 C.2.1 C.2.2.2.2.2.1 hP k0 4 (wE_ar (t := 0) hp) rfl (inB_vp hi) hd (k h H locs la hP hS hl)
  · rw [if_neg hi] at h; cases h
theorem v_aald5 (C : Cx n D cy ad nL cc own R p s m args c) {k0 N : Nat} {f0 : Nat → Nat} {i : Int32} {A : Option O} (hp : Pl sh n k0 (.inr (5, N, f0))) (hd : decode cc pc = .ok (.aaload, 1)) (h : (if inB i N then A else none) = some out) (k : A = some out → V sh n D cy ad nL p l e R s m args below meth c Q (pc + 1) (lv) (.ref (ad (f0 i.toNatClampNeg)) :: st) (u)) : V sh n D cy ad nL p l e R s m args below meth c Q (pc) (lv) (.int i :: .ref (ad k0) :: st) (u) := by
  by_cases hi : inB i N
  · rw [if_pos hi] at h
    exact fun H locs la hP hS hl =>  va_aldq (D := D) (cl := vwCl) (tys := vty cy) C.1 C.2.1 C.2.2.2.2.2.1 hP k0 5 (wE_ar (t := 1) hp) rfl (inB_vp hi) hd (k h H locs la hP hS hl)
  · rw [if_neg hi] at h; cases h
theorem v_iast (C : Cx n D cy ad nL cc own R p s m args c) {k0 N : Nat} {f0 : Nat → Nat} {i : Int32} {x : Int32} {A : Option O} (hp : Pl sh n k0 (.inr (0, N, f0))) (hd : decode cc pc = .ok (.iastore, 1)) (h : (if inB i N then A else none) = some out) (k : A = some out → V sh n D cy ad nL p l e R s m args below meth c Q (pc + 1) (lv) (st) (si u k0 i.toNatClampNeg x)) : V sh n D cy ad nL p l e R s m args below meth c Q (pc) (lv) (.int x :: .int i :: .ref (ad k0) :: st) (u) := by
  by_cases hi : inB i N
  · rw [if_pos hi] at h
    intro H locs la hP hS hl
    refine va_iast (D := D) (cl := vwCl) (tys := vty cy) C.1 C.2.1 C.2.2.2.2.2.1 hP (wl_D C.2.2.2.2.2.2.2.1) hS k0 0 (wE_a hp (by omega)) rfl (inB_vp hi) hd (fun H1 locs1 hP1 hD1 hS1 => ?_)
    rw [wl_set, wE_si (sE_a hp (by omega))] at hP1
    exact k h H1 locs1 la hP1 hS1 hl
  · rw [if_neg hi] at h; cases h
theorem v_zast (C : Cx n D cy ad nL cc own R p s m args c) {k0 N : Nat} {f0 : Nat → Nat} {i : Int32} {x : Int32} {A : Option O} (hp : Pl sh n k0 (.inr (1, N, f0))) (hx : vp_nar .boolean x = x) (hd : decode cc pc = .ok (.bastore, 1)) (h : (if inB i N then A else none) = some out) (k : A = some out → V sh n D cy ad nL p l e R s m args below meth c Q (pc + 1) (lv) (st) (si u k0 i.toNatClampNeg x)) : V sh n D cy ad nL p l e R s m args below meth c Q (pc) (lv) (.int x :: .int i :: .ref (ad k0) :: st) (u) := by
  by_cases hi : inB i N
  · rw [if_pos hi] at h
    intro H locs la hP hS hl
    refine va_zast (D := D) (cl := vwCl) (tys := vty cy) C.1 C.2.1 C.2.2.2.2.2.1 hP (wl_D C.2.2.2.2.2.2.2.1) hS k0 1 (wE_a hp (by omega)) rfl (inB_vp hi) hd (fun H1 locs1 hP1 hD1 hS1 => ?_)
    rw [hx] at hP1
    rw [wl_set, wE_si (sE_a hp (by omega))] at hP1
    exact k h H1 locs1 la hP1 hS1 hl
  · rw [if_neg hi] at h; cases h
theorem v_bast (C : Cx n D cy ad nL cc own R p s m args c) {k0 N : Nat} {f0 : Nat → Nat} {i : Int32} {x : Int32} {A : Option O} (hp : Pl sh n k0 (.inr (2, N, f0))) (hx : vp_nar .byte x = x) (hd : decode cc pc = .ok (.bastore, 1)) (h : (if inB i N then A else none) = some out) (k : A = some out → V sh n D cy ad nL p l e R s m args below meth c Q (pc + 1) (lv) (st) (si u k0 i.toNatClampNeg x)) : V sh n D cy ad nL p l e R s m args below meth c Q (pc) (lv) (.int x :: .int i :: .ref (ad k0) :: st) (u) := by
  by_cases hi : inB i N
  · rw [if_pos hi] at h
    intro H locs la hP hS hl
    refine va_bast (D := D) (cl := vwCl) (tys := vty cy) C.1 C.2.1 C.2.2.2.2.2.1 hP (wl_D C.2.2.2.2.2.2.2.1) hS k0 2 (wE_a hp (by omega)) rfl (inB_vp hi) hd (fun H1 locs1 hP1 hD1 hS1 => ?_)
    rw [hx] at hP1
    rw [wl_set, wE_si (sE_a hp (by omega))] at hP1
    exact k h H1 locs1 la hP1 hS1 hl
  · rw [if_neg hi] at h; cases h
theorem v_last (C : Cx n D cy ad nL cc own R p s m args c) {k0 N : Nat} {f0 : Nat → Nat} {i : Int32} {x : Int64} {A : Option O} (hp : Pl sh n k0 (.inr (3, N, f0))) (hd : decode cc pc = .ok (.lastore, 1)) (h : (if inB i N then A else none) = some out) (k : A = some out → V sh n D cy ad nL p l e R s m args below meth c Q (pc + 1) (lv) (st) (sl u k0 i.toNatClampNeg x)) : V sh n D cy ad nL p l e R s m args below meth c Q (pc) (lv) (.long x :: .int i :: .ref (ad k0) :: st) (u) := by
  by_cases hi : inB i N
  · rw [if_pos hi] at h
    intro H locs la hP hS hl
    refine va_last (D := D) (cl := vwCl) (tys := vty cy) C.1 C.2.1 C.2.2.2.2.2.1 hP (wl_D C.2.2.2.2.2.2.2.1) hS k0 3 (wE_al hp) rfl (inB_vp hi) hd (fun H1 locs1 hP1 hD1 hS1 => ?_)
    rw [wl_set, wE_sl (sE_al hp)] at hP1
    exact k h H1 locs1 la hP1 hS1 hl
  · rw [if_neg hi] at h; cases h
theorem bz_nar (b : Bool) : vp_nar .boolean (bz b) = bz b := by cases b <;> decide
theorem v_alen0 (C : Cx n D cy ad nL cc own R p s m args c) {k0 N : Nat} {f0 : Nat → Nat} {v : Int32} (hp : Pl sh n k0 (.inr (0, N, f0))) (hv : Int32.ofNat N = v) (hd : decode cc pc = .ok (.arraylength, 1)) (k : V sh n D cy ad nL p l e R s m args below meth c Q (pc + 1) (lv) (.int v :: st) (u)) : V sh n D cy ad nL p l e R s m args below meth c Q (pc) (lv) (.ref (ad k0) :: st) (u) := fun H locs la hP hS hl =>  va_alen (D := D) (cl := vwCl) (tys := vty cy) C.1 C.2.1 C.2.2.2.2.2.1 hP k0 0 (wE_a hp (by omega)) rfl hv hd (k H locs la hP hS hl)
theorem v_alen1 (C : Cx n D cy ad nL cc own R p s m args c) {k0 N : Nat} {f0 : Nat → Nat} {v : Int32} (hp : Pl sh n k0 (.inr (1, N, f0))) (hv : Int32.ofNat N = v) (hd : decode cc pc = .ok (.arraylength, 1)) (k : V sh n D cy ad nL p l e R s m args below meth c Q (pc + 1) (lv) (.int v :: st) (u)) : V sh n D cy ad nL p l e R s m args below meth c Q (pc) (lv) (.ref (ad k0) :: st) (u) := fun H locs la hP hS hl =>  va_alen (D := D) (cl := vwCl) (tys := vty cy) C.1 C.2.1 C.2.2.2.2.2.1 hP k0 1 (wE_a hp (by omega)) rfl hv hd (k H locs la hP hS hl)
theorem v_alen2 (C : Cx n D cy ad nL cc own R p s m args c) {k0 N : Nat} {f0 : Nat → Nat} {v : Int32} (hp : Pl sh n k0 (.inr (2, N, f0))) (hv : Int32.ofNat N = v) (hd : decode cc pc = .ok (.arraylength, 1)) (k : V sh n D cy ad nL p l e R s m args below meth c Q (pc + 1) (lv) (.int v :: st) (u)) : V sh n D cy ad nL p l e R s m args below meth c Q (pc) (lv) (.ref (ad k0) :: st) (u) := fun H locs la hP hS hl =>  va_alen (D := D) (cl := vwCl) (tys := vty cy) C.1 C.2.1 C.2.2.2.2.2.1 hP k0 2 (wE_a hp (by omega)) rfl hv hd (k H locs la hP hS hl)
theorem v_alen3 (C : Cx n D cy ad nL cc own R p s m args c) {k0 N : Nat} {f0 : Nat → Nat} {v : Int32} (hp : Pl sh n k0 (.inr (3, N, f0))) (hv : Int32.ofNat N = v) (hd : decode cc pc = .ok (.arraylength, 1)) (k : V sh n D cy ad nL p l e R s m args below meth c Q (pc + 1) (lv) (.int v :: st) (u)) : V sh n D cy ad nL p l e R s m args below meth c Q (pc) (lv) (.ref (ad k0) :: st) (u) := fun H locs la hP hS hl =>  va_alen (D := D) (cl := vwCl) (tys := vty cy) C.1 C.2.1 C.2.2.2.2.2.1 hP k0 3 (wE_al hp) rfl hv hd (k H locs la hP hS hl)
end VR
