theorem nw_L_7 : nwW RL 7 11 12 [.null, .null, .null, .null, .null, .null, .null, .null, .null, .null, .null, .null] := ⟨RX11, TX11, tyX11, rfl, inG11, tyX11_ok, (tk_1 (List.mem_of_getElem? (i := 20) rfl) rfl), (tk_1 (List.mem_of_getElem? (i := 21) rfl) rfl), (tk_1 (List.mem_of_getElem? (i := 1) rfl) rfl), by decide⟩
theorem nw_L_10 : nwW RL 10 12 28 [.null, .null, .null, .null, .null, .int 0, .null, .int 0, .int 0, .int 0, .int 0, .int 0, .int 0, .int 0, .int 0, .int 0, .int 0, .null, .null, .null, .null, .null, .null, .null, .null, .null, .null, .null] := ⟨RX12, TX12, tyX12, rfl, inG12, tyX12_ok, (tk_4 (List.mem_of_getElem? (i := 145) rfl) rfl), (tk_4 (List.mem_of_getElem? (i := 146) rfl) rfl), (tk_1 (List.mem_of_getElem? (i := 13) rfl) rfl), by decide⟩
theorem mi_L_9 : MiW RL 9 yX11_init cX11_init 2 0 := ⟨(tk_1 (List.mem_of_getElem? (i := 22) rfl) rfl), (tk_1 (List.mem_of_getElem? (i := 23) rfl) rfl), (tk_1 (List.mem_of_getElem? (i := 1) rfl) rfl), (tk_1 (List.mem_of_getElem? (i := 24) rfl) rfl), rfl, by decide +kernel⟩
theorem mi_L_12 : MiW RL 12 yX12_init cX12_init 1 0 := ⟨(tk_4 (List.mem_of_getElem? (i := 147) rfl) rfl), (tk_4 (List.mem_of_getElem? (i := 148) rfl) rfl), (tk_1 (List.mem_of_getElem? (i := 13) rfl) rfl), (tk_4 (List.mem_of_getElem? (i := 149) rfl) rfl), rfl, by decide +kernel⟩
theorem tl_1 {w : Cond} (h : w ∈ tables_1_1) : w ∈ lw_tbl := List.mem_append_right _ (show w ∈ tables_1 from List.mem_append_left _ h)
theorem tl_2 {w : Cond} (h : w ∈ tables_1_2) : w ∈ lw_tbl := List.mem_append_right _ (show w ∈ tables_1 from List.mem_append_right _ (List.mem_append_left _ h))
theorem tl_3 {w : Cond} (h : w ∈ tables_1_3) : w ∈ lw_tbl := List.mem_append_right _ (show w ∈ tables_1 from List.mem_append_right _ (List.mem_append_right _ (List.mem_append_left _ h)))
theorem tl_4 {w : Cond} (h : w ∈ tables_1_4) : w ∈ lw_tbl := List.mem_append_right _ (show w ∈ tables_1 from List.mem_append_right _ (List.mem_append_right _ (List.mem_append_right _ (List.mem_append_left _ h))))
theorem tl_5 {w : Cond} (h : w ∈ tables_1_5) : w ∈ lw_tbl := List.mem_append_right _ (show w ∈ tables_1 from List.mem_append_right _ (List.mem_append_right _ (List.mem_append_right _ (List.mem_append_right _ (List.mem_append_left _ h)))))
theorem tl_6 {w : Cond} (h : w ∈ tables_1_6) : w ∈ lw_tbl := List.mem_append_right _ (show w ∈ tables_1 from List.mem_append_right _ (List.mem_append_right _ (List.mem_append_right _ (List.mem_append_right _ (List.mem_append_right _ (h))))))

theorem gw_tbl {w : Cond} (h : w ∈ gw) : w ∈ lw_tbl := (List.mem_filter.mp h).1
theorem arrK {ty : FieldType} {args : Array Value} {s : State} (h : (Cond.arrayClass ty).before args s = true) : ∃ cA : ClassId, ArrOfT s cA ty ∧ s.vm.findClass ("[" ++ ty.toString) = some cA := by
  obtain ⟨cA, kA, comp, h1, h2, h3⟩ := Cond.arrayClass_spec h
  exact ⟨cA, fun n z => ⟨fun k h => (by cases h), kA, h2, comp, h3⟩, h1⟩
theorem arrQ {C : String} {args : Array Value} {s : State} (h : (Cond.arrayOver (.object C)).before args s = true) : ∃ cA : ClassId, ArrOfT s cA (.object C) ∧ va_RA s cA (.object C) := by
  obtain ⟨comp, cA, kA, h1, -, h2, h3, h4⟩ := Cond.arrayOver_spec h
  exact ⟨cA, fun n z => ⟨fun k h => (by cases h), kA, h2, comp, h3⟩, kA, comp, h2, h3, h1, h4⟩
set_option maxHeartbeats 4000000 in
/-- the strings and statics at the law's entry -/
theorem sG_start {args : Array Value} {s : State} (hts : ∀ w ∈ lw_tbl, w.before args s = true) (hgv : (Jvm.Cond.and given_1 narrow_1).before args s = true) : ∃ aS : Nat → Nat, sG s.heap.size aS s := by
  have hf := flat_of_before _ hgv
  have hA : ∀ a : Nat, a < s.heap.size → ¬ s.heap.size ≤ a := fun a h => Nat.not_le.mpr h
  obtain ⟨aK, aV, hS, hE⟩ := vk_Sof (args := args) (s := s) (N := 7) (tm := fun i => .string "StarShells$Reader" (kS.getD i 0)) (len := lenS) (byt := bytS) (A := fun q => s.heap.size ≤ q)
    (by decide)
    (fun i hi => by rcases (by omega : i = 0 ∨ i = 1 ∨ i = 2 ∨ i = 3 ∨ i = 4 ∨ i = 5 ∨ i = 6) with rfl | rfl | rfl | rfl | rfl | rfl | rfl <;> exact hf _ (by decide +kernel))
    (fun i hi => by rcases (by omega : i = 0 ∨ i = 1 ∨ i = 2 ∨ i = 3 ∨ i = 4 ∨ i = 5 ∨ i = 6) with rfl | rfl | rfl | rfl | rfl | rfl | rfl <;> exact hf _ (by decide +kernel))
    (fun i hi => by rcases (by omega : i = 0 ∨ i = 1 ∨ i = 2 ∨ i = 3 ∨ i = 4 ∨ i = 5 ∨ i = 6) with rfl | rfl | rfl | rfl | rfl | rfl | rfl <;> exact hf _ (by decide +kernel))
    (fun i hi => by rcases (by omega : i = 0 ∨ i = 1 ∨ i = 2 ∨ i = 3 ∨ i = 4 ∨ i = 5 ∨ i = 6) with rfl | rfl | rfl | rfl | rfl | rfl | rfl <;> exact hf _ (by decide +kernel))
    (fun i hi j hj => by
      rcases (by omega : i = 0 ∨ i = 1 ∨ i = 2 ∨ i = 3 ∨ i = 4 ∨ i = 5 ∨ i = 6) with rfl | rfl | rfl | rfl | rfl | rfl | rfl
      · have hj : j < 4 := hj
        rcases (by omega : j = 0 ∨ j = 1 ∨ j = 2 ∨ j = 3) with rfl | rfl | rfl | rfl <;> exact hf _ (by decide +kernel)
      · have hj : j < 5 := hj
        rcases (by omega : j = 0 ∨ j = 1 ∨ j = 2 ∨ j = 3 ∨ j = 4) with rfl | rfl | rfl | rfl | rfl <;> exact hf _ (by decide +kernel)
      · have hj : j < 4 := hj
        rcases (by omega : j = 0 ∨ j = 1 ∨ j = 2 ∨ j = 3) with rfl | rfl | rfl | rfl <;> exact hf _ (by decide +kernel)
      · have hj : j < 4 := hj
        rcases (by omega : j = 0 ∨ j = 1 ∨ j = 2 ∨ j = 3) with rfl | rfl | rfl | rfl <;> exact hf _ (by decide +kernel)
      · have hj : j < 4 := hj
        rcases (by omega : j = 0 ∨ j = 1 ∨ j = 2 ∨ j = 3) with rfl | rfl | rfl | rfl <;> exact hf _ (by decide +kernel)
      · have hj : j < 2 := hj
        rcases (by omega : j = 0 ∨ j = 1) with rfl | rfl <;> exact hf _ (by decide +kernel)
      · have hj : j < 5 := hj
        rcases (by omega : j = 0 ∨ j = 1 ∨ j = 2 ∨ j = 3 ∨ j = 4) with rfl | rfl | rfl | rfl | rfl <;> exact hf _ (by decide +kernel)
      )
    (fun i j hi hj hij => by
      rcases (by omega : i = 0 ∨ i = 1 ∨ i = 2 ∨ i = 3 ∨ i = 4 ∨ i = 5 ∨ i = 6) with rfl | rfl | rfl | rfl | rfl | rfl | rfl <;> rcases (by omega : j = 0 ∨ j = 1 ∨ j = 2 ∨ j = 3 ∨ j = 4 ∨ j = 5 ∨ j = 6) with rfl | rfl | rfl | rfl | rfl | rfl | rfl <;> first | exact absurd rfl hij | exact Or.inl (hf _ (by decide +kernel)) | exact Or.inr (hf _ (by decide +kernel)))
    hA
  have h1 := va_Zof (v := .int 1) (A := fun q => s.heap.size ≤ q) (hts _ (tl_2 (List.mem_of_getElem? (i := 196) rfl))) (hts _ (tl_1 (List.mem_of_getElem? (i := 16) rfl))) (va_eqt (hf (Cond.eq (.static "java/lang/String" "COMPACT_STRINGS" "Z") (.int 1)) (by decide +kernel))) hA
  obtain ⟨v, hv1, hv2⟩ := Cond.isRef_spec (hf (Cond.isRef (.static "jdk/internal/util/Preconditions" "SIOOBE_FORMATTER" "Ljava/util/function/BiFunction;")) (by decide +kernel))
  obtain ⟨n, rfl⟩ : ∃ n, v = fmV n := by
    cases v with
    | null => exact ⟨0, rfl⟩
    | ref k => exact ⟨k + 1, rfl⟩
    | _ => cases hv2
  have h2 := va_Zof (A := fun q => s.heap.size ≤ q) (hts _ (tl_2 (List.mem_of_getElem? (i := 212) rfl))) (hts _ (tl_1 (List.mem_of_getElem? (i := 18) rfl))) hv1 hA
  refine ⟨fun k => if k = 3000 then n else if 2000 ≤ k then aV (k - 2000) else aK (k - 1000), ?_, ?_, ?_, ?_⟩
  · have e1 : ∀ i, i < 7 → (if 1000 + i = 3000 then n else if 2000 ≤ 1000 + i then aV (1000 + i - 2000) else aK (1000 + i - 1000)) = aK i := fun i hi => by rw [if_neg (by omega), if_neg (by omega), show 1000 + i - 1000 = i by omega]
    have e2 : ∀ i, i < 7 → (if 2000 + i = 3000 then n else if 2000 ≤ 2000 + i then aV (2000 + i - 2000) else aK (2000 + i - 1000)) = aV i := fun i hi => by rw [if_neg (by omega), if_pos (by omega), show 2000 + i - 2000 = i by omega]
    refine ⟨fun i hi => ?_, fun i j hi hj h => ?_⟩
    · have h9 := hS.1 i hi
      simp only [e1 i hi, e2 i hi]
      exact h9
    · simp only [e1 i hi, e1 j hj] at h
      exact hS.2 i j hi hj h
  · intro i hi
    have e1 : (if 1000 + i = 3000 then n else if 2000 ≤ 1000 + i then aV (1000 + i - 2000) else aK (1000 + i - 1000)) = aK i := by rw [if_neg (by omega), if_neg (by omega), show 1000 + i - 1000 = i by omega]
    show vk_R "StarShells$Reader" (kS.getD i 0) (tS.getD i "") (if 1000 + i = 3000 then n else if 2000 ≤ 1000 + i then aV (1000 + i - 2000) else aK (1000 + i - 1000)) s
    rw [e1]
    refine vk_R.of (A := args) ?_ (hE i hi |> fun h => ?_)
    · rcases (by omega : i = 0 ∨ i = 1 ∨ i = 2 ∨ i = 3 ∨ i = 4 ∨ i = 5 ∨ i = 6) with rfl | rfl | rfl | rfl | rfl | rfl | rfl
      · exact hts _ (tl_2 (List.mem_of_getElem? (i := 182) rfl))
      · exact hts _ (tl_3 (List.mem_of_getElem? (i := 27) rfl))
      · exact hts _ (tl_3 (List.mem_of_getElem? (i := 42) rfl))
      · exact hts _ (tl_3 (List.mem_of_getElem? (i := 55) rfl))
      · exact hts _ (tl_3 (List.mem_of_getElem? (i := 56) rfl))
      · exact hts _ (tl_3 (List.mem_of_getElem? (i := 36) rfl))
      · exact hts _ (tl_3 (List.mem_of_getElem? (i := 41) rfl))
    · exact h
  · exact h1
  · exact h2

set_option maxHeartbeats 4000000 in
theorem vK_start {args : Array Value} {s : State} (hts : ∀ w ∈ lw_tbl, w.before args s = true) : ∃ (D : va_G) (cy : Nat → ClassId), va_K D vwCl (vty cy) s := by
  have hg : ∀ w ∈ gw, w.before args s = true := fun w h => hts w (gw_tbl h)
  obtain ⟨c0, i0, h0⟩ := u_known (C := RX0) (T := TX0) (N := 5) (n := 5) hg inG0 (hg _ (tk_2 (List.mem_of_getElem? (i := 10) rfl) rfl))
  obtain ⟨c1, i1, h1⟩ := u_known (C := RX1) (T := TX1) (N := 1) (n := 1) hg inG1 (hg _ (tk_1 (List.mem_of_getElem? (i := 187) rfl) rfl))
  obtain ⟨c2, i2, h2⟩ := u_known (C := RX2) (T := TX2) (N := 11) (n := 11) hg inG2 (hg _ (tk_2 (List.mem_of_getElem? (i := 4) rfl) rfl))
  obtain ⟨c3, i3, h3⟩ := u_known (C := RX3) (T := TX3) (N := 5) (n := 5) hg inG3 (hg _ (tk_1 (List.mem_of_getElem? (i := 52) rfl) rfl))
  obtain ⟨c4, i4, h4⟩ := u_known (C := RX4) (T := TX4) (N := 11) (n := 11) hg inG4 (hg _ (tk_1 (List.mem_of_getElem? (i := 46) rfl) rfl))
  obtain ⟨c5, i5, h5⟩ := u_known (C := RX5) (T := TX5) (N := 4) (n := 4) hg inG5 (hg _ (tk_1 (List.mem_of_getElem? (i := 221) rfl) rfl))
  obtain ⟨c6, i6, h6⟩ := u_known (C := RX6) (T := TX6) (N := 4) (n := 4) hg inG6 (hg _ (tk_1 (List.mem_of_getElem? (i := 198) rfl) rfl))
  obtain ⟨c7, i7, h7⟩ := u_known (C := RX7) (T := TX7) (N := 6) (n := 6) hg inG7 (hg _ (tk_1 (List.mem_of_getElem? (i := 129) rfl) rfl))
  obtain ⟨c8, i8, h8⟩ := u_known (C := RX8) (T := TX8) (N := 2) (n := 2) hg inG8 (hg _ (tk_1 (List.mem_of_getElem? (i := 29) rfl) rfl))
  obtain ⟨c9, i9, h9⟩ := u_known (C := RX9) (T := TX9) (N := 2) (n := 2) hg inG9 (hg _ (tk_2 (List.mem_of_getElem? (i := 85) rfl) rfl))
  obtain ⟨c10, i10, h10⟩ := u_known (C := RX10) (T := TX10) (N := 6) (n := 6) hg inG10 (hg _ (tk_1 (List.mem_of_getElem? (i := 122) rfl) rfl))
  obtain ⟨c11, i11, h11⟩ := u_known (C := RX11) (T := TX11) (N := 12) (n := 12) hg inG11 (hg _ (tk_1 (List.mem_of_getElem? (i := 21) rfl) rfl))
  obtain ⟨c12, i12, h12⟩ := u_known (C := RX12) (T := TX12) (N := 28) (n := 28) hg inG12 (hg _ (tk_4 (List.mem_of_getElem? (i := 146) rfl) rfl))
  obtain ⟨y0, ya0, yb0⟩ := arrK (hg _ ac_int)
  obtain ⟨y1, ya1, yb1⟩ := arrK (hg _ ac_boolean)
  obtain ⟨y2, ya2, yb2⟩ := arrK (hg _ ac_byte)
  obtain ⟨y3, ya3, yb3⟩ := arrK (hg _ ac_long)
  obtain ⟨y4, ya4, yb4⟩ := arrQ (hts _ (tl_1 (List.mem_of_getElem? (i := 119) rfl)))
  obtain ⟨y5, ya5, yb5⟩ := arrQ (hts _ (tl_1 (List.mem_of_getElem? (i := 128) rfl)))
  refine ⟨(fun k => [c0, c1, c2, c3, c4, c5, c6, c7, c8, c9, c10, c11, c12].getD k 0, fun k => [i0, i1, i2, i3, i4, i5, i6, i7, i8, i9, i10, i11, i12].getD k (fun _ => 0)), fun k => [y0, y1, y2, y3, y4, y5].getD k 0, ?_, ?_⟩
  · intro k q hq
    match k, hq with
    | 0, hq => cases hq; exact h0
    | 1, hq => cases hq; exact h1
    | 2, hq => cases hq; exact h2
    | 3, hq => cases hq; exact h3
    | 4, hq => cases hq; exact h4
    | 5, hq => cases hq; exact h5
    | 6, hq => cases hq; exact h6
    | 7, hq => cases hq; exact h7
    | 8, hq => cases hq; exact h8
    | 9, hq => cases hq; exact h9
    | 10, hq => cases hq; exact h10
    | 11, hq => cases hq; exact h11
    | 12, hq => cases hq; exact h12
    | k + 13, hq => simp [vwCl] at hq
  · intro k q hq
    match k, hq with
    | 0, hq => cases hq; exact ⟨ya0, yb0⟩
    | 1, hq => cases hq; exact ⟨ya1, yb1⟩
    | 2, hq => cases hq; exact ⟨ya2, yb2⟩
    | 3, hq => cases hq; exact ⟨ya3, yb3⟩
    | 4, hq => cases hq; exact ⟨ya4, yb4⟩
    | 5, hq => cases hq; exact ⟨ya5, yb5⟩
    | k + 6, hq => simp [vty] at hq
theorem nw_start {args : Array Value} {s : State} (hts : ∀ w ∈ lw_tbl, w.before args s = true) : nwK s := by
  intro w hw
  simp only [nws, List.mem_cons, List.not_mem_nil, or_false] at hw
  rcases hw with rfl | rfl | rfl | rfl | rfl | rfl | rfl | rfl | rfl | rfl | rfl
  · exact va_Nw.of (A := args) rfl (hts _ (tl_3 (List.mem_of_getElem? (i := 166) rfl)))
  · exact va_Nw.of (A := args) rfl (hts _ (tl_3 (List.mem_of_getElem? (i := 113) rfl)))
  · exact va_Nw.of (A := args) rfl (hts _ (tl_3 (List.mem_of_getElem? (i := 224) rfl)))
  · exact va_Nw.of (A := args) rfl (hts _ (tl_1 (List.mem_of_getElem? (i := 30) rfl)))
  · exact va_Nw.of (A := args) rfl (hts _ (tl_1 (List.mem_of_getElem? (i := 188) rfl)))
  · exact va_Nw.of (A := args) rfl (hts _ (tl_1 (List.mem_of_getElem? (i := 199) rfl)))
  · exact va_Nw.of (A := args) rfl (hts _ (tl_1 (List.mem_of_getElem? (i := 222) rfl)))
  · exact va_Nw.of (A := args) rfl (hts _ (tl_2 (List.mem_of_getElem? (i := 5) rfl)))
  · exact va_Nw.of (A := args) rfl (hts _ (tl_2 (List.mem_of_getElem? (i := 86) rfl)))
  · exact va_Nw.of (A := args) rfl (hts _ (tl_2 (List.mem_of_getElem? (i := 11) rfl)))
  · exact va_Nw.of (A := args) rfl (hts _ (tl_1 (List.mem_of_getElem? (i := 130) rfl)))
set_option maxHeartbeats 4000000 in
set_option maxRecDepth 100000 in
theorem n_ctorM {D : va_G} {cy : Nat → ClassId} {A : Nat → Prop} {nL : Nat} {cc : ByteArray} {p : Program} {l : Launch} {e : Env} {R : Room} {s : State} {m : MethodId} {args : Array Value} {below : List Frame} {meth : Method} {c : Code} {Q : State → Prop} {K S pc : Nat} {lv : List (Nat × Value)} {q0 z0 : Nat} {W0 : va_W} {aS : Nat → Nat} {u0 : Mem} (hu0 : fX12_copies true uM1 = some u0) (C : CN D cy A nL cc RL p s m args meth c) (hG : sG z0 aS s) (hAz : ∀ q, A q → z0 ≤ q) (hz : z0 ≤ s.heap.size) (hroom : rX12_init.frames + 1 ≤ R.frames ∧ 8 + (1 + 11) + rX12_init.locals ≤ R.locals) (hc : K + 17 ≤ R.cells) (hsl : S + 31769 ≤ R.slots) (hd : decode cc pc = .ok (.invokespecial 12, 3)) (k : ∀ a : Nat → Nat, a 0 = q0 → (∀ k, 1000 ≤ k → a k = aS k) → VN D A nL p l e R s m args below meth c Q (K + 17) (S + 31769) (pc + 3) lv [.ref q0] (W0 ++ wl a nM (wE cy a shM u0))) : VN D A nL p l e R s m args below meth c Q K S pc lv [.ref q0, .ref q0] (W0 ++ [(q0, .inr (12, [.null, .null, .null, .null, .null, .int 0, .null, .int 0, .int 0, .int 0, .int 0, .int 0, .int 0, .int 0, .int 0, .int 0, .int 0, .null, .null, .null, .null, .null, .null, .null, .null, .null, .null, .null]))]) := by
  intro H locs la hP hD hS hl
  have hfix : CallFix p m c cc nL s args gw RL := ⟨C.1, C.2.1, C.2.2.1, C.2.2.2.1, C.2.2.2.2.1⟩
  obtain ⟨m1, m2, m4, m5, m8, m6⟩ := mi_L_12
  have hC1 : [W0.length].map (fun i => (W0 ++ [(q0, (.inr (12, [.null, .null, .null, .null, .null, .int 0, .null, .int 0, .int 0, .int 0, .int 0, .int 0, .int 0, .int 0, .int 0, .int 0, .int 0, .null, .null, .null, .null, .null, .null, .null, .null, .null, .null, .null]) : va_E))])[i]?) = [(q0, (.inr (12, [.null, .null, .null, .null, .null, .int 0, .null, .int 0, .int 0, .int 0, .int 0, .int 0, .int 0, .int 0, .int 0, .int 0, .int 0, .null, .null, .null, .null, .null, .null, .null, .null, .null, .null, .null]) : va_E))].map some := by simp
  have hPc : va_P D vwCl [(q0, .inr (12, [.null, .null, .null, .null, .null, .int 0, .null, .int 0, .int 0, .int 0, .int 0, .int 0, .int 0, .int 0, .int 0, .int 0, .int 0, .null, .null, .null, .null, .null, .null, .null, .null, .null, .null, .null]))] H := hP.sub [W0.length] (by simp)
  have hDc : va_D A [(q0, .inr (12, [.null, .null, .null, .null, .null, .int 0, .null, .int 0, .int 0, .int 0, .int 0, .int 0, .int 0, .int 0, .int 0, .int 0, .int 0, .null, .null, .null, .null, .null, .null, .null, .null, .null, .null, .null]))] := hD.sub [W0.length] (by simp [va_nd]) hC1
  have hFc := va_free hD hS C.2.2.2.2.2.2.2.1 [W0.length] hC1
  have hq0 : z0 ≤ q0 := hAz _ (hDc.2 0 _ rfl)
  have hzH : z0 ≤ H.size := Nat.le_trans hz hS.1
  have hbl : FrameBlind (va_Pc [.ref q0] (fun U => U.heap.size = H.size ∧ (z0 ≤ q0 ∧ z0 ≤ H.size) ∧ wn D cy (fun _ => True) [(q0, .inr (12, [.null, .null, .null, .null, .null, .int 0, .null, .int 0, .int 0, .int 0, .int 0, .int 0, .int 0, .int 0, .int 0, .int 0, .int 0, .null, .null, .null, .null, .null, .null, .null, .null, .null, .null, .null]))] U ∧ sG z0 aS U)) := fun a U g mk q => ⟨q.1, q.2.1, q.2.2.1, ⟨q.2.2.2.1.1, va_K.moved (u := U) (U := U.calling g mk a) (Vm.Alike.refl U.vm) q.2.2.2.1.2.1, nwK_same (s := U) (U := U.calling g mk a) rfl q.2.2.2.1.2.2.1, q.2.2.2.1.2.2.2⟩, sG_same (s := U) (U := U.calling g mk a) rfl rfl q.2.2.2.2⟩
  have hpre : ∀ U : State, U.heap = H → s.WarmedH U.vm → va_Pc [.ref q0] (fun U => U.heap.size = H.size ∧ (z0 ≤ q0 ∧ z0 ≤ H.size) ∧ wn D cy (fun _ => True) [(q0, .inr (12, [.null, .null, .null, .null, .null, .int 0, .null, .int 0, .int 0, .int 0, .int 0, .int 0, .int 0, .int 0, .int 0, .int 0, .int 0, .null, .null, .null, .null, .null, .null, .null, .null, .null, .null, .null]))] U ∧ sG z0 aS U) ([.ref q0] : List Value).toArray U := fun U hU hW => ⟨rfl, by rw [hU], ⟨hq0, hzH⟩, ⟨by rw [hU]; exact hPc, va_K.moved hW.alike C.2.2.2.2.2.1, nwK_warm hW C.2.2.2.2.2.2.1, hDc.weaken (fun _ _ _ _ => trivial)⟩, sG_end hG (fun a h1 h2 => by rw [hU]; exact hS.2.1 a h1 (fun q => h2 (hAz a q))) hW⟩
  have cw : CallB R s args RL 12 yX12_init cX12_init 1 none (.code yX12_init cX12_init 1 none :: gw) rX12_init 17 31769 0 ∧ yX12_init.name = "<init>" ∧ (Cond.instanceMethod yX12_init).before args s = true := ⟨callB_of 0 C.2.2.2.2.1 (gw_call m5) rfl rfl rfl (C.2.2.2.2.1 _ m4) (C.2.2.2.2.1 _ m1) m6 hroom, m8, C.2.2.2.2.1 _ m2⟩
  refine va_callv (va_runI (As := []) (rest := [.ref q0]) hfix (cX12_init_in l D cy z0 aS hu0 q0 H.size) cw ⟨hbl, hpre⟩ rfl rfl hl.1 rfl (lv_room (Nat.le_of_ble_eq_true rfl)) hd ⟨hc, hsl⟩) hS (fun q _ h => hFc q h) hFc (fun a t H1 locs1 ht hvm hw hB hz1 hk1 hS1 => ?_)
  obtain ⟨hP1, -, -, hD1⟩ := hB
  rw [ht] at hP1
  obtain ⟨hP2, hD2⟩ := va_join (wr := W0) (w1 := wl a nM (wE cy a shM u0)) hP hD [W0.length] (List.range W0.length) hC1 (range_join W0 (q0, .inr (12, [.null, .null, .null, .null, .null, .int 0, .null, .int 0, .int 0, .int 0, .int 0, .int 0, .int 0, .int 0, .int 0, .int 0, .int 0, .null, .null, .null, .null, .null, .null, .null, .null, .null, .null, .null]))) (nd_range _) (fun i hi => by simp at hi ⊢; omega) hk1 hFc hP1 hD1
  exact k a hw.1 hw.2 H1 locs1 la hP2 hD2 hS1 hl

theorem va_Pl {D : va_G} {w1 w2 : va_W} {H : Heap} (h : va_P D vwCl (w1 ++ w2) H) : va_P D vwCl w1 H := fun k q hq => h k q (by rw [List.getElem?_append_left (List.getElem?_eq_some_iff.mp hq).1]; exact hq)
theorem va_Pr {D : va_G} {w1 w2 : va_W} {H : Heap} (h : va_P D vwCl (w1 ++ w2) H) : va_P D vwCl w2 H := fun k q hq => h (w1.length + k) q (by rw [List.getElem?_append_right (by omega), show w1.length + k - w1.length = k by omega]; exact hq)
theorem va_Dl {A : Nat → Prop} {w1 w2 : va_W} (h : va_D A (w1 ++ w2)) : va_D A w1 := ⟨fun i j p q hi hj e => h.1 i j p q (by rw [List.getElem?_append_left (List.getElem?_eq_some_iff.mp hi).1]; exact hi) (by rw [List.getElem?_append_left (List.getElem?_eq_some_iff.mp hj).1]; exact hj) e, fun k q hk => h.2 k q (by rw [List.getElem?_append_left (List.getElem?_eq_some_iff.mp hk).1]; exact hk)⟩
theorem va_Dr {A : Nat → Prop} {w1 w2 : va_W} (h : va_D A (w1 ++ w2)) : va_D A w2 := ⟨fun i j p q hi hj e => by
    have h9 := h.1 (w1.length + i) (w1.length + j) p q (by rw [List.getElem?_append_right (by omega), show w1.length + i - w1.length = i by omega]; exact hi) (by rw [List.getElem?_append_right (by omega), show w1.length + j - w1.length = j by omega]; exact hj) e
    omega, fun k q hk => h.2 (w1.length + k) q (by rw [List.getElem?_append_right (by omega), show w1.length + k - w1.length = k by omega]; exact hk)⟩
theorem va_Da {A : Nat → Prop} {w1 w2 : va_W} (h : va_D A (w1 ++ w2)) {i j : Nat} {p q : Nat × va_E} (hi : w1[i]? = some p) (hj : w2[j]? = some q) : p.1 ≠ q.1 := fun e => by
  have hl := (List.getElem?_eq_some_iff.mp hi).1
  have h9 := h.1 i (w1.length + j) p q (by rw [List.getElem?_append_left hl]; exact hi) (by rw [List.getElem?_append_right (by omega), show w1.length + j - w1.length = j by omega]; exact hj) e
  omega

set_option maxHeartbeats 4000000 in
set_option maxRecDepth 100000 in
theorem start_open {p : Program} {e : Env} {s : State} {m : MethodId} {below : List Frame} {meth : Method} {c : Code} (l : Launch) {b L : Nat} {xs : Nat → Int32} (hL : L ≤ 3072) (C0 : lw_At p s m meth c b L xs) {R : Mem → Mem → Prop} {u0 : Mem} (hu0 : fX12_copies true uM1 = some u0) (hR0 : R uX0 u0) (hs : sp_all R) : W p l e room_1 s m #[Value.ref b] below meth c s.heap [] 0 0 (lw_Z below #[Value.ref b] s) (entryFrame m ([Value.ref b] : List Value).toArray 4) := by
  obtain ⟨hx, hb, hr, hml, hown, hts, hX, hbl, hlocks, hgv⟩ := C0
  obtain ⟨aS, hG⟩ := sG_start hts hgv
  obtain ⟨D, cy, hK⟩ := vK_start hts
  have hnw := nw_start hts
  have hg : ∀ w ∈ gw, w.before #[Value.ref b] s = true := fun w h => hts w (gw_tbl h)
  have hov : va_AO "StarShells$Laws" s ∧ va_AO "StarShells$Star" s := ⟨va_AO.of (hts _ (tl_1 (List.mem_of_getElem? (i := 119) rfl))), va_AO.of (hts _ (tl_1 (List.mem_of_getElem? (i := 128) rfl)))⟩
  have C : CN D cy (aG s) 4 code RL p s m #[Value.ref b] meth c := ⟨hx, hb, hml, hown, hg, hK, hnw, fun q h => h, fun h => absurd rfl h⟩
  have hl := lv_entry ([.ref b]) (n := 4) (Nat.le_of_ble_eq_true rfl)
  rw [lg_entry_eq]
  suffices hsuf : VN D (aG s) 4 p l e room_1 s m #[Value.ref b] below meth c (lw_Z below #[Value.ref b] s) 0 0 0 [(0, .ref b)] [] [] from hsuf s.heap [] _ (fun k q h => by simp at h) ⟨fun i j p q h => by simp at h, fun k q h => by simp at h⟩ va_S.rf hl
  refine n_new C nw_L_7 (Nat.le_of_ble_eq_true rfl) (Nat.le_of_ble_eq_true rfl) dL_law_0 (fun q1 => ?_)
  refine n_dup C rfl dL_law_3 ?_
  refine n_ctorI C (g := gX11_init cy aS) (W0 := []) (cX11_init_in l D cy aS) hov mi_L_9 ⟨Nat.le_of_ble_eq_true rfl, Nat.le_of_ble_eq_true rfl⟩ ⟨rfl, rfl⟩ rfl rfl (Nat.le_of_ble_eq_true rfl) rfl (Nat.le_of_ble_eq_true rfl) (Nat.le_of_ble_eq_true rfl) dL_law_4 (fun a ha => ?_)
  subst ha
  refine n_astore_n C [(1, .ref (a 0)), (0, .ref b)] dL_law_7 rfl (by decide) rfl ?_
  refine n_new C nw_L_10 (Nat.le_of_ble_eq_true rfl) (Nat.le_of_ble_eq_true rfl) dL_law_8 (fun q2 => ?_)
  refine n_dup C rfl dL_law_11 ?_
  refine n_ctorM (W0 := gX11_init cy aS a) hu0 C hG (fun q h => h) (Nat.le_refl _) ⟨Nat.le_of_ble_eq_true rfl, Nat.le_of_ble_eq_true rfl⟩ (Nat.le_of_ble_eq_true rfl) (Nat.le_of_ble_eq_true rfl) dL_law_12 (fun aM ha2 haM => ?_)
  subst ha2
  refine n_astore_n C [(2, .ref (aM 0)), (1, .ref (a 0)), (0, .ref b)] dL_law_15 rfl (by decide) rfl ?_
  refine n_iconst C (v := 0) dL_law_16 (by decide) ?_
  refine n_istore_n C [(3, .int (nI 0)), (2, .ref (aM 0)), (1, .ref (a 0)), (0, .ref b)] dL_law_17 rfl (by decide) rfl ?_
  refine n_sub [3, 2, 1, 0] rfl ?_
  intro H locs la hP hD hS hl
  have hPX : va_P D vwCl (wl (aXs aS a) nX (wE cy (aXs aS a) shX uX0)) H := va_Pl hP
  have hPM := va_Pr hP
  have hDX : va_D (aG s) (wl (aXs aS a) nX (wE cy (aXs aS a) shX uX0)) := va_Dl hD
  have hDM := va_Dr hD
  have e180 : aXs aS a 180 = a 0 := rfl
  have hzX : ∀ i, i < nX → s.heap.size ≤ aXs aS a i := fun i hi => hDX.2 i _ (wl_at hi)
  have hzM : ∀ i, i < nM → s.heap.size ≤ aM i := fun i hi => hDM.2 i _ (wl_at hi)
  have haX : ∀ k, 1000 ≤ k → aXs aS a k = aS k := fun k hk => by simp only [aXs, if_neg (show ¬ k < 211 by omega)]
  have CC : CL D cy (aXs aS a) aM p s m c b L xs := ⟨hx, hb, hml, hown, hg, hK, hnw, ⟨wl_inj hDX, wl_inj hDM, fun i j hi hj => va_Da hD (wl_at hi) (wl_at hj), hzX, hzM⟩, sG_F hG hzX haX, sG_F hG hzM haM, hX, hbl⟩
  exact law_loop CC hlocks hr hL ⟨Nat.le_of_ble_eq_true rfl, Nat.le_of_ble_eq_true rfl⟩ hs (L + 1) 0 uX0 u0 (Nat.zero_le _) (by omega) hR0 H locs la hPX hPM hS hl
