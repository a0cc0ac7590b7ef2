section V3
variable {sh : Nat → Sh} {n : Nat} {D : va_G} {cy : Nat → ClassId} {ad : Nat → Nat} {nL : Nat} {cc : ByteArray} {own : String} {p : Program} {l : Launch} {e : Env} {R : Room} {s : State} {m : MethodId} {args : Array Value} {below : List Frame} {meth : Method} {c : Code} {Q : State → Prop} {pc : Nat} {lv : List (Nat × Value)} {st : List Value} {u : Mem}
theorem v_ialdN (C : Cx n D cy ad nL cc own R p s m args c) {k0 N j : Nat} {f0 : Nat → Nat} {i : Int32} (hp : Pl sh n k0 (.inr (0, N, f0))) (hi : inB i N) (hj : i.toNatClampNeg = j) (hd : decode cc pc = .ok (.iaload, 1)) (k : V sh n D cy ad nL p l e R s m args below meth c Q (pc + 1) (lv) (.int (u.1 k0 j) :: st) (u)) : V sh n D cy ad nL p l e R s m args below meth c Q (pc) (lv) (.int i :: .ref (ad k0) :: st) (u) := by
  subst hj
  exact fun H locs la hP hS hl =>  va_iald (D := D) (cl := vwCl) (tys := vty cy) C.1 C.2.1 C.2.2.2.2.2.1 hP k0 0 (wE_a hp (by omega)) rfl (inB_vp hi) hd (k H locs la hP hS hl)
theorem v_zaldN (C : Cx n D cy ad nL cc own R p s m args c) {k0 N j : Nat} {f0 : Nat → Nat} {i : Int32} (hp : Pl sh n k0 (.inr (1, N, f0))) (hi : inB i N) (hj : i.toNatClampNeg = j) (hd : decode cc pc = .ok (.baload, 1)) (k : V sh n D cy ad nL p l e R s m args below meth c Q (pc + 1) (lv) (.int (u.1 k0 j) :: st) (u)) : V sh n D cy ad nL p l e R s m args below meth c Q (pc) (lv) (.int i :: .ref (ad k0) :: st) (u) := by
  subst hj
  exact fun H locs la hP hS hl =>  va_zald (D := D) (cl := vwCl) (tys := vty cy) C.1 C.2.1 C.2.2.2.2.2.1 hP k0 1 (wE_a hp (by omega)) rfl (inB_vp hi) hd (k H locs la hP hS hl)
theorem v_baldN (C : Cx n D cy ad nL cc own R p s m args c) {k0 N j : Nat} {f0 : Nat → Nat} {i : Int32} (hp : Pl sh n k0 (.inr (2, N, f0))) (hi : inB i N) (hj : i.toNatClampNeg = j) (hd : decode cc pc = .ok (.baload, 1)) (k : V sh n D cy ad nL p l e R s m args below meth c Q (pc + 1) (lv) (.int (u.1 k0 j) :: st) (u)) : V sh n D cy ad nL p l e R s m args below meth c Q (pc) (lv) (.int i :: .ref (ad k0) :: st) (u) := by
  subst hj
  exact fun H locs la hP hS hl =>  va_bald (D := D) (cl := vwCl) (tys := vty cy) C.1 C.2.1 C.2.2.2.2.2.1 hP k0 2 (wE_a hp (by omega)) rfl (inB_vp hi) hd (k H locs la hP hS hl)
theorem v_laldN (C : Cx n D cy ad nL cc own R p s m args c) {k0 N j : Nat} {f0 : Nat → Nat} {i : Int32} (hp : Pl sh n k0 (.inr (3, N, f0))) (hi : inB i N) (hj : i.toNatClampNeg = j) (hd : decode cc pc = .ok (.laload, 1)) (k : V sh n D cy ad nL p l e R s m args below meth c Q (pc + 1) (lv) (.long (u.2 k0 j) :: st) (u)) : V sh n D cy ad nL p l e R s m args below meth c Q (pc) (lv) (.int i :: .ref (ad k0) :: st) (u) := by
  subst hj
  exact fun H locs la hP hS hl =>  va_lald (D := D) (cl := vwCl) (tys := vty cy) C.1 C.2.1 C.2.2.2.2.2.1 hP k0 3 (wE_al hp) rfl (inB_vp hi) hd (k H locs la hP hS hl)
theorem v_iastN (C : Cx n D cy ad nL cc own R p s m args c) {k0 N j : Nat} {f0 : Nat → Nat} {i : Int32} {x : Int32} (hp : Pl sh n k0 (.inr (0, N, f0))) (hi : inB i N) (hj : i.toNatClampNeg = j) (hd : decode cc pc = .ok (.iastore, 1)) (k : V sh n D cy ad nL p l e R s m args below meth c Q (pc + 1) (lv) (st) (si u k0 j x)) : V sh n D cy ad nL p l e R s m args below meth c Q (pc) (lv) (.int x :: .int i :: .ref (ad k0) :: st) (u) := by
  subst hj
  intro H locs la hP hS hl
  refine va_iast (D := D) (cl := vwCl) (tys := vty cy) C.1 C.2.1 C.2.2.2.2.2.1 hP (wl_D C.2.2.2.2.2.2.2.1) hS k0 0 (wE_a hp (by omega)) rfl (inB_vp hi) hd (fun H1 locs1 hP1 hD1 hS1 => ?_)
  rw [wl_set, wE_si (sE_a hp (by omega))] at hP1
  exact k H1 locs1 la hP1 hS1 hl
theorem v_zastN (C : Cx n D cy ad nL cc own R p s m args c) {k0 N j : Nat} {f0 : Nat → Nat} {i : Int32} {x : Int32} (hp : Pl sh n k0 (.inr (1, N, f0))) (hx : vp_nar .boolean x = x) (hi : inB i N) (hj : i.toNatClampNeg = j) (hd : decode cc pc = .ok (.bastore, 1)) (k : V sh n D cy ad nL p l e R s m args below meth c Q (pc + 1) (lv) (st) (si u k0 j x)) : V sh n D cy ad nL p l e R s m args below meth c Q (pc) (lv) (.int x :: .int i :: .ref (ad k0) :: st) (u) := by
  subst hj
  intro H locs la hP hS hl
  refine va_zast (D := D) (cl := vwCl) (tys := vty cy) C.1 C.2.1 C.2.2.2.2.2.1 hP (wl_D C.2.2.2.2.2.2.2.1) hS k0 1 (wE_a hp (by omega)) rfl (inB_vp hi) hd (fun H1 locs1 hP1 hD1 hS1 => ?_)
  rw [hx] at hP1
  rw [wl_set, wE_si (sE_a hp (by omega))] at hP1
  exact k H1 locs1 la hP1 hS1 hl
theorem v_bastN (C : Cx n D cy ad nL cc own R p s m args c) {k0 N j : Nat} {f0 : Nat → Nat} {i : Int32} {x : Int32} (hp : Pl sh n k0 (.inr (2, N, f0))) (hx : vp_nar .byte x = x) (hi : inB i N) (hj : i.toNatClampNeg = j) (hd : decode cc pc = .ok (.bastore, 1)) (k : V sh n D cy ad nL p l e R s m args below meth c Q (pc + 1) (lv) (st) (si u k0 j x)) : V sh n D cy ad nL p l e R s m args below meth c Q (pc) (lv) (.int x :: .int i :: .ref (ad k0) :: st) (u) := by
  subst hj
  intro H locs la hP hS hl
  refine va_bast (D := D) (cl := vwCl) (tys := vty cy) C.1 C.2.1 C.2.2.2.2.2.1 hP (wl_D C.2.2.2.2.2.2.2.1) hS k0 2 (wE_a hp (by omega)) rfl (inB_vp hi) hd (fun H1 locs1 hP1 hD1 hS1 => ?_)
  rw [hx] at hP1
  rw [wl_set, wE_si (sE_a hp (by omega))] at hP1
  exact k H1 locs1 la hP1 hS1 hl
theorem v_lastN (C : Cx n D cy ad nL cc own R p s m args c) {k0 N j : Nat} {f0 : Nat → Nat} {i : Int32} {x : Int64} (hp : Pl sh n k0 (.inr (3, N, f0))) (hi : inB i N) (hj : i.toNatClampNeg = j) (hd : decode cc pc = .ok (.lastore, 1)) (k : V sh n D cy ad nL p l e R s m args below meth c Q (pc + 1) (lv) (st) (sl u k0 j x)) : V sh n D cy ad nL p l e R s m args below meth c Q (pc) (lv) (.long x :: .int i :: .ref (ad k0) :: st) (u) := by
  subst hj
  intro H locs la hP hS hl
  refine va_last (D := D) (cl := vwCl) (tys := vty cy) C.1 C.2.1 C.2.2.2.2.2.1 hP (wl_D C.2.2.2.2.2.2.2.1) hS k0 3 (wE_al hp) rfl (inB_vp hi) hd (fun H1 locs1 hP1 hD1 hS1 => ?_)
  rw [wl_set, wE_sl (sE_al hp)] at hP1
  exact k H1 locs1 la hP1 hS1 hl
theorem v_mem (k : ∀ w : Mem, w = u → V sh n D cy ad nL p l e R s m args below meth c Q (pc) (lv) (st) (w)) : V sh n D cy ad nL p l e R s m args below meth c Q (pc) (lv) (st) (u) := k u rfl
theorem v_nmi {x : Int32} (k : ∀ y : Int32, y = x → V sh n D cy ad nL p l e R s m args below meth c Q (pc) (lv) (.int y :: st) (u)) : V sh n D cy ad nL p l e R s m args below meth c Q (pc) (lv) (.int x :: st) (u) := k x rfl
theorem v_nmj {x : Int64} (k : ∀ y : Int64, y = x → V sh n D cy ad nL p l e R s m args below meth c Q (pc) (lv) (.long y :: st) (u)) : V sh n D cy ad nL p l e R s m args below meth c Q (pc) (lv) (.long x :: st) (u) := k x rfl
theorem v_dia (J : Nat) (z : Value) (st1 : List Value) (k : V sh n D cy ad nL p l e R s m args below meth c Q (J) (lv) (z :: st1) (u)) (arms : V sh n D cy ad nL p l e R s m args below meth c Q (J) (lv) (z :: st1) (u) → V sh n D cy ad nL p l e R s m args below meth c Q (pc) (lv) (st) (u)) : V sh n D cy ad nL p l e R s m args below meth c Q (pc) (lv) (st) (u) := arms k
theorem v_dflt {x : Int32} (t : Nat) (k : V sh n D cy ad nL p l e R s m args below meth c Q (t) (lv) (st) (u)) (arms : V sh n D cy ad nL p l e R s m args below meth c Q (t) (lv) (st) (u) → V sh n D cy ad nL p l e R s m args below meth c Q (pc) (lv) (.int x :: st) (u)) : V sh n D cy ad nL p l e R s m args below meth c Q (pc) (lv) (.int x :: st) (u) := arms k
theorem v_tabIn (C : Cx n D cy ad nL cc own R p s m args c) {x : Int32} (tgt : Nat) {k0 : Int32} {dflt lo hi : Int} {offs : Array Int} {len : Nat} (hx : x = k0) (hd : decode cc pc = .ok (.tableswitch dflt lo hi offs, len)) (h1 : ¬ k0.toInt < lo) (h2 : ¬ hi < k0.toInt) (ho : offs[(k0.toInt - lo).toNat]? = some ((tgt : Int) - pc)) (ht : (pc : Int) + ((tgt : Int) - pc) = (tgt : Int)) (k : V sh n D cy ad nL p l e R s m args below meth c Q (tgt) (lv) (st) (u)) : V sh n D cy ad nL p l e R s m args below meth c Q (pc) (lv) (.int x :: st) (u) := by
  subst hx
  exact fun H locs la hP hS hl =>  lv_tableIn C.1 C.2.1 hd h1 h2 ho ht (k H locs la hP hS hl)
theorem v_tabOut (C : Cx n D cy ad nL cc own R p s m args c) {x : Int32} (tgt : Nat) {dflt lo hi : Int} {offs : Array Int} {len : Nat} (hd : decode cc pc = .ok (.tableswitch dflt lo hi offs, len)) (h : x.toInt < lo ∨ hi < x.toInt) (ht : (pc : Int) + dflt = (tgt : Int)) (k : V sh n D cy ad nL p l e R s m args below meth c Q (tgt) (lv) (st) (u)) : V sh n D cy ad nL p l e R s m args below meth c Q (pc) (lv) (.int x :: st) (u) := fun H locs la hP hS hl =>  lv_tableOut C.1 C.2.1 hd h ht (k H locs la hP hS hl)
theorem v_ldc_w (C : Cx n D cy ad nL cc own R p s m args c) {index : Nat} {v : Int32} (hw : Cond.constant own index v ∈ gw) (hd : decode cc pc = .ok (.ldc_w index, 3)) (k : V sh n D cy ad nL p l e R s m args below meth c Q (pc + 3) (lv) (.int v :: st) (u)) : V sh n D cy ad nL p l e R s m args below meth c Q (pc) (lv) (st) (u) := by
  intro H locs la hP hS hl T hT X
  obtain ⟨t, a1, b1⟩ := k H locs la hP hS hl T hT X
  exact ⟨t, va_ldcwI X C.1 C.2.2.2.1 (C.2.2.2.2.1 _ hw) rfl (by rw [C.2.1]; exact hd) t a1, b1⟩
theorem v_copyi (C : Cx n D cy ad nL cc own R p s m args c) {index : Nat} (hw : Cond.methodLink own index arraycopyName ∈ gw ∧ Cond.native arraycopyName ∈ gw ∧ Cond.static arraycopyName ∈ gw ∧ Cond.initialized "java/lang/System" ∈ gw) {k0 k1 N0 N1 : Nat} {f0 f1 : Nat → Nat} (hp0 : Pl sh n k0 (.inr (0, N0, f0))) (hp1 : Pl sh n k1 (.inr (0, N1, f1))) {sp dp nn : Int32} {sp0 dp0 n0 : Nat} (h1 : ¬ sp < 0) (h2 : ¬ dp < 0) (h3 : ¬ nn < 0) (e1 : sp.toNatClampNeg = sp0) (e2 : dp.toNatClampNeg = dp0) (e3 : nn.toNatClampNeg = n0) (h4 : sp0 + n0 ≤ N0) (h5 : dp0 + n0 ≤ N1) (hf : 1 ≤ R.frames) (hlo : 8 + (nativeFrameWords "java/lang/System" "arraycopy" 5 + 11) ≤ R.locals) (hst : (st.map fun v => v.category).sum ≤ 8) (hd : decode cc pc = .ok (.invokestatic index, 3)) (k : V sh n D cy ad nL p l e R s m args below meth c Q (pc + 3) (lv) (st) (sr u k1 (va_cpy (u.1 k0) (u.1 k1) sp0 dp0 n0))) : V sh n D cy ad nL p l e R s m args below meth c Q (pc) (lv) (.int nn :: .int dp :: .ref (ad k1) :: .int sp :: .ref (ad k0) :: st) (u) := by
  subst e1 e2 e3
  intro H locs la hP hS hl
  refine va_copyi (D := D) (cl := vwCl) (tys := vty cy) C.1 C.2.1 (C.2.2.1.trans hl.1.symm) C.2.2.2.1 (C.2.2.2.2.1 _ hw.1) (C.2.2.2.2.1 _ hw.2.1) (C.2.2.2.2.1 _ hw.2.2.1) (C.2.2.2.2.1 _ hw.2.2.2) C.2.2.2.2.2.1 hP (wl_D C.2.2.2.2.2.2.2.1) hS k0 k1 0 0 (wE_a hp0 (by omega)) (wE_a hp1 (by omega)) rfl rfl rfl h1 h2 h3 h4 h5 (fun _ _ => rfl) hf (by omega) hd (fun H1 locs1 hP1 hD1 hS1 => ?_)
  rw [wl_set, wE_sr (sE_a hp1 (by omega))] at hP1
  exact k H1 locs1 la hP1 hS1 hl
theorem v_copyl (C : Cx n D cy ad nL cc own R p s m args c) {index : Nat} (hw : Cond.methodLink own index arraycopyName ∈ gw ∧ Cond.native arraycopyName ∈ gw ∧ Cond.static arraycopyName ∈ gw ∧ Cond.initialized "java/lang/System" ∈ gw) {k0 k1 N0 N1 : Nat} {f0 f1 : Nat → Nat} (hp0 : Pl sh n k0 (.inr (3, N0, f0))) (hp1 : Pl sh n k1 (.inr (3, N1, f1))) {sp dp nn : Int32} {sp0 dp0 n0 : Nat} (h1 : ¬ sp < 0) (h2 : ¬ dp < 0) (h3 : ¬ nn < 0) (e1 : sp.toNatClampNeg = sp0) (e2 : dp.toNatClampNeg = dp0) (e3 : nn.toNatClampNeg = n0) (h4 : sp0 + n0 ≤ N0) (h5 : dp0 + n0 ≤ N1) (hf : 1 ≤ R.frames) (hlo : 8 + (nativeFrameWords "java/lang/System" "arraycopy" 5 + 11) ≤ R.locals) (hst : (st.map fun v => v.category).sum ≤ 8) (hd : decode cc pc = .ok (.invokestatic index, 3)) (k : V sh n D cy ad nL p l e R s m args below meth c Q (pc + 3) (lv) (st) (srl u k1 (va_cpy (u.2 k0) (u.2 k1) sp0 dp0 n0))) : V sh n D cy ad nL p l e R s m args below meth c Q (pc) (lv) (.int nn :: .int dp :: .ref (ad k1) :: .int sp :: .ref (ad k0) :: st) (u) := by
  subst e1 e2 e3
  intro H locs la hP hS hl
  refine va_copyl (D := D) (cl := vwCl) (tys := vty cy) C.1 C.2.1 (C.2.2.1.trans hl.1.symm) C.2.2.2.1 (C.2.2.2.2.1 _ hw.1) (C.2.2.2.2.1 _ hw.2.1) (C.2.2.2.2.1 _ hw.2.2.1) (C.2.2.2.2.1 _ hw.2.2.2) C.2.2.2.2.2.1 hP (wl_D C.2.2.2.2.2.2.2.1) hS k0 k1 3 3 (wE_al hp0) (wE_al hp1) rfl rfl rfl h1 h2 h3 h4 h5 (fun _ _ => rfl) hf (by omega) hd (fun H1 locs1 hP1 hD1 hS1 => ?_)
  rw [wl_set, wE_srl (sE_al hp1)] at hP1
  exact k H1 locs1 la hP1 hS1 hl
theorem v_ldcS (C : Cx n D cy ad nL cc RX4 R p s m args c) (w0 : Nat) (hw : w0 < 7) {index : Nat} (hk : kS.getD w0 0 = index) (hd : decode cc pc = .ok (.ldc index, 2)) (k : V sh n D cy ad nL p l e R s m args below meth c Q (pc + 2) (lv) (.ref (ad (1000 + w0)) :: st) (u)) : V sh n D cy ad nL p l e R s m args below meth c Q (pc) (lv) (st) (u) := by
  subst hk
  exact fun H locs la hP hS hl =>  va_ldcS C.1 C.2.1 C.2.2.2.1 (C.2.2.2.2.2.2.2.2.2.1 w0 hw) hd (k H locs la hP hS hl)
theorem v_sval (C : Cx n D cy ad nL cc RJ0 R p s m args c) {w0 : Nat} (hw : w0 < 7) (hd : decode cc pc = .ok (.getfield 9, 3)) (k : V sh n D cy ad nL p l e R s m args below meth c Q (pc + 3) (lv) (.ref (ad (2000 + w0)) :: st) (u)) : V sh n D cy ad nL p l e R s m args below meth c Q (pc) (lv) (.ref (ad (1000 + w0)) :: st) (u) := fun H locs la hP hS hl =>  vk_getf C.1 C.2.1 (C.2.2.2.2.2.2.2.2.1.1 w0 hw).2.2.1 hS C.2.2.2.1 (C.2.2.2.2.1 _ jl_sv) (fun _ h9 => h9) hd (k H locs la hP hS hl)
theorem v_scod (C : Cx n D cy ad nL cc RJ0 R p s m args c) {w0 : Nat} (hw : w0 < 7) (hd : decode cc pc = .ok (.getfield 15, 3)) (k : V sh n D cy ad nL p l e R s m args below meth c Q (pc + 3) (lv) (.int 0 :: st) (u)) : V sh n D cy ad nL p l e R s m args below meth c Q (pc) (lv) (.ref (ad (1000 + w0)) :: st) (u) := fun H locs la hP hS hl =>  vk_getf C.1 C.2.1 (C.2.2.2.2.2.2.2.2.1.1 w0 hw).2.1 hS C.2.2.2.1 (C.2.2.2.2.1 _ jl_sc) (fun _ h9 => h9) hd (k H locs la hP hS hl)
theorem v_sz (C : Cx n D cy ad nL cc RJ0 R p s m args c) (hd : decode cc pc = .ok (.getstatic 38, 3)) (k : V sh n D cy ad nL p l e R s m args below meth c Q (pc + 3) (lv) (.int 1 :: st) (u)) : V sh n D cy ad nL p l e R s m args below meth c Q (pc) (lv) (st) (u) := fun H locs la hP hS hl =>  va_gets C.1 C.2.1 C.2.2.2.2.2.2.2.2.2.2.1 hS C.2.2.2.1 (C.2.2.2.2.1 _ jl_sz) (fun _ h9 => h9) hd (k H locs la hP hS hl)
theorem v_sf (C : Cx n D cy ad nL cc RJ0 R p s m args c) (hd : decode cc pc = .ok (.getstatic 1053, 3)) (k : V sh n D cy ad nL p l e R s m args below meth c Q (pc + 3) (lv) (fmV (ad 3000) :: st) (u)) : V sh n D cy ad nL p l e R s m args below meth c Q (pc) (lv) (st) (u) := fun H locs la hP hS hl =>  va_gets C.1 C.2.1 C.2.2.2.2.2.2.2.2.2.2.2 hS C.2.2.2.1 (C.2.2.2.2.1 _ jl_sf) (fun _ h9 => h9) hd (k H locs la hP hS hl)
theorem v_slen (C : Cx n D cy ad nL cc own R p s m args c) {w0 : Nat} (hw : w0 < 7) (hd : decode cc pc = .ok (.arraylength, 1)) (k : V sh n D cy ad nL p l e R s m args below meth c Q (pc + 1) (lv) (.int (nI (lenS.getD w0 0)) :: st) (u)) : V sh n D cy ad nL p l e R s m args below meth c Q (pc) (lv) (.ref (ad (2000 + w0)) :: st) (u) := fun H locs la hP hS hl =>  va_tlen C.1 C.2.1 (C.2.2.2.2.2.2.2.2.1.1 w0 hw).2.2.2 hS rfl hd (k H locs la hP hS hl)
theorem v_sbal (C : Cx n D cy ad nL cc own R p s m args c) {O : Type} {out : O} {w0 : Nat} {i : Int32} {A : Option O} (hw : w0 < 7) (hd : decode cc pc = .ok (.baload, 1)) (h : (if inB i (lenS.getD w0 0) then A else none) = some out) (k : A = some out → V sh n D cy ad nL p l e R s m args below meth c Q (pc + 1) (lv) (.int ((bytS.getD w0 []).getD i.toNatClampNeg 0) :: st) (u)) : V sh n D cy ad nL p l e R s m args below meth c Q (pc) (lv) (.int i :: .ref (ad (2000 + w0)) :: st) (u) := by
  by_cases hi : inB i (lenS.getD w0 0)
  · rw [if_pos hi] at h
    exact fun H locs la hP hS hl =>  va_tb C.1 C.2.1 (C.2.2.2.2.2.2.2.2.1.1 w0 hw).2.2.2 hS (inB_vp hi) rfl hd (k h H locs la hP hS hl)
  · rw [if_neg hi] at h; cases h
theorem v_i2c (C : Cx n D cy ad nL cc own R p s m args c) {x : Int32} (hd : decode cc pc = .ok (.i2c, 1)) (k : V sh n D cy ad nL p l e R s m args below meth c Q (pc + 1) (lv) (.int (x.toUInt32 % 65536).toInt32 :: st) (u)) : V sh n D cy ad nL p l e R s m args below meth c Q (pc) (lv) (.int x :: st) (u) := fun H locs la hP hS hl =>  lv_i2c C.1 C.2.1 hd rfl (k H locs la hP hS hl)
end V3
theorem ac_X3_24 : Cond.methodLink RX3 24 arraycopyName ∈ gw ∧ Cond.native arraycopyName ∈ gw ∧ Cond.static arraycopyName ∈ gw ∧ Cond.initialized "java/lang/System" ∈ gw := ⟨(tk_2 (List.mem_of_getElem? (i := 154) rfl) rfl), (tk_2 (List.mem_of_getElem? (i := 156) rfl) rfl), (tk_2 (List.mem_of_getElem? (i := 155) rfl) rfl), (tk_1 (List.mem_of_getElem? (i := 14) rfl) rfl)⟩
theorem ac_X5_19 : Cond.methodLink RX5 19 arraycopyName ∈ gw ∧ Cond.native arraycopyName ∈ gw ∧ Cond.static arraycopyName ∈ gw ∧ Cond.initialized "java/lang/System" ∈ gw := ⟨(tk_4 (List.mem_of_getElem? (i := 65) rfl) rfl), (tk_2 (List.mem_of_getElem? (i := 156) rfl) rfl), (tk_2 (List.mem_of_getElem? (i := 155) rfl) rfl), (tk_1 (List.mem_of_getElem? (i := 14) rfl) rfl)⟩
theorem ac_X7_30 : Cond.methodLink RX7 30 arraycopyName ∈ gw ∧ Cond.native arraycopyName ∈ gw ∧ Cond.static arraycopyName ∈ gw ∧ Cond.initialized "java/lang/System" ∈ gw := ⟨(tk_4 (List.mem_of_getElem? (i := 136) rfl) rfl), (tk_2 (List.mem_of_getElem? (i := 156) rfl) rfl), (tk_2 (List.mem_of_getElem? (i := 155) rfl) rfl), (tk_1 (List.mem_of_getElem? (i := 14) rfl) rfl)⟩

def fu0 : Nat := 100000
theorem bnd {α β : Type} {a : Option α} {f : α → Option β} {o : β} (h : a.bind f = some o) : ∃ x, a = some x ∧ f x = some o := by
  cases a with
  | none => cases h
  | some x => exact ⟨x, rfl, h⟩
theorem chk {α : Type} {q : Prop} [Decidable q] {a : Option α} {o : α} (h : (if q then a else none) = some o) : q ∧ a = some o := by
  by_cases hq : q
  · rw [if_pos hq] at h; exact ⟨hq, h⟩
  · rw [if_neg hq] at h; cases h
theorem chk1 {α : Type} {q : Prop} [Decidable q] {a : Option α} {o : α} (h : (if q then a else none) = some o) : q := (chk h).1
theorem nmd {α β : Type} {w a : α} {f : α → Option β} {o : β} (hw : w = a) (h : (some a).bind f = some o) : f w = some o := by subst hw; exact h
theorem lt24 {w j : Nat} (h : w < 2) (hj : j < 2) : 2 * w + j < 4 := by omega

