def kX3 (c : Nat) (u : Mem) : Option (Bool × Mem) := ((fX4_takeNumber 1 9 u).bind fun q30 => (if q30.1 = true then (if (q30.2.1 184 2).toNatClampNeg < 32 then (if inB ((nI c * 5) + 3) 25 then ((some (si q30.2 (5 * ((q30.2.1 184 2).toNatClampNeg) + 2) ((nI c * 5) + 3).toNatClampNeg (q30.2.1 184 7))).bind fun u33 => ((fX4_takeWord 6 u33).bind fun q35 => (if q35.1 = true then ((fX4_takeNumber 0 999 q35.2).bind fun q38 => (if q38.1 = true then (if (q38.2.1 184 2).toNatClampNeg < 32 then (if inB ((nI c * 5) + 4) 25 then ((some (si q38.2 (5 * ((q38.2.1 184 2).toNatClampNeg) + 2) ((nI c * 5) + 4).toNatClampNeg (q38.2.1 184 7))).bind fun u41 => ((fX4_takeSign 59 u41).bind fun q43 => (some (q43.1, q43.2)))) else none) else none) else (some (false, q38.2)))) else (some (false, q35.2))))) else none) else none) else (some (false, q30.2))))
def kX2 (c : Nat) (o : Int32) (u : Mem) : Option (Bool × Mem) := ((fX4_takeNumber 1 9 u).bind fun q17 => (if q17.1 = true then (if (q17.2.1 184 2).toNatClampNeg < 32 then (if inB ((nI c * 5) + 1) 25 then ((some (si q17.2 (5 * ((q17.2.1 184 2).toNatClampNeg) + 2) ((nI c * 5) + 1).toNatClampNeg (q17.2.1 184 7))).bind fun u20 => ((fX4_takeWord 5 u20).bind fun q22 => (if q22.1 = true then ((fX4_takeKind o q22.2).bind fun q25 => (if q25.1 = true then (if (q25.2.1 184 2).toNatClampNeg < 32 then (if inB ((nI c * 5) + 2) 25 then ((some (si q25.2 (5 * ((q25.2.1 184 2).toNatClampNeg) + 2) ((nI c * 5) + 2).toNatClampNeg (q25.2.1 184 7))).bind fun u28 => kX3 c u28) else none) else none) else (some (false, q25.2)))) else (some (false, q22.2))))) else none) else none) else (some (false, q17.2))))
def kX1 (c : Nat) (u : Mem) : Option (Bool × Mem) := ((fX4_takeKind (-1) u).bind fun q12 => (if q12.1 = true then (if (q12.2.1 184 2).toNatClampNeg < 32 then (if inB ((nI c * 5) + 0) 25 then ((some (si q12.2 (5 * ((q12.2.1 184 2).toNatClampNeg) + 2) ((nI c * 5) + 0).toNatClampNeg (q12.2.1 184 7))).bind fun u15 => kX2 c (q12.2.1 184 7) u15) else none) else none) else (some (false, q12.2))))
theorem chain2 {B : Nat → Int} {L T1 c : Nat} {u0 v0 us vs u v : Mem} (C : CT B L T1 u0 v0) (hc : c < 5) (h : OKs B L T1 u0 v0 u v) (hd : DRF T1 us vs) (hm : MC T1 c us vs u v) {a : Nat} (ha : a < 6) (w0 : u.1 (5 * T1 + 2) (5 * c) = nI a) : RES B L T1 u0 v0 us (kX2 c (nI a) u) ((fX12_chainClause_J65 (nI (6 + 6 * c)) (nI a) v).bind fun w2 => fX12_takes 4 59 w2) := by
  have hT := C.1
  have i1 : nI c * 5 + 1 = nI (5 * c + 1) := by rw [show (5 : Int32) = nI 5 from rfl, pk_mul, show (1 : Int32) = nI 1 from rfl, nI_add, Nat.mul_comm]
  have i2 : nI c * 5 + 2 = nI (5 * c + 2) := by rw [show (5 : Int32) = nI 5 from rfl, pk_mul, show (2 : Int32) = nI 2 from rfl, nI_add, Nat.mul_comm]
  have b1 : inB (nI (5 * c + 1)) 25 := inB_n (by omega) (by omega)
  have b2 : inB (nI (5 * c + 2)) 25 := inB_n (by omega) (by omega)
  unfold kX2 fX12_chainClause_J65
  rw [i1, i2]
  rcases tkN C h (lo := 1) (hi := 9) (by omega) (by omega) with ⟨X, u1, v1, x1, x2, x3, x4, x5, x6, x7⟩ | ⟨u1, v1, x1, x2, x3⟩
  · have x3 : fX4_takeNumber 1 9 u = some (true, u1) := x3
    have x4 : fX12_number 1 9 v = some (nI X, v1) := x4
    rw [x3, Option.bind_some, if_pos rfl, Option.bind_some, x4, Option.bind_some]
    obtain ⟨hm1, er1⟩ := MC_K hm x6
    have t1 : (u1.1 184 2).toNatClampNeg = T1 := by rw [x5.1.2.2.2.2.2.1.1, cl_n (by omega)]
    have hm2 := MC_s hm1 (j := 1) (by omega) (nI X)
    have ok2 : OKs B L T1 u0 v0 (si u1 (5 * T1 + 2) (5 * c + 1) (nI X)) v1 := OK_D hT x5 (fun j hj => si_ro _ _ (by omega)) rfl (fun j hj => rfl) rfl
    have y0 : (si u1 (5 * T1 + 2) (5 * c + 1) (nI X)).1 (5 * T1 + 2) (5 * c) = nI a := by rw [si_1, if_neg (by omega), er1]; exact w0
    have y1 : (si u1 (5 * T1 + 2) (5 * c + 1) (nI X)).1 (5 * T1 + 2) (5 * c + 1) = nI X := by rw [si_1, if_pos ⟨rfl, rfl⟩]
    show RES B L T1 u0 v0 us (if (u1.1 184 2).toNatClampNeg < 32 then (if inB (nI (5 * c + 1)) 25 then ((fX4_takeWord 5 (si u1 (5 * ((u1.1 184 2).toNatClampNeg) + 2) (nI (5 * c + 1)).toNatClampNeg (u1.1 184 7))).bind _) else none) else none) (((fX12_takes 1 2 v1).bind _).bind _)
    rw [t1, if_pos (show T1 < 32 by omega), if_pos b1, cl_n (by omega), x7]
    generalize si u1 (5 * T1 + 2) (5 * c + 1) (nI X) = u2 at *
    rcases tkW C ok2 (i := 5) (by omega) (c := 2) rfl with ⟨u3, v3, z1, z2, z3, z4, z5⟩ | ⟨u3, v3, z1, z2, z3⟩
    · rw [z1, Option.bind_some, z2, Option.bind_some, if_pos rfl]
      obtain ⟨hm3, er3⟩ := MC_K hm2 z4
      show RES B L T1 u0 v0 us ((fX4_takeKind (nI a) u3).bind _) (((fX12_kindOf v3).bind _).bind _)
      rcases tkK C z3 (nI a) with ⟨k, u4, v4, s0, s1, s2, s3, s4, s5, s6, s7⟩ | ⟨k, u4, v4, s0, s1, s2, s3, s4, s5⟩ | ⟨u4, v4, s1, s2, s3⟩
      · rw [s2, Option.bind_some, if_pos rfl, Option.bind_some, s3, Option.bind_some]
        obtain ⟨hm4, er4⟩ := MC_K hm3 s6
        have t4 : (u4.1 184 2).toNatClampNeg = T1 := by rw [s5.1.2.2.2.2.2.1.1, cl_n (by omega)]
        show RES B L T1 u0 v0 us (if (u4.1 184 2).toNatClampNeg < 32 then (if inB (nI (5 * c + 2)) 25 then (kX3 c (si u4 (5 * ((u4.1 184 2).toNatClampNeg) + 2) (nI (5 * c + 2)).toNatClampNeg (u4.1 184 7))) else none) else none) ((if v3.1 0 15 = 0 then (if nI k = nI a then ((fX12_errs 3 v3).bind fun u24 => fX12_chainClause_J104 (nI (6 + 6 * c)) (nI a) (nI X) (nI k) u24) else fX12_chainClause_J104 (nI (6 + 6 * c)) (nI a) (nI X) (nI k) v3) else fX12_chainClause_J104 (nI (6 + 6 * c)) (nI a) (nI X) (nI k) v3).bind fun w2 => fX12_takes 4 59 w2)
        rw [t4, if_pos (show T1 < 32 by omega), if_pos b2, cl_n (by omega), s7, if_pos z3.2.1, if_neg s1]
        unfold fX12_chainClause_J104
        rw [if_pos z3.2.1, s4, Option.bind_some]
        have hm5 := MC_s hm4 (j := 2) (by omega) (nI k)
        have er : ∀ i, i ≠ 5 * c + 2 → (si u4 (5 * T1 + 2) (5 * c + 2) (nI k)).1 (5 * T1 + 2) i = u2.1 (5 * T1 + 2) i := fun i hi => by rw [si_1, if_neg (by omega), er4, er3]
        exact chain3 C hc (OK_D hT s5 (fun j hj => si_ro _ _ (by omega)) rfl (fun j hj => rfl) rfl) hd hm5 ha ⟨x1, x2⟩ s0 (by rw [er _ (by omega)]; exact y0) (by rw [er _ (by omega)]; exact y1) (by rw [si_1, if_pos ⟨rfl, rfl⟩])
      · right
        refine ⟨u4, v4, by rw [s2, Option.bind_some]; rfl, ?_, s5⟩
        rw [s3, Option.bind_some]
        show (if v3.1 0 15 = 0 then (if nI k = nI a then ((fX12_errs 3 v3).bind fun u24 => fX12_chainClause_J104 (nI (6 + 6 * c)) (nI a) (nI X) (nI k) u24) else _) else _).bind _ = _
        rw [if_pos z3.2.1, if_pos s1, s4, Option.bind_some, c104_no s5.2, Option.bind_some, tak_no s5.2]
      · right
        refine ⟨u4, v4, by rw [s1, Option.bind_some]; rfl, ?_, s3⟩
        rw [s2, Option.bind_some]
        show (if v4.1 0 15 = 0 then _ else fX12_chainClause_J104 _ _ _ _ v4).bind _ = _
        rw [if_neg (wr_1 s3.2), c104_no s3.2, Option.bind_some, tak_no s3.2]
    · right
      refine ⟨u3, v3, by rw [z1, Option.bind_some]; rfl, ?_, z3⟩
      rw [z2, Option.bind_some, kin_no z3.2, Option.bind_some]
      show (if v3.1 0 15 = 0 then _ else fX12_chainClause_J104 _ _ _ _ v3).bind _ = _
      rw [if_neg (wr_1 z3.2), c104_no z3.2, Option.bind_some, tak_no z3.2]
  · have x1 : fX4_takeNumber 1 9 u = some (false, u1) := x1
    have x2 : fX12_number 1 9 v = some (nI 1, v1) := x2
    right
    refine ⟨u1, v1, by rw [x1, Option.bind_some]; rfl, ?_, x3⟩
    rw [x2, Option.bind_some]
    show ((fX12_takes 1 2 v1).bind _).bind _ = _
    rw [tak_no x3.2, Option.bind_some, kin_no x3.2, Option.bind_some]
    show (if v1.1 0 15 = 0 then _ else fX12_chainClause_J104 _ _ _ _ v1).bind _ = _
    rw [if_neg (wr_1 x3.2), c104_no x3.2, Option.bind_some, tak_no x3.2]
theorem chain1 {B : Nat → Int} {L T1 c : Nat} {u0 v0 us vs u v : Mem} (C : CT B L T1 u0 v0) (hc : c < 5) (h : OKs B L T1 u0 v0 u v) (hd : DRF T1 us vs) (hm : MC T1 c us vs u v) : RES B L T1 u0 v0 us (kX1 c u) (((fX12_kindOf v).bind fun q10 => (if (q10.2.1 0 15) = 0 then ((fX12_next q10.2).bind fun u13 => fX12_chainClause_J65 (nI (6 + 6 * c)) q10.1 u13) else fX12_chainClause_J65 (nI (6 + 6 * c)) q10.1 q10.2)).bind fun w2 => fX12_takes 4 59 w2) := by
  have hT := C.1
  have i0 : nI c * 5 + 0 = nI (5 * c) := by rw [show (5 : Int32) = nI 5 from rfl, pk_mul, show (0 : Int32) = nI 0 from rfl, nI_add, Nat.mul_comm]; rfl
  have b0 : inB (nI (5 * c)) 25 := inB_n (by omega) (by omega)
  unfold kX1
  rw [i0]
  rcases tkK C h (-1) with ⟨k, u4, v4, s0, s1, s2, s3, s4, s5, s6, s7⟩ | ⟨k, u4, v4, s0, s1, s2, s3, s4, s5⟩ | ⟨u4, v4, s1, s2, s3⟩
  · rw [s2, Option.bind_some, if_pos rfl, Option.bind_some, s3, Option.bind_some]
    obtain ⟨hm4, er4⟩ := MC_K hm s6
    have t4 : (u4.1 184 2).toNatClampNeg = T1 := by rw [s5.1.2.2.2.2.2.1.1, cl_n (by omega)]
    show RES B L T1 u0 v0 us (if (u4.1 184 2).toNatClampNeg < 32 then (if inB (nI (5 * c)) 25 then (kX2 c (u4.1 184 7) (si u4 (5 * ((u4.1 184 2).toNatClampNeg) + 2) (nI (5 * c)).toNatClampNeg (u4.1 184 7))) else none) else none) ((if v.1 0 15 = 0 then ((fX12_next v).bind fun u13 => fX12_chainClause_J65 (nI (6 + 6 * c)) (nI k) u13) else _).bind fun w2 => fX12_takes 4 59 w2)
    rw [t4, if_pos (show T1 < 32 by omega), if_pos b0, cl_n (by omega), s7, if_pos h.2.1, s4, Option.bind_some]
    have hm5 := MC_s hm4 (j := 0) (by omega) (nI k)
    rw [Nat.add_zero] at hm5
    exact chain2 C hc (OK_D hT s5 (fun j hj => si_ro _ _ (by omega)) rfl (fun j hj => rfl) rfl) hd hm5 s0 (by rw [si_1, if_pos ⟨rfl, rfl⟩])
  · have : (nI k).toInt = (-1 : Int32).toInt := by rw [s1]
    rw [nI_n (by omega)] at this
    have e : (-1 : Int32).toInt = -1 := rfl
    omega
  · right
    refine ⟨u4, v4, by rw [s1, Option.bind_some]; rfl, ?_, s3⟩
    rw [s2, Option.bind_some]
    show (if v4.1 0 15 = 0 then _ else fX12_chainClause_J65 _ _ v4).bind _ = _
    rw [if_neg (wr_1 s3.2), c65_no s3.2, Option.bind_some, tak_no s3.2]
theorem chainC {B : Nat → Int} {L T1 : Nat} {u0 v0 u v : Mem} (C : CT B L T1 u0 v0) (h : OKs B L T1 u0 v0 u v) (hd : DRF T1 u v) : RES B L T1 u0 v0 u (fX4_chainClause u) ((fX12_next v).bind fun w => (fX12_chainClause w).bind fun w2 => fX12_takes 4 59 w2) := by
  have hT := C.1
  obtain ⟨u1, v1, n1, n2, h1, k1, -⟩ := nx C h
  unfold fX4_chainClause fX12_chainClause
  rw [n1, Option.bind_some, n2, Option.bind_some]
  rcases atN h1 (lo := 0) (hi := 4) (by omega) (by omega) with ⟨c, x1, x2, x3, x4, x5, x6⟩ | ⟨u2, v2, x1, x2, x3, x4⟩
  · have x3 : fX4_atNumber 0 4 u1 = some (true, u1) := x3
    have e6 : (6 : Int32) + nI c = nI (6 + c) := nI_add 6 c
    rw [x3, Option.bind_some, if_pos rfl, if_pos x4, x5, in_sp2 (nI c) (L := 0) (Hh := 4) rfl rfl, Option.bind_some, nI_n (by omega), decide_eq_true (by omega), if_pos rfl, e6]
    show RES B L T1 u0 v0 u ((fX4_once (6 + (u1.1 184 6)) u1).bind _) _
    rw [x6, e6]
    rcases onc C h1 (j := 6 + c) (by omega) with ⟨o1, o2, o3, -⟩ | ⟨u3, v3, o1, o2, o3, -⟩
    · rw [o1, Option.bind_some, if_pos rfl, o2, Option.bind_some]
      have kp2 : KP T1 u1 v1 (si u1 185 (6 + c) 1) (si v1 7 (6 + c) 1) := ⟨fun j a b => si_ro _ _ (by omega), si_ro _ _ (by omega)⟩
      have hv6 : (si u1 185 (6 + c) 1).1 184 6 = nI c := by rw [si_ro _ _ (by omega)]; exact x6
      have hv3 : (si v1 7 (6 + c) 1).1 0 13 = 3 := by rw [si_ro _ _ (by omega)]; exact x4
      have hv4 : (si v1 7 (6 + c) 1).1 0 14 = nI c := by rw [si_ro _ _ (by omega)]; exact x5
      generalize si u1 185 (6 + c) 1 = u3 at *
      generalize si v1 7 (6 + c) 1 = v3 at *
      obtain ⟨u4, v4, m1, m2, m3, m4, -⟩ := nx C o3
      unfold fX12_chainClause_J34
      have hn : fX12_number 0 4 v3 = some (nI c, v4) := num_ok (lo := 0) (hi := 4) o3.2.1 hv3 hv4 x1 x2 (by omega) m2
      have e66 : (6 : Int32) + 6 * nI c = nI (6 + 6 * c) := by rw [show (6 : Int32) = nI 6 from rfl, pk_mul, nI_add]
      rw [hn, Option.bind_some, e66]
      have hkp := KP_tr (KP_tr k1 kp2) m4
      have hm : MC T1 c u v u4 v4 := ⟨fun k a b _ => hkp.1 k a b, fun i _ => by rw [hkp.1 _ (by omega) (by omega)], hkp.2⟩
      have := chain1 C (show c < 5 by omega) m3 hd hm
      unfold kX1 kX2 kX3 at this
      rw [← hv6] at this
      rw [show ∀ K, (fX4_next u3).bind K = K u4 from fun K => by rw [m1, Option.bind_some]]
      exact this
    · rw [o1, Option.bind_some, o2, Option.bind_some]
      right
      exact ⟨u3, v3, rfl, by rw [c34_no o3.2, Option.bind_some, tak_no o3.2], o3⟩
  · have x1 : fX4_atNumber 0 4 u1 = some (false, u2) := x1
    have x2 : fX12_number 0 4 v1 = some (nI 0, v2) := x2
    have hJ : fX12_chainClause_J34 v1 = some v2 := by
      unfold fX12_chainClause_J34
      rw [x2, Option.bind_some]
      show (fX12_kindOf v2).bind _ = _
      rw [kin_no x3.2, Option.bind_some]
      show (if v2.1 0 15 = 0 then _ else fX12_chainClause_J65 _ _ v2) = _
      rw [if_neg (wr_1 x3.2), c65_no x3.2]
    right
    refine ⟨u2, v2, by rw [x1, Option.bind_some]; rfl, ?_, x3⟩
    have hfin : (fX12_chainClause_J34 v1).bind (fun w2 => fX12_takes 4 59 w2) = some v2 := by rw [hJ, Option.bind_some, tak_no x3.2]
    by_cases h3 : v1.1 0 13 = 3
    · rw [if_pos h3, in_sp2 (v1.1 0 14) (L := 0) (Hh := 4) rfl rfl, Option.bind_some, decide_eq_false (show ¬ (0 ≤ (v1.1 0 14).toInt ∧ (v1.1 0 14).toInt ≤ 4) from x4 h3), if_neg (by decide)]
      exact hfin
    · rw [if_neg h3]; exact hfin
