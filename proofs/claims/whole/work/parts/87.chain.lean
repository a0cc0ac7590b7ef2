theorem chOk_fr {h h2 : Nat → Int32} (e : ∀ k, k < 6 → h2 k = h k) (hc : chOk h) : chOk h2 := by
  unfold chOk at *
  rw [e 0 (by omega), e 1 (by omega), e 2 (by omega), e 3 (by omega), e 4 (by omega), e 5 (by omega)]
  rcases hc with ⟨a, b⟩ | hc
  · exact Or.inl ⟨a, fun j hj => by rw [e _ (by omega)]; exact b j hj⟩
  · exact Or.inr hc
def MC (T1 c : Nat) (us vs u v : Mem) : Prop := (∀ k, 5 * T1 ≤ k → k < 5 * T1 + 5 → k ≠ 5 * T1 + 2 → u.1 k = us.1 k) ∧ (∀ i, i < 5 * c ∨ 5 * c + 5 ≤ i → u.1 (5 * T1 + 2) i = us.1 (5 * T1 + 2) i) ∧ v.1 8 = vs.1 8
theorem MC_K {T1 c : Nat} {us vs u v u2 v2 : Mem} (h : MC T1 c us vs u v) (k : KP T1 u v u2 v2) : MC T1 c us vs u2 v2 ∧ u2.1 (5 * T1 + 2) = u.1 (5 * T1 + 2) := ⟨⟨fun j a b d => by rw [k.1 j a b]; exact h.1 j a b d, fun i hi => by rw [k.1 _ (by omega) (by omega)]; exact h.2.1 i hi, k.2.trans h.2.2⟩, k.1 _ (by omega) (by omega)⟩
theorem MC_s {T1 c : Nat} {us vs u v : Mem} (h : MC T1 c us vs u v) {j : Nat} (hj : j < 5) (x : Int32) : MC T1 c us vs (si u (5 * T1 + 2) (5 * c + j) x) v := ⟨fun k a b d => by rw [si_ro _ _ d]; exact h.1 k a b d, fun i hi => by rw [si_1, if_neg (by omega)]; exact h.2.1 i hi, h.2.2⟩
theorem DRF_c {T1 c : Nat} {us vs u v v2 : Mem} (hc : c < 5) (h : DRF T1 us vs) (hm : MC T1 c us vs u v) {a b d e f : Nat} (ha : a < 6) (hb : 1 ≤ b ∧ b ≤ 9) (hd : d < 6) (he : 1 ≤ e ∧ e ≤ 9) (hf : f ≤ 999) (w0 : u.1 (5 * T1 + 2) (5 * c) = nI a) (w1 : u.1 (5 * T1 + 2) (5 * c + 1) = nI b) (w2 : u.1 (5 * T1 + 2) (5 * c + 2) = nI d) (w3 : u.1 (5 * T1 + 2) (5 * c + 3) = nI e) (w4 : u.1 (5 * T1 + 2) (5 * c + 4) = nI f) (vo : ∀ j, j < 6 + 6 * c ∨ 6 + 6 * c + 6 ≤ j → v2.1 8 j = v.1 8 j) (x0 : v2.1 8 (6 + 6 * c) = 1) (x1 : v2.1 8 (6 + 6 * c + 1) = nI a) (x2 : v2.1 8 (6 + 6 * c + 2) = nI b) (x3 : v2.1 8 (6 + 6 * c + 3) = nI d) (x4 : v2.1 8 (6 + 6 * c + 4) = nI e) (x5 : v2.1 8 (6 + 6 * c + 5) = nI f) : DRF T1 u v2 := by
  obtain ⟨⟨l1, l2, l3, l4⟩, o1, o2, o3⟩ := h
  obtain ⟨m1, m2, m3⟩ := hm
  rw [m3] at vo
  have r1 := m1 (5 * T1 + 1) (by omega) (by omega) (by omega)
  have r3 := m1 (5 * T1 + 3) (by omega) (by omega) (by omega)
  have r4 := m1 (5 * T1 + 4) (by omega) (by omega) (by omega)
  refine ⟨⟨fun j hj => ?_, fun c2 hc2 j hj => ?_, fun n hn => ?_, fun n hn p hp j hj => ?_⟩, fun j hj => ?_, fun c2 hc2 => ?_, fun t ht => ?_⟩
  · rw [vo j (by omega), r1]; exact l1 j hj
  · by_cases h9 : c2 = c
    · subst h9
      rcases (show j = 0 ∨ j = 1 ∨ j = 2 ∨ j = 3 ∨ j = 4 by omega) with rfl | rfl | rfl | rfl | rfl
      · exact w0.trans x1.symm
      · exact w1.trans x2.symm
      · exact w2.trans x3.symm
      · exact w3.trans x4.symm
      · exact w4.trans x5.symm
    · rw [vo _ (by omega), m2 _ (by omega)]; exact l2 c2 hc2 j hj
  · rw [vo _ (by omega), r3]; exact l3 n hn
  · rw [vo _ (by omega)] at hp
    rw [vo _ (by omega), r4]; exact l4 n hn p hp j hj
  · rw [vo j (by omega)]; exact o1 j hj
  · by_cases h9 : c2 = c
    · subst h9
      right
      refine ⟨x0, ?_, ?_, ?_, ?_, ?_⟩
      · show 0 ≤ (v2.1 8 (6 + 6 * c2 + 1)).toInt ∧ (v2.1 8 (6 + 6 * c2 + 1)).toInt < 6
        rw [x1, nI_n (by omega)]; omega
      · show 1 ≤ (v2.1 8 (6 + 6 * c2 + 2)).toInt ∧ (v2.1 8 (6 + 6 * c2 + 2)).toInt ≤ 9
        rw [x2, nI_n (by omega)]; omega
      · show 0 ≤ (v2.1 8 (6 + 6 * c2 + 3)).toInt ∧ (v2.1 8 (6 + 6 * c2 + 3)).toInt < 6
        rw [x3, nI_n (by omega)]; omega
      · show 1 ≤ (v2.1 8 (6 + 6 * c2 + 4)).toInt ∧ (v2.1 8 (6 + 6 * c2 + 4)).toInt ≤ 9
        rw [x4, nI_n (by omega)]; omega
      · show 0 ≤ (v2.1 8 (6 + 6 * c2 + 5)).toInt ∧ (v2.1 8 (6 + 6 * c2 + 5)).toInt ≤ 999
        rw [x5, nI_n (by omega)]; omega
    · exact chOk_fr (fun k hk => vo _ (by omega)) (o2 c2 hc2)
  · have e : (fun k2 => v2.1 8 (36 + 25 * t + k2)) = fun k2 => vs.1 8 (36 + 25 * t + k2) := funext fun k2 => vo _ (by omega)
    rw [e]; exact o3 t ht
theorem c115_no {v : Mem} (h : 0 < (v.1 0 15).toInt) (a b c d : Int32) : fX12_chainClause_J115 a b c d v = some v := by
  unfold fX12_chainClause_J115
  rw [num_no h, Option.bind_some]
  show (fX12_takes 1 3 v).bind _ = _
  rw [tak_no h, Option.bind_some, num_no h, Option.bind_some]
  show (if v.1 0 15 = 0 then _ else some v) = _
  rw [if_neg (wr_1 h)]
theorem c104_no {v : Mem} (h : 0 < (v.1 0 15).toInt) (a b c d : Int32) : fX12_chainClause_J104 a b c d v = some v := by
  unfold fX12_chainClause_J104
  rw [if_neg (wr_1 h), c115_no h]
theorem c65_no {v : Mem} (h : 0 < (v.1 0 15).toInt) (a b : Int32) : fX12_chainClause_J65 a b v = some v := by
  unfold fX12_chainClause_J65
  rw [num_no h, Option.bind_some]
  show (fX12_takes 1 2 v).bind _ = _
  rw [tak_no h, Option.bind_some, kin_no h, Option.bind_some]
  show (if v.1 0 15 = 0 then _ else fX12_chainClause_J104 _ _ _ _ v) = _
  rw [if_neg (wr_1 h), c104_no h]
theorem c34_no {v : Mem} (h : 0 < (v.1 0 15).toInt) : fX12_chainClause_J34 v = some v := by
  unfold fX12_chainClause_J34
  rw [num_no h, Option.bind_some]
  show (fX12_kindOf v).bind _ = _
  rw [kin_no h, Option.bind_some]
  show (if v.1 0 15 = 0 then _ else fX12_chainClause_J65 _ _ v) = _
  rw [if_neg (wr_1 h), c65_no h]
/-- the end of a chain's clause: from the second count on -/
theorem chain3 {B : Nat → Int} {L T1 c : Nat} {u0 v0 us vs u v : Mem} (C : CT B L T1 u0 v0) (hc : c < 5) (h : OKs B L T1 u0 v0 u v) (hd : DRF T1 us vs) (hm : MC T1 c us vs u v) {a b d : Nat} (ha : a < 6) (hb : 1 ≤ b ∧ b ≤ 9) (hdd : d < 6) (w0 : u.1 (5 * T1 + 2) (5 * c) = nI a) (w1 : u.1 (5 * T1 + 2) (5 * c + 1) = nI b) (w2 : u.1 (5 * T1 + 2) (5 * c + 2) = nI d) : RES B L T1 u0 v0 us ((fX4_takeNumber 1 9 u).bind fun q30 => (if q30.1 = true then (if (q30.2.1 184 2).toNatClampNeg < 32 then (if inB ((nI c * 5) + 3) 25 then ((some (si q30.2 (5 * ((q30.2.1 184 2).toNatClampNeg) + 2) ((nI c * 5) + 3).toNatClampNeg (q30.2.1 184 7))).bind fun u33 => ((fX4_takeWord 6 u33).bind fun q35 => (if q35.1 = true then ((fX4_takeNumber 0 999 q35.2).bind fun q38 => (if q38.1 = true then (if (q38.2.1 184 2).toNatClampNeg < 32 then (if inB ((nI c * 5) + 4) 25 then ((some (si q38.2 (5 * ((q38.2.1 184 2).toNatClampNeg) + 2) ((nI c * 5) + 4).toNatClampNeg (q38.2.1 184 7))).bind fun u41 => ((fX4_takeSign 59 u41).bind fun q43 => (some (q43.1, q43.2)))) else none) else none) else (some (false, q38.2)))) else (some (false, q35.2))))) else none) else none) else (some (false, q30.2)))) ((fX12_chainClause_J115 (nI (6 + 6 * c)) (nI a) (nI b) (nI d) v).bind fun w2 => fX12_takes 4 59 w2) := by
  have hT := C.1
  have i3 : nI c * 5 + 3 = nI (5 * c + 3) := by rw [show (5 : Int32) = nI 5 from rfl, pk_mul, show (3 : Int32) = nI 3 from rfl, nI_add, Nat.mul_comm]
  have i4 : nI c * 5 + 4 = nI (5 * c + 4) := by rw [show (5 : Int32) = nI 5 from rfl, pk_mul, show (4 : Int32) = nI 4 from rfl, nI_add, Nat.mul_comm]
  have b3 : inB (nI (5 * c + 3)) 25 := inB_n (by omega) (by omega)
  have b4 : inB (nI (5 * c + 4)) 25 := inB_n (by omega) (by omega)
  rw [i3, i4]
  unfold fX12_chainClause_J115
  rcases tkN C h (lo := 1) (hi := 9) (by omega) (by omega) with ⟨X, u1, v1, x1, x2, x3, x4, x5, x6, x7⟩ | ⟨u1, v1, x1, x2, x3⟩
  · have x3 : fX4_takeNumber 1 9 u = some (true, u1) := x3
    have x4 : fX12_number 1 9 v = some (nI X, v1) := x4
    rw [x3, Option.bind_some, if_pos rfl, Option.bind_some, x4, Option.bind_some]
    obtain ⟨hm1, er1⟩ := MC_K hm x6
    have t1 : (u1.1 184 2).toNatClampNeg = T1 := by rw [x5.1.2.2.2.2.2.1.1, cl_n (by omega)]
    have hm2 := MC_s hm1 (j := 3) (by omega) (nI X)
    have ok2 : OKs B L T1 u0 v0 (si u1 (5 * T1 + 2) (5 * c + 3) (nI X)) v1 := OK_D hT x5 (fun j hj => si_ro _ _ (by omega)) rfl (fun j hj => rfl) rfl
    have y0 : (si u1 (5 * T1 + 2) (5 * c + 3) (nI X)).1 (5 * T1 + 2) (5 * c) = nI a := by rw [si_1, if_neg (by omega), er1]; exact w0
    have y1 : (si u1 (5 * T1 + 2) (5 * c + 3) (nI X)).1 (5 * T1 + 2) (5 * c + 1) = nI b := by rw [si_1, if_neg (by omega), er1]; exact w1
    have y2 : (si u1 (5 * T1 + 2) (5 * c + 3) (nI X)).1 (5 * T1 + 2) (5 * c + 2) = nI d := by rw [si_1, if_neg (by omega), er1]; exact w2
    have y3 : (si u1 (5 * T1 + 2) (5 * c + 3) (nI X)).1 (5 * T1 + 2) (5 * c + 3) = nI X := by rw [si_1, if_pos ⟨rfl, rfl⟩]
    show RES B L T1 u0 v0 us (if (u1.1 184 2).toNatClampNeg < 32 then (if inB (nI (5 * c + 3)) 25 then ((fX4_takeWord 6 (si u1 (5 * ((u1.1 184 2).toNatClampNeg) + 2) (nI (5 * c + 3)).toNatClampNeg (u1.1 184 7))).bind _) else none) else none) (((fX12_takes 1 3 v1).bind _).bind _)
    rw [t1, if_pos (show T1 < 32 by omega), if_pos b3, cl_n (by omega), x7]
    generalize si u1 (5 * T1 + 2) (5 * c + 3) (nI X) = u2 at *
    rcases tkW C ok2 (i := 6) (by omega) (c := 3) rfl with ⟨u3, v3, z1, z2, z3, z4, z5⟩ | ⟨u3, v3, z1, z2, z3⟩
    · rw [z1, Option.bind_some, z2, Option.bind_some, if_pos rfl]
      obtain ⟨hm3, er3⟩ := MC_K hm2 z4
      rcases tkN C z3 (lo := 0) (hi := 999) (by omega) (by omega) with ⟨Y, u4, v4, s1, s2, s3, s4, s5, s6, s7⟩ | ⟨u4, v4, s1, s2, s3⟩
      · have s3 : fX4_takeNumber 0 999 u3 = some (true, u4) := s3
        have s4 : fX12_number 0 999 v3 = some (nI Y, v4) := s4
        show RES B L T1 u0 v0 us ((fX4_takeNumber 0 999 u3).bind _) (((fX12_number 0 999 v3).bind _).bind _)
        rw [s3, Option.bind_some, if_pos rfl, Option.bind_some, s4, Option.bind_some]
        obtain ⟨hm4, er4⟩ := MC_K hm3 s6
        have t4 : (u4.1 184 2).toNatClampNeg = T1 := by rw [s5.1.2.2.2.2.2.1.1, cl_n (by omega)]
        have j1 : nI (6 + 6 * c) + 1 = nI (6 + 6 * c + 1) := nI_add _ 1
        have j2 : nI (6 + 6 * c) + 2 = nI (6 + 6 * c + 2) := nI_add _ 2
        have j3 : nI (6 + 6 * c) + 3 = nI (6 + 6 * c + 3) := nI_add _ 3
        have j4 : nI (6 + 6 * c) + 4 = nI (6 + 6 * c + 4) := nI_add _ 4
        have j5 : nI (6 + 6 * c) + 5 = nI (6 + 6 * c + 5) := nI_add _ 5
        have bb := fun (m : Nat) (hm : m < 220) => inB_n (i := m) (n := 220) hm (by omega)
        show RES B L T1 u0 v0 us (if (u4.1 184 2).toNatClampNeg < 32 then (if inB (nI (5 * c + 4)) 25 then ((fX4_takeSign 59 (si u4 (5 * ((u4.1 184 2).toNatClampNeg) + 2) (nI (5 * c + 4)).toNatClampNeg (u4.1 184 7))).bind fun q43 => (some (q43.1, q43.2))) else none) else none) ((if v4.1 0 15 = 0 then (if inB (nI (6 + 6 * c)) 220 then (if inB (nI (6 + 6 * c) + 1) 220 then ((some (si (si v4 8 (nI (6 + 6 * c)).toNatClampNeg 1) 8 (nI (6 + 6 * c) + 1).toNatClampNeg (nI a))).bind fun u35 => (if inB (nI (6 + 6 * c) + 2) 220 then (if inB (nI (6 + 6 * c) + 3) 220 then ((some (si (si u35 8 (nI (6 + 6 * c) + 2).toNatClampNeg (nI b)) 8 (nI (6 + 6 * c) + 3).toNatClampNeg (nI d))).bind fun u36 => (if inB (nI (6 + 6 * c) + 4) 220 then (if inB (nI (6 + 6 * c) + 5) 220 then (some (si (si u36 8 (nI (6 + 6 * c) + 4).toNatClampNeg (nI X)) 8 (nI (6 + 6 * c) + 5).toNatClampNeg (nI Y))) else none) else none)) else none) else none)) else none) else none) else (some v4)).bind fun w2 => fX12_takes 4 59 w2)
        rw [t4, if_pos (show T1 < 32 by omega), if_pos b4, cl_n (by omega), s7, if_pos s5.2.1, if_pos (bb _ (by omega)), j1, if_pos (bb _ (by omega)), Option.bind_some, j2, if_pos (bb _ (by omega)), j3, if_pos (bb _ (by omega)), Option.bind_some, j4, if_pos (bb _ (by omega)), j5, if_pos (bb _ (by omega)), Option.bind_some, cl_n (show 6 + 6 * c < 2147483648 by omega), cl_n (show 6 + 6 * c + 1 < 2147483648 by omega), cl_n (show 6 + 6 * c + 2 < 2147483648 by omega), cl_n (show 6 + 6 * c + 3 < 2147483648 by omega), cl_n (show 6 + 6 * c + 4 < 2147483648 by omega), cl_n (show 6 + 6 * c + 5 < 2147483648 by omega)]
        generalize hv5 : si (si (si (si (si (si v4 8 (6 + 6 * c) 1) 8 (6 + 6 * c + 1) (nI a)) 8 (6 + 6 * c + 2) (nI b)) 8 (6 + 6 * c + 3) (nI d)) 8 (6 + 6 * c + 4) (nI X)) 8 (6 + 6 * c + 5) (nI Y) = v5
        have q0 : ∀ j, j ≠ 8 → v5.1 j = v4.1 j := fun j hj => by rw [← hv5, si_ro _ _ hj, si_ro _ _ hj, si_ro _ _ hj, si_ro _ _ hj, si_ro _ _ hj, si_ro _ _ hj]
        have q1 : v5.2 = v4.2 := by rw [← hv5]; rfl
        have q2 : ∀ j, j < 6 + 6 * c ∨ 6 + 6 * c + 6 ≤ j → v5.1 8 j = v4.1 8 j := fun j hj => by rw [← hv5, si_1, if_neg (by omega), si_1, if_neg (by omega), si_1, if_neg (by omega), si_1, if_neg (by omega), si_1, if_neg (by omega), si_1, if_neg (by omega)]
        have g0 : v5.1 8 (6 + 6 * c) = 1 := by rw [← hv5, si_1, if_neg (by omega), si_1, if_neg (by omega), si_1, if_neg (by omega), si_1, if_neg (by omega), si_1, if_neg (by omega), si_1, if_pos ⟨rfl, rfl⟩]
        have g1 : v5.1 8 (6 + 6 * c + 1) = nI a := by rw [← hv5, si_1, if_neg (by omega), si_1, if_neg (by omega), si_1, if_neg (by omega), si_1, if_neg (by omega), si_1, if_pos ⟨rfl, rfl⟩]
        have g2 : v5.1 8 (6 + 6 * c + 2) = nI b := by rw [← hv5, si_1, if_neg (by omega), si_1, if_neg (by omega), si_1, if_neg (by omega), si_1, if_pos ⟨rfl, rfl⟩]
        have g3 : v5.1 8 (6 + 6 * c + 3) = nI d := by rw [← hv5, si_1, if_neg (by omega), si_1, if_neg (by omega), si_1, if_pos ⟨rfl, rfl⟩]
        have g4 : v5.1 8 (6 + 6 * c + 4) = nI X := by rw [← hv5, si_1, if_neg (by omega), si_1, if_pos ⟨rfl, rfl⟩]
        have g5 : v5.1 8 (6 + 6 * c + 5) = nI Y := by rw [← hv5, si_1, if_pos ⟨rfl, rfl⟩]
        have hm5 := MC_s hm4 (j := 4) (by omega) (nI Y)
        have er : ∀ i, i ≠ 5 * c + 4 → (si u4 (5 * T1 + 2) (5 * c + 4) (nI Y)).1 (5 * T1 + 2) i = u2.1 (5 * T1 + 2) i := fun i hi => by rw [si_1, if_neg (by omega), er4, er3]
        have ok5 : OKs B L T1 u0 v0 (si u4 (5 * T1 + 2) (5 * c + 4) (nI Y)) v5 := OK_D hT s5 (fun j hj => si_ro _ _ (by omega)) rfl q0 q1
        refine endC C ok5 (DRF_c hc hd hm5 ha hb hdd ⟨x1, x2⟩ s2 ?_ ?_ ?_ ?_ ?_ q2 g0 g1 g2 g3 g4 g5) (hm5.1 _ (by omega) (by omega) (by omega))
        · rw [er _ (by omega)]; exact y0
        · rw [er _ (by omega)]; exact y1
        · rw [er _ (by omega)]; exact y2
        · rw [er _ (by omega)]; exact y3
        · rw [si_1, if_pos ⟨rfl, rfl⟩]
      · have s1 : fX4_takeNumber 0 999 u3 = some (false, u4) := s1
        have s2 : fX12_number 0 999 v3 = some (nI 0, v4) := s2
        right
        refine ⟨u4, v4, ?_, ?_, s3⟩
        · show (fX4_takeNumber 0 999 u3).bind _ = _
          rw [s1, Option.bind_some]; rfl
        · rw [s2, Option.bind_some]
          show (if v4.1 0 15 = 0 then _ else some v4).bind _ = _
          rw [if_neg (wr_1 s3.2), Option.bind_some, tak_no s3.2]
    · right
      refine ⟨u3, v3, by rw [z1, Option.bind_some]; rfl, ?_, z3⟩
      rw [z2, Option.bind_some, num_no z3.2, Option.bind_some]
      show (if v3.1 0 15 = 0 then _ else some v3).bind _ = _
      rw [if_neg (wr_1 z3.2), Option.bind_some, tak_no z3.2]
  · have x1 : fX4_takeNumber 1 9 u = some (false, u1) := x1
    have x2 : fX12_number 1 9 v = some (nI 1, v1) := x2
    right
    refine ⟨u1, v1, by rw [x1, Option.bind_some]; rfl, ?_, x3⟩
    rw [x2, Option.bind_some]
    show ((fX12_takes 1 3 v1).bind _).bind _ = _
    rw [tak_no x3.2, Option.bind_some, num_no x3.2, Option.bind_some]
    show (if v1.1 0 15 = 0 then _ else some v1).bind _ = _
    rw [if_neg (wr_1 x3.2), Option.bind_some, tak_no x3.2]
