theorem t255_no {v : Mem} (h : 0 < (v.1 0 15).toInt) (Rc : Int32 → Int32 → Bool → Mem → Option Mem) (a3 a4 a5 : Int32) : fX12_tableClause_J255 Rc a3 a4 a5 v = Rc a4 a5 false v := by
  unfold fX12_tableClause_J255
  rw [if_neg (wr_1 h), if_neg (by decide)]
theorem l88_f (a3 : Int32) (t : Nat) (a4 a5 : Int32) (v : Mem) : fX12_tableClause_L88 a3 (t + 1) a4 a5 false v = some v := by
  rw [fX12_tableClause_L88, if_neg (by decide)]
theorem lst_e {ah : Int} (h1 : -1 ≤ ah) (h2 : ah ≤ 999) : (if 0 ≤ zI ah then zI ah + 1 else 0) = nI (ah + 1).toNat := by
  have e0 : (0 : Int32).toInt = 0 := rfl
  rw [zI_nat, show (((ah + 1).toNat : Nat) : Int) = ah + 1 by omega]
  by_cases h : 0 ≤ ah
  · rw [if_pos (by rw [i_le, zI_n (by omega) (by omega)]; omega), show (1 : Int32) = zI 1 from rfl, zI_add]
  · rw [if_neg (by rw [i_le, zI_n (by omega) (by omega)]; omega), show ah + 1 = 0 by omega]; rfl
/-- what is left of a point once wrong: after the heat, the sign, the low, the word -/
theorem p1_no {v : Mem} (h : 0 < (v.1 0 15).toInt) (K : Int32 × Mem → Option Mem) (a : Int32) : (fX12_number a 9999 v).bind K = K (a, v) := by rw [num_no h, Option.bind_some]
def kXt : Int32 → Mem → Option (Bool × Mem) := fun v31 u32 => ((fX4_atNumber v31 999 u32).bind fun q34 => (if q34.1 = true then ((fX4_blame 5 q34.2).bind fun q37 => (some ((if q37.1 = true then true else false), q37.2))) else (some (false, q34.2))))
set_option maxHeartbeats 4000000 in
theorem tab_loop {B : Nat → Int} {L T1 t : Nat} {u0 v0 us vs : Mem} (C : CT B L T1 u0 v0) (ht : t < 7) (hd : DRF T1 us vs) : ∀ (d n tX tM : Nat) (ah : Int) (u v : Mem), n + d = 8 → d < tX → d + 1 < tM → OKs B L T1 u0 v0 u v → MT T1 t n ah us vs u v → (-1 ≤ ah ∧ ah ≤ 999) → (0 < n → 0 ≤ ah) → RES B L T1 u0 v0 us (fX4_tableClause_L18 (nI t) kXt tX (nI (ah + 1).toNat) (nI n) u) ((fX12_tableClause_L88 (nI (36 + 25 * t)) tM (nI n) (zI ah) true v).bind fun w2 => fX12_takes 4 59 w2) := by
  have hT := C.1
  have e8 : (8 : Int32).toInt = 8 := rfl
  have e9 : (999 : Int32).toInt = 999 := rfl
  intro d
  induction d with
  | zero =>
    intro n tX tM ah u v hn t1 t2 h hm hah hah0
    obtain ⟨tX, rfl⟩ : ∃ m, tX = m + 1 := ⟨tX - 1, by omega⟩
    obtain ⟨tM, rfl⟩ : ∃ m, tM = m + 2 := ⟨tM - 2, by omega⟩
    have hn8 : n = 8 := by omega
    subst hn8
    have hah2 := hah0 (by omega)
    have ha1 : (zI ah + 1).toInt = ah + 1 := by rw [show (1 : Int32) = zI 1 from rfl, zI_add, zI_n (by omega) (by omega)]
    rw [fX4_tableClause_L18, if_pos (by decide)]
    unfold kXt
    rcases atN h (lo := (ah + 1).toNat) (hi := 999) (by omega) (by omega) with ⟨X, x1, x2, x3, x4, x5, x6⟩ | ⟨u2, v2, x1, x2, x3, x4⟩
    · have x3 : fX4_atNumber (nI (ah + 1).toNat) 999 u = some (true, u) := x3
      obtain ⟨u2, v2, b1, b2, b3⟩ := bl h (f := 5) (by decide)
      right
      refine ⟨u2, v2, ?_, ?_, b3⟩
      · rw [x3, Option.bind_some, if_pos rfl]
        show (fX4_blame 5 u).bind _ = _
        rw [b1, Option.bind_some]; rfl
      · rw [fX12_tableClause_L88, if_pos rfl, if_pos x4, if_pos (show nI 8 = 8 from rfl), x5, in_sp2 (nI X) (L := ah + 1) (Hh := 999) (by rw [j_of, ha1]) rfl, Option.bind_some, nI_n (by omega), decide_eq_true (by omega), if_pos rfl, b2, Option.bind_some]
        unfold fX12_tableClause_J132
        rw [num_no b3.2, Option.bind_some]
        show ((fX12_takes 4 61 v2).bind _).bind _ = _
        rw [tak_no b3.2, Option.bind_some, num_no b3.2, Option.bind_some]
        show ((fX12_takes 1 2 v2).bind _).bind _ = _
        rw [tak_no b3.2, Option.bind_some, num_no b3.2, Option.bind_some]
        show (if v2.1 0 15 = 0 then _ else fX12_tableClause_J255 _ _ _ _ v2).bind _ = _
        rw [if_neg (wr_1 b3.2), t255_no b3.2, l88_f, Option.bind_some, tak_no b3.2]
    · have x1 : fX4_atNumber (nI (ah + 1).toNat) 999 u = some (false, u2) := x1
      have x2 : fX12_number (nI (ah + 1).toNat) 999 v = some (nI (ah + 1).toNat, v2) := x2
      right
      refine ⟨u2, v2, by rw [x1, Option.bind_some]; rfl, ?_, x3⟩
      have hJ : (fX12_tableClause_J132 (fX12_tableClause_L88 (nI (36 + 25 * t)) (tM + 1)) (nI (36 + 25 * t)) (nI 8) (zI ah) v).bind (fun w2 => fX12_takes 4 59 w2) = some v2 := by
        unfold fX12_tableClause_J132
        rw [lst_e hah.1 hah.2, x2, Option.bind_some]
        show ((fX12_takes 4 61 v2).bind _).bind _ = _
        rw [tak_no x3.2, Option.bind_some, num_no x3.2, Option.bind_some]
        show ((fX12_takes 1 2 v2).bind _).bind _ = _
        rw [tak_no x3.2, Option.bind_some, num_no x3.2, Option.bind_some]
        show (if v2.1 0 15 = 0 then _ else fX12_tableClause_J255 _ _ _ _ v2).bind _ = _
        rw [if_neg (wr_1 x3.2), t255_no x3.2, l88_f, Option.bind_some, tak_no x3.2]
      rw [fX12_tableClause_L88, if_pos rfl]
      by_cases h3 : v.1 0 13 = 3
      · have := x4 h3
        rw [if_pos h3, if_pos (show nI 8 = 8 from rfl), in_sp2 (v.1 0 14) (L := ah + 1) (Hh := 999) (by rw [j_of, ha1]) rfl, Option.bind_some, decide_eq_false (by omega), if_neg (by decide)]
        exact hJ
      · rw [if_neg h3]; exact hJ
  | succ d ih =>
    intro n tX tM ah u v hn t1 t2 h hm hah hah0
    obtain ⟨tX, rfl⟩ : ∃ m, tX = m + 1 := ⟨tX - 1, by omega⟩
    obtain ⟨tM, rfl⟩ : ∃ m, tM = m + 2 := ⟨tM - 2, by omega⟩
    have hn8 : ¬ nI n = 8 := fun h9 => by have := nI_inj (b := 8) (by omega) (by omega) h9; omega
    rw [fX4_tableClause_L18, if_neg (by rw [i_le, nI_n (by omega)]; omega)]
    have hM : fX12_tableClause_L88 (nI (36 + 25 * t)) (tM + 2) (nI n) (zI ah) true v = fX12_tableClause_J132 (fX12_tableClause_L88 (nI (36 + 25 * t)) (tM + 1)) (nI (36 + 25 * t)) (nI n) (zI ah) v := by
      rw [fX12_tableClause_L88, if_pos rfl, if_neg hn8]
      by_cases h3 : v.1 0 13 = 3
      · rw [if_pos h3]
      · rw [if_neg h3]
    rw [hM]
    unfold fX12_tableClause_J132
    rw [lst_e hah.1 hah.2]
    rcases atN h (lo := (ah + 1).toNat) (hi := 999) (by omega) (by omega) with ⟨X, x1, x2, x3, x4, x5, x6⟩ | ⟨u2, v2, x1, x2, x3, x4⟩
    · have x3 : fX4_atNumber (nI (ah + 1).toNat) 999 u = some (true, u) := x3
      obtain ⟨u1, v1, n1, n2, h1, k1, -⟩ := nx C h
      have hnum : fX12_number (nI (ah + 1).toNat) 999 v = some (nI X, v1) := num_ok (hi := 999) h.2.1 x4 x5 x1 x2 (by omega) n2
      rw [x3, Option.bind_some, if_pos rfl, hnum, Option.bind_some]
      show RES B L T1 u0 v0 us ((fX4_next u).bind _) (((fX12_takes 4 61 v1).bind _).bind _)
      rw [n1, Option.bind_some]
      rcases tkS C h1 (c := 61) (Or.inl rfl) with ⟨u2, v2, y1, y2, y3, y4, y5⟩ | ⟨u2, v2, y1, y2, y3⟩
      · rw [y1, Option.bind_some, if_pos rfl, y2, Option.bind_some]
        show RES B L T1 u0 v0 us ((fX4_takeNumber 0 9999 u2).bind _) (((fX12_number 0 9999 v2).bind _).bind _)
        rcases tkN C y3 (lo := 0) (hi := 9999) (by omega) (by omega) with ⟨Y, u3, v3, z1, z2, z3, z4, z5, z6, z7⟩ | ⟨u3, v3, z1, z2, z3⟩
        · have z3 : fX4_takeNumber 0 9999 u2 = some (true, u3) := z3
          have z4 : fX12_number 0 9999 v2 = some (nI Y, v3) := z4
          rw [z3, Option.bind_some, if_pos rfl, z4, Option.bind_some]
          show RES B L T1 u0 v0 us ((fX4_takeWord 5 u3).bind _) (((fX12_takes 1 2 v3).bind _).bind _)
          rcases tkW C z5 (i := 5) (by omega) (c := 2) rfl with ⟨u4, v4, a1, a2, a3, a4, a5⟩ | ⟨u4, v4, a1, a2, a3⟩
          · rw [a1, Option.bind_some, if_pos rfl, a2, Option.bind_some]
            show RES B L T1 u0 v0 us ((fX4_takeNumber (u3.1 184 7) 9999 u4).bind _) (((fX12_number (nI Y) 9999 v4).bind _).bind _)
            rw [z7]
            rcases tkN C a3 (lo := Y) (hi := 9999) (by omega) (by omega) with ⟨Z, u5, v5, b1, b2, b3, b4, b5, b6, b7⟩ | ⟨u5, v5, b1, b2, b3⟩
            · have b3 : fX4_takeNumber (nI Y) 9999 u4 = some (true, u5) := b3
              have b4 : fX12_number (nI Y) 9999 v4 = some (nI Z, v5) := b4
              rw [b3, Option.bind_some, if_pos rfl, b4, Option.bind_some]
              have hkp := KP_tr (KP_tr (KP_tr (KP_tr k1 y4) z6) a4) b6
              have hm5 := MT_K hm hkp
              have t5 : (u5.1 184 2).toNatClampNeg = T1 := by rw [b5.1.2.2.2.2.2.1.1, cl_n (by omega)]
              have hadd := addP (u := u5) (T1 := T1) ht (show n < 8 by omega) hm5.2.2.1 (nI X) (nI Y) (nI Z)
              have hm6 := MT_add ht (show n < 8 by omega) hm5 (x := X) (y := Y) (z := Z) (by omega) b1 b2
              have j1 : nI (36 + 25 * t) + 1 + 3 * nI n = nI (36 + 25 * t + (1 + 3 * n)) := by rw [show (3 : Int32) = nI 3 from rfl, pk_mul, show (1 : Int32) = nI 1 from rfl, nI_add, nI_add]; congr 1; omega
              have j2 : nI (36 + 25 * t) + 2 + 3 * nI n = nI (36 + 25 * t + (2 + 3 * n)) := by rw [show (3 : Int32) = nI 3 from rfl, pk_mul, show (2 : Int32) = nI 2 from rfl, nI_add, nI_add]; congr 1; omega
              have j3 : nI (36 + 25 * t) + 3 + 3 * nI n = nI (36 + 25 * t + (3 + 3 * n)) := by
                have : (3 : Int32) * nI n = nI (3 * n) := by rw [show (3 : Int32) = nI 3 from rfl, pk_mul]
                rw [this, show (3 : Int32) = nI 3 from rfl, nI_add, nI_add]; congr 1; omega
              have bb := fun (m : Nat) (hm : m < 220) => inB_n (i := m) (n := 220) hm (by omega)
              show RES B L T1 u0 v0 us (if (u5.1 184 2).toNatClampNeg < 32 then ((fX3_addPoint ((u5.1 184 2).toNatClampNeg) (nI t) (u.1 184 6) (nI Y) (u5.1 184 7) u5).bind fun u25 => (if (u25.1 184 3) = 44 then ((fX4_next u25).bind fun u28 => fX4_tableClause_L18 (nI t) kXt tX ((u.1 184 6) + 1) (nI n + 1) u28) else ((fX4_takeSign 59 u25).bind fun q30 => (some (q30.1, q30.2))))) else none) ((if v5.1 0 15 = 0 then (if inB ((nI (36 + 25 * t) + 1) + (3 * nI n)) 220 then ((some (si v5 8 ((nI (36 + 25 * t) + 1) + (3 * nI n)).toNatClampNeg (nI X))).bind fun u36 => (if inB ((nI (36 + 25 * t) + 2) + (3 * nI n)) 220 then ((some (si u36 8 ((nI (36 + 25 * t) + 2) + (3 * nI n)).toNatClampNeg (nI Y))).bind fun u37 => (if inB ((nI (36 + 25 * t) + 3) + (3 * nI n)) 220 then ((some (si u37 8 ((nI (36 + 25 * t) + 3) + (3 * nI n)).toNatClampNeg (nI Z))).bind fun u38 => (if inB (nI (36 + 25 * t)) 220 then fX12_tableClause_J255 (fX12_tableClause_L88 (nI (36 + 25 * t)) (tM + 1)) (nI (36 + 25 * t)) (nI n + 1) (nI X) (si u38 8 (nI (36 + 25 * t)).toNatClampNeg (nI n + 1)) else none)) else none)) else none)) else none) else _).bind fun w2 => fX12_takes 4 59 w2)
              rw [t5, if_pos (show T1 < 32 by omega), x6, b7, hadd, Option.bind_some, if_pos b5.2.1, j1, j2, j3, if_pos (bb _ (by omega)), Option.bind_some, if_pos (bb _ (by omega)), Option.bind_some, if_pos (bb _ (by omega)), Option.bind_some, if_pos (bb _ (by omega)), cl_n (show 36 + 25 * t + (1 + 3 * n) < 2147483648 by omega), cl_n (show 36 + 25 * t + (2 + 3 * n) < 2147483648 by omega), cl_n (show 36 + 25 * t + (3 + 3 * n) < 2147483648 by omega), cl_n (show 36 + 25 * t < 2147483648 by omega), nI_1, nI_1]
              have ok6 : OKs B L T1 u0 v0 (si (si (si (si u5 (5 * T1 + 4) (24 * t + 3 * n + 0) (nI X)) (5 * T1 + 4) (24 * t + 3 * n + 1) (nI Y)) (5 * T1 + 4) (24 * t + 3 * n + 2) (nI Z)) (5 * T1 + 3) t (nI (n + 1))) (si (si (si (si v5 8 (36 + 25 * t + (1 + 3 * n)) (nI X)) 8 (36 + 25 * t + (2 + 3 * n)) (nI Y)) 8 (36 + 25 * t + (3 + 3 * n)) (nI Z)) 8 (36 + 25 * t) (nI (n + 1))) := OK_D hT b5 (fun j hj => by rw [si_ro _ _ (by omega), si_ro _ _ (by omega), si_ro _ _ (by omega), si_ro _ _ (by omega)]) rfl (fun j hj => by rw [si_ro _ _ hj, si_ro _ _ hj, si_ro _ _ hj, si_ro _ _ hj]) rfl
              generalize si (si (si (si u5 (5 * T1 + 4) (24 * t + 3 * n + 0) (nI X)) (5 * T1 + 4) (24 * t + 3 * n + 1) (nI Y)) (5 * T1 + 4) (24 * t + 3 * n + 2) (nI Z)) (5 * T1 + 3) t (nI (n + 1)) = u6 at *
              generalize si (si (si (si v5 8 (36 + 25 * t + (1 + 3 * n)) (nI X)) 8 (36 + 25 * t + (2 + 3 * n)) (nI Y)) 8 (36 + 25 * t + (3 + 3 * n)) (nI Z)) 8 (36 + 25 * t) (nI (n + 1)) = v6 at *
              have hsg : u6.1 184 3 = 44 ↔ v6.1 0 13 = 4 ∧ v6.1 0 14 = 44 := by
                obtain ⟨-, -, -, s, e, -, -, -, -, w4, -⟩ := ok6
                exact w4 44 (Or.inr (Or.inl rfl))
              unfold fX12_tableClause_J255
              rw [if_pos ok6.2.1]
              by_cases h44 : u6.1 184 3 = 44
              · obtain ⟨q4, q44⟩ := hsg.mp h44
                obtain ⟨u7, v7, m1, m2, m3, m4, -⟩ := nx C ok6
                rw [if_pos h44, m1, Option.bind_some, if_pos q4, if_pos q44, if_pos rfl, m2, Option.bind_some, zI_nat X]
                have := ih (n + 1) tX (tM + 1) (X : Int) u7 v7 (by omega) (by omega) (by omega) m3 (MT_K hm6 m4) (by omega) (fun _ => by omega)
                rw [show ((X : Int) + 1).toNat = X + 1 by omega] at this
                exact this
              · have hc : (if v6.1 0 13 = 4 then (if v6.1 0 14 = 44 then true else false) else false) = false := by
                  by_cases q4 : v6.1 0 13 = 4
                  · rw [if_pos q4, if_neg (fun q44 => h44 (hsg.mpr ⟨q4, q44⟩))]
                  · rw [if_neg q4]
                rw [if_neg h44, hc, if_neg (by decide), l88_f, Option.bind_some]
                exact endC C ok6 (MT_DRF ht (by omega) hd hm6) (hm6.1 _ (by omega) (by omega) (by omega) (by omega))
            · have b1 : fX4_takeNumber (nI Y) 9999 u4 = some (false, u5) := b1
              have b2 : fX12_number (nI Y) 9999 v4 = some (nI Y, v5) := b2
              right
              refine ⟨u5, v5, by rw [b1, Option.bind_some]; rfl, ?_, b3⟩
              rw [b2, Option.bind_some]
              show (if v5.1 0 15 = 0 then _ else fX12_tableClause_J255 _ _ _ _ v5).bind _ = _
              rw [if_neg (wr_1 b3.2), t255_no b3.2, l88_f, Option.bind_some, tak_no b3.2]
          · right
            refine ⟨u4, v4, by rw [a1, Option.bind_some]; rfl, ?_, a3⟩
            rw [a2, Option.bind_some, num_no a3.2, Option.bind_some]
            show (if v4.1 0 15 = 0 then _ else fX12_tableClause_J255 _ _ _ _ v4).bind _ = _
            rw [if_neg (wr_1 a3.2), t255_no a3.2, l88_f, Option.bind_some, tak_no a3.2]
        · have z1 : fX4_takeNumber 0 9999 u2 = some (false, u3) := z1
          have z2 : fX12_number 0 9999 v2 = some (nI 0, v3) := z2
          right
          refine ⟨u3, v3, by rw [z1, Option.bind_some]; rfl, ?_, z3⟩
          rw [z2, Option.bind_some]
          show ((fX12_takes 1 2 v3).bind _).bind _ = _
          rw [tak_no z3.2, Option.bind_some, num_no z3.2, Option.bind_some]
          show (if v3.1 0 15 = 0 then _ else fX12_tableClause_J255 _ _ _ _ v3).bind _ = _
          rw [if_neg (wr_1 z3.2), t255_no z3.2, l88_f, Option.bind_some, tak_no z3.2]
      · right
        refine ⟨u2, v2, by rw [y1, Option.bind_some]; rfl, ?_, y3⟩
        rw [y2, Option.bind_some, num_no y3.2, Option.bind_some]
        show ((fX12_takes 1 2 v2).bind _).bind _ = _
        rw [tak_no y3.2, Option.bind_some, num_no y3.2, Option.bind_some]
        show (if v2.1 0 15 = 0 then _ else fX12_tableClause_J255 _ _ _ _ v2).bind _ = _
        rw [if_neg (wr_1 y3.2), t255_no y3.2, l88_f, Option.bind_some, tak_no y3.2]
    · have x1 : fX4_atNumber (nI (ah + 1).toNat) 999 u = some (false, u2) := x1
      have x2 : fX12_number (nI (ah + 1).toNat) 999 v = some (nI (ah + 1).toNat, v2) := x2
      right
      refine ⟨u2, v2, by rw [x1, Option.bind_some]; rfl, ?_, x3⟩
      rw [x2, Option.bind_some]
      show ((fX12_takes 4 61 v2).bind _).bind _ = _
      rw [tak_no x3.2, Option.bind_some, num_no x3.2, Option.bind_some]
      show ((fX12_takes 1 2 v2).bind _).bind _ = _
      rw [tak_no x3.2, Option.bind_some, num_no x3.2, Option.bind_some]
      show (if v2.1 0 15 = 0 then _ else fX12_tableClause_J255 _ _ _ _ v2).bind _ = _
      rw [if_neg (wr_1 x3.2), t255_no x3.2, l88_f, Option.bind_some, tak_no x3.2]
