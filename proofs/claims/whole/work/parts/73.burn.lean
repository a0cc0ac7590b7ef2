def CX (q T n : Nat) (g : Nat → Int32) (u0 v0 : Mem) : Prop := (q < 2 ∧ T ≤ 30 ∧ n ≤ 16 ∧ lawOk g) ∧ RR u0 v0 ∧ v0.1 1 (2 + q) = nI n ∧ relL u0 T g ∧ Sy v0 g ∧ v0.1 1 1 = nI T ∧ fX11_lawsNow u0 = some T ∧ dnF g 7000 v0 ∧ ∀ s, s < n → ∃ lo, lo ≤ 999 ∧ u0.1 199 s = nI lo ∧ v0.1 12 s = nI lo
theorem Sy_at {v0 v : Mem} {g : Nat → Int32} {T : Nat} (hT : T ≤ 30) (h1 : v0.1 1 1 = nI T) (h : ∀ k, k = 1 ∨ 1500 ≤ k → v.1 1 k = v0.1 1 k) (hS : Sy v0 g) : Sy v g := by
  intro k hk
  have h2 := hS k hk
  unfold fX12_says at h2 ⊢
  have e : (1500 : Int32) + 220 * nI T + nI k = nI (1500 + 220 * T + k) := by rw [show (1500 : Int32) = nI 1500 from rfl, show (220 : Int32) = nI 220 from rfl, pk_mul, nI_add, nI_add]
  rw [h1, e] at h2
  rw [h 1 (by omega), h1, e]
  rw [if_pos (inB_n (by omega) (by omega)), cl_n (by omega)] at h2 ⊢
  rw [h _ (by omega)]; exact h2
theorem CX_at {q T n : Nat} {g : Nat → Int32} {u0 v0 u v : Mem} (C : CX q T n g u0 v0) (h : GO q u0 v0 u v) : RR u v ∧ relL u T g ∧ Sy v g ∧ fX11_lawsNow u = some T ∧ dnF g 7000 v ∧ relS u q q (v.1 1) (v.2 3) ∧ u.1 (160 + 4 * q) 3 = nI n ∧ v.1 1 (2 + q) = nI n ∧ ∀ s, s < n → ∃ lo, lo ≤ 999 ∧ u.1 199 s = nI lo ∧ v.1 12 s = nI lo := by
  obtain ⟨⟨hq, hT, hn, hO⟩, hR, h2, hL, hS, h1, hX, hd, hl⟩ := C
  have hRR := go_RR hq hR h
  obtain ⟨⟨x1, x2, x3⟩, ⟨m1, m2, m3, m4, m5, m6⟩, hG⟩ := h
  have hst := hRR.2.2.1.2.1 q hq
  rw [show 2 * 0 + q = q by omega] at hst
  have h2' : v.1 1 (2 + q) = nI n := by rw [m3 _ (by omega)]; exact h2
  refine ⟨hRR, relL_fr (u := u0) (fun r hr => x1 _ (by omega) (by omega) (by omega) (by omega) (by omega)) hL, Sy_at hT h1 (fun k hk => m3 k (by omega)) hS, ?_, ?_, hst, by rw [hst.1]; exact h2', h2', fun s hs => ?_⟩
  · unfold fX11_lawsNow at hX ⊢
    rw [show 176 + 2 * 0 = 176 from rfl] at hX ⊢
    rw [x3 2 (by omega) (by omega)]; exact hX
  · unfold dnF at hd ⊢
    rw [m1 9 (by omega) (by omega), m1 10 (by omega) (by omega)]; exact hd
  · rw [x1 199 (by omega) (by omega) (by omega) (by omega) (by omega), m1 12 (by omega) (by omega)]; exact hl s hs
theorem mn1 (r p : Int32) : (if p ≤ r then p else r) = if r < p then r else p := by
  by_cases h : r < p
  · rw [if_pos h]
    by_cases h2 : p ≤ r
    · rw [i_lt] at h; rw [i_le] at h2; omega
    · rw [if_neg h2]
  · rw [if_neg h]
    by_cases h2 : p ≤ r
    · rw [if_pos h2]
    · rw [i_lt] at h; rw [i_le] at h2; omega
theorem brnZ {P1 P2 m o R : Int} (h1 : 0 ≤ P1 ∧ P1 ≤ 100000) (h2 : 0 ≤ P2 ∧ P2 ≤ 100000) (hm : 1 ≤ m ∧ m ≤ 9) (ho : 1 ≤ o ∧ o ≤ 9) (hR : 0 ≤ R ∧ R ≤ 9999) : ∃ t : Int, 0 ≤ t ∧ t ≤ 9999 ∧ t * m ≤ P1 ∧ t * o ≤ 100000 - P2 ∧ (if (100000 - zI P2) / zI o < (if zI R < zI P1 / zI m then zI R else zI P1 / zI m) then (100000 - zI P2) / zI o else (if zI R < zI P1 / zI m then zI R else zI P1 / zI m)) = zI t := by
  have e1 : zI P1 / zI m = zI (P1 / m) := zI_div h1.1 (by omega) (by omega) (by omega)
  have e2 : (100000 - zI P2) / zI o = zI ((100000 - P2) / o) := by
    rw [show (100000 : Int32) = zI 100000 from rfl, zI_sub]; exact zI_div (by omega) (by omega) (by omega) (by omega)
  have a1 : 0 ≤ P1 / m := Int.ediv_nonneg h1.1 (by omega)
  have a2 : P1 / m * m ≤ P1 := Int.ediv_mul_le _ (by omega)
  have a3 : P1 / m ≤ P1 := Int.ediv_le_self _ h1.1
  have b1 : 0 ≤ (100000 - P2) / o := Int.ediv_nonneg (by omega) (by omega)
  have b2 : (100000 - P2) / o * o ≤ 100000 - P2 := Int.ediv_mul_le _ (by omega)
  have b3 : (100000 - P2) / o ≤ 100000 - P2 := Int.ediv_le_self _ (by omega)
  rw [e1, e2]
  generalize P1 / m = A at *
  generalize (100000 - P2) / o = B at *
  have s1 : (if zI R < zI A then zI R else zI A) = zI (min R A) := by
    by_cases h : R < A
    · rw [if_pos (by rw [i_lt, zI_n (by omega) (by omega), zI_n (by omega) (by omega)]; exact h)]; congr 1; omega
    · rw [if_neg (by rw [i_lt, zI_n (by omega) (by omega), zI_n (by omega) (by omega)]; exact h)]; congr 1; omega
  rw [s1]
  have s2 : (if zI B < zI (min R A) then zI B else zI (min R A)) = zI (min B (min R A)) := by
    by_cases h : B < min R A
    · rw [if_pos (by rw [i_lt, zI_n (by omega) (by omega), zI_n (by omega) (by omega)]; exact h)]; congr 1; omega
    · rw [if_neg (by rw [i_lt, zI_n (by omega) (by omega), zI_n (by omega) (by omega)]; exact h)]; congr 1; omega
  refine ⟨min B (min R A), by omega, by omega, ?_, ?_, s2⟩
  · exact Int.le_trans (Int.mul_le_mul_of_nonneg_right (show min B (min R A) ≤ A by omega) (by omega)) a2
  · exact Int.le_trans (Int.mul_le_mul_of_nonneg_right (show min B (min R A) ≤ B by omega) (by omega)) b2
theorem brn {p1 p2 m o r : Int32} (h1 : 0 ≤ p1.toInt ∧ p1.toInt ≤ 100000) (h2 : 0 ≤ p2.toInt ∧ p2.toInt ≤ 100000) (hm : 1 ≤ m.toInt ∧ m.toInt ≤ 9) (ho : 1 ≤ o.toInt ∧ o.toInt ≤ 9) (hR : 0 ≤ r.toInt ∧ r.toInt ≤ 9999) : ∃ t : Int32, 0 ≤ t.toInt ∧ t.toInt ≤ 9999 ∧ t.toInt * m.toInt ≤ p1.toInt ∧ t.toInt * o.toInt ≤ 100000 - p2.toInt ∧ (if (100000 - p2) / o < (if r < p1 / m then r else p1 / m) then (100000 - p2) / o else (if r < p1 / m then r else p1 / m)) = t := by
  obtain ⟨t, a1, a2, a3, a4, a5⟩ := brnZ h1 h2 hm ho hR
  rw [zI_of, zI_of, zI_of, zI_of, zI_of] at a5
  refine ⟨zI t, ?_, ?_, ?_, ?_, a5⟩
  · rw [zI_n (by omega) (by omega)]; exact a1
  · rw [zI_n (by omega) (by omega)]; exact a2
  · rw [zI_n (by omega) (by omega)]; exact a3
  · rw [zI_n (by omega) (by omega)]; exact a4
theorem setM {v : Mem} {q s k : Nat} (hq : q < 2) (hs : s < 16) (hk : k < 6) (x : Int32) : fX12_sets (nI q) (nI s) (nI k) x v = some (si v 1 (20 + (96 * q + (6 * s + k))) x) := by
  unfold fX12_sets
  have e : ((20 + 96 * nI q) + 6 * nI s) + nI k = nI (20 + (96 * q + (6 * s + k))) := by rw [show (20 : Int32) = nI 20 from rfl, show (96 : Int32) = nI 96 from rfl, show (6 : Int32) = nI 6 from rfl, pk_mul, pk_mul, nI_add, nI_add, nI_add]; congr 1; omega
  rw [e, if_pos (inB_n (by omega) (by omega)), cl_n (by omega)]
theorem burn_both {q T n : Nat} {g : Nat → Int32} {u0 v0 u v : Mem} (C : CX q T n g u0 v0) (hG : GO q u0 v0 u v) {s c lo : Nat} (hs : s < n) (hc : c < 5) (ht : g (6 + 6 * c) = 1) (hlo : lo ≤ 999) (hl : v.1 12 s = nI lo) : ∃ (u2 v2 : Mem) (L : Int64), fX7_burn q (nI s) (nI c) T (zI (spZ g (2 + c) false lo)) u = some (L, u2) ∧ fX12_burns (nI q) (nI s) (nI c) v = some v2 ∧ GO q u0 v0 u2 v2 ∧ (u2.1 209 = u.1 209 ∧ u2.2 210 = u.2 210) ∧ v2.1 16 = v.1 16 ∧ (∀ j, j ≠ c → v2.1 17 j = v.1 17 j) ∧ (v2.1 17 c = 0 ↔ L ≤ 0) := by
  obtain ⟨hRR, hL, hS, hX, hd, hst, -⟩ := CX_at C hG
  obtain ⟨⟨hq, hT, hn, hO⟩, -⟩ := id C
  obtain ⟨c1, c2, c3, c4, c5⟩ := chR hO hc ht
  have e0 : (0 : Int32).toInt = 0 := rfl
  have hs16 : s < 16 := by omega
  have hk1 := i_nat c1.1
  have hk2 := i_nat c3.1
  have o0 : fX3_ofChain T (nI c) 0 u = some (g (6 + 6 * c + 1)) := ofcX hL hc (j := 0) (by omega)
  have o1 : fX3_ofChain T (nI c) 1 u = some (g (6 + 6 * c + 2)) := ofcX hL hc (j := 1) (by omega)
  have o2 : fX3_ofChain T (nI c) 2 u = some (g (6 + 6 * c + 3)) := ofcX hL hc (j := 2) (by omega)
  have o3 : fX3_ofChain T (nI c) 3 u = some (g (6 + 6 * c + 4)) := ofcX hL hc (j := 3) (by omega)
  have n0 : fX12_chainOf (nI c) 0 v = some (g (6 + 6 * c + 1)) := ofcM hS hc (j := 0) (by omega)
  have n1 : fX12_chainOf (nI c) 1 v = some (g (6 + 6 * c + 2)) := ofcM hS hc (j := 1) (by omega)
  have n2 : fX12_chainOf (nI c) 2 v = some (g (6 + 6 * c + 3)) := ofcM hS hc (j := 2) (by omega)
  have n3 : fX12_chainOf (nI c) 3 v = some (g (6 + 6 * c + 4)) := ofcM hS hc (j := 3) (by omega)
  have htm := timX hO hL hst hs16 hc ht (zI (spZ g (2 + c) false lo))
  have hsp := sp_r hO (show 2 + c < 7 by omega) false lo
  unfold tmR at htm
  generalize hK1 : (g (6 + 6 * c + 1)).toInt.toNat = k1 at *
  generalize hK2 : (g (6 + 6 * c + 3)).toInt.toNat = k2 at *
  have l1 : k1 < 6 := by omega
  have l2 : k2 < 6 := by omega
  obtain ⟨gp1, rp1⟩ := hG.2.2.1 (6 * s + k1) (by omega)
  obtain ⟨gp2, rp2⟩ := hG.2.2.1 (6 * s + k2) (by omega)
  obtain ⟨t, t0, t1, t2, t3, t4⟩ := brn (r := zI (spZ g (2 + c) false lo)) rp1 rp2 c2 c4 (by rw [zI_n (by omega) (by omega)]; exact hsp)
  have i1 : nI s * 6 + nI k1 = nI (6 * s + k1) := by rw [show (6 : Int32) = nI 6 from rfl, pk_mul, nI_add, Nat.mul_comm]
  have i2 : nI s * 6 + nI k2 = nI (6 * s + k2) := by rw [show (6 : Int32) = nI 6 from rfl, pk_mul, nI_add, Nat.mul_comm]
  have i3 : nI s * 5 + nI c = nI (5 * s + c) := by rw [show (5 : Int32) = nI 5 from rfl, pk_mul, nI_add, Nat.mul_comm]
  have i4 : ((80 : Int32) * nI q + 5 * nI s) + nI c = nI (80 * q + (5 * s + c)) := by rw [show (5 : Int32) = nI 5 from rfl, show (80 : Int32) = nI 80 from rfl, pk_mul, pk_mul, nI_add, nI_add]; congr 1; omega
  have i5 : (1000 : Int32) * (2 + nI c) + nI lo = nI (1000 * (2 + c) + lo) := by
    rw [show (1000 : Int32) = nI 1000 from rfl, show (2 : Int32) = nI 2 from rfl, nI_add, pk_mul, nI_add]
  have b1 : inB (nI (6 * s + k1)) 96 := inB_n (by omega) (by omega)
  have b2 : inB (nI (6 * s + k2)) 96 := inB_n (by omega) (by omega)
  have b3 : inB (nI (5 * s + c)) 80 := inB_n (by omega) (by omega)
  have b4 : inB (nI (80 * q + (5 * s + c))) 160 := inB_n (by omega) (by omega)
  have b5 : inB (nI s) 16 := inB_n (by omega) (by omega)
  have b6 : inB (nI (1000 * (2 + c) + lo)) 7000 := inB_n (by omega) (by omega)
  have b7 : inB (nI c) 5 := inB_n (by omega) (by omega)
  -- the first kind
  have hmn : ((t * g (6 + 6 * c + 2))).toInt = t.toInt * (g (6 + 6 * c + 2)).toInt := i_mul (by have := mul_rng t0 t1 (show 0 ≤ (g (6 + 6 * c + 2)).toInt by omega) c2.2; omega) (by omega)
  have hmo : ((t * g (6 + 6 * c + 4))).toInt = t.toInt * (g (6 + 6 * c + 4)).toInt := i_mul (by have := mul_rng t0 t1 (show 0 ≤ (g (6 + 6 * c + 4)).toInt by omega) c4.2; omega) (by omega)
  have hmn0 := (mul_rng t0 t1 (show 0 ≤ (g (6 + 6 * c + 2)).toInt by omega) c2.2).1
  have hmo0 := (mul_rng t0 t1 (show 0 ≤ (g (6 + 6 * c + 4)).toInt by omega) c4.2).1
  generalize hp1 : v.1 1 (20 + (96 * q + (6 * s + k1))) = p1 at *
  generalize hp2 : v.1 1 (20 + (96 * q + (6 * s + k2))) = p2 at *
  generalize hmm : g (6 + 6 * c + 2) = mm at *
  generalize hoo : g (6 + 6 * c + 4) = oo at *
  have hx1 : (p1 - t * mm).toInt = p1.toInt - t.toInt * mm.toInt := by rw [i_sub (by omega) (by omega), hmn]
  have hG1 := go_set hq hG (j := 6 * s + k1) (by omega) (x := p1 - t * mm) (by omega)
  generalize hu1 : si u (160 + 4 * q + 1) (6 * s + k1) (p1 - t * mm) = u1 at *
  generalize hv1 : si v 1 (20 + (96 * q + (6 * s + k1))) (p1 - t * mm) = v1 at *
  obtain ⟨gy, ry⟩ := hG1.2.2.1 (6 * s + k2) (by omega)
  have hy : v1.1 1 (20 + (96 * q + (6 * s + k2))) = if k2 = k1 then p1 - t * mm else p2 := by
    rw [← hv1, si_1]
    by_cases h : k2 = k1
    · rw [if_pos ⟨rfl, by omega⟩, if_pos h]
    · rw [if_neg (by omega), if_neg h, hp2]
  have hy2 : (v1.1 1 (20 + (96 * q + (6 * s + k2)))).toInt ≤ p2.toInt := by
    rw [hy]
    by_cases h : k2 = k1
    · have : p2 = p1 := by rw [← hp1, ← hp2, h]
      rw [if_pos h, this]; omega
    · rw [if_neg h]; exact Int.le_refl _
  have hx2 : (v1.1 1 (20 + (96 * q + (6 * s + k2))) + t * oo).toInt = (v1.1 1 (20 + (96 * q + (6 * s + k2)))).toInt + t.toInt * oo.toInt := by rw [i_add (by omega) (by omega), hmo]
  have hG2 := go_set hq hG1 (j := 6 * s + k2) (by omega) (x := v1.1 1 (20 + (96 * q + (6 * s + k2))) + t * oo) (by omega)
  generalize hyy : v1.1 1 (20 + (96 * q + (6 * s + k2))) = y at *
  generalize hu2 : si u1 (160 + 4 * q + 1) (6 * s + k2) (y + t * oo) = u2 at *
  generalize hv2 : si v1 1 (20 + (96 * q + (6 * s + k2))) (y + t * oo) = v2 at *
  obtain ⟨-, hL2, hS2, -⟩ := CX_at C hG2
  have o4 : fX3_ofChain T (nI c) 4 u2 = some (g (6 + 6 * c + 5)) := ofcX hL2 hc (j := 4) (by omega)
  have n4 : fX12_chainOf (nI c) 4 v2 = some (g (6 + 6 * c + 5)) := ofcM hS2 hc (j := 4) (by omega)
  have gb := hG2.2.2.2.1 (5 * s + c) (by omega)
  generalize hli : g (6 + 6 * c + 5) = li at *
  have hG3 := go_book hq hG2 (j := 5 * s + c) (by omega) (v2.2 3 (80 * q + (5 * s + c)) + t.toInt64 * li.toInt64)
  generalize hu3 : sl u2 (160 + 4 * q + 2) (5 * s + c) (v2.2 3 (80 * q + (5 * s + c)) + t.toInt64 * li.toInt64) = u3 at *
  generalize hv3 : sl v2 3 (80 * q + (5 * s + c)) (v2.2 3 (80 * q + (5 * s + c)) + t.toInt64 * li.toInt64) = v3 at *
  obtain ⟨-, -, hS3, -⟩ := CX_at C hG3
  have n5 : fX12_chainOf (nI c) 4 v3 = some li := by rw [← hli]; exact ofcM hS3 hc (j := 4) (by omega)
  have hLv : (t.toInt64 * li.toInt64).toInt = t.toInt * li.toInt := by
    have := mul_rng t0 t1 c5.1 c5.2
    rw [j_mul (by rw [j_of, j_of]; omega) (by rw [j_of, j_of]; omega), j_of, j_of]
  have hr3 : v3.1 16 = v.1 16 ∧ v3.1 17 = v.1 17 := by
    rw [← hv3, sl_1, ← hv2, si_ro _ _ (by omega), si_ro _ _ (by omega), ← hv1, si_ro _ _ (by omega), si_ro _ _ (by omega)]; exact ⟨rfl, rfl⟩
  have hr4 : u3.1 209 = u.1 209 ∧ u3.2 210 = u.2 210 := by
    rw [← hu3, sl_1, sl_ro _ _ (by omega), ← hu2, si_ro _ _ (by omega), si_2, ← hu1, si_ro _ _ (by omega), si_2]; exact ⟨rfl, rfl⟩
  have hw : (if t ≤ 0 then (0 : Int32) else bz (if li ≤ 0 then false else true)) = 0 ↔ t.toInt64 * li.toInt64 ≤ 0 := by
    rw [j_le, hLv, l0]
    by_cases h1 : t.toInt ≤ 0
    · have : t.toInt = 0 := by omega
      rw [if_pos (by rw [i_le]; omega), this, Int.zero_mul]; simp
    · rw [if_neg (by rw [i_le]; omega)]
      by_cases h2 : li.toInt ≤ 0
      · have : li.toInt = 0 := by omega
        rw [if_pos (by rw [i_le]; omega), this, Int.mul_zero]; simp [bz]
      · have h3 := Int.mul_pos (show 0 < t.toInt by omega) (show 0 < li.toInt by omega)
        rw [if_neg (by rw [i_le]; omega)]
        constructor
        · intro h4; exact absurd h4 (by decide)
        · intro h4; omega
  have hG4 := go_auxM (w := si v3 17 c (if t ≤ 0 then (0 : Int32) else bz (if li ≤ 0 then false else true))) hG3 (fun k hk => si_ro _ _ (by omega)) rfl
  refine ⟨u3, si v3 17 c (if t ≤ 0 then (0 : Int32) else bz (if li ≤ 0 then false else true)), t.toInt64 * li.toInt64, ?_, ?_, hG4, hr4, by rw [si_ro _ _ (by omega)]; exact hr3.1, fun j hj => by rw [si_1, if_neg (by omega), hr3.2], by rw [si_1, if_pos ⟨rfl, rfl⟩]; exact hw⟩
  · unfold fX7_burn
    rw [o2, Option.bind_some, o3, Option.bind_some, htm, Option.bind_some, hk2, i2, if_pos b2, cl_n (by omega), gp2]
    unfold fX11_cut
    rw [if_neg (show ¬ oo ≤ 0 by rw [i_le]; omega), if_neg (show ¬ oo = 0 by rw [i_eq]; omega), Option.bind_some, t4, o0, Option.bind_some, hk1, i1, if_pos b1, o1, Option.bind_some, Option.bind_some, if_pos b1, Option.bind_some, if_pos b2, Option.bind_some, if_pos b2, Option.bind_some, cl_n (by omega), gp1, hu1, gy, hu2, o4, Option.bind_some, i3, if_pos b3, Option.bind_some, if_pos b3, Option.bind_some, cl_n (by omega), gb, hu3]
  · unfold fX12_burns
    rw [n0, Option.bind_some, n1, Option.bind_some, n2, Option.bind_some, n3, Option.bind_some, hk1, partM hq hs16 l1, Option.bind_some, if_neg (show ¬ mm = 0 by rw [i_eq]; omega), if_pos b5, cl_n (show s < 2147483648 by omega), hl, i5, if_pos b6, hk2, partM hq hs16 l2, Option.bind_some, if_neg (show ¬ oo = 0 by rw [i_eq]; omega), Option.bind_some, cl_n (show 1000 * (2 + c) + lo < 2147483648 by omega), (dn_at hd (by omega) (by omega)).1, hp1, hp2, mn1, mn1, t4, Option.bind_some, setM hq hs16 l1, Option.bind_some, hv1, partM hq hs16 l2, Option.bind_some, hyy, setM hq hs16 l2, Option.bind_some, hv2, i4, if_pos b4, n4, Option.bind_some, Option.bind_some, if_pos b4, Option.bind_some, cl_n (show 80 * q + (5 * s + c) < 2147483648 by omega), hv3, if_pos b7, n5, Option.bind_some, if_pos b7, cl_n (show c < 2147483648 by omega)]
    by_cases h : t ≤ 0
    · rw [if_pos h, if_pos h]
    · rw [if_neg h, if_neg h]
