theorem sp_seen_ok : sp_seen RR := by
  intro u v a b x y hR
  obtain ⟨r1, r2, w1, w2, cc, t, f, p⟩ := id hR
  have e0 : (0 : Int32).toInt = 0 := rfl
  have e20 : (20 : Int32).toInt = 20 := rfl
  have e7 : (7 : Int32).toInt = 7 := rfl
  have em : (-1 : Int32).toInt = -1 := rfl
  have h6 := r1.2.2.2.2.2.1
  have t6 : u.1 (176 + 2 * 0) 5 = v.1 1 6 := w1.1.2.2.2.2
  unfold fX11_seen fX12_seen
  generalize hmo : ((if b = (-1) then 1000000000 else 400) : Int32) = mo
  have hmo2 : mo.toInt ≤ 1000000000 := by
    rw [← hmo]; split <;> decide
  rw [starX, starM, in_sp2 b (L := -1) (Hh := 6) rfl rfl, in_sp, in_sp, j_of, j_of, j_of, l0, t6]
  simp only [Option.bind_some, decide_eq_true_eq]
  by_cases hs : 0 ≤ a.toInt ∧ a.toInt < 2
  case neg => exact ⟨-1, u, v, by rw [if_neg hs], by rw [if_neg hs], hR⟩
  rw [if_pos hs, if_pos hs]
  by_cases hb : -1 ≤ b.toInt ∧ b.toInt ≤ 6
  case neg =>
    refine ⟨-1, u, v, ?_, by rw [if_neg hb], hR⟩
    by_cases n1 : b < -1
    · rw [if_pos n1]
    · rw [if_neg n1, if_pos (by rw [i_lt] at n1; rw [i_le]; omega)]
  have n1 : ¬ b < -1 := by rw [i_lt]; omega
  have n2 : ¬ 7 ≤ b := by rw [i_le]; omega
  rw [if_pos hb, if_neg n1, if_neg n2]
  by_cases hxy : 0 ≤ x.toInt ∧ x.toInt ≤ y.toInt ∧ y.toInt ≤ mo.toInt
  case neg =>
    refine ⟨-1, u, v, ?_, ?_, hR⟩
    · by_cases n3 : v.1 1 6 < 20
      · rw [if_pos n3]
        by_cases n4 : x < 0
        · rw [if_pos n4]
        · rw [if_neg n4]
          by_cases n5 : y < x
          · rw [if_pos n5]
          · rw [if_neg n5, if_neg (by rw [i_lt] at n4 n5; rw [i_le]; omega)]
      · rw [if_neg n3]
    · by_cases n4 : 0 ≤ x.toInt ∧ x.toInt ≤ mo.toInt
      · rw [if_pos n4, if_neg (by omega)]
      · rw [if_neg n4]
  have n4 : 0 ≤ x.toInt ∧ x.toInt ≤ mo.toInt := by omega
  have n5 : x.toInt ≤ y.toInt ∧ y.toInt ≤ mo.toInt := by omega
  have n6 : ¬ x < 0 := by rw [i_lt]; omega
  have n7 : ¬ y < x := by rw [i_lt]; omega
  have n8 : y ≤ mo := by rw [i_le]; omega
  simp only [if_pos n4, if_pos n5, if_neg n6, if_neg n7, if_pos n8]
  by_cases h20 : v.1 1 6 = 20
  · exact ⟨-1, u, v, by rw [if_neg (by rw [h20]; decide)], by rw [if_pos h20], hR⟩
  rw [if_neg h20]
  have h20' : (v.1 1 6).toInt < 20 := by rw [i_eq] at h20; omega
  rw [if_pos (by rw [i_lt]; omega)]
  obtain ⟨n, hn, en⟩ : ∃ n : Nat, n < 20 ∧ v.1 1 6 = nI n := ⟨(v.1 1 6).toInt.toNat, by omega, i_nat h6.1⟩
  have en1 : (v.1 1 6).toInt = n := by rw [en, nI_n (by omega)]
  have q1 : inB (nI n) 20 := inB_n hn (by omega)
  have k0 : 1400 + 4 * nI n = nI (1400 + 4 * n) := by rw [show (1400 : Int32) = nI 1400 from rfl, show (4 : Int32) = nI 4 from rfl, pk_mul, nI_add]
  have k1 : nI (1400 + 4 * n) + 1 = nI (1401 + 4 * n) := by rw [nI_1, show 1400 + 4 * n + 1 = 1401 + 4 * n by omega]
  have k2 : nI (1400 + 4 * n) + 2 = nI (1402 + 4 * n) := by rw [show (2 : Int32) = nI 2 from rfl, nI_add, show 1400 + 4 * n + 2 = 1402 + 4 * n by omega]
  have k3 : nI (1400 + 4 * n) + 3 = nI (1403 + 4 * n) := by rw [show (3 : Int32) = nI 3 from rfl, nI_add, show 1400 + 4 * n + 3 = 1403 + 4 * n by omega]
  have c0 : inB (nI (1400 + 4 * n)) 8320 := inB_n (by omega) (by omega)
  have c1 : inB (nI (1401 + 4 * n)) 8320 := inB_n (by omega) (by omega)
  have c2 : inB (nI (1402 + 4 * n)) 8320 := inB_n (by omega) (by omega)
  have c3 : inB (nI (1403 + 4 * n)) 8320 := inB_n (by omega) (by omega)
  have g5 : ∀ (w : Mem) (k j : Nat) (z : Int32), k ≠ 176 → (si w k j z).1 (176 + 2 * 0) 5 = w.1 (176 + 2 * 0) 5 := fun w k j z hk => by rw [si_1, if_neg (by omega)]
  have g6 : ∀ (w : Mem) (j : Nat) (z : Int32), 1400 ≤ j → (si w 1 j z).1 1 6 = w.1 1 6 := fun w j z hk => by rw [si_1, if_neg (by omega)]
  have t6' : u.1 (176 + 2 * 0) 5 = nI n := t6.trans en
  simp only [Option.bind_some, en, g5 _ 189 _ _ (by omega), g5 _ 190 _ _ (by omega), g5 _ 191 _ _ (by omega), g5 _ 192 _ _ (by omega), t6', if_pos q1, cl_n (show n < 2147483648 by omega), k0, k1, k2, k3, if_pos c0, if_pos c1, if_pos c2, if_pos c3, cl_n (show 1400 + 4 * n < 2147483648 by omega), cl_n (show 1401 + 4 * n < 2147483648 by omega), cl_n (show 1402 + 4 * n < 2147483648 by omega), cl_n (show 1403 + 4 * n < 2147483648 by omega), g6 _ (1400 + 4 * n) _ (by omega), g6 _ (1401 + 4 * n) _ (by omega), g6 _ (1402 + 4 * n) _ (by omega), g6 _ (1403 + 4 * n) _ (by omega), nI_1]
  refine ⟨nI (n + 1), _, _, by rw [si_1, if_pos ⟨rfl, rfl⟩], by rw [si_1, if_pos ⟨rfl, rfl⟩], ?_⟩
  generalize hu2 : si (si (si (si (si u 189 n a) 190 n b) 191 n x) 192 n y) (176 + 2 * 0) 5 (nI (n + 1)) = u2
  generalize hv2 : si (si (si (si (si v 1 (1400 + 4 * n) a) 1 (1401 + 4 * n) b) 1 (1402 + 4 * n) x) 1 (1403 + 4 * n) y) 1 6 (nI (n + 1)) = v2
  have eu : ∀ k, k ≠ 189 → k ≠ 190 → k ≠ 191 → k ≠ 192 → k ≠ 176 → u2.1 k = u.1 k := fun k z1 z2 z3 z4 z5 => by
    rw [← hu2, si_ro _ _ (by omega), si_ro _ _ z4, si_ro _ _ z3, si_ro _ _ z2, si_ro _ _ z1]
  have eu2 : u2.2 = u.2 := by rw [← hu2]; rfl
  have eu5 : ∀ j, u2.1 (176 + 2 * 0) j = if j = 5 then nI (n + 1) else u.1 (176 + 2 * 0) j := fun j => by
    rw [← hu2, si_1]
    by_cases hj : j = 5
    · rw [if_pos ⟨rfl, hj⟩, if_pos hj]
    · rw [if_neg (by omega), if_neg hj, si_1, if_neg (by omega), si_1, if_neg (by omega), si_1, if_neg (by omega), si_1, if_neg (by omega)]
  have ev : ∀ k, k ≠ 1 → v2.1 k = v.1 k := fun k hk => by rw [← hv2, si_ro _ _ hk, si_ro _ _ hk, si_ro _ _ hk, si_ro _ _ hk, si_ro _ _ hk]
  have evl : v2.2 = v.2 := by rw [← hv2]; rfl
  have ev1 : ∀ k, v2.1 1 k = if k = 6 then nI (n + 1) else if k = 1403 + 4 * n then y else if k = 1402 + 4 * n then x else if k = 1401 + 4 * n then b else if k = 1400 + 4 * n then a else v.1 1 k := fun k => by
    rw [← hv2]; simp only [si_1, true_and]
  have eo : ∀ k, k ≠ 6 → k < 1400 + 4 * n ∨ 1404 + 4 * n ≤ k → v2.1 1 k = v.1 1 k := fun k hk h9 => by
    rw [ev1, if_neg hk, if_neg (by omega), if_neg (by omega), if_neg (by omega), if_neg (by omega)]
  have e6n : (v2.1 1 6).toInt = (n : Int) + 1 := by rw [ev1, if_pos rfl, nI_n (by omega)]; omega
  have hrow : ∀ i, i ≤ n → (v2.1 1 (1400 + 4 * i) = if i = n then a else v.1 1 (1400 + 4 * i)) ∧ (v2.1 1 (1401 + 4 * i) = if i = n then b else v.1 1 (1401 + 4 * i)) ∧ (v2.1 1 (1402 + 4 * i) = if i = n then x else v.1 1 (1402 + 4 * i)) ∧ (v2.1 1 (1403 + 4 * i) = if i = n then y else v.1 1 (1403 + 4 * i)) := by
    intro i hi
    by_cases h : i = n
    · subst h
      simp only [if_true]
      refine ⟨?_, ?_, ?_, ?_⟩
      · rw [ev1, if_neg (by omega), if_neg (by omega), if_neg (by omega), if_neg (by omega), if_pos rfl]
      · rw [ev1, if_neg (by omega), if_neg (by omega), if_neg (by omega), if_pos rfl]
      · rw [ev1, if_neg (by omega), if_neg (by omega), if_pos rfl]
      · rw [ev1, if_neg (by omega), if_pos rfl]
    · simp only [if_neg h]
      exact ⟨eo _ (by omega) (by omega), eo _ (by omega) (by omega), eo _ (by omega) (by omega), eo _ (by omega) (by omega)⟩
  have ha01 : a = 0 ∨ a = 1 := by
    rcases (by omega : a.toInt = 0 ∨ a.toInt = 1) with h | h
    · left; rw [i_eq]; exact h
    · right; rw [i_eq]; exact h
  have e2 : v2.1 2 = v.1 2 := ev 2 (by omega)
  obtain ⟨a0, a1, a2, a4, a5, a6, a8, a10, a20, a220, a1400, a1500⟩ := id r1
  refine ⟨?_, by rw [e2]; exact r2, ?_, ?_, ?_, ?_, ?_, ?_⟩
  · refine ⟨by rw [eo 0 (by omega) (by omega)]; exact a0, by rw [eo 0 (by omega) (by omega), eo 1 (by omega) (by omega)]; exact a1, fun i hi => by rw [eo _ (by omega) (by omega)]; exact a2 i hi, by rw [eo 4 (by omega) (by omega)]; exact a4, by rw [eo 5 (by omega) (by omega)]; exact a5, by rw [e6n]; omega, fun i hi => by rw [eo _ (by omega) (by omega)]; exact a8 i hi, fun i hi => by rw [eo _ (by omega) (by omega)]; exact a10 i hi, fun i hi => by rw [eo _ (by omega) (by omega)]; exact a20 i hi, fun i hi => by rw [eo _ (by omega) (by omega)]; exact a220 i hi, fun i hi => ?_, fun t ht => ?_⟩
    · rw [e6n] at hi
      obtain ⟨z1, z2, z3, z4⟩ := hrow i (by omega)
      rw [z1, z2, z3, z4]
      by_cases h : i = n
      · simp only [if_pos h]; exact ⟨ha01, by omega, by omega, by omega⟩
      · simp only [if_neg h]; exact a1400 i (by omega)
    · rw [eo 0 (by omega) (by omega)] at ht
      exact lawOk_c (fun k hk => eo _ (by omega) (by omega)) (a1500 t ht)
  · obtain ⟨b1, b2, b3, b4, b5, b6⟩ := w1
    rw [evl]
    refine ⟨?_, fun q hq => ?_, fun t ht => ?_, fun t ht => ?_, fun k hk => ?_, fun i hi => ?_⟩
    · rw [eu5, eu5, eu5, eu5, eu5, if_neg (by omega), if_neg (by omega), if_neg (by omega), if_neg (by omega), if_pos rfl, eo 0 (by omega) (by omega), eo 1 (by omega) (by omega), eo 4 (by omega) (by omega), eo 5 (by omega) (by omega), ev1 6, if_pos rfl]
      exact ⟨b1.1, b1.2.1, b1.2.2.1, b1.2.2.2.1, rfl⟩
    · have h9 := relS_fr (w := u2) (fun r hr => ⟨eu _ (by omega) (by omega) (by omega) (by omega) (by omega), by rw [eu2]⟩) (b2 q hq)
      obtain ⟨s1, s2, s3, s4, s5, s6⟩ := h9
      exact ⟨by rw [s1, eo _ (by omega) (by omega)], by rw [s2, eo _ (by omega) (by omega)], by rw [s3, eo _ (by omega) (by omega)], fun k hk => by rw [s4 k hk, eo _ (by omega) (by omega)], s5, fun k hk => by rw [s6 k hk, eo _ (by omega) (by omega)]⟩
    · rw [eo 0 (by omega) (by omega)] at ht
      refine relL_fr (fun r hr => eu _ (by omega) (by omega) (by omega) (by omega) (by omega)) (relL_c (a1500 t ht) (fun k hk => eo _ (by omega) (by omega)) (b3 t ht))
    · rw [eo 0 (by omega) (by omega)] at ht
      rw [eu (5 * t) (by omega) (by omega) (by omega) (by omega) (by omega), eo 7 (by omega) (by omega)]; exact b4 t ht
    · rw [eo 5 (by omega) (by omega)] at hk
      rw [eu 187 (by omega) (by omega) (by omega) (by omega) (by omega), eo _ (by omega) (by omega)]; exact b5 k hk
    · rw [e6n] at hi
      obtain ⟨z1, z2, z3, z4⟩ := hrow i (by omega)
      rw [z1, z2, z3, z4, ← hu2]
      simp only [si_1, true_and, show ¬ ((189 : Nat) = 190) by decide, show ¬ ((189 : Nat) = 191) by decide, show ¬ ((189 : Nat) = 192) by decide, show ¬ ((189 : Nat) = 176 + 2 * 0) by decide, show ¬ ((190 : Nat) = 189) by decide, show ¬ ((190 : Nat) = 191) by decide, show ¬ ((190 : Nat) = 192) by decide, show ¬ ((190 : Nat) = 176 + 2 * 0) by decide, show ¬ ((191 : Nat) = 189) by decide, show ¬ ((191 : Nat) = 190) by decide, show ¬ ((191 : Nat) = 192) by decide, show ¬ ((191 : Nat) = 176 + 2 * 0) by decide, show ¬ ((192 : Nat) = 189) by decide, show ¬ ((192 : Nat) = 190) by decide, show ¬ ((192 : Nat) = 191) by decide, show ¬ ((192 : Nat) = 176 + 2 * 0) by decide, false_and, if_false]
      by_cases h : i = n
      · simp [h]
      · simp only [if_neg h]; exact b6 i (by omega)
  · obtain ⟨b1, b2, b3, b4, b5, b6⟩ := w2
    rw [e2, evl]
    have h20 := r2.1.2
    refine ⟨?_, fun q hq => relS_fr (fun r hr => ⟨eu _ (by omega) (by omega) (by omega) (by omega) (by omega), by rw [eu2]⟩) (b2 q hq), fun t ht => relL_fr (fun r hr => eu _ (by omega) (by omega) (by omega) (by omega) (by omega)) (b3 t ht), fun t ht => ?_, fun k hk => ?_, fun i hi => ?_⟩
    · rw [eu _ (by omega) (by omega) (by omega) (by omega) (by omega)]; exact b1
    · rw [eu (5 * t) (by omega) (by omega) (by omega) (by omega) (by omega)]; exact b4 t ht
    · rw [eu 187 (by omega) (by omega) (by omega) (by omega) (by omega)]; exact b5 k hk
    · have hin : ¬ i = n := by have := cc.2.2; omega
      rw [← hu2]
      simp only [si_1, true_and, show ¬ ((189 : Nat) = 190) by decide, show ¬ ((189 : Nat) = 191) by decide, show ¬ ((189 : Nat) = 192) by decide, show ¬ ((189 : Nat) = 176 + 2 * 0) by decide, show ¬ ((190 : Nat) = 189) by decide, show ¬ ((190 : Nat) = 191) by decide, show ¬ ((190 : Nat) = 192) by decide, show ¬ ((190 : Nat) = 176 + 2 * 0) by decide, show ¬ ((191 : Nat) = 189) by decide, show ¬ ((191 : Nat) = 190) by decide, show ¬ ((191 : Nat) = 192) by decide, show ¬ ((191 : Nat) = 176 + 2 * 0) by decide, show ¬ ((192 : Nat) = 189) by decide, show ¬ ((192 : Nat) = 190) by decide, show ¬ ((192 : Nat) = 191) by decide, show ¬ ((192 : Nat) = 176 + 2 * 0) by decide, false_and, if_false, hin]
      exact b6 i hi
  · rw [e2, eo 0 (by omega) (by omega), eo 5 (by omega) (by omega), e6n]; have := cc.2.2; exact ⟨cc.1, cc.2.1, by omega⟩
  · unfold relT at t ⊢; rw [ev 0 (by omega), ev 6 (by omega), eu 182 (by omega) (by omega) (by omega) (by omega) (by omega), eu 183 (by omega) (by omega) (by omega) (by omega) (by omega)]; exact t
  · unfold relF at f ⊢; rw [ev 0 (by omega), eu 184 (by omega) (by omega) (by omega) (by omega) (by omega)]; exact f
  · unfold relP at p ⊢; rw [ev 0 (by omega), evl, eu2, eu 193 (by omega) (by omega) (by omega) (by omega) (by omega)]; exact p
