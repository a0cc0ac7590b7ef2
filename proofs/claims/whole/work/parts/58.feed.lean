theorem fb_bt (x : Int32) : x.toInt8.toInt32.toInt8.toInt32 = x.toInt8.toInt32 := by
  have h := pk_vb x
  rw [vp_nar_byte] at h
  exact h
theorem byte_eq (a : Int32) (n : Nat) (hn : n ≤ 24) : ((a.toUInt32 >>> ((nI n).toUInt32 &&& Int32.toUInt32 31)).toInt32 &&& 255) = (a >>> (nI n &&& 31)).toInt8.toInt32 &&& 255 := by
  rw [bp_b]
  apply b_ext
  intro i hi
  rw [b_and, b_and, b_255, b_ushr n (by omega), b_sshr n (by omega) a hi]
  by_cases h : i < 8
  · rw [if_pos (by omega)]
  · simp [h]
theorem byte_0 (a : Int32) : ((a.toUInt32 >>> ((nI 0).toUInt32 &&& Int32.toUInt32 31)).toInt32 &&& 255) = a.toInt8.toInt32 &&& 255 := by
  rw [bp_b]
  apply b_ext
  intro i hi
  rw [b_and, b_and, b_255, b_ushr 0 (by omega), Nat.zero_add]
theorem RR_tape {u v u2 v2 : Mem} (hR : RR u v) (hu : ∀ k, k ≠ 182 → k ≠ 183 → u2.1 k = u.1 k) (hu2 : u2.2 = u.2) (hv : ∀ k, k ≠ 0 → k ≠ 6 → v2.1 k = v.1 k) (hv0 : ∀ j, j ≠ 7 → v2.1 0 j = v.1 0 j) (hv2 : v2.2 = v.2) (ht : relT u2 v2) : RR u2 v2 := by
  obtain ⟨r1, r2, w1, w2, c, t, f, p⟩ := hR
  have e1 := hv 1 (by omega) (by omega)
  have e2 := hv 2 (by omega) (by omega)
  have hs : ∀ i, i < 4 → ∀ r, r < 4 → u2.1 (160 + 4 * i + r) = u.1 (160 + 4 * i + r) ∧ u2.2 (160 + 4 * i + r) = u.2 (160 + 4 * i + r) := fun i hi r hr => ⟨hu _ (by omega) (by omega), by rw [hu2]⟩
  refine ⟨by rw [e1]; exact r1, by rw [e2]; exact r2, ?_, ?_, by rw [e1, e2]; exact c, ht, ?_, ?_⟩
  · rw [e1, hv2]
    refine relW_rows r1.1.2 w1 (fun _ _ => rfl) (fun k hk => hu k (by omega) (by omega)) ?_ (fun q hq => relS_fr (hs _ (by omega)) (w1.2.1 q hq))
    rw [hu (176 + 2 * 0) (by omega) (by omega)]; exact w1.1
  · rw [e2, hv2]
    refine relW_rows r2.1.2 w2 (fun _ _ => rfl) (fun k hk => hu k (by omega) (by omega)) ?_ (fun q hq => relS_fr (hs _ (by omega)) (w2.2.1 q hq))
    rw [hu (176 + 2 * 1) (by omega) (by omega)]; exact w2.1
  · unfold relF at f ⊢; rw [hv0 8 (by omega), hv0 9 (by omega), hu 184 (by omega) (by omega)]; exact f
  · unfold relP at p ⊢; rw [hv0 5 (by omega), hv2, hu2, hu 193 (by omega) (by omega)]; exact p
/-- one byte comes: the class's side -/
theorem app1 (a : Int32) (u : Mem) (L s t : Nat) (hL : L < 400) (hs : s ≤ 24) (hu : u.1 182 1 = nI L) : fX8_append_L3 a (t + 1) (nI s) u = fX8_append_L3 a t (nI s + (-8)) (si (si u 183 L ((a.toUInt32 >>> ((nI s).toUInt32 &&& Int32.toUInt32 31)).toInt32 &&& 255)) 182 1 (nI (L + 1))) := by
  rw [fX8_append_L3, if_neg (by rw [i_lt, nI_n (by omega)]; have : (0 : Int32).toInt = 0 := rfl
                                omega), hu, if_neg (by rw [i_le, nI_n (by omega)]; have : (400 : Int32).toInt = 400 := rfl
                                                       omega), if_pos (inB_n hL (by omega)), cl_n (by omega)]
  simp only [Option.bind_some]
  rw [si_1, if_neg (by omega), hu, nI_1]
/-- four bytes come, on both sides -/
theorem word4 {u v : Mem} {L : Nat} (hL : L + 4 ≤ 400) (hv : v.1 0 7 = nI L) (ht : relT u v) (a : Int32) : ∃ u2 v2 : Mem, fX8_append a u = some u2 ∧ fX12_put a v = some v2 ∧ v2.1 0 7 = nI (L + 4) ∧ relT u2 v2 ∧ (∀ k, k ≠ 182 → k ≠ 183 → u2.1 k = u.1 k) ∧ u2.2 = u.2 ∧ (∀ k, k ≠ 0 → k ≠ 6 → v2.1 k = v.1 k) ∧ (∀ j, j ≠ 7 → v2.1 0 j = v.1 0 j) ∧ v2.2 = v.2 := by
  obtain ⟨t1, t2, t3⟩ := ht
  have hu : u.1 182 1 = nI L := t1.trans hv
  have hX : fX8_append a u = some (si (si (si (si (si (si (si (si u 183 L ((a.toUInt32 >>> ((nI 24).toUInt32 &&& Int32.toUInt32 31)).toInt32 &&& 255)) 182 1 (nI (L + 1))) 183 (L + 1) ((a.toUInt32 >>> ((nI 16).toUInt32 &&& Int32.toUInt32 31)).toInt32 &&& 255)) 182 1 (nI (L + 2))) 183 (L + 2) ((a.toUInt32 >>> ((nI 8).toUInt32 &&& Int32.toUInt32 31)).toInt32 &&& 255)) 182 1 (nI (L + 3))) 183 (L + 3) ((a.toUInt32 >>> ((nI 0).toUInt32 &&& Int32.toUInt32 31)).toInt32 &&& 255)) 182 1 (nI (L + 4))) := by
    unfold fX8_append
    rw [show fu0 = 99995 + 1 + 1 + 1 + 1 + 1 from rfl, show (24 : Int32) = nI 24 from rfl, app1 a u L 24 _ (by omega) (by omega) hu]
    rw [show nI 24 + (-8) = nI 16 from by decide, app1 a _ (L + 1) 16 _ (by omega) (by omega) (by rw [si_1, if_pos ⟨rfl, rfl⟩])]
    rw [show nI 16 + (-8) = nI 8 from by decide, app1 a _ (L + 2) 8 _ (by omega) (by omega) (by rw [si_1, if_pos ⟨rfl, rfl⟩])]
    rw [show nI 8 + (-8) = nI 0 from by decide, app1 a _ (L + 3) 0 _ (by omega) (by omega) (by rw [si_1, if_pos ⟨rfl, rfl⟩])]
    rw [fX8_append_L3, if_pos (by decide)]
  have i1 : nI L + 1 = nI (L + 1) := nI_1 L
  have i2 : nI L + 2 = nI (L + 2) := nI_add L 2
  have i3 : nI L + 3 = nI (L + 3) := nI_add L 3
  have i4 : nI L + 4 = nI (L + 4) := nI_add L 4
  have hM : fX12_put a v = some (si (si (si (si (si v 6 L ((a >>> (24 &&& 31)).toInt8.toInt32)) 6 (L + 1) ((a >>> (16 &&& 31)).toInt8.toInt32)) 6 (L + 2) ((a >>> (8 &&& 31)).toInt8.toInt32)) 6 (L + 3) a.toInt8.toInt32) 0 7 (nI (L + 4))) := by
    unfold fX12_put
    rw [hv, if_pos (inB_n (by omega) (by omega)), cl_n (by omega)]
    simp only [Option.bind_some]
    have e6 : ∀ (w : Mem) (j : Nat) (x : Int32), (si w 6 j x).1 0 7 = w.1 0 7 := fun w j x => by rw [si_1, if_neg (by omega)]
    simp only [e6, hv, i1, i2, i3, i4]
    rw [if_pos (inB_n (by omega) (by omega)), cl_n (by omega), if_pos (inB_n (by omega) (by omega)), cl_n (by omega), if_pos (inB_n (by omega) (by omega)), cl_n (by omega)]
  refine ⟨_, _, hX, hM, by rw [si_1, if_pos ⟨rfl, rfl⟩], ⟨?_, ?_, fun k hk => ?_⟩, fun k h1 h2 => ?_, rfl, fun k h1 h2 => ?_, fun j hj => ?_, rfl⟩
  · rw [si_1, if_pos ⟨rfl, rfl⟩, si_1, if_pos ⟨rfl, rfl⟩]
  · rw [si_1, if_pos ⟨rfl, rfl⟩, nI_n (by omega)]; omega
  · rw [si_1, if_pos ⟨rfl, rfl⟩, nI_n (by omega)] at hk
    have b24 := byte_eq a 24 (by omega)
    have b16 := byte_eq a 16 (by omega)
    have b8 := byte_eq a 8 (by omega)
    have b0 := byte_0 a
    have hvL : (v.1 0 7).toInt = L := by rw [hv, nI_n (by omega)]
    simp only [si_1, true_and]
    by_cases k3 : k = L + 3
    · subst k3
      simp only [show ¬ (6 = 0 ∧ L + 3 = 7) by omega, show ¬ (183 = 182 ∧ L + 3 = 1) by omega, if_false, if_true, false_and]
      exact ⟨b0, fb_bt a⟩
    · by_cases k2 : k = L + 2
      · subst k2
        simp only [show ¬ (6 = 0 ∧ L + 2 = 7) by omega, show ¬ (183 = 182 ∧ L + 2 = 1) by omega, k3, if_false, if_true, false_and]
        exact ⟨b8, fb_bt _⟩
      · by_cases k1 : k = L + 1
        · subst k1
          simp only [show ¬ (6 = 0 ∧ L + 1 = 7) by omega, show ¬ (183 = 182 ∧ L + 1 = 1) by omega, k3, k2, if_false, if_true, false_and]
          exact ⟨b16, fb_bt _⟩
        · by_cases k0 : k = L
          · subst k0
            simp only [show ¬ (6 = 0 ∧ k = 7) by omega, show ¬ (183 = 182 ∧ k = 1) by omega, k3, k2, k1, if_false, if_true, false_and]
            exact ⟨b24, fb_bt _⟩
          · simp only [show ¬ (6 = 0 ∧ k = 7) by omega, show ¬ (183 = 182 ∧ k = 1) by omega, k3, k2, k1, k0, if_false, false_and]
            exact t3 k (by omega)
  · funext j; simp only [si_1, h1, h2, false_and, if_false]
  · funext j; simp only [si_1, h1, h2, false_and, if_false]
  · simp only [si_1, hj, and_false, if_false, show ¬ (0 = 6) by omega, false_and]
theorem sp_feed_ok : sp_feed RR := by
  intro u v a1 a2 a3 a4 a5 hR
  obtain ⟨r1, r2, w1, w2, c, t, f, p⟩ := id hR
  have ht := t.2.1
  obtain ⟨L, hL400, hL⟩ : ∃ L : Nat, L ≤ 400 ∧ v.1 0 7 = nI L := ⟨(v.1 0 7).toInt.toNat, by omega, i_nat ht.1⟩
  unfold fX11_feed fX12_feed
  rw [t.1, hL]
  have e20 : nI L + 20 = nI (L + 20) := nI_add L 20
  have e400 : (400 : Int32).toInt = 400 := rfl
  rw [e20]
  by_cases h : L + 20 ≤ 400
  · have p1 : nI (L + 20) ≤ 400 := by rw [i_le, nI_n (by omega)]; omega
    obtain ⟨u1, v1, x1, m1, l1, t1, b1, c1, d1, f1, g1⟩ := word4 (by omega) hL t a1
    obtain ⟨u2, v2, x2, m2, l2, t2, b2, c2, d2, f2, g2⟩ := word4 (by omega) l1 t1 a2
    obtain ⟨u3, v3, x3, m3, l3, t3, b3, c3, d3, f3, g3⟩ := word4 (by omega) l2 t2 a3
    obtain ⟨u4, v4, x4, m4, l4, t4, b4, c4, d4, f4, g4⟩ := word4 (by omega) l3 t3 a4
    obtain ⟨u5, v5, x5, m5, l5, t5, b5, c5, d5, f5, g5⟩ := word4 (by omega) l4 t4 a5
    simp only [if_pos p1, x1, m1, x2, m2, x3, m3, x4, m4, x5, m5, Option.bind_some]
    refine ⟨v5.1 0 7, u5, v5, by rw [t5.1], rfl, ?_⟩
    exact RR_tape hR (fun k h1 h2 => by rw [b5 k h1 h2, b4 k h1 h2, b3 k h1 h2, b2 k h1 h2, b1 k h1 h2]) (by rw [c5, c4, c3, c2, c1]) (fun k h1 h2 => by rw [d5 k h1 h2, d4 k h1 h2, d3 k h1 h2, d2 k h1 h2, d1 k h1 h2]) (fun j hj => by rw [f5 j hj, f4 j hj, f3 j hj, f2 j hj, f1 j hj]) (by rw [g5, g4, g3, g2, g1]) t5
  · have p1 : ¬ nI (L + 20) ≤ 400 := by rw [i_le, nI_n (by omega)]; omega
    rw [if_neg p1, if_neg p1]
    exact ⟨-1, u, v, rfl, rfl, hR⟩
