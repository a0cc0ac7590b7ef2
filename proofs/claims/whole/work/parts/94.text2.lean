def kXr : Mem → Option (Bool × Mem) := fun u16 => (if (u16.1 184 2).toNatClampNeg < 32 then ((fX3_isBalanced ((u16.1 184 2).toNatClampNeg) u16).bind fun r19 => (if r19 = true then (some (true, u16)) else ((fX4_blame 6 u16).bind fun q22 => (some ((if q22.1 = true then true else false), q22.2))))) else none)
def kMr : Int32 → Mem → Option (Int32 × Mem) := fun v50 u51 => (if (u51.1 0 15) = 0 then ((fX12_isEven u51).bind fun r54 => (if r54 = true then fX12_text_J252 v50 u51 else ((fX12_errs 6 u51).bind fun u62 => fX12_text_J252 v50 u62))) else fX12_text_J252 v50 u51)
/-- the reference's memory when it begins to read -/
def vB (v : Mem) : Mem := si (si (si (si (si v 0 10 (v.1 0 7)) 0 7 0) 0 11 0) 0 15 0) 0 16 (-1)
theorem vB_r (v : Mem) {k : Nat} (h : k ≠ 0) : (vB v).1 k = v.1 k := by unfold vB; rw [si_ro _ _ h, si_ro _ _ h, si_ro _ _ h, si_ro _ _ h, si_ro _ _ h]
theorem vB_0 (v : Mem) {j : Nat} (h : j ≠ 7 ∧ j ≠ 10 ∧ j ≠ 11 ∧ j ≠ 15 ∧ j ≠ 16) : (vB v).1 0 j = v.1 0 j := by unfold vB; rw [si_1, if_neg (by omega), si_1, if_neg (by omega), si_1, if_neg (by omega), si_1, if_neg (by omega), si_1, if_neg (by omega)]
theorem vB_s (v : Mem) : (vB v).1 0 7 = 0 ∧ (vB v).1 0 10 = v.1 0 7 ∧ (vB v).1 0 11 = 0 ∧ (vB v).1 0 15 = 0 ∧ (vB v).1 0 16 = -1 ∧ (vB v).2 = v.2 := by
  unfold vB
  refine ⟨?_, ?_, ?_, ?_, ?_, rfl⟩
  · rw [si_1, if_neg (by omega), si_1, if_neg (by omega), si_1, if_neg (by omega), si_1, if_pos ⟨rfl, rfl⟩]
  · rw [si_1, if_neg (by omega), si_1, if_neg (by omega), si_1, if_neg (by omega), si_1, if_neg (by omega), si_1, if_pos ⟨rfl, rfl⟩]
  · rw [si_1, if_neg (by omega), si_1, if_neg (by omega), si_1, if_pos ⟨rfl, rfl⟩]
  · rw [si_1, if_neg (by omega), si_1, if_pos ⟨rfl, rfl⟩]
  · rw [si_1, if_pos ⟨rfl, rfl⟩]
/-- both sides have begun to read -/
theorem begT {u v : Mem} (hR : RR u v) {T T1 : Nat} (hT : v.1 1 0 = nI T) (hT1 : T1 = T + 1) (hT30 : T1 ≤ 30) : ∃ (B : Nat → Int) (L : Nat) (u5 u7 v7 : Mem), fX3_copyFrom T1 T u = some u5 ∧ fX4_read T1 u5 = fX4_read_L61 kXr fu0 u7 ∧ fX12_text v = fX12_text_L110 kMr fu0 (nI 0) v7 ∧ CT B L T1 u (vB v) ∧ OKs B L T1 u (vB v) u7 v7 ∧ DRF T1 u7 v7 ∧ u7.1 (5 * T1) 4 = nI 0 := by
  obtain ⟨r1, r2, w1, w2, c, t, f, p⟩ := id hR
  have e0 : (v.1 1 0).toInt = (T : Int) := by rw [hT, nI_n (by omega)]
  have hO : lawOk (fun k => v.1 1 (1500 + 220 * T + k)) := r1.2.2.2.2.2.2.2.2.2.2.2 T (by omega)
  have hL : relL u T (fun k => v.1 1 (1500 + 220 * T + k)) := w1.2.2.1 T (by omega)
  obtain ⟨u5, c1, c2, c3, c4⟩ := copyX hT1 hO hL
  obtain ⟨b7, b10, b11, b15, b16, b2⟩ := vB_s v
  -- the tape
  have hl := i_nat t.2.1.1
  have hl4 := t.2.1.2
  generalize hLL : (v.1 0 7).toInt.toNat = L at hl
  have hTP : TP (fun k => (v.1 6 k).toInt) L u (vB v) := by
    refine ⟨by rw [t.1]; exact hl, by rw [b10]; exact hl, by omega, fun k hk => ?_⟩
    obtain ⟨t1, t2⟩ := t.2.2 k (by omega)
    obtain ⟨z1, z2, z3⟩ := byt t2
    exact ⟨⟨z1, z2⟩, by rw [t1]; exact z3, by rw [vB_r v (by omega), zI_of]⟩
  have C : CT (fun k => (v.1 6 k).toInt) L T1 u (vB v) := ⟨by omega, hTP⟩
  -- the class
  obtain ⟨u6, d1, d2, d3, d4⟩ := r35 18 0 fu0 (si (si (si (si (si (si u5 184 2 (nI T1)) (5 * T1) 4 0) 184 8 1) 184 9 0) 184 10 (-1)) 184 5 0) (by omega) (fu_n (by omega)) (fun j hj => by omega)
  generalize hu3 : si (si (si (si (si (si u5 184 2 (nI T1)) (5 * T1) 4 0) 184 8 1) 184 9 0) 184 10 (-1)) 184 5 0 = u3 at *
  have q0 : ∀ k, k ≠ 184 → k ≠ 5 * T1 → u3.1 k = u5.1 k := fun k a b => by rw [← hu3, si_ro _ _ a, si_ro _ _ a, si_ro _ _ a, si_ro _ _ a, si_ro _ _ b, si_ro _ _ a]
  have q1 : u3.1 184 5 = 0 := by rw [← hu3, si_1, if_pos ⟨rfl, rfl⟩]
  have q2 : u3.1 184 10 = -1 := by rw [← hu3, si_1, if_neg (by omega), si_1, if_pos ⟨rfl, rfl⟩]
  have q3 : u3.1 184 9 = 0 := by rw [← hu3, si_1, if_neg (by omega), si_1, if_neg (by omega), si_1, if_pos ⟨rfl, rfl⟩]
  have q4 : u3.1 184 8 = 1 := by rw [← hu3, si_1, if_neg (by omega), si_1, if_neg (by omega), si_1, if_neg (by omega), si_1, if_pos ⟨rfl, rfl⟩]
  have q5 : u3.1 184 2 = nI T1 := by rw [← hu3, si_1, if_neg (by omega), si_1, if_neg (by omega), si_1, if_neg (by omega), si_1, if_neg (by omega), si_1, if_neg (by omega), si_1, if_pos ⟨rfl, rfl⟩]
  have q6 : u3.1 (5 * T1) 4 = 0 := by rw [← hu3, si_1, if_neg (by omega), si_1, if_neg (by omega), si_1, if_neg (by omega), si_1, if_neg (by omega), si_1, if_pos ⟨rfl, rfl⟩]
  have q7 : u3.2 = u5.2 := by rw [← hu3]; rfl
  have r6 : u6.1 184 = u3.1 184 := d2 184 (by omega)
  -- the reference
  obtain ⟨v4, g1, g2, g3, g4⟩ := m43 18 0 fu0 (vB v) (by omega) (fu_n (by omega)) (fun j hj => by omega)
  have v41 : v4.1 1 = v.1 1 := by rw [g2 1 (by omega), vB_r v (by omega)]
  obtain ⟨v6, i1, i2, i3, i4⟩ := m64 (T := T) (by omega) 220 0 fu0 v4 (by omega) (fu_n (by omega)) (by rw [v41]; exact hT) (fun j hj => by omega)
  have s0 : v6.1 0 = (vB v).1 0 := by rw [i2 0 (by omega), g2 0 (by omega)]
  have s6 : v6.1 6 = (vB v).1 6 := by rw [i2 6 (by omega), g2 6 (by omega)]
  have hTP6 : TP (fun k => (v.1 6 k).toInt) L u6 v6 := by
    obtain ⟨t1, t2, t3, t4⟩ := hTP
    have e182 : u6.1 182 = u.1 182 := by rw [d2 182 (by omega), q0 182 (by omega) (by omega), c2 182 (by omega)]
    have e183 : u6.1 183 = u.1 183 := by rw [d2 183 (by omega), q0 183 (by omega) (by omega), c2 183 (by omega)]
    exact ⟨by rw [e182]; exact t1, by rw [s0]; exact t2, t3, fun k hk => by rw [e183, s6]; exact t4 k hk⟩
  obtain ⟨u7, v7, n1, n2, n3, n4, n5⟩ := next_both (p := 0) (by omega) hTP6 (by rw [r6]; exact q1) (by rw [s0]; exact b11)
  have hdr : ∀ k, 5 * T1 + 1 ≤ k → k < 5 * T1 + 5 → u7.1 k = u5.1 k := fun k a b => by rw [n3.1 k (by omega), d2 k (by omega), q0 k (by omega) (by omega)]
  refine ⟨_, L, u5, u7, v7, c1, ?_, ?_, C, ⟨⟨fun k a b d => ?_, ?_, fun k a b d => ?_, ?_, fun j hj => ?_, ⟨?_, ?_⟩, ?_, ?_⟩, ?_, fun j hj => ?_, n5⟩, ⟨?_, ?_⟩, ?_⟩
  · unfold fX4_read
    have s2 : (si u5 184 2 (nI T1)).1 184 2 = nI T1 := by rw [si_1, if_pos ⟨rfl, rfl⟩]
    rw [s2, cl_n (by omega), if_pos (show T1 < 32 by omega), Option.bind_some, Option.bind_some, hu3]
    refine Eq.trans (d1 _) ?_
    rw [n1, Option.bind_some]; rfl
  · unfold fX12_text
    rw [hT, if_neg (fun h => by have := nI_inj (b := 30) (by omega) (by omega) h; omega), Option.bind_some]
    refine Eq.trans (g1 _) ?_
    refine Eq.trans (i1 _) ?_
    rw [n2, Option.bind_some]; rfl
  · rw [n3.1 k a, d2 k b, q0 k a (by omega), c2 k (by omega)]
  · rw [n3.2.2, d3, q7, c3]
  · rw [n4.1 k a, i2 k d, g2 k b]
  · rw [n4.2.2, i3, g3]
  · rw [n4.2.1 j (by omega), s0]
  · rw [n3.2.1 2 (by omega), r6]; exact q5
  · rw [n3.2.1 8 (by omega), r6]; exact q4
  · rw [n3.2.1 9 (by omega), r6, q3, n4.2.1 15 (by omega), s0, b15]
  · rw [n3.2.1 10 (by omega), r6, q2, n4.2.1 16 (by omega), s0, b16]
  · rw [n4.2.1 15 (by omega), s0, b15]
  · rw [n3.1 185 (by omega), d4 j hj, n4.1 7 (by omega), i2 7 (by omega), g4 j hj]
  · have e8 : ∀ j, j < 220 → v7.1 8 j = v.1 1 (1500 + 220 * T + j) := fun j hj => by rw [n4.1 8 (by omega), i4 j hj, v41]
    refine relL_ext e8 hO ?_
    obtain ⟨l1, l2, l3, l4⟩ := c4
    exact ⟨fun k hk => by rw [hdr _ (by omega) (by omega)]; exact l1 k hk, fun c hc j hj => by rw [hdr _ (by omega) (by omega)]; exact l2 c hc j hj, fun n hn => by rw [hdr _ (by omega) (by omega)]; exact l3 n hn, fun n hn p hp j hj => by rw [hdr _ (by omega) (by omega)]; exact l4 n hn p hp j hj⟩
  · have e8 : ∀ j, j < 220 → v7.1 8 j = v.1 1 (1500 + 220 * T + j) := fun j hj => by rw [n4.1 8 (by omega), i4 j hj, v41]
    exact lawOk_ext e8 hO
  · rw [n3.1 _ (by omega), d2 _ (by omega), q6]; rfl
theorem frm_W {T1 : Nat} {u v w z : Mem} (hT : T1 ≤ 30) (h : FRM T1 u (vB v) w z) : frW T1 u (si w 182 1 0) := by
  obtain ⟨f1, f2, -, -, -, f6, -⟩ := h
  exact ⟨fun k a b c d e g => by rw [si_ro _ _ c]; exact f1 k d e g, f2, by rw [si_1, if_pos ⟨rfl, rfl⟩], by rw [si_ro _ _ (by omega)]; exact f6.2⟩
theorem failT {u v w z : Mem} {T T1 : Nat} (hR : RR u v) (hT : v.1 1 0 = nI T) (hT1 : T1 = T + 1) (hT30 : T1 ≤ 30) (h : FLs T1 u (vB v) w z) (a : Int32) : ∃ z2, fX12_text_J252 a z = some (-1, z2) ∧ RR (si w 182 1 0) z2 := by
  obtain ⟨b7, b10, b11, b15, b16, b2⟩ := vB_s v
  obtain ⟨hF, hw⟩ := h
  have hW := frm_W hT30 hF
  obtain ⟨f1, f2, f3, f4, f5, f6, f7⟩ := hF
  unfold fX12_text_J252
  rw [Option.bind_some]
  have e16 : (si z 0 8 (z.1 0 15)).1 0 16 = z.1 0 16 := by rw [si_1, if_neg (by omega)]
  rw [e16]
  generalize hz2 : si (si z 0 8 (z.1 0 15)) 0 9 (z.1 0 16) = z2
  have o0 : ∀ k, k ≠ 0 → z2.1 k = z.1 k := fun k hk => by rw [← hz2, si_ro _ _ hk, si_ro _ _ hk]
  have o1 : ∀ j, j ≠ 8 → j ≠ 9 → z2.1 0 j = z.1 0 j := fun j a b => by rw [← hz2, si_1, if_neg (by omega), si_1, if_neg (by omega)]
  have o8 : z2.1 0 8 = z.1 0 15 := by rw [← hz2, si_1, if_neg (by omega), si_1, if_pos ⟨rfl, rfl⟩]
  have o9 : z2.1 0 9 = z.1 0 16 := by rw [← hz2, si_1, if_pos ⟨rfl, rfl⟩]
  have o2 : z2.2 = z.2 := by rw [← hz2]; rfl
  refine ⟨z2, ?_, RR_fail hT hT1 hT30 hR hW ?_ ⟨fun k k1 k2 => ?_, ?_, ?_, ?_⟩ ?_ ⟨?_, ?_⟩⟩
  · rw [if_neg (by rw [o1 15 (by omega) (by omega)]; exact wr_3 hw)]
  · rw [si_ro _ _ (by omega)]; exact f1 176 (by omega) (by omega) (by omega)
  · rw [o0 k (by omega), f3 k (by omega) (by omega) (by omega), vB_r v (by omega)]
  · rw [o2, f4, b2]
  · rw [o1 5 (by omega) (by omega), f5 5 (by omega), vB_0 v (by omega)]
  · rw [o1 7 (by omega) (by omega), f5 7 (by omega), b7]
  · rw [o0 1 (by omega), f3 1 (by omega) (by omega) (by omega), vB_r v (by omega)]
  · rw [si_ro _ _ (by omega), o8]; exact f7.1
  · rw [si_ro _ _ (by omega), o9]; exact f7.2
theorem okT {B : Nat → Int} {L : Nat} {u v w z : Mem} {T T1 n : Nat} (hR : RR u v) (hT : v.1 1 0 = nI T) (hT1 : T1 = T + 1) (hT30 : T1 ≤ 30) (h : OKs B L T1 u (vB v) w z) (hd : DRF T1 w z) (hn : w.1 (5 * T1) 4 = nI n) : ∃ z2, fX12_text_J252 (nI n) z = some (nI T1, z2) ∧ RR (si (si (si w 182 1 0) 176 1 (nI T1)) 176 2 (nI T1)) z2 := by
  obtain ⟨b7, b10, b11, b15, b16, b2⟩ := vB_s v
  obtain ⟨hF, hw, -⟩ := h
  have hW := frm_W hT30 hF
  obtain ⟨f1, f2, f3, f4, f5, f6, f7⟩ := hF
  have z1 : z.1 1 = v.1 1 := by rw [f3 1 (by omega) (by omega) (by omega), vB_r v (by omega)]
  unfold fX12_text_J252
  rw [Option.bind_some]
  have e16 : (si z 0 8 (z.1 0 15)).1 0 16 = z.1 0 16 := by rw [si_1, if_neg (by omega)]
  rw [e16]
  generalize hz2 : si (si z 0 8 (z.1 0 15)) 0 9 (z.1 0 16) = z2
  have o0 : ∀ k, k ≠ 0 → z2.1 k = z.1 k := fun k hk => by rw [← hz2, si_ro _ _ hk, si_ro _ _ hk]
  have o1 : ∀ j, j ≠ 8 → j ≠ 9 → z2.1 0 j = z.1 0 j := fun j a b => by rw [← hz2, si_1, if_neg (by omega), si_1, if_neg (by omega)]
  have o8 : z2.1 0 8 = z.1 0 15 := by rw [← hz2, si_1, if_neg (by omega), si_1, if_pos ⟨rfl, rfl⟩]
  have o9 : z2.1 0 9 = z.1 0 16 := by rw [← hz2, si_1, if_pos ⟨rfl, rfl⟩]
  have o2 : z2.2 = z.2 := by rw [← hz2]; rfl
  have t0 : z2.1 1 0 = nI T := by rw [o0 1 (by omega), z1]; exact hT
  have eT : nI T + 1 = nI T1 := by rw [hT1, nI_1]
  have p0 : (si z2 1 0 (nI T1)).1 1 0 = nI T1 := by rw [si_1, if_pos ⟨rfl, rfl⟩]
  rw [if_pos (by rw [o1 15 (by omega) (by omega), hw]; decide), Option.bind_some, t0, eT, p0]
  generalize hz3 : si (si (si z2 1 0 (nI T1)) 1 1 (nI T1)) 1 7 (nI n) = z3
  have y0 : ∀ k, k ≠ 1 → z3.1 k = z2.1 k := fun k hk => by rw [← hz3, si_ro _ _ hk, si_ro _ _ hk, si_ro _ _ hk]
  have y1 : z3.1 1 0 = nI T1 := by rw [← hz3, si_1, if_neg (by omega), si_1, if_neg (by omega), si_1, if_pos ⟨rfl, rfl⟩]
  have y2 : z3.1 1 1 = nI T1 := by rw [← hz3, si_1, if_neg (by omega), si_1, if_pos ⟨rfl, rfl⟩]
  have y3 : z3.1 1 7 = nI n := by rw [← hz3, si_1, if_pos ⟨rfl, rfl⟩]
  have y4 : ∀ j, j ≠ 0 → j ≠ 1 → j ≠ 7 → z3.1 1 j = z2.1 1 j := fun j a b c => by rw [← hz3, si_1, if_neg (by omega), si_1, if_neg (by omega), si_1, if_neg (by omega)]
  have y5 : z3.2 = z2.2 := by rw [← hz3]; rfl
  obtain ⟨z4, m1, m2, m3, m4, m5⟩ := m309 (T1 := T1) hT30 220 0 fu0 z3 (by omega) (fu_n (by omega)) y1 (fun j hj => by omega)
  refine ⟨z4, m1, ?_⟩
  have hu9 : ∀ k, k ≠ 176 → (si (si (si w 182 1 0) 176 1 (nI T1)) 176 2 (nI T1)).1 k = (si w 182 1 0).1 k := fun k hk => by rw [si_ro _ _ hk, si_ro _ _ hk]
  refine RR_ok (g := z.1 8) (n := n) hT hT1 hT30 hR ⟨fun k a b c d e g => by rw [hu9 k b]; exact hW.1 k a b c d e g, hW.2.1, by rw [hu9 182 (by omega)]; exact hW.2.2.1, by rw [hu9 184 (by omega)]; exact hW.2.2.2⟩ ⟨?_, ?_, fun j hj => ?_⟩ ⟨fun k k1 k2 => ?_, ?_, ?_, ?_⟩ ⟨?_, ?_⟩ ?_ ?_ ?_ (fun j hj => ?_) (fun j j0 j1 j7 jr => ?_) ?_ hd.2 ?_
  · rw [si_1, if_neg (by omega), si_1, if_pos ⟨rfl, rfl⟩]
  · rw [si_1, if_pos ⟨rfl, rfl⟩]
  · rw [si_1, if_neg (by omega), si_1, if_neg (by omega), si_ro _ _ (by omega), f1 176 (by omega) (by omega) (by omega)]
  · rw [m2 k (by omega), y0 k (by omega), o0 k (by omega), f3 k (by omega) (by omega) (by omega), vB_r v (by omega)]
  · rw [m3, y5, o2, f4, b2]
  · rw [m2 0 (by omega), y0 0 (by omega), o1 5 (by omega) (by omega), f5 5 (by omega), vB_0 v (by omega)]
  · rw [m2 0 (by omega), y0 0 (by omega), o1 7 (by omega) (by omega), f5 7 (by omega), b7]
  · rw [hu9 184 (by omega), si_ro _ _ (by omega), m2 0 (by omega), y0 0 (by omega), o8]; exact f7.1
  · rw [hu9 184 (by omega), si_ro _ _ (by omega), m2 0 (by omega), y0 0 (by omega), o9]; exact f7.2
  · rw [m5 0 (by omega)]; exact y1
  · rw [m5 1 (by omega)]; exact y2
  · rw [m5 7 (by omega)]; exact y3
  · rw [m4 j hj, y0 8 (by omega), o0 8 (by omega)]
  · rw [m5 j jr, y4 j j0 j1 j7, o0 1 (by omega), z1]
  · exact relL_fr (u := w) (fun r hr => by rw [hu9 _ (by omega), si_ro _ _ (by omega)]) hd.1
  · rw [hu9 _ (by omega), si_ro _ _ (by omega)]; exact hn
theorem sp_text_ok : sp_text RR := by
  intro u v hR
  obtain ⟨r1, r2, w1, w2, c, t, f, p⟩ := id hR
  have e30 : (30 : Int32).toInt = 30 := rfl
  have hT := i_nat r1.1.1
  have hT9 := r1.1.2
  generalize hTT : (v.1 1 0).toInt.toNat = T at hT
  have hX : u.1 176 1 = nI T := w1.1.1.trans hT
  have T30 : T ≤ 30 := by omega
  by_cases h30 : T = 30
  · refine ⟨-1, u, v, ?_, ?_, hR⟩
    · unfold fX11_text
      rw [show 176 + 2 * 0 = 176 from rfl, hX, if_neg (by rw [i_lt, nI_n (by omega)]; omega)]
    · unfold fX12_text
      rw [hT, if_pos (by rw [h30]; rfl)]
  · obtain ⟨B, L, u5, u7, v7, b1, b2, b3, C, b4, b5, b6⟩ := begT hR hT (T1 := T + 1) rfl (by omega)
    have hcls : fX11_text u = ((fX4_read (T + 1) u5).bind fun q7 => (if q7.1 = true then ((some (si (si q7.2 182 1 0) (176 + 2 * 0) 1 (((si q7.2 182 1 0).1 (176 + 2 * 0) 1) + 1))).bind fun u9 => (some ((si u9 (176 + 2 * 0) 2 (u9.1 (176 + 2 * 0) 1)).1 (176 + 2 * 0) 1, si u9 (176 + 2 * 0) 2 (u9.1 (176 + 2 * 0) 1)))) else (some ((-1), si q7.2 182 1 0)))) := by
      unfold fX11_text
      rw [show u.1 (176 + 2 * 0) 1 = nI T from hX, if_pos (by rw [i_lt, nI_n (by omega)]; omega), nI_1, if_pos (inB_n (by omega) (by omega)), if_pos (inB_n (by omega) (by omega)), cl_n (by omega), cl_n (by omega), b1, Option.bind_some]
    have failR : ∀ {w z : Mem} (a : Int32), FLs (T + 1) u (vB v) w z → fX4_read (T + 1) u5 = some (false, w) → fX12_text v = fX12_text_J252 a z → ∃ (r : Int32) (u2 v2 : Mem), fX11_text u = some (r, u2) ∧ fX12_text v = some (r, v2) ∧ RR u2 v2 := fun {w z} a hF h1 h2 => by
      obtain ⟨z2, k1, k2⟩ := failT hR hT rfl (by omega) hF a
      refine ⟨-1, si w 182 1 0, z2, ?_, by rw [h2, k1], k2⟩
      rw [hcls, h1, Option.bind_some]; rfl
    rcases rd_loop C kXr kMr 20 0 fu0 fu0 u7 v7 (by omega) (fu_n (by omega)) (fu_n (by omega)) b4 b5 b6 with ⟨n, w, z, k1, k2, k3, k4, k5, k6⟩ | ⟨a, w, z, k2, k3, k4⟩
    · have tw : (w.1 184 2).toNatClampNeg = T + 1 := by rw [k4.1.2.2.2.2.2.1.1, cl_n (by omega)]
      obtain ⟨b, l1, l2⟩ := bal k5
      have hM : fX12_text v = ((fX12_isEven z).bind fun r54 => (if r54 = true then fX12_text_J252 (nI n) z else ((fX12_errs 6 z).bind fun u62 => fX12_text_J252 (nI n) u62))) := by
        rw [b3, k3]
        unfold kMr
        rw [if_pos k4.2.1]
      have hC : fX4_read (T + 1) u5 = (if b = true then (some (true, w)) else ((fX4_blame 6 w).bind fun q22 => (some ((if q22.1 = true then true else false), q22.2)))) := by
        rw [b2, k2]
        unfold kXr
        rw [tw, if_pos (show T + 1 < 32 by omega), l1, Option.bind_some]
      rw [l2, Option.bind_some] at hM
      cases b with
      | true =>
        rw [if_pos rfl] at hM hC
        obtain ⟨z2, y1, y2⟩ := okT hR hT rfl (by omega) k4 k5 k6
        refine ⟨nI (T + 1), _, z2, ?_, by rw [hM, y1], y2⟩
        have e1 : (si w 182 1 0).1 176 1 + 1 = nI (T + 1) := by rw [si_ro _ _ (by omega), k4.1.1 176 (by omega) (by omega) (by omega), hX, nI_1]
        have e2 : (si (si w 182 1 0) 176 1 (nI (T + 1))).1 176 1 = nI (T + 1) := by rw [si_1, if_pos ⟨rfl, rfl⟩]
        have e3 : (si (si (si w 182 1 0) 176 1 (nI (T + 1))) 176 2 (nI (T + 1))).1 176 1 = nI (T + 1) := by rw [si_1, if_neg (by omega)]; exact e2
        rw [hcls, hC, Option.bind_some, if_pos rfl, Option.bind_some]
        show some ((si (si (si w 182 1 0) 176 1 ((si w 182 1 0).1 176 1 + 1)) 176 2 ((si (si w 182 1 0) 176 1 ((si w 182 1 0).1 176 1 + 1)).1 176 1)).1 176 1, si (si (si w 182 1 0) 176 1 ((si w 182 1 0).1 176 1 + 1)) 176 2 ((si (si w 182 1 0) 176 1 ((si w 182 1 0).1 176 1 + 1)).1 176 1)) = _
        rw [e1, e2, e3]
      | false =>
        rw [if_neg (by decide)] at hM hC
        obtain ⟨u9, v9, g1, g2, g3⟩ := bl k4 (f := 6) (by decide)
        rw [g2, Option.bind_some] at hM
        rw [g1, Option.bind_some] at hC
        exact failR (nI n) g3 hC hM
    · refine failR a k4 (b2.trans k2) ?_
      rw [b3, k3]
      unfold kMr
      rw [if_neg (wr_1 k4.2)]
