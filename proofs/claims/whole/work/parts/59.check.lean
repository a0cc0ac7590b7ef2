/-- both sides count the places that are other -/
theorem cmpL (i q : Nat) (hq : q < 2) (a : Int32) (v : Mem) (hv5 : v.1 0 5 = nI q) (K : Int32 → Int32 → Option Int32) : ∀ (n p : Nat) (u : Mem) (t t2 c : Nat) (pl : Int32), p + n = 80 → n < t → n < t2 → c ≤ p → u.1 193 2 = nI c → (c ≠ 0 → u.1 193 3 = pl) → (∀ k, k < 80 → u.2 194 k = v.2 5 k) → (∀ k, k < 80 → u.2 (160 + 4 * i + 2) k = v.2 3 (80 * q + k)) → ∃ (u2 : Mem) (c2 : Nat) (pl2 : Int32), c2 ≤ 80 ∧ fX5_compare_L7 i t (nI p) u = some u2 ∧ fX12_check_L28 a v K t2 (nI c) pl (nI p) = K (nI c2) pl2 ∧ u2.1 193 2 = nI c2 ∧ (c2 ≠ 0 → u2.1 193 3 = pl2) ∧ u2.2 = u.2 ∧ (∀ k, k ≠ 193 → u2.1 k = u.1 k) ∧ u2.1 193 1 = u.1 193 1 := by
  intro n
  induction n with
  | zero =>
    intro p u t t2 c pl hp ht ht2 hc h2 h3 hs hb
    obtain ⟨t, rfl⟩ : ∃ k, t = k + 1 := ⟨t - 1, by omega⟩
    obtain ⟨t2, rfl⟩ : ∃ k, t2 = k + 1 := ⟨t2 - 1, by omega⟩
    have hp : p = 80 := by omega
    subst hp
    refine ⟨u, c, pl, hc, ?_, ?_, h2, h3, rfl, fun _ _ => rfl, rfl⟩
    · rw [fX5_compare_L7, if_pos (by decide)]
    · rw [fX12_check_L28, if_pos (by decide)]
  | succ n ih =>
    intro p u t t2 c pl hp ht ht2 hc h2 h3 hs hb
    obtain ⟨t, rfl⟩ : ∃ k, t = k + 1 := ⟨t - 1, by omega⟩
    obtain ⟨t2, rfl⟩ : ∃ k, t2 = k + 1 := ⟨t2 - 1, by omega⟩
    have h1 : ¬ (80 : Int32) ≤ nI p := by rw [i_le, nI_n (by omega)]; have : (80 : Int32).toInt = 80 := by decide
                                          omega
    have e8 : 80 * v.1 0 5 + nI p = nI (80 * q + p) := by rw [hv5, show (80 : Int32) = nI 80 from rfl, pk_mul, nI_add]
    have p1 : inB (nI p) 80 := inB_n (by omega) (by omega)
    have p2 : inB (nI (80 * q + p)) 160 := inB_n (by omega) (by omega)
    rw [fX5_compare_L7, fX12_check_L28, if_neg h1, if_neg h1, e8]
    simp only [if_pos p1, if_pos p2, cl_n (show p < 2147483648 by omega), cl_n (show 80 * q + p < 2147483648 by omega), hs p (by omega), hb p (by omega), nI_1]
    by_cases he : v.2 5 p = v.2 3 (80 * q + p)
    · rw [if_pos he, if_pos he]
      exact ih (p + 1) u t t2 c pl (by omega) (by omega) (by omega) (by omega) h2 h3 hs hb
    · rw [if_neg he, if_neg he, h2, nI_1]
      obtain ⟨u2, c2, pl2, g1, g2, g3, g4, g5, g6, g7, g8⟩ := ih (p + 1) (si (si u 193 2 (nI (c + 1))) 193 3 (nI p)) t t2 (c + 1) (nI p) (by omega) (by omega) (by omega) (by omega) (by rw [si_1, if_neg (by omega), si_1, if_pos ⟨rfl, rfl⟩]) (fun _ => by rw [si_1, if_pos ⟨rfl, rfl⟩]) hs hb
      refine ⟨u2, c2, pl2, g1, g2, g3, g4, g5, g6, fun k hk => ?_, ?_⟩
      · rw [g7 k hk, si_ro _ _ hk, si_ro _ _ hk]
      · rw [g8, si_1, if_neg (by omega), si_1, if_neg (by omega)]
theorem sp_check_ok : sp_check RR := by
  intro u v a hR
  obtain ⟨r1, r2, w1, w2, c, t, f, p⟩ := id hR
  obtain ⟨p1, p2, p3⟩ := p
  have e0 : (0 : Int32).toInt = 0 := rfl
  have e2 : (2 : Int32).toInt = 2 := rfl
  unfold fX11_check fX12_check
  rw [starX, in_sp2 a (L := 0) (Hh := 2) rfl rfl, p1]
  simp only [Option.bind_some, decide_eq_true_eq]
  rcases cut_n (v.1 0 5) 2 with h | ⟨q, hq, eq⟩
  · have h : ¬ (0 ≤ (v.1 0 5).toInt ∧ (v.1 0 5).toInt < 2) := h
    have h9 : v.1 0 5 < 0 := by
      rcases p2 with h2 | h2 | h2
      · rw [h2]; decide
      · rw [h2] at h; exact absurd (by decide) h
      · rw [h2] at h; exact absurd (by decide) h
    exact ⟨-1, u, by rw [if_neg h], by rw [if_pos h9], hR⟩
  · have e := nI_n (show q < 2147483648 by omega)
    have q1 : 0 ≤ (v.1 0 5).toInt ∧ (v.1 0 5).toInt < 2 := by rw [eq]; omega
    have n1 : ¬ v.1 0 5 < 0 := by rw [i_lt]; omega
    rw [if_pos q1, if_neg n1]
    by_cases ha : 0 ≤ a.toInt ∧ a.toInt ≤ 2
    · have n2 : ¬ a < 0 := by rw [i_lt]; omega
      have q2 : a ≤ 2 := by rw [i_le]; omega
      have q3 : inB (v.1 0 5) 2 := q1
      have ec : (v.1 0 5).toNatClampNeg = q := by rw [eq, cl_n (by omega)]
      simp only [if_pos ha, if_neg n2, if_pos q2, if_pos q3, ec, Nat.mul_zero, Nat.zero_add]
      unfold fX5_compare
      have hb := (w1.2.1 q hq).2.2.2.2.1
      rw [show 2 * 0 + q = q by omega] at hb
      obtain ⟨u2, c2, pl2, g1, g2, g3, g4, g5, g6, g7, g8⟩ := cmpL q q hq a v eq (fun v7 v8 => (if a = 0 then (some v7) else (if v7 = 1 then (if a = 1 then (some (v8 / 5)) else (some (v8 - v8 / 5 * 5))) else (some (-1))))) 80 0 (si u 193 2 0) fu0 fu0 0 0 rfl (by decide) (by decide) (by omega) (by rw [si_1, if_pos ⟨rfl, rfl⟩]; rfl) (fun h => absurd rfl h) p3 hb
      rw [show nI 0 = (0 : Int32) from rfl] at g2 g3
      rw [g2, g3]
      simp only [Option.bind_some, g4]
      have hR2 : RR u2 v := by
        refine RR_pa hR (fun k h1 h2 => ⟨by rw [g7 k h1, si_ro _ _ h1], by rw [g6]; rfl⟩) (fun _ _ => rfl) ⟨rfl, rfl, rfl⟩ (fun _ _ => rfl) ⟨?_, p2, ?_⟩
        · rw [g8, si_1, if_neg (by omega)]; exact p1
        · rw [g6]; exact p3
      by_cases z0 : a = 0
      · simp only [if_pos z0]; exact ⟨_, _, rfl, rfl, hR2⟩
      · simp only [if_neg z0]
        by_cases z1 : nI c2 = 1
        · simp only [if_pos z1]
          have z2 : c2 = 1 := nI_inj (by omega) (by omega) z1
          rw [g5 (by omega)]
          by_cases z3 : a = 1
          · simp only [if_pos z3]; exact ⟨_, _, rfl, rfl, hR2⟩
          · simp only [if_neg z3]; exact ⟨_, _, rfl, rfl, hR2⟩
        · simp only [if_neg z1]; exact ⟨_, _, rfl, rfl, hR2⟩
    · rw [if_neg ha]
      refine ⟨-1, u, ?_, rfl, hR⟩
      by_cases n2 : a < 0
      · rw [if_pos n2]
      · rw [if_neg n2, if_neg (by rw [i_lt] at n2; rw [i_le]; omega)]
