theorem RR_st {u v u2 v2 : Mem} {q : Nat} (hq : q < 2) (hR : RR u v) (hu : ∀ k, k < 160 + 4 * q ∨ 160 + 4 * q + 4 ≤ k → u2.1 k = u.1 k ∧ u2.2 k = u.2 k) (hv1 : ∀ k, k ≠ 1 → v2.1 k = v.1 k) (hv2 : v2.2 = v.2) (hg : ∀ k, k = 0 ∨ k = 1 ∨ (4 ≤ k ∧ k ≤ 7) ∨ k = 2 + (1 - q) ∨ k = 8 + (1 - q) ∨ k = 10 + (1 - q) ∨ (12 ≤ k ∧ k < 20 + 96 * q) ∨ 20 + 96 * q + 96 ≤ k → v2.1 1 k = v.1 1 k) (hr : rgA (v2.1 1)) (hs : relS u2 q q (v2.1 1) (v.2 3)) : RR u2 v2 := by
  obtain ⟨r1, r2, w1, w2, c, t, f, p⟩ := hR
  have e2 : v2.1 2 = v.1 2 := hv1 2 (by omega)
  have e0 : v2.1 0 = v.1 0 := hv1 0 (by omega)
  have e6 : v2.1 6 = v.1 6 := hv1 6 (by omega)
  refine ⟨hr, by rw [e2]; exact r2, ?_, ?_, ?_, ?_, ?_, ?_⟩
  · rw [hv2]
    refine relW_rows r1.1.2 w1 (fun k hk => hg k (by omega)) (fun k hk => (hu k (by omega)).1) ?_ (fun q2 hq2 => ?_)
    · rw [(hu (176 + 2 * 0) (by omega)).1, hg 0 (by omega), hg 1 (by omega), hg 4 (by omega), hg 5 (by omega), hg 6 (by omega)]; exact w1.1
    · by_cases h : q2 = q
      · subst h
        rw [show 2 * 0 + q2 = q2 by omega]; exact hs
      · have h9 := relS_fr (w := u2) (fun r hr => hu _ (by omega)) (w1.2.1 q2 hq2)
        obtain ⟨s1, s2, s3, s4, s5, s6⟩ := h9
        exact ⟨by rw [s1, hg _ (by omega)], by rw [s2, hg _ (by omega)], by rw [s3, hg _ (by omega)], fun k hk => by rw [s4 k hk, hg _ (by omega)], s5, fun k hk => by rw [s6 k hk, hg _ (by omega)]⟩
  · rw [hv2, e2]
    refine relW_rows r2.1.2 w2 (fun _ _ => rfl) (fun k hk => (hu k (by omega)).1) ?_ (fun q2 hq2 => relS_fr (fun r hr => hu _ (by omega)) (w2.2.1 q2 hq2))
    rw [(hu (176 + 2 * 1) (by omega)).1]; exact w2.1
  · rw [e2, hg 0 (by omega), hg 5 (by omega), hg 6 (by omega)]; exact c
  · unfold relT at t ⊢; rw [e0, e6, (hu 182 (by omega)).1, (hu 183 (by omega)).1]; exact t
  · unfold relF at f ⊢; rw [e0, (hu 184 (by omega)).1]; exact f
  · unfold relP at p ⊢; rw [e0, hv2, (hu 193 (by omega)).1, (hu 194 (by omega)).2]; exact p
theorem idx2 {q n : Nat} (c : Nat) (hq : q < 2) (hc : c + q < 8320) : inB (nI c + nI q) 8320 ∧ (nI c + nI q).toNatClampNeg = c + q := by
  rw [nI_add]; exact ⟨inB_n hc (by omega), cl_n (by omega)⟩
theorem sp_shell_ok : sp_shell RR := by
  intro u v a hR
  obtain ⟨r1, r2, w1, w2, c, t, f, p⟩ := id hR
  unfold fX11_shell fX12_shell
  rw [starX, starM]
  simp only [Option.bind_some, decide_eq_true_eq]
  rcases cut_n a 2 with h | ⟨q, hq, rfl⟩
  · have h : ¬ (0 ≤ a.toInt ∧ a.toInt < 2) := h
    exact ⟨-1, u, v, by rw [if_neg h], by rw [if_neg h], hR⟩
  · have e := nI_n (show q < 2147483648 by omega)
    have p1 : 0 ≤ (nI q).toInt ∧ (nI q).toInt < 2 := by omega
    have p2 : inB (nI q) 2 := inB_n hq (by omega)
    have e2 : (2 : Int32) + nI q = nI (2 + q) := nI_add 2 q
    have p3 : inB (nI (2 + q)) 8320 := inB_n (by omega) (by omega)
    have c1 := cl_n (show q < 2147483648 by omega)
    have c2 := cl_n (show 2 + q < 2147483648 by omega)
    have hsh := r1.2.2.1 q hq
    have es : u.1 (160 + 4 * q) 3 = v.1 1 (2 + q) := (shR hR).1 q hq
    have e16 : (16 : Int32).toInt = 16 := rfl
    simp only [if_pos p1, if_pos p2, e2, if_pos p3, c1, c2, Nat.mul_zero, Nat.zero_add, es]
    by_cases h16 : v.1 1 (2 + q) = 16
    · refine ⟨-1, u, v, ?_, by rw [if_pos h16], hR⟩
      rw [if_neg (by rw [h16]; decide)]
    · have hlt : v.1 1 (2 + q) < 16 := by rw [i_lt]; rw [i_eq] at h16; omega
      rw [if_neg h16, if_pos hlt]
      have e1 : (1 : Int32).toInt = 1 := rfl
      have en : (v.1 1 (2 + q) + 1).toInt = (v.1 1 (2 + q)).toInt + 1 := by rw [i_add] <;> omega
      refine ⟨v.1 1 (2 + q) + 1 - 1, si u (160 + 4 * q) 3 (v.1 1 (2 + q) + 1), si v 1 (2 + q) (v.1 1 (2 + q) + 1), ?_, ?_, ?_⟩
      · simp only [Option.bind_some, si_1, and_self, if_true]
      · simp only [Option.bind_some, si_1, and_self, if_true]
      · rw [i_lt] at hlt
        refine RR_st hq hR (fun k hk => ⟨si_ro u _ (by omega), rfl⟩) (fun k hk => si_ro v _ hk) rfl (fun k hk => by rw [si_row, upd_ne (by omega)]) ?_ ?_
        · rw [si_row]
          refine rgA_hd r1 (fun k hk => upd_ne (by omega)) (by rw [upd_ne (by omega)]; exact r1.2.1) (fun i hi => ?_) (fun i hi => by rw [upd_ne (by omega)]; exact r1.2.2.2.2.2.2.1 i hi) (fun i hi => by rw [upd_ne (by omega)]; exact r1.2.2.2.2.2.2.2.1 i hi)
          by_cases hi2 : i = q
          · subst hi2; rw [upd_eq]; omega
          · rw [upd_ne (by omega)]; exact r1.2.2.1 i hi
        · obtain ⟨s1, s2, s3, s4, s5, s6⟩ := w1.2.1 q hq
          rw [show 2 * 0 + q = q by omega] at s1 s2 s3 s4 s5 s6
          rw [si_row v]
          refine ⟨by rw [si_1, if_pos ⟨rfl, rfl⟩, upd_eq], by rw [si_1, if_neg (by omega), s2, upd_ne (by omega)], by rw [si_1, if_neg (by omega), s3, upd_ne (by omega)], fun k hk => by rw [si_1, if_neg (by omega), s4 k hk, upd_ne (by omega)], s5, fun k hk => by rw [si_1, if_neg (by omega), s6 k hk, upd_ne (by omega)]⟩
theorem sp_fill_ok : sp_fill RR := by
  intro u v a b c d hR
  obtain ⟨r1, r2, w1, w2, -, -, -, -⟩ := id hR
  have e0 : (0 : Int32).toInt = 0 := rfl
  have eM : (100000 : Int32).toInt = 100000 := rfl
  unfold fX11_fill fX12_fill
  rcases shBoth hR a b with ⟨h1, h2⟩ | ⟨q, k, hq, hk, hk2, rfl, rfl, h1, h2⟩
  · exact ⟨false, u, v, by rw [h1]; rfl, by rw [h2]; rfl, hR⟩
  · rw [h1, h2, kindX, in_sp2 c (L := 0) (Hh := 5) rfl rfl, in_sp2 d (L := 0) (Hh := 100000) rfl rfl]
    simp only [Option.bind_some, decide_eq_true_eq, if_true]
    rcases cut_n c 6 with h | ⟨n, hn, rfl⟩
    · exact ⟨false, u, v, by rw [if_neg (by omega)], by rw [if_neg (by omega)], hR⟩
    · have e := nI_n (show n < 2147483648 by omega)
      have p1 : 0 ≤ (nI n).toInt ∧ (nI n).toInt < 6 := by omega
      have p2 : 0 ≤ (nI n).toInt ∧ (nI n).toInt ≤ 5 := by omega
      simp only [if_pos p1, if_pos p2]
      by_cases hd : 0 ≤ d.toInt ∧ d.toInt ≤ 100000
      · have n1 : ¬ d < 0 := by rw [i_lt]; omega
        have p3 : d ≤ 100000 := by rw [i_le]; omega
        have p4 : inB (nI q) 2 := inB_n hq (by omega)
        have e7 : nI k * 6 + nI n = nI (6 * k + n) := by rw [show (6 : Int32) = nI 6 from rfl, pk_mul, nI_add, Nat.mul_comm]
        have e8 : ((20 + 96 * nI q) + 6 * nI k) + nI n = nI (20 + (96 * q + (6 * k + n))) := by rw [show (20 : Int32) = nI 20 from rfl, show (96 : Int32) = nI 96 from rfl, show (6 : Int32) = nI 6 from rfl, pk_mul, pk_mul, nI_add, nI_add, nI_add]; congr 1; omega
        have p5 : inB (nI (6 * k + n)) 96 := inB_n (by omega) (by omega)
        have p6 : inB (nI (20 + (96 * q + (6 * k + n)))) 8320 := inB_n (by omega) (by omega)
        simp only [if_pos hd, if_neg n1, if_pos p3, if_pos p4, fX7_setParts, fX12_sets, e7, e8, if_pos p5, if_pos p6, cl_n (show q < 2147483648 by omega), cl_n (show 6 * k + n < 2147483648 by omega), cl_n (show 20 + (96 * q + (6 * k + n)) < 2147483648 by omega), Option.bind_some, Nat.mul_zero, Nat.zero_add]
        refine ⟨true, _, _, rfl, rfl, ?_⟩
        refine RR_st hq hR (fun j hj => ⟨si_ro u _ (by omega), rfl⟩) (fun j hj => si_ro v _ hj) rfl (fun j hj => by rw [si_row, upd_ne (by omega)]) ?_ ?_
        · rw [si_row]
          obtain ⟨a0, a1, a2, a4, a5, a6, a8, a10, a20, a220, a1400, a1500⟩ := r1
          refine ⟨by rw [upd_ne (by omega)]; exact a0, by rw [upd_ne (by omega), upd_ne (by omega)]; exact a1, fun i hi => by rw [upd_ne (by omega)]; exact a2 i hi, by rw [upd_ne (by omega)]; exact a4, by rw [upd_ne (by omega)]; exact a5, by rw [upd_ne (by omega)]; exact a6, fun i hi => by rw [upd_ne (by omega)]; exact a8 i hi, fun i hi => by rw [upd_ne (by omega)]; exact a10 i hi, fun j hj => ?_, fun j hj => by rw [upd_ne (by omega)]; exact a220 j hj, fun i hi => ?_, fun t ht => ?_⟩
          · by_cases hj2 : 20 + j = 20 + (96 * q + (6 * k + n))
            · rw [hj2, upd_eq]; exact hd
            · rw [upd_ne hj2]; exact a20 j hj
          · rw [upd_ne (by omega)] at hi
            rw [upd_ne (by omega), upd_ne (by omega), upd_ne (by omega), upd_ne (by omega)]; exact a1400 i hi
          · rw [upd_ne (by omega)] at ht
            have e9 : (fun j => upd (v.1 1) (20 + (96 * q + (6 * k + n))) d (1500 + 220 * t + j)) = fun j => v.1 1 (1500 + 220 * t + j) := by funext j; exact upd_ne (by omega)
            rw [e9]; exact a1500 t ht
        · obtain ⟨s1, s2, s3, s4, s5, s6⟩ := w1.2.1 q hq
          rw [show 2 * 0 + q = q by omega] at s1 s2 s3 s4 s5 s6
          rw [si_row v]
          refine ⟨by rw [si_1, if_neg (by omega), s1, upd_ne (by omega)], by rw [si_1, if_neg (by omega), s2, upd_ne (by omega)], by rw [si_1, if_neg (by omega), s3, upd_ne (by omega)], fun j hj => ?_, s5, fun j hj => by rw [si_1, if_neg (by omega), s6 j hj, upd_ne (by omega)]⟩
          by_cases hj2 : j = 6 * k + n
          · subst hj2; rw [si_1, if_pos ⟨rfl, rfl⟩, upd_eq]
          · rw [si_1, if_neg (by omega), s4 j hj, upd_ne (by omega)]
      · rw [if_neg hd]
        refine ⟨false, u, v, ?_, rfl, hR⟩
        by_cases n1 : d < 0
        · rw [if_pos n1]
        · rw [if_neg n1, if_neg (by rw [i_lt] at n1; rw [i_le]; omega)]
theorem sp_rules_ok : sp_rules RR := by
  intro u v a b c hR
  obtain ⟨r1, r2, w1, w2, -, -, -, -⟩ := id hR
  have e0 : (0 : Int32).toInt = 0 := rfl
  have e1 : (1 : Int32).toInt = 1 := rfl
  have eM : (100000 : Int32).toInt = 100000 := rfl
  have eN : (1000000 : Int32).toInt = 1000000 := rfl
  unfold fX11_rules fX12_rules
  rw [starX, starM, in_sp2 b (L := 1) (Hh := 100000) rfl rfl, in_sp2 c (L := 0) (Hh := 1000000) rfl rfl]
  simp only [Option.bind_some, decide_eq_true_eq]
  rcases cut_n a 2 with h | ⟨q, hq, rfl⟩
  · have h : ¬ (0 ≤ a.toInt ∧ a.toInt < 2) := h
    exact ⟨false, u, v, by rw [if_neg h], by rw [if_neg h], hR⟩
  · have e := nI_n (show q < 2147483648 by omega)
    have p1 : 0 ≤ (nI q).toInt ∧ (nI q).toInt < 2 := by omega
    simp only [if_pos p1]
    by_cases hb : 1 ≤ b.toInt ∧ b.toInt ≤ 100000
    · have n1 : ¬ b < 1 := by rw [i_lt]; omega
      have n2 : ¬ 100000 < b := by rw [i_lt]; omega
      simp only [if_pos hb, if_neg n1, if_neg n2]
      by_cases hc : 0 ≤ c.toInt ∧ c.toInt ≤ 1000000
      · have n3 : ¬ c < 0 := by rw [i_lt]; omega
        have p3 : c ≤ 1000000 := by rw [i_le]; omega
        have p2 : inB (nI q) 2 := inB_n hq (by omega)
        have e8 : (8 : Int32) + nI q = nI (8 + q) := nI_add 8 q
        have e10 : (10 : Int32) + nI q = nI (10 + q) := nI_add 10 q
        have p8 : inB (nI (8 + q)) 8320 := inB_n (by omega) (by omega)
        have p10 : inB (nI (10 + q)) 8320 := inB_n (by omega) (by omega)
        simp only [if_pos hc, if_neg n3, if_pos p3, if_pos p2, e8, e10, if_pos p8, if_pos p10, cl_n (show q < 2147483648 by omega), cl_n (show 8 + q < 2147483648 by omega), cl_n (show 10 + q < 2147483648 by omega), Option.bind_some, Nat.mul_zero, Nat.zero_add]
        refine ⟨true, _, _, rfl, rfl, ?_⟩
        have eg : (si (si v 1 (8 + q) b) 1 (10 + q) c).1 1 = upd (upd (v.1 1) (8 + q) b) (10 + q) c := by rw [si_row, si_row]
        refine RR_st hq hR (fun j hj => ⟨by rw [si_ro _ _ (by omega), si_ro _ _ (by omega)], rfl⟩) (fun j hj => by rw [si_ro _ _ hj, si_ro _ _ hj]) rfl (fun j hj => by rw [eg, upd_ne (by omega), upd_ne (by omega)]) ?_ ?_
        · rw [eg]
          refine rgA_hd r1 (fun k hk => by rw [upd_ne (by omega), upd_ne (by omega)]) (by rw [upd_ne (by omega), upd_ne (by omega)]; exact r1.2.1) (fun i hi => by rw [upd_ne (by omega), upd_ne (by omega)]; exact r1.2.2.1 i hi) (fun i hi => ?_) (fun i hi => ?_)
          · rw [upd_ne (by omega)]
            by_cases hi2 : i = q
            · subst hi2; rw [upd_eq]; exact hb
            · rw [upd_ne (by omega)]; exact r1.2.2.2.2.2.2.1 i hi
          · by_cases hi2 : i = q
            · subst hi2; rw [upd_eq]; exact hc
            · rw [upd_ne (by omega), upd_ne (by omega)]; exact r1.2.2.2.2.2.2.2.1 i hi
        · obtain ⟨s1, s2, s3, s4, s5, s6⟩ := w1.2.1 q hq
          rw [show 2 * 0 + q = q by omega] at s1 s2 s3 s4 s5 s6
          rw [eg]
          refine ⟨by rw [si_1, if_neg (by omega), si_1, if_neg (by omega), s1, upd_ne (by omega), upd_ne (by omega)], by rw [si_1, if_neg (by omega), si_1, if_pos ⟨rfl, rfl⟩, upd_ne (by omega), upd_eq], by rw [si_1, if_pos ⟨rfl, rfl⟩, upd_eq], fun j hj => by rw [si_1, if_neg (by omega), si_1, if_neg (by omega), s4 j hj, upd_ne (by omega), upd_ne (by omega)], s5, fun j hj => by rw [si_1, if_neg (by omega), si_1, if_neg (by omega), s6 j hj, upd_ne (by omega), upd_ne (by omega)]⟩
      · rw [if_neg hc]
        refine ⟨false, u, v, ?_, rfl, hR⟩
        by_cases n3 : c < 0
        · rw [if_pos n3]
        · rw [if_neg n3, if_neg (by rw [i_lt] at n3; rw [i_le]; omega)]
    · rw [if_neg hb]
      refine ⟨false, u, v, ?_, rfl, hR⟩
      by_cases n1 : b < 1
      · rw [if_pos n1]
      · rw [if_neg n1, if_pos (by rw [i_lt] at n1 ⊢; omega)]
