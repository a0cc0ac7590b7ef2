theorem upd_ne {f : Nat → Int32} {i j : Nat} {x : Int32} (h : j ≠ i) : upd f i x j = f j := by simp [upd, h]
theorem upd_eq {f : Nat → Int32} {i : Nat} {x : Int32} : upd f i x i = x := by simp [upd]
theorem si_row (u : Mem) (k j : Nat) (x : Int32) : (si u k j x).1 k = upd (u.1 k) j x := by funext b; rw [si_1]; simp [upd]
theorem si_ro (u : Mem) {k j a : Nat} (x : Int32) (h : a ≠ k) : (si u k j x).1 a = u.1 a := by funext b; rw [si_1]; simp [h]
theorem sl_ro (u : Mem) {k j a : Nat} (x : Int64) (h : a ≠ k) : (sl u k j x).2 a = u.2 a := by funext b; rw [sl_2]; simp [h]
theorem l0 : (0 : Int64).toInt = 0 := rfl
theorem in_sp (a l h : Int64) : fX12_in a l h = some (decide (l.toInt ≤ a.toInt ∧ a.toInt ≤ h.toInt)) := by
  unfold fX12_in
  congr 1
  by_cases h1 : a < l
  · rw [if_pos h1]; rw [j_lt] at h1; symm; rw [decide_eq_false_iff_not]; omega
  · rw [if_neg h1]; rw [j_lt] at h1
    by_cases h2 : h < a
    · rw [if_pos h2]; rw [j_lt] at h2; symm; rw [decide_eq_false_iff_not]; omega
    · rw [if_neg h2]; rw [j_lt] at h2; symm; rw [decide_eq_true_iff]; omega
/-- a number as one below n, or not -/
theorem cut_n (a : Int32) (n : Nat) : ¬ (0 ≤ a.toInt ∧ a.toInt < (n : Int)) ∨ ∃ q, q < n ∧ a = nI q := by
  by_cases h : 0 ≤ a.toInt ∧ a.toInt < (n : Int)
  · exact Or.inr ⟨a.toInt.toNat, by omega, i_nat h.1⟩
  · exact Or.inl h
theorem starX (a : Int32) : fX11_isStar a = some (decide (0 ≤ a.toInt ∧ a.toInt < 2)) := by
  unfold fX11_isStar
  congr 1
  have e2 : (2 : Int32).toInt = 2 := rfl
  have e0 : (0 : Int32).toInt = 0 := rfl
  by_cases h1 : a < 0
  · rw [if_pos h1]; rw [i_lt] at h1; symm; rw [decide_eq_false_iff_not]; omega
  · rw [if_neg h1]; rw [i_lt] at h1
    by_cases h2 : 2 ≤ a
    · rw [if_pos h2]; rw [i_le] at h2; symm; rw [decide_eq_false_iff_not]; omega
    · rw [if_neg h2]; rw [i_le] at h2; symm; rw [decide_eq_true_iff]; omega
theorem kindX (a : Int32) : fX11_isKind a = some (decide (0 ≤ a.toInt ∧ a.toInt < 6)) := by
  unfold fX11_isKind
  congr 1
  have e2 : (6 : Int32).toInt = 6 := rfl
  have e0 : (0 : Int32).toInt = 0 := rfl
  by_cases h1 : a < 0
  · rw [if_pos h1]; rw [i_lt] at h1; symm; rw [decide_eq_false_iff_not]; omega
  · rw [if_neg h1]; rw [i_lt] at h1
    by_cases h2 : 6 ≤ a
    · rw [if_pos h2]; rw [i_le] at h2; symm; rw [decide_eq_false_iff_not]; omega
    · rw [if_neg h2]; rw [i_le] at h2; symm; rw [decide_eq_true_iff]; omega
theorem chainX (a : Int32) : fX11_isChain a = some (decide (0 ≤ a.toInt ∧ a.toInt < 5)) := by
  unfold fX11_isChain
  congr 1
  have e2 : (5 : Int32).toInt = 5 := rfl
  have e0 : (0 : Int32).toInt = 0 := rfl
  by_cases h1 : a < 0
  · rw [if_pos h1]; rw [i_lt] at h1; symm; rw [decide_eq_false_iff_not]; omega
  · rw [if_neg h1]; rw [i_lt] at h1
    by_cases h2 : 5 ≤ a
    · rw [if_pos h2]; rw [i_le] at h2; symm; rw [decide_eq_false_iff_not]; omega
    · rw [if_neg h2]; rw [i_le] at h2; symm; rw [decide_eq_true_iff]; omega
theorem dec_iff {p q : Prop} [Decidable p] [Decidable q] (h : p ↔ q) : decide p = decide q := by
  by_cases hp : p
  · rw [decide_eq_true hp, decide_eq_true (h.mp hp)]
  · rw [decide_eq_false hp, decide_eq_false (fun hq => hp (h.mpr hq))]
theorem in_sp2 (a : Int32) {l h : Int64} {L Hh : Int} (hl : l.toInt = L) (hh : h.toInt = Hh) : fX12_in a.toInt64 l h = some (decide (L ≤ a.toInt ∧ a.toInt ≤ Hh)) := by
  rw [in_sp, j_of, hl, hh]
theorem starM (a : Int32) : fX12_isStar a = some (decide (0 ≤ a.toInt ∧ a.toInt < 2)) := by
  unfold fX12_isStar
  rw [in_sp2 a (L := 0) (Hh := 1) rfl rfl]
  simp only [Option.bind_some]
  congr 1
  exact dec_iff (by omega)
theorem shellX (a b : Int32) (u : Mem) (hs : ∀ q, q < 2 → 0 ≤ (u.1 (160 + 4 * q) 3).toInt) : fX11_isShell a b u = some (decide ((0 ≤ a.toInt ∧ a.toInt < 2) ∧ 0 ≤ b.toInt ∧ b.toInt < (u.1 (160 + 4 * a.toNatClampNeg) 3).toInt)) := by
  unfold fX11_isShell
  rw [starX]
  simp only [Option.bind_some, decide_eq_true_eq]
  by_cases h1 : 0 ≤ a.toInt ∧ a.toInt < 2
  · rw [if_pos h1, if_pos (show inB a 2 from h1)]
    have e0 : (0 : Int32).toInt = 0 := rfl
    by_cases h2 : b < 0
    · rw [if_pos h2]; rw [i_lt] at h2; congr 1; symm; rw [decide_eq_false_iff_not]; omega
    · rw [if_neg h2]; rw [i_lt] at h2
      congr 1
      rw [show 2 * 0 + a.toNatClampNeg = a.toNatClampNeg by omega]
      by_cases h3 : u.1 (160 + 4 * a.toNatClampNeg) 3 ≤ b
      · rw [if_pos h3]; rw [i_le] at h3; symm; rw [decide_eq_false_iff_not]; omega
      · rw [if_neg h3]; rw [i_le] at h3; symm; rw [decide_eq_true_iff]; omega
  · rw [if_neg h1]; congr 1; symm; rw [decide_eq_false_iff_not]; omega
theorem shellM (a b : Int32) (v : Mem) (hv : rgA (v.1 1)) : fX12_isShell a b v = some (decide ((0 ≤ a.toInt ∧ a.toInt < 2) ∧ 0 ≤ b.toInt ∧ b.toInt < (v.1 1 (2 + a.toNatClampNeg)).toInt)) := by
  unfold fX12_isShell
  rw [starM]
  simp only [Option.bind_some, decide_eq_true_eq]
  by_cases h1 : 0 ≤ a.toInt ∧ a.toInt < 2
  · have hc := i_cl h1.1
    have e1 : (2 + a).toInt = 2 + a.toInt := by
      have e2 : (2 : Int32).toInt = 2 := rfl
      rw [i_add] <;> omega
    have e3 : (2 + a).toNatClampNeg = 2 + a.toNatClampNeg := by
      have := i_cl (x := 2 + a) (by omega); omega
    have hsh := hv.2.2.1 a.toNatClampNeg (by omega)
    rw [if_pos h1, if_pos (show inB (2 + a) 8320 from ⟨by omega, by omega⟩), e3]
    have e4 : (v.1 1 (2 + a.toNatClampNeg) - 1).toInt = (v.1 1 (2 + a.toNatClampNeg)).toInt - 1 := by
      have e2 : (1 : Int32).toInt = 1 := rfl
      rw [i_sub] <;> omega
    rw [in_sp, j_of, j_of, e4, l0]
    simp only [Option.bind_some, decide_eq_true_eq]
    congr 1
    by_cases h2 : 0 ≤ b.toInt ∧ b.toInt ≤ (v.1 1 (2 + a.toNatClampNeg)).toInt - 1
    · rw [if_pos h2]; symm; rw [decide_eq_true_iff]; omega
    · rw [if_neg h2]; symm; rw [decide_eq_false_iff_not]; omega
  · rw [if_neg h1]; congr 1; symm; rw [decide_eq_false_iff_not]; omega
/-- a change of the head alone -/
theorem rgA_hd {f g : Nat → Int32} (h : rgA f) (hg : ∀ k, k = 0 ∨ (4 ≤ k ∧ k ≤ 7) ∨ 12 ≤ k → g k = f k) (h1 : 0 ≤ (g 1).toInt ∧ (g 1).toInt ≤ (f 0).toInt) (h2 : ∀ i, i < 2 → 0 ≤ (g (2 + i)).toInt ∧ (g (2 + i)).toInt ≤ 16) (h8 : ∀ i, i < 2 → 1 ≤ (g (8 + i)).toInt ∧ (g (8 + i)).toInt ≤ 100000) (h10 : ∀ i, i < 2 → 0 ≤ (g (10 + i)).toInt ∧ (g (10 + i)).toInt ≤ 1000000) : rgA g := by
  obtain ⟨a0, a1, a2, a4, a5, a6, a8, a10, a20, a220, a1400, a1500⟩ := h
  refine ⟨by rw [hg 0 (by omega)]; exact a0, by rw [hg 0 (by omega)]; exact h1, h2, by rw [hg 4 (by omega)]; exact a4, by rw [hg 5 (by omega)]; exact a5, by rw [hg 6 (by omega)]; exact a6, h8, h10, fun k hk => by rw [hg _ (by omega)]; exact a20 k hk, fun k hk => by rw [hg _ (by omega)]; exact a220 k hk, fun i hi => ?_, fun t ht => ?_⟩
  · rw [hg 6 (by omega)] at hi
    rw [hg (1400 + 4 * i) (by omega), hg (1401 + 4 * i) (by omega), hg (1402 + 4 * i) (by omega), hg (1403 + 4 * i) (by omega)]
    exact a1400 i hi
  · rw [hg 0 (by omega)] at ht
    have e : (fun k => g (1500 + 220 * t + k)) = fun k => f (1500 + 220 * t + k) := by funext k; exact hg _ (by omega)
    rw [e]; exact a1500 t ht
/-- rows that a World counts, apart from its own cell and its stars -/
theorem relW_rows {u w : Mem} {n : Nat} {f g : Nat → Int32} {bk bk2 : Nat → Int64} (hr : (f 0).toInt ≤ 30) (h : relW u n f bk) (hg : ∀ k, k = 0 ∨ (5 ≤ k ∧ k ≤ 7) ∨ 400 ≤ k → g k = f k) (hu : ∀ k, k < 160 ∨ (186 < k ∧ k < 193) → w.1 k = u.1 k) (h0 : w.1 (176 + 2 * n) 1 = g 0 ∧ w.1 (176 + 2 * n) 2 = g 1 ∧ w.1 (176 + 2 * n) 3 = g 4 ∧ w.1 (176 + 2 * n) 4 = g 5 ∧ w.1 (176 + 2 * n) 5 = g 6) (h1 : ∀ q, q < 2 → relS w (2 * n + q) q g bk2) : relW w n g bk2 := by
  obtain ⟨-, -, b3, b4, b5, b6⟩ := h
  refine ⟨h0, h1, fun t ht => ?_, fun t ht => ?_, fun k hk => ?_, fun i hi => ?_⟩
  · rw [hg 0 (by omega)] at ht
    have e : (fun k => g (1500 + 220 * t + k)) = fun k => f (1500 + 220 * t + k) := by funext k; exact hg _ (by omega)
    rw [e]; exact relL_fr (fun r hr => hu _ (by omega)) (b3 t ht)
  · rw [hg 0 (by omega)] at ht
    rw [hu (5 * t) (by omega), hg 7 (by omega)]; exact b4 t ht
  · rw [hg 5 (by omega)] at hk
    rw [hu 187 (by omega), hg _ (by omega)]; exact b5 k hk
  · rw [hg 6 (by omega)] at hi
    rw [hu 189 (by omega), hu 190 (by omega), hu 191 (by omega), hu 192 (by omega), hg (1400 + 4 * i) (by omega), hg (1401 + 4 * i) (by omega), hg (1402 + 4 * i) (by omega), hg (1403 + 4 * i) (by omega)]
    exact b6 i hi
theorem sp_end_ok : sp_end RR := by
  intro u v a hR
  obtain ⟨r1, r2, w1, w2, c, t, f, p⟩ := id hR
  obtain ⟨t1, t2, t3⟩ := t
  have e0 : (0 : Int32).toInt = 0 := rfl
  unfold fX11_end fX12_end
  rw [in_sp, j_of, j_of, l0]
  simp only [Option.bind_some, decide_eq_true_eq]
  by_cases h : 0 ≤ a.toInt ∧ a.toInt ≤ (v.1 0 7).toInt
  · refine ⟨a, si u 182 1 a, si v 0 7 a, ?_, by rw [if_pos h], ?_⟩
    · rw [if_neg (by rw [i_lt]; omega), if_pos (by rw [i_le, t1]; exact h.2)]
    · refine ⟨r1, r2, relW_rows r1.1.2 w1 (fun _ _ => rfl) (fun k hk => si_ro u a (by omega)) ?_ (fun q hq => relS_fr (fun r hr => ⟨si_ro u a (by omega), rfl⟩) (w1.2.1 q hq)), relW_rows r2.1.2 w2 (fun _ _ => rfl) (fun k hk => si_ro u a (by omega)) ?_ (fun q hq => relS_fr (fun r hr => ⟨si_ro u a (by omega), rfl⟩) (w2.2.1 q hq)), c, ⟨rfl, ?_, ?_⟩, f, p⟩
      · rw [si_ro u a (by omega)]; exact w1.1
      · rw [si_ro u a (by omega)]; exact w2.1
      · have e : (si v 0 7 a).1 0 7 = a := rfl
        rw [e]; omega
      · have e : (si v 0 7 a).1 0 7 = a := rfl
        rw [e]
        intro k hk
        exact t3 k (by omega)
  · refine ⟨-1, u, v, ?_, by rw [if_neg h], hR⟩
    by_cases h1 : a < 0
    · rw [if_pos h1]
    · rw [if_neg h1, if_neg (by rw [i_lt] at h1; rw [i_le, t1]; omega)]
theorem sp_fault_ok : sp_fault RR := by
  intro u v a hR
  obtain ⟨r1, r2, w1, w2, c, t, f, p⟩ := id hR
  refine ⟨_, ?_, rfl, hR⟩
  unfold fX11_fault
  have e0 : (0 : Int32).toInt = 0 := rfl
  have e1 : (1 : Int32).toInt = 1 := rfl
  rcases f with ⟨f1, f2, f3⟩ | ⟨f1, f2, f3⟩
  · rw [if_pos f1, f2, f3]
    by_cases h0 : a = 0
    · rw [if_pos h0]
    · rw [if_neg h0]
      by_cases h1 : a = 1
      · rw [if_pos h1]
      · rw [if_neg h1]
  · rw [if_neg (by rw [f1]; decide), f2, f3]
    by_cases h0 : a = 0
    · subst h0; rfl
    · by_cases h1 : a = 1
      · subst h1; rfl
      · simp only [if_neg h0, if_neg h1]
        rw [i_eq] at h0 h1
        by_cases h2 : a < 0
        · rw [if_pos h2]
        · rw [if_neg h2, if_neg (by rw [i_lt] at h2; rw [i_le]; omega)]
theorem sp_look_ok : sp_look RR := by
  intro u v a hR
  obtain ⟨r1, r2, w1, w2, c, t, f, p⟩ := id hR
  have e0 : (0 : Int32).toInt = 0 := rfl
  have t1 : u.1 (176 + 2 * 0) 1 = v.1 1 0 := w1.1.1
  unfold fX11_look fX12_look
  rw [in_sp, j_of, j_of, l0]
  simp only [Option.bind_some, decide_eq_true_eq]
  by_cases h : 0 ≤ a.toInt ∧ a.toInt ≤ (v.1 1 0).toInt
  · refine ⟨true, si u (176 + 2 * 0) 2 a, si v 1 1 a, ?_, by rw [if_pos h], ?_⟩
    · rw [if_neg (by rw [i_lt]; omega), if_pos (by rw [i_le, t1]; exact h.2)]
    · have eg : (si v 1 1 a).1 1 = upd (v.1 1) 1 a := si_row v 1 1 a
      have eg2 : (si v 1 1 a).1 2 = v.1 2 := si_ro v a (by omega)
      have h0 := w1.1
      have h1' := w2.1
      refine ⟨?_, ?_, ?_, ?_, ?_, ?_, ?_, ?_⟩
      · rw [eg]
        exact rgA_hd r1 (fun k hk => upd_ne (by omega)) (by rw [upd_eq]; exact h) (fun i hi => by rw [upd_ne (by omega)]; exact r1.2.2.1 i hi) (fun i hi => by rw [upd_ne (by omega)]; exact r1.2.2.2.2.2.2.1 i hi) (fun i hi => by rw [upd_ne (by omega)]; exact r1.2.2.2.2.2.2.2.1 i hi)
      · rw [eg2]; exact r2
      · rw [eg]
        refine relW_rows r1.1.2 w1 (fun k hk => upd_ne (by omega)) (fun k hk => si_ro u a (by omega)) ⟨?_, ?_, ?_, ?_, ?_⟩ (fun q hq => ?_)
        · rw [si_1, if_neg (by omega), upd_ne (by omega)]; exact h0.1
        · rw [si_1, if_pos ⟨rfl, rfl⟩, upd_eq]
        · rw [si_1, if_neg (by omega), upd_ne (by omega)]; exact h0.2.2.1
        · rw [si_1, if_neg (by omega), upd_ne (by omega)]; exact h0.2.2.2.1
        · rw [si_1, if_neg (by omega), upd_ne (by omega)]; exact h0.2.2.2.2
        · have := relS_fr (w := si u (176 + 2 * 0) 2 a) (fun r hr => ⟨si_ro u a (by omega), rfl⟩) (w1.2.1 q hq)
          obtain ⟨s1, s2, s3, s4, s5, s6⟩ := this
          exact ⟨by rw [s1, upd_ne (by omega)], by rw [s2, upd_ne (by omega)], by rw [s3, upd_ne (by omega)], fun k hk => by rw [s4 k hk, upd_ne (by omega)], s5, fun k hk => by rw [s6 k hk, upd_ne (by omega)]⟩
      · rw [eg2]
        refine relW_rows r2.1.2 w2 (fun _ _ => rfl) (fun k hk => si_ro u a (by omega)) ?_ (fun q hq => relS_fr (fun r hr => ⟨si_ro u a (by omega), rfl⟩) (w2.2.1 q hq))
        rw [si_ro u a (by omega)]; exact h1'
      · rw [eg, eg2, upd_ne (by omega), upd_ne (by omega), upd_ne (by omega)]; exact c
      · exact t
      · exact f
      · exact p
  · refine ⟨false, u, v, ?_, by rw [if_neg h], hR⟩
    by_cases h1 : a < 0
    · rw [if_pos h1]
    · rw [if_neg h1, if_neg (by rw [i_lt] at h1; rw [i_le, t1]; omega)]
