/-- changes of the sheet alone -/
theorem RR_pa {u v u2 v2 : Mem} (hR : RR u v) (hu : ∀ k, k ≠ 193 → k ≠ 194 → u2.1 k = u.1 k ∧ u2.2 k = u.2 k) (hv : ∀ k, k ≠ 0 → v2.1 k = v.1 k) (hv0 : v2.1 0 7 = v.1 0 7 ∧ v2.1 0 8 = v.1 0 8 ∧ v2.1 0 9 = v.1 0 9) (hv2 : ∀ k, k ≠ 5 → v2.2 k = v.2 k) (hp : relP u2 v2) : RR u2 v2 := by
  obtain ⟨r1, r2, w1, w2, c, t, f, p⟩ := hR
  have e1 := hv 1 (by omega)
  have e2 := hv 2 (by omega)
  have hs : ∀ i, i < 4 → ∀ r, r < 4 → u2.1 (160 + 4 * i + r) = u.1 (160 + 4 * i + r) ∧ u2.2 (160 + 4 * i + r) = u.2 (160 + 4 * i + r) := fun i hi r hr => hu _ (by omega) (by omega)
  refine ⟨by rw [e1]; exact r1, by rw [e2]; exact r2, ?_, ?_, by rw [e1, e2]; exact c, ?_, ?_, hp⟩
  · rw [e1, hv2 3 (by omega)]
    refine relW_rows r1.1.2 w1 (fun _ _ => rfl) (fun k hk => (hu k (by omega) (by omega)).1) ?_ (fun q hq => relS_fr (hs _ (by omega)) (w1.2.1 q hq))
    rw [(hu (176 + 2 * 0) (by omega) (by omega)).1]; exact w1.1
  · rw [e2, hv2 4 (by omega)]
    refine relW_rows r2.1.2 w2 (fun _ _ => rfl) (fun k hk => (hu k (by omega) (by omega)).1) ?_ (fun q hq => relS_fr (hs _ (by omega)) (w2.2.1 q hq))
    rw [(hu (176 + 2 * 1) (by omega) (by omega)).1]; exact w2.1
  · unfold relT at t ⊢; rw [hv0.1, hv 6 (by omega), (hu 182 (by omega) (by omega)).1, (hu 183 (by omega) (by omega)).1]; exact t
  · unfold relF at f ⊢; rw [hv0.2.1, hv0.2.2, (hu 184 (by omega) (by omega)).1]; exact f
theorem sp_alter_ok : sp_alter RR := by
  intro u v a b m hR
  obtain ⟨r1, r2, w1, w2, c, t, f, p⟩ := id hR
  obtain ⟨p1, p2, p3⟩ := p
  have e0 : (0 : Int32).toInt = 0 := rfl
  have e16 : (16 : Int32).toInt = 16 := rfl
  unfold fX11_alter fX12_alter
  rw [chainX, in_sp2 a (L := 0) (Hh := 15) rfl rfl, in_sp2 b (L := 0) (Hh := 4) rfl rfl, p1]
  simp only [Option.bind_some, decide_eq_true_eq]
  by_cases hs : v.1 0 5 = -1
  · rw [if_pos hs, if_pos (by rw [hs]; decide)]
    exact ⟨false, u, v, rfl, rfl, hR⟩
  · have hs2 : ¬ v.1 0 5 < 0 := by
      rcases p2 with h | h | h
      · exact absurd h hs
      · rw [h]; decide
      · rw [h]; decide
    rw [if_neg hs, if_neg hs2]
    by_cases ha : 0 ≤ a.toInt ∧ a.toInt ≤ 15
    · have n1 : ¬ a < 0 := by rw [i_lt]; omega
      have n2 : ¬ 16 ≤ a := by rw [i_le]; omega
      simp only [if_pos ha, if_neg n1, if_neg n2]
      by_cases hb : 0 ≤ b.toInt ∧ b.toInt ≤ 4
      · have hb2 : 0 ≤ b.toInt ∧ b.toInt < 5 := by omega
        simp only [if_pos hb, if_pos hb2]
        by_cases hm : m = 0
        · simp only [if_pos hm]; exact ⟨false, u, v, rfl, rfl, hR⟩
        · obtain ⟨i, hi, rfl⟩ : ∃ i : Nat, i < 16 ∧ a = nI i := ⟨a.toInt.toNat, by omega, i_nat ha.1⟩
          obtain ⟨j, hj, rfl⟩ : ∃ j : Nat, j < 5 ∧ b = nI j := ⟨b.toInt.toNat, by omega, i_nat hb.1⟩
          have e7 : nI i * 5 + nI j = nI (5 * i + j) := by rw [show (5 : Int32) = nI 5 from rfl, pk_mul, nI_add, Nat.mul_comm]
          have e8 : 5 * nI i + nI j = nI (5 * i + j) := by rw [show (5 : Int32) = nI 5 from rfl, pk_mul, nI_add]
          have p5 : inB (nI (5 * i + j)) 80 := inB_n (by omega) (by omega)
          simp only [if_neg hm, e7, e8, if_pos p5, cl_n (show 5 * i + j < 2147483648 by omega), Option.bind_some]
          refine ⟨true, _, _, rfl, rfl, ?_⟩
          refine RR_pa hR (fun k h1 h2 => ⟨rfl, sl_ro u _ h2⟩) (fun k _ => rfl) ⟨rfl, rfl, rfl⟩ (fun k hk => sl_ro v _ hk) ⟨p1, p2, fun k hk => ?_⟩
          rw [sl_2, sl_2]
          by_cases h : k = 5 * i + j
          · rw [if_pos ⟨rfl, h⟩, if_pos ⟨rfl, h⟩, p3 _ (by omega)]
          · rw [if_neg (by omega), if_neg (by omega), p3 k hk]
      · have hb2 : ¬ (0 ≤ b.toInt ∧ b.toInt < 5) := by omega
        simp only [if_neg hb, if_neg hb2]; exact ⟨false, u, v, rfl, rfl, hR⟩
    · rw [if_neg ha]
      refine ⟨false, u, v, ?_, rfl, hR⟩
      by_cases n1 : a < 0
      · rw [if_pos n1]
      · rw [if_neg n1, if_pos (by rw [i_lt] at n1; rw [i_le]; omega)]
theorem sheetM (q : Nat) (hq : q < 2) : ∀ (n i : Nat) (v : Mem) (t : Nat), i + n = 80 → n < t → fX12_sheet_L16 (nI q) t (nI i) v = some (true, srl v 5 (fun j => if i ≤ j ∧ j < 80 then v.2 3 (80 * q + j) else v.2 5 j)) := by
  intro n
  induction n with
  | zero =>
    intro i v t hi ht
    obtain ⟨t, rfl⟩ : ∃ k, t = k + 1 := ⟨t - 1, by omega⟩
    have hi : i = 80 := by omega
    subst hi
    rw [fX12_sheet_L16, if_pos (by decide)]
    congr 2
    apply mem_ext
    · intro a b; rfl
    · intro a b; simp only [srl_2]; repeat' split
      all_goals first | rfl | (exfalso; omega) | (rename_i h _; subst h; rfl) | simp_all
  | succ n ih =>
    intro i v t hi ht
    obtain ⟨t, rfl⟩ : ∃ k, t = k + 1 := ⟨t - 1, by omega⟩
    have h1 : ¬ (80 : Int32) ≤ nI i := by rw [i_le, nI_n (by omega)]; have : (80 : Int32).toInt = 80 := by decide
                                          omega
    have e8 : 80 * nI q + nI i = nI (80 * q + i) := by rw [show (80 : Int32) = nI 80 from rfl, pk_mul, nI_add]
    rw [fX12_sheet_L16, if_neg h1, e8, if_pos (inB_n (by omega) (by omega)), if_pos (inB_n (by omega) (by omega)), cl_n (by omega), cl_n (by omega)]
    simp only [Option.bind_some, nI_1]
    rw [ih (i + 1) _ t (by omega) (by omega)]
    congr 2
    apply mem_ext
    · intro a b; rfl
    · intro a b
      simp only [srl_2, sl_2, true_and]
      repeat' split
      all_goals first | rfl | (exfalso; omega) | (have e : b = i := by omega
                                                  subst e; rfl) | simp_all
theorem sp_sheet_ok : sp_sheet RR := by
  intro u v a hR
  obtain ⟨r1, r2, w1, w2, c, t, f, p⟩ := id hR
  unfold fX11_sheet fX12_sheet
  rw [starX, starM]
  simp only [Option.bind_some, decide_eq_true_eq]
  rcases cut_n a 2 with h | ⟨q, hq, rfl⟩
  · have h : ¬ (0 ≤ a.toInt ∧ a.toInt < 2) := h
    exact ⟨false, u, v, by rw [if_neg h], by rw [if_neg h], hR⟩
  · have e := nI_n (show q < 2147483648 by omega)
    have p1 : 0 ≤ (nI q).toInt ∧ (nI q).toInt < 2 := by omega
    have p2 : inB (nI q) 2 := inB_n hq (by omega)
    simp only [if_pos p1, if_pos p2, fX5_take, Option.bind_some, cl_n (show q < 2147483648 by omega)]
    rw [show (0 : Int32) = nI 0 from rfl, sheetM q hq 80 0 _ fu0 rfl (by decide)]
    refine ⟨true, _, _, rfl, rfl, ?_⟩
    refine RR_pa hR (fun k h1 h2 => ⟨by rw [srl_1]; exact si_ro u _ h1, ?_⟩) (fun k hk => by rw [srl_1]; exact si_ro v _ hk) ⟨rfl, rfl, rfl⟩ (fun k hk => ?_) ⟨rfl, ?_, fun k hk => ?_⟩
    · funext b; rw [srl_2, if_neg h2]; rfl
    · funext b; rw [srl_2, if_neg hk]; rfl
    · right
      rcases (by omega : q = 0 ∨ q = 1) with rfl | rfl
      · exact Or.inl rfl
      · exact Or.inr rfl
    · rw [srl_2, if_pos rfl, srl_2, if_pos rfl, cpy0, if_pos hk, if_pos ⟨by omega, hk⟩]
      have := (w1.2.1 q hq).2.2.2.2.1 k hk
      exact this
