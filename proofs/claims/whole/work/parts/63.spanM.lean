theorem ediv_neg_flip {a w : Int} (hw : 0 < w) : -((w - 1 - a) / w) = a / w := by
  have h1 : a / w * w ≤ a := (Int.le_ediv_iff_mul_le hw).mp (Int.le_refl _)
  have h2 : a < a / w * w + w := (Int.ediv_le_iff_le_mul hw).mp (Int.le_refl _)
  have e : -(a / w) * w = -(a / w * w) := Int.neg_mul _ _
  have h3 : (w - 1 - a) / w ≤ -(a / w) := (Int.ediv_le_iff_le_mul hw).mpr (by omega)
  have h4 : -(a / w) ≤ (w - 1 - a) / w := (Int.le_ediv_iff_mul_le hw).mpr (by omega)
  omega
theorem downM {a w : Int} (hw : 0 < w) (hw2 : w < 1000000000) (h1 : -1000000000000 < a) (h2 : a < 1000000000000) : fX12_down (zL a) (zL w) = some (zL (a / w)) := by
  unfold fX12_down
  have ew : (zL w).toInt = w := zL_n (by omega) (by omega)
  have ea : (zL a).toInt = a := zL_n (by omega) (by omega)
  have n0 : ¬ zL w = 0 := by rw [j_eq, ew, l0]; omega
  by_cases h : a < 0
  · rw [if_pos (by rw [j_lt, ea, l0]; exact h), if_neg n0, show (1 : Int64) = zL 1 from rfl, zL_sub, zL_sub, zL_div (by omega) (by omega) hw (by omega), zL_neg, ediv_neg_flip hw]
  · rw [if_neg (by rw [j_lt, ea, l0]; exact h), if_neg n0, zL_div (by omega) (by omega) hw (by omega)]
theorem spM_loop {v : Mem} {g : Nat → Int32} (hS : ∀ k, k < 220 → fX12_says (nI k) v = some (g k)) (hO : lawOk g) {t x : Nat} (ht : t < 7) (hx : x ≤ 999) (b : Bool) (K : Int32 → Option Int32) : ∀ (k i f : Nat), i + k = tc g t → k < f → fX12_spanOf_L27 (nI x) b (nI (36 + 25 * t)) (nI (tc g t)) v K f (nI i) = K (nI (psr (tH g t) x k i)) := by
  obtain ⟨c1, c2⟩ := tc_i hO ht
  intro k
  induction k with
  | zero =>
    intro i f hi hf
    obtain ⟨f, rfl⟩ : ∃ k, f = k + 1 := ⟨f - 1, by omega⟩
    rw [fX12_spanOf_L27, if_pos ((le_nI (by omega) (by omega)).mpr (by omega)), psr]
  | succ k ih =>
    intro i f hi hf
    obtain ⟨f, rfl⟩ : ∃ k, f = k + 1 := ⟨f - 1, by omega⟩
    have hr := tH_r hO ht (p := i) (by omega)
    have e : (nI (36 + 25 * t) + 1) + 3 * nI i = nI (36 + 25 * t + (1 + 3 * i)) := by rw [show (3 : Int32) = nI 3 from rfl, nI_1, pk_mul, nI_add]; congr 1; omega
    rw [fX12_spanOf_L27, if_neg (fun h => by have := (le_nI (by omega) (by omega)).mp h; omega), e, hS _ (by omega), tH_i g, psr, Option.bind_some]
    have hc : nI x < zI (tH g t i) ↔ (x : Int) < tH g t i := by rw [i_lt, nI_n (by omega), zI_n (by omega) (by omega)]
    by_cases h : (x : Int) < tH g t i
    · rw [if_pos (hc.mpr h), if_pos h]
    · rw [if_neg (fun h2 => h (hc.mp h2)), if_neg h, nI_1]
      exact ih (i + 1) f (by omega) (by omega)
theorem spM {v : Mem} {g : Nat → Int32} (hS : ∀ k, k < 220 → fX12_says (nI k) v = some (g k)) (hO : lawOk g) {t x : Nat} (ht : t < 7) (hx : x ≤ 999) (b : Bool) : fX12_spanOf (nI t) (nI x) b v = some (zI (spZ g t b x)) := by
  obtain ⟨c1, c2⟩ := tc_i hO ht
  obtain ⟨p1, p2, p3⟩ := psx g t x
  have e36 : 36 + 25 * nI t = nI (36 + 25 * t) := by rw [show (36 : Int32) = nI 36 from rfl, show (25 : Int32) = nI 25 from rfl, pk_mul, nI_add]
  have eb : ((if b = true then 3 else 2) : Int32) = nI (if b = true then 3 else 2) := by cases b <;> rfl
  have eb2 : (if b = true then 3 else 2) ≤ 3 := by cases b <;> decide
  unfold fX12_spanOf
  rw [e36, hS _ (by omega), Option.bind_some, c1]
  unfold spZ
  by_cases hn : tc g t = 0
  · have hz : nI (tc g t) = 0 := by rw [hn]; rfl
    rw [if_pos hz, spI, if_pos hn]; rfl
  have hz : ¬ nI (tc g t) = 0 := fun h => hn (nI_inj (b := 0) (by omega) (by omega) h)
  rw [if_neg hz, show (0 : Int32) = nI 0 from rfl, spM_loop hS hO ht hx b _ (tc g t) 0 fu0 (by omega) (fu_n (by omega))]
  rw [show nI 0 = (0 : Int32) from rfl]
  generalize psr (tH g t) x (tc g t) 0 = i at *
  unfold spI
  rw [if_neg hn, eb]
  have rV : ∀ p, p < tc g t → fX12_says ((nI (36 + 25 * t) + nI (if b = true then 3 else 2)) + 3 * nI p) v = some (zI (tV g t b p)) := by
    intro p hp
    have e : (nI (36 + 25 * t) + nI (if b = true then 3 else 2)) + 3 * nI p = nI (36 + 25 * t + ((if b = true then 3 else 2) + 3 * p)) := by rw [show (3 : Int32) = nI 3 from rfl, nI_add, pk_mul, nI_add]; congr 1; omega
    rw [e, hS _ (by omega), tV_i g]
  have rH : ∀ p, p < tc g t → fX12_says ((nI (36 + 25 * t) + 1) + 3 * nI p) v = some (zI (tH g t p)) := by
    intro p hp
    have e : (nI (36 + 25 * t) + 1) + 3 * nI p = nI (36 + 25 * t + (1 + 3 * p)) := by rw [show (3 : Int32) = nI 3 from rfl, nI_1, pk_mul, nI_add]; congr 1; omega
    rw [e, hS _ (by omega), tH_i g]
  by_cases h0 : i = 0
  · subst h0
    have := rV 0 (by omega)
    rw [show 3 * nI 0 = nI 0 from rfl, nI_add, nI_add] at this
    rw [if_pos (show nI 0 = 0 from rfl), if_pos rfl, nI_add, show 36 + 25 * t + (if b = true then 3 else 2) = 36 + 25 * t + (if b = true then 3 else 2) + 0 by omega, this, Option.bind_some]
  · have q0 : ¬ nI i = 0 := fun h => h0 (nI_inj (b := 0) (by omega) (by omega) h)
    rw [if_neg q0, if_neg h0, nI_s1 (by omega) (by omega), rH _ (by omega), rV _ (by omega), Option.bind_some, Option.bind_some]
    by_cases h1 : i = tc g t
    · rw [if_pos (by rw [h1]), if_pos h1]
    · have hi : i < tc g t := by omega
      have q1 : ¬ nI i = nI (tc g t) := fun h => h1 (nI_inj (by omega) (by omega) h)
      have hp3 := p3 (i - 1) (by omega)
      have l := ln_r hO ht h0 hi b hp3 (Int.le_of_lt (p2 hi))
      have a1 := tH_r hO ht hi
      have a0 := tH_r hO ht (p := i - 1) (by omega)
      have v1 := tV_r hO ht hi b
      have v0 := tV_r hO ht (p := i - 1) (by omega) b
      rw [if_neg q1, if_neg h1]
      by_cases h2 : tH g t (i - 1) = x
      · rw [if_pos (by rw [h2, zI_nat])]
        congr 1
        congr 1
        unfold dvZ lnZ
        rw [← h2, Int.sub_self, Int.sub_zero, Int.mul_zero, Int.add_zero]
        cases b
        · simp only [Bool.false_eq_true, if_false]; rw [Int.mul_ediv_cancel _ (by omega)]
        · simp only [if_true]
          generalize tH g t i - tH g t (i - 1) = w at *
          generalize tV g t true (i - 1) = V at *
          have x1 : (V * w + w - 1) / w ≤ V := (Int.ediv_le_iff_le_mul (by omega)).mpr (by omega)
          have x2 : V ≤ (V * w + w - 1) / w := (Int.le_ediv_iff_mul_le (by omega)).mpr (by omega)
          omega
      · rw [if_neg (by rw [zI_nat, i_eq, zI_n (by omega) (by omega), zI_n (by omega) (by omega)]; exact h2), rH _ hi, rV _ hi, Option.bind_some, Option.bind_some, zI_nat x, zI_sub, zI_sub, zI_sub, zIL (by omega) (by omega), zIL (by omega) (by omega), zIL (by omega) (by omega), zL_mul, zL_neg]
        have hgone : 0 ≤ (x : Int) - tH g t (i - 1) ∧ (x : Int) - tH g t (i - 1) ≤ 999 := by omega
        have hA : -(9999 * 999) ≤ (tV g t b i - tV g t b (i - 1)) * ((x : Int) - tH g t (i - 1)) ∧ (tV g t b i - tV g t b (i - 1)) * ((x : Int) - tH g t (i - 1)) ≤ 9999 * 999 := by
          have m1 := mul_rng v1.1 v1.2 hgone.1 hgone.2
          have m2 := mul_rng v0.1 v0.2 hgone.1 hgone.2
          rw [Int.sub_mul]; omega
        have eln : lnZ g t b i x = tV g t b (i - 1) * (tH g t i - tH g t (i - 1)) + (tV g t b i - tV g t b (i - 1)) * ((x : Int) - tH g t (i - 1)) := by
          unfold lnZ
          rw [Int.mul_sub, Int.sub_mul]; omega
        generalize (tV g t b i - tV g t b (i - 1)) * ((x : Int) - tH g t (i - 1)) = A at *
        rw [downM (by omega) (by omega) (by omega) (by omega), downM (by omega) (by omega) (by omega) (by omega), Option.bind_some, Option.bind_some, zL_neg, zIL (by omega) (by omega), zL_add, zL_add, zLI, zLI, eln]
        generalize tH g t i - tH g t (i - 1) = w at *
        unfold dvZ
        cases b
        · simp only [Bool.false_eq_true, if_false]
          congr 2
          rw [Int.add_comm (_ * w), Int.add_mul_ediv_right _ _ (by omega)]; omega
        · simp only [if_true]
          congr 2
          have e2 := ediv_neg_flip (a := -A) (w := w) (by omega)
          rw [show w - 1 - -A = A + w - 1 by omega] at e2
          rw [← e2, Int.neg_neg, show tV g t true (i - 1) * w + A + w - 1 = (A + w - 1) + tV g t true (i - 1) * w by omega, Int.add_mul_ediv_right _ _ (by omega)]; omega
theorem sp_law_ok : sp_law RR := by
  intro u v a x b hR
  obtain ⟨T, hT, hT2, eT, eX, hL, hO, hS⟩ := lk hR
  have e0 : (0 : Int32).toInt = 0 := rfl
  have e7 : (7 : Int32).toInt = 7 := rfl
  have e9 : (999 : Int32).toInt = 999 := rfl
  unfold fX11_law fX12_law
  rw [in_sp2 a (L := 0) (Hh := 6) rfl rfl, in_sp2 x (L := 0) (Hh := 999) rfl rfl, eX]
  simp only [Option.bind_some, decide_eq_true_eq]
  rcases cut_n a 7 with h | ⟨t, ht, rfl⟩
  · have h : ¬ (0 ≤ a.toInt ∧ a.toInt < 7) := h
    refine ⟨-1, ?_, by rw [if_neg (by omega)], hR⟩
    by_cases n1 : a < 0
    · rw [if_pos n1]
    · rw [if_neg n1, if_pos (by rw [i_lt] at n1; rw [i_le]; omega)]
  · have e := nI_n (show t < 2147483648 by omega)
    have n1 : ¬ nI t < 0 := by rw [i_lt]; omega
    have n2 : ¬ 7 ≤ nI t := by rw [i_le]; omega
    have n3 : 0 ≤ (nI t).toInt ∧ (nI t).toInt ≤ 6 := by omega
    simp only [if_neg n1, if_neg n2, if_pos n3]
    rcases cut_n x 1000 with h | ⟨p, hp, rfl⟩
    · have h : ¬ (0 ≤ x.toInt ∧ x.toInt < 1000) := h
      refine ⟨-1, ?_, by rw [if_neg (by omega)], hR⟩
      by_cases n4 : x < 0
      · rw [if_pos n4]
      · rw [if_neg n4, if_neg (by rw [i_lt] at n4; rw [i_le]; omega)]
    · have ep := nI_n (show p < 2147483648 by omega)
      have n4 : ¬ nI p < 0 := by rw [i_lt]; omega
      have n5 : nI p ≤ 999 := by rw [i_le]; omega
      have n6 : 0 ≤ (nI p).toInt ∧ (nI p).toInt ≤ 999 := by omega
      simp only [if_neg n4, if_pos n5, if_pos n6, spX hL hO ht (show p ≤ 999 by omega), spM hS hO ht (show p ≤ 999 by omega), Option.bind_some]
      exact ⟨_, rfl, rfl, hR⟩
