theorem xor_sign (a b : Int64) (hb : 0 < b.toInt) : 0 ≤ (a ^^^ b).toInt ↔ 0 ≤ a.toInt := by
  have e : ∀ c : Int64, c.toInt = c.toBitVec.toInt := fun c => rfl
  have m := BitVec.msb_xor (x := a.toBitVec) (y := b.toBitVec)
  rw [BitVec.msb_eq_toInt, BitVec.msb_eq_toInt, BitVec.msb_eq_toInt, ← Int64.toBitVec_xor, ← e, ← e, ← e] at m
  rw [decide_eq_false (show ¬ b.toInt < 0 by omega), Bool.xor_false] at m
  have m2 : (a ^^^ b).toInt < 0 ↔ a.toInt < 0 := by
    constructor
    · intro h; rw [decide_eq_true h] at m; exact of_decide_eq_true m.symm
    · intro h; rw [decide_eq_true h] at m; exact of_decide_eq_true m
  omega
theorem flDiv {a b : Int} (hb : 0 < b) (hb2 : b < 1000000000) (h1 : -10000000000000 < a) (h2 : a < 10000000000000) : fJ9_floorDiv_f86c9 (zL a) (zL b) = some (zL (a / b)) := by
  have eb : (zL b).toInt = b := zL_n (by omega) (by omega)
  have ea : (zL a).toInt = a := zL_n (by omega) (by omega)
  have n0 : ¬ zL b = 0 := by rw [j_eq, eb, l0]; omega
  unfold fJ9_floorDiv_f86c9
  rw [if_neg n0]
  by_cases h : 0 ≤ a
  · rw [if_pos (by rw [j_le, l0, xor_sign _ _ (by omega), ea]; exact h), zL_div h (by omega) hb (by omega)]
  · rw [if_neg (by rw [j_le, l0, xor_sign _ _ (by omega), ea]; exact h)]
    have e : Int64.maxValue.toInt = 9223372036854775807 := rfl
    have e2 : Int64.minValue.toInt = -9223372036854775808 := rfl
    have ed : zL a / zL b = zL (a.tdiv b) := by
      unfold zL; rw [← Int64.ofInt_tdiv (by omega) (by omega) (by omega) (by omega)]
    have et : a.tdiv b = -((-a) / b) := by
      have := Int.neg_tdiv (-a) b
      rw [Int.neg_neg] at this
      rw [this, Int.tdiv_eq_ediv_of_nonneg (by omega)]
    have q1 : (-a) / b * b ≤ -a := (Int.le_ediv_iff_mul_le hb).mp (Int.le_refl _)
    have q2 : -a < (-a) / b * b + b := (Int.ediv_le_iff_le_mul hb).mp (Int.le_refl _)
    have q3 : 0 ≤ (-a) / b := (Int.le_ediv_iff_mul_le hb).mpr (by omega)
    have q4 : 0 ≤ (-a) / b * b := Int.mul_nonneg q3 (by omega)
    rw [ed, et, zL_mul]
    generalize hq : (-a) / b = q at *
    have en : -q * b = -(q * b) := Int.neg_mul _ _
    have en2 : (-q - 1) * b = -(q * b) - b := by rw [Int.sub_mul, en, Int.one_mul]
    by_cases h3 : -q * b = a
    · rw [if_pos (by rw [h3])]
      congr 2
      have x1 : a / b ≤ -q := (Int.ediv_le_iff_le_mul hb).mpr (by omega)
      have x2 : -q ≤ a / b := (Int.le_ediv_iff_mul_le hb).mpr (by omega)
      omega
    · rw [if_neg (by rw [j_eq, ea, zL_n (by omega) (by omega)]; exact h3), show (1 : Int64) = zL 1 from rfl, zL_sub]
      congr 2
      have x1 : a / b ≤ -q - 1 := (Int.ediv_le_iff_le_mul hb).mpr (by omega)
      have x2 : -q - 1 ≤ a / b := (Int.le_ediv_iff_mul_le hb).mpr (by omega)
      omega
def frB (u w : Mem) : Prop := ∀ k, k ≠ 204 → k ≠ 205 → k ≠ 206 → w.1 k = u.1 k ∧ w.2 k = u.2 k
theorem frB_rfl (u : Mem) : frB u u := fun _ _ _ _ => ⟨rfl, rfl⟩
theorem frB_tr {a b c : Mem} (h1 : frB a b) (h2 : frB b c) : frB a c := fun k x y z => ⟨(h2 k x y z).1.trans (h1 k x y z).1, (h2 k x y z).2.trans (h1 k x y z).2⟩
theorem relL_B {u w : Mem} {T : Nat} {g : Nat → Int32} (hT : T ≤ 30) (h : frB u w) (hL : relL u T g) : relL w T g := relL_fr (fun r hr => (h _ (by omega) (by omega) (by omega)).1) hL
/-- one narrowing: the ends in the long cells -/
theorem nrw {base slope bound F T M : Int} {u : Mem} (hF : u.2 204 3 = zL F) (hT : u.2 204 4 = zL T) (hb : 0 ≤ base ∧ base ≤ 999) (hs : -10000 ≤ slope ∧ slope ≤ 10000) (hd : -4000000000000 ≤ bound ∧ bound ≤ 4000000000000) (hM : 5000000000000 ≤ M ∧ M ≤ 6000000000000) (hFM : -M ≤ F ∧ F ≤ M) (hTM : -M ≤ T ∧ T ≤ M) : ∃ (F2 T2 : Int) (w : Mem), fX0_narrow (zI base) (zI slope) (zL bound) u = some w ∧ w.2 204 3 = zL F2 ∧ w.2 204 4 = zL T2 ∧ (-(M + 1) ≤ F2 ∧ F2 ≤ M + 1) ∧ (-(M + 1) ≤ T2 ∧ T2 ≤ M + 1) ∧ (∀ x, F2 ≤ x ∧ x ≤ T2 ↔ (F ≤ x ∧ x ≤ T) ∧ slope * (x - base) < bound) ∧ w.1 = u.1 ∧ ∀ k, k ≠ 204 → w.2 k = u.2 k := by
  have es : (zI slope).toInt = slope := zI_n (by omega) (by omega)
  have ed : (zL bound).toInt = bound := zL_n (by omega) (by omega)
  have e0 : (0 : Int32).toInt = 0 := rfl
  unfold fX0_narrow
  by_cases h1 : slope ≤ 0
  · rw [if_pos (by rw [i_le, es]; exact h1)]
    by_cases h2 : 0 ≤ slope
    · have hz : slope = 0 := by omega
      subst hz
      rw [if_pos (by rw [i_le, es]; exact h2)]
      by_cases h3 : 0 < bound
      · rw [if_pos (by rw [j_lt, ed, l0]; exact h3)]
        exact ⟨F, T, u, rfl, hF, hT, by omega, by omega, fun x => by rw [Int.zero_mul]; omega, rfl, fun _ _ => rfl⟩
      · rw [if_neg (by rw [j_lt, ed, l0]; exact h3)]
        refine ⟨F, F - 1, _, rfl, ?_, ?_, by omega, by omega, fun x => by rw [Int.zero_mul]; omega, rfl, fun k hk => sl_ro u _ hk⟩
        · rw [sl_2, if_neg (by omega)]; exact hF
        · rw [sl_2, if_pos ⟨rfl, rfl⟩, hF]; exact zL_sub F 1
    · rw [if_neg (by rw [i_le, es]; exact h2), zIL (by omega) (by omega), zL_neg, zL_neg, flDiv (by omega) (by omega) (by omega) (by omega), Option.bind_some, zIL (by omega) (by omega), show (1 : Int64) = zL 1 from rfl, zL_add, zL_add, hF, Option.bind_some]
      have hp : 0 < -slope := by omega
      have q1 : (-bound) / (-slope) * (-slope) ≤ -bound := (Int.le_ediv_iff_mul_le hp).mp (Int.le_refl _)
      have q2 : -bound < (-bound) / (-slope) * (-slope) + (-slope) := (Int.ediv_le_iff_le_mul hp).mp (Int.le_refl _)
      have q3 : (-bound) / (-slope) ≤ 4000000000000 := (Int.ediv_le_iff_le_mul hp).mpr (by omega)
      have q4 : -4000000000000 ≤ (-bound) / (-slope) := (Int.le_ediv_iff_mul_le hp).mpr (by omega)
      have key : ∀ x, base + (-bound) / (-slope) + 1 ≤ x ↔ slope * (x - base) < bound := by
        intro x
        rw [show slope * (x - base) = -((x - base) * (-slope)) by rw [Int.mul_neg, Int.neg_neg, Int.mul_comm]]
        have : (x - base) * (-slope) ≤ -bound ↔ x - base ≤ (-bound) / (-slope) := (Int.le_ediv_iff_mul_le hp).symm
        omega
      generalize (-bound) / (-slope) = q at *
      by_cases h3 : base + q + 1 < F
      · rw [if_pos (by rw [j_lt, zL_n (by omega) (by omega), zL_n (by omega) (by omega)]; exact h3)]
        refine ⟨F, T, _, rfl, ?_, ?_, by omega, by omega, fun x => by rw [← key x]; omega, rfl, fun k hk => sl_ro u _ hk⟩
        · rw [sl_2, if_pos ⟨rfl, rfl⟩]
        · rw [sl_2, if_neg (by omega)]; exact hT
      · rw [if_neg (by rw [j_lt, zL_n (by omega) (by omega), zL_n (by omega) (by omega)]; exact h3)]
        refine ⟨base + q + 1, T, _, rfl, ?_, ?_, by omega, by omega, fun x => by rw [← key x]; omega, rfl, fun k hk => sl_ro u _ hk⟩
        · rw [sl_2, if_pos ⟨rfl, rfl⟩]
        · rw [sl_2, if_neg (by omega)]; exact hT
  · rw [if_neg (by rw [i_le, es]; exact h1), zIL (by omega) (by omega), show (1 : Int64) = zL 1 from rfl, zL_sub, flDiv (by omega) (by omega) (by omega) (by omega), Option.bind_some, zIL (by omega) (by omega), zL_add, hT, Option.bind_some]
    have hp : 0 < slope := by omega
    have q3 : (bound - 1) / slope ≤ 4000000000000 := (Int.ediv_le_iff_le_mul hp).mpr (by omega)
    have q4 : -4000000000001 ≤ (bound - 1) / slope := (Int.le_ediv_iff_mul_le hp).mpr (by omega)
    have key : ∀ x, x ≤ base + (bound - 1) / slope ↔ slope * (x - base) < bound := by
      intro x
      rw [Int.mul_comm]
      have : (x - base) * slope ≤ bound - 1 ↔ x - base ≤ (bound - 1) / slope := (Int.le_ediv_iff_mul_le hp).symm
      omega
    generalize (bound - 1) / slope = q at *
    by_cases h3 : base + q < T
    · rw [if_pos (by rw [j_lt, zL_n (by omega) (by omega), zL_n (by omega) (by omega)]; exact h3)]
      refine ⟨F, base + q, _, rfl, ?_, ?_, by omega, by omega, fun x => by rw [← key x]; omega, rfl, fun k hk => sl_ro u _ hk⟩
      · rw [sl_2, if_neg (by omega)]; exact hF
      · rw [sl_2, if_pos ⟨rfl, rfl⟩]
    · rw [if_neg (by rw [j_lt, zL_n (by omega) (by omega), zL_n (by omega) (by omega)]; exact h3)]
      refine ⟨F, T, _, rfl, ?_, ?_, by omega, by omega, fun x => by rw [← key x]; omega, rfl, fun k hk => sl_ro u _ hk⟩
      · rw [sl_2, if_neg (by omega)]; exact hF
      · rw [sl_2, if_pos ⟨rfl, rfl⟩]
/-- the runs below a bound -/
def Runs (P : Int → Prop) (B : Int) (c : Nat) (l h : Nat → Int) : Prop := (∀ k, k < c → 0 ≤ l k ∧ l k ≤ h k ∧ h k < B) ∧ (∀ k, k + 1 < c → h k + 1 < l (k + 1)) ∧ ∀ x, 0 ≤ x → x < B → (P x ↔ ∃ k, k < c ∧ l k ≤ x ∧ x ≤ h k)
theorem Runs.a {P : Int → Prop} {B : Int} {c : Nat} {l h : Nat → Int} (r : Runs P B c l h) : ∀ k, k < c → 0 ≤ l k ∧ l k ≤ h k ∧ h k < B := r.1
theorem Runs.b {P : Int → Prop} {B : Int} {c : Nat} {l h : Nat → Int} (r : Runs P B c l h) : ∀ k, k + 1 < c → h k + 1 < l (k + 1) := r.2.1
theorem Runs.c {P : Int → Prop} {B : Int} {c : Nat} {l h : Nat → Int} (r : Runs P B c l h) : ∀ x, 0 ≤ x → x < B → (P x ↔ ∃ k, k < c ∧ l k ≤ x ∧ x ≤ h k) := r.2.2
def BM (u : Mem) (c : Nat) (l h : Nat → Int) : Prop := u.1 204 2 = nI c ∧ ∀ k, k < c → u.1 205 k = zI (l k) ∧ u.1 206 k = zI (h k)
theorem runs_none {P : Int → Prop} {B B2 : Int} {c : Nat} {l h : Nat → Int} (hr : Runs P B c l h) (hB : B ≤ B2) (hn : ∀ x, B ≤ x → x < B2 → ¬ P x) : Runs P B2 c l h := by
  refine ⟨fun k hk => by have := hr.a k hk; omega, hr.b, fun x h0 h1 => ?_⟩
  by_cases hx : x < B
  · exact hr.c x h0 hx
  · constructor
    · intro hp; exact absurd hp (hn x (by omega) h1)
    · intro ⟨k, hk, hk2⟩; have := hr.a k hk; omega
def upZ (f : Nat → Int) (i : Nat) (z : Int) : Nat → Int := fun k => if k = i then z else f k
theorem keepB {P : Int → Prop} {B B2 f t : Int} {c : Nat} {l h : Nat → Int} {u : Mem} (hB0 : 0 ≤ B) (hm : BM u c l h) (hr : Runs P B c l h) (hc : c < 9) (hB2 : B2 ≤ 1000) (h1 : B ≤ f) (h2 : f ≤ t) (h3 : t < B2) (hp : ∀ x, B ≤ x → x < B2 → (P x ↔ f ≤ x ∧ x ≤ t)) : ∃ (w : Mem) (c2 : Nat) (l2 h2 : Nat → Int), fX0_keep (zI f) (zI t) u = some w ∧ c2 ≤ c + 1 ∧ BM w c2 l2 h2 ∧ Runs P B2 c2 l2 h2 ∧ frB u w := by
  obtain ⟨m1, m2⟩ := hm
  have e0 : (0 : Int32).toInt = 0 := rfl
  have app : (¬ 0 < c ∨ h (c - 1) + 1 ≠ f) → ∃ (w : Mem) (c2 : Nat) (l2 h2 : Nat → Int), fX0_keep_J39 (zI f) (zI t) u = some w ∧ c2 ≤ c + 1 ∧ BM w c2 l2 h2 ∧ Runs P B2 c2 l2 h2 ∧ frB u w := by
    intro hne
    unfold fX0_keep_J39
    have g1 : (si u 205 c (zI f)).1 204 2 = nI c := by rw [si_1, if_neg (by omega)]; exact m1
    rw [m1, if_neg (by rw [i_le, nI_n (by omega)]; have : (9 : Int32).toInt = 9 := rfl
                       omega), if_pos (inB_n hc (by omega)), cl_n (by omega), g1, if_pos (inB_n hc (by omega)), cl_n (by omega), Option.bind_some]
    have g2 : (si (si u 205 c (zI f)) 206 c (zI t)).1 204 2 = nI c := by rw [si_1, if_neg (by omega)]; exact g1
    rw [g2, nI_1]
    refine ⟨_, c + 1, upZ l c f, upZ h c t, rfl, Nat.le_refl _, ⟨by rw [si_1, if_pos ⟨rfl, rfl⟩], fun k hk => ?_⟩, ⟨fun k hk => ?_, fun k hk => ?_, fun x hx0 hx => ?_⟩, fun k x1 x2 x3 => ⟨by rw [si_ro _ _ x1, si_ro _ _ x3, si_ro _ _ x2], rfl⟩⟩
    · simp only [si_1, upZ]
      by_cases h9 : k = c
      · subst h9; simp
      · have := m2 k (by omega)
        simp only [h9, and_false, if_false, show ¬ (205 = 204) by decide, show ¬ (206 = 204) by decide, false_and]
        exact this
    · simp only [upZ]
      by_cases h9 : k = c
      · rw [if_pos h9, if_pos h9]; omega
      · rw [if_neg h9, if_neg h9]; have := hr.a k (by omega); omega
    · simp only [upZ]
      rw [if_neg (show ¬ k = c by omega)]
      by_cases h9 : k + 1 = c
      · rw [if_pos h9]
        have := hr.a k (by omega)
        rcases hne with h8 | h8
        · omega
        · rw [show c - 1 = k by omega] at h8; omega
      · rw [if_neg h9]; exact hr.b k (by omega)
    · by_cases hxB : x < B
      · rw [hr.c x hx0 hxB]
        constructor
        · intro ⟨k, hk, hk2⟩
          exact ⟨k, by omega, by simp only [upZ]; rw [if_neg (by omega), if_neg (by omega)]; exact hk2⟩
        · intro ⟨k, hk, hk2⟩
          simp only [upZ] at hk2
          by_cases h9 : k = c
          · rw [if_pos h9, if_pos h9] at hk2; omega
          · rw [if_neg h9, if_neg h9] at hk2; exact ⟨k, by omega, hk2⟩
      · rw [hp x (by omega) hx]
        constructor
        · intro hk; exact ⟨c, by omega, by simp only [upZ, if_true]; exact hk⟩
        · intro ⟨k, hk, hk2⟩
          simp only [upZ] at hk2
          by_cases h9 : k = c
          · rw [if_pos h9, if_pos h9] at hk2; exact hk2
          · rw [if_neg h9, if_neg h9] at hk2; have := hr.a k (by omega); omega
  unfold fX0_keep
  rw [m1]
  by_cases hc0 : c = 0
  · rw [if_pos (by rw [i_le, nI_n (by omega)]; omega)]
    exact app (Or.inl (by omega))
  · have hcp : 0 < c := by omega
    rw [if_neg (by rw [i_le, nI_n (by omega)]; omega), nI_s1 hcp (by omega), if_pos (inB_n (by omega) (by omega)), cl_n (by omega), (m2 (c - 1) (by omega)).2, show (1 : Int32) = zI 1 from rfl, zI_add]
    have ha := hr.a (c - 1) (by omega)
    by_cases hf : h (c - 1) + 1 = f
    · rw [if_pos (by rw [hf]), if_pos (inB_n (by omega) (by omega))]
      refine ⟨_, c, l, upZ h (c - 1) t, rfl, by omega, ⟨by rw [si_1, if_neg (by omega)]; exact m1, fun k hk => ?_⟩, ⟨fun k hk => ?_, fun k hk => ?_, fun x hx0 hx => ?_⟩, fun k x1 x2 x3 => ⟨si_ro _ _ x3, rfl⟩⟩
      · have := m2 k hk
        rw [si_1, if_neg (by omega), si_1]
        refine ⟨this.1, ?_⟩
        simp only [upZ, true_and]
        by_cases h9 : k = c - 1
        · rw [if_pos h9, if_pos h9]
        · rw [if_neg h9, if_neg h9]; exact this.2
      · simp only [upZ]
        have := hr.a k hk
        by_cases h9 : k = c - 1
        · rw [if_pos h9]; subst h9; omega
        · rw [if_neg h9]; omega
      · simp only [upZ]
        rw [if_neg (by omega)]; exact hr.b k hk
      · by_cases hxB : x < B
        · rw [hr.c x hx0 hxB]
          constructor
          · intro ⟨k, hk, hk2⟩
            refine ⟨k, hk, ?_⟩
            simp only [upZ]
            by_cases h9 : k = c - 1
            · rw [if_pos h9]; subst h9; omega
            · rw [if_neg h9]; exact hk2
          · intro ⟨k, hk, hk2⟩
            simp only [upZ] at hk2
            by_cases h9 : k = c - 1
            · rw [if_pos h9] at hk2; subst h9; exact ⟨c - 1, by omega, by omega⟩
            · rw [if_neg h9] at hk2; exact ⟨k, hk, hk2⟩
        · rw [hp x (by omega) hx]
          constructor
          · intro hk; exact ⟨c - 1, by omega, by simp only [upZ, if_true]; omega⟩
          · intro ⟨k, hk, hk2⟩
            simp only [upZ] at hk2
            by_cases h9 : k = c - 1
            · rw [if_pos h9] at hk2; omega
            · rw [if_neg h9] at hk2; have := hr.a k (by omega); omega
    · rw [if_neg (fun h9 => hf (by rw [i_eq, zI_n (by omega) (by omega), zI_n (by omega) (by omega)] at h9; exact h9))]
      exact app (Or.inr hf)
