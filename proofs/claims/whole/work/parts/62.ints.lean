/-- whole numbers as ints and longs -/
def zI (z : Int) : Int32 := Int32.ofInt z
def zL (z : Int) : Int64 := Int64.ofInt z
theorem zI_of (x : Int32) : zI x.toInt = x := Int32.ofInt_toInt x
theorem zL_of (x : Int64) : zL x.toInt = x := Int64.ofInt_toInt x
theorem zI_eq {x : Int32} {z : Int} (h : x.toInt = z) : x = zI z := by rw [← h, zI_of]
theorem zI_n {z : Int} (h1 : -2147483648 ≤ z) (h2 : z < 2147483648) : (zI z).toInt = z := by
  unfold zI; rw [Int32.toInt_ofInt]; exact bm32 h1 h2
theorem zL_n {z : Int} (h1 : -9223372036854775808 ≤ z) (h2 : z < 9223372036854775808) : (zL z).toInt = z := by
  unfold zL; rw [Int64.toInt_ofInt]; exact bm64 h1 h2
theorem zI_nat (n : Nat) : nI n = zI n := by
  unfold zI; rw [Int32.ofInt_eq_ofNat]; rfl
theorem zI_add (a b : Int) : zI a + zI b = zI (a + b) := (Int32.ofInt_add a b).symm
theorem zI_sub (a b : Int) : zI a - zI b = zI (a - b) := (Int32.ofInt_sub a b).symm
theorem zI_mul (a b : Int) : zI a * zI b = zI (a * b) := (Int32.ofInt_mul a b).symm
theorem zI_neg (a : Int) : -zI a = zI (-a) := (Int32.ofInt_neg a).symm
theorem zL_add (a b : Int) : zL a + zL b = zL (a + b) := (Int64.ofInt_add a b).symm
theorem zL_sub (a b : Int) : zL a - zL b = zL (a - b) := (Int64.ofInt_sub a b).symm
theorem zL_mul (a b : Int) : zL a * zL b = zL (a * b) := (Int64.ofInt_mul a b).symm
theorem zL_neg (a : Int) : -zL a = zL (-a) := (Int64.ofInt_neg a).symm
theorem zIL {z : Int} (h1 : -2147483648 ≤ z) (h2 : z < 2147483648) : (zI z).toInt64 = zL z := Int32.toInt64_ofInt h1 (by have : Int32.maxValue.toInt = 2147483647 := rfl
                                                                                                                         omega)
theorem zLI (z : Int) : (zL z).toInt32 = zI z := Int64.toInt32_ofInt
theorem xL (x : Int32) : x.toInt64 = zL x.toInt := (Int64.ofInt_int32ToInt x).symm
theorem zI_div {a b : Int} (h1 : 0 ≤ a) (h2 : a < 2147483648) (h3 : 0 < b) (h4 : b < 2147483648) : zI a / zI b = zI (a / b) := by
  have e : Int32.maxValue.toInt = 2147483647 := rfl
  have e2 : Int32.minValue.toInt = -2147483648 := rfl
  unfold zI
  rw [← Int32.ofInt_tdiv (by omega) (by omega) (by omega) (by omega), Int.tdiv_eq_ediv_of_nonneg h1]
theorem zL_div {a b : Int} (h1 : 0 ≤ a) (h2 : a < 9223372036854775808) (h3 : 0 < b) (h4 : b < 9223372036854775808) : zL a / zL b = zL (a / b) := by
  have e : Int64.maxValue.toInt = 9223372036854775807 := rfl
  have e2 : Int64.minValue.toInt = -9223372036854775808 := rfl
  unfold zL
  rw [← Int64.ofInt_tdiv (by omega) (by omega) (by omega) (by omega), Int.tdiv_eq_ediv_of_nonneg h1]
theorem mul_rng {a b A B : Int} (h1 : 0 ≤ a) (h2 : a ≤ A) (h3 : 0 ≤ b) (h4 : b ≤ B) : 0 ≤ a * b ∧ a * b ≤ A * B := ⟨Int.mul_nonneg h1 h3, Int.mul_le_mul h2 h4 h3 (Int.le_trans h1 h2)⟩
/-- how many points are passed -/
def psr (H : Nat → Int) (x : Int) : Nat → Nat → Nat
  | 0, i => i
  | k + 1, i => if x < H i then i else psr H x k (i + 1)
theorem psr_ge (H : Nat → Int) (x : Int) : ∀ k i, i ≤ psr H x k i := by
  intro k
  induction k with
  | zero => intro i; exact Nat.le_refl i
  | succ k ih => intro i; rw [psr]; split
                 · exact Nat.le_refl i
                 · exact Nat.le_of_succ_le (ih (i + 1))
theorem psr_le (H : Nat → Int) (x : Int) : ∀ k i, psr H x k i ≤ i + k := by
  intro k
  induction k with
  | zero => intro i; exact Nat.le_refl i
  | succ k ih => intro i; rw [psr]; split
                 · omega
                 · have := ih (i + 1); omega
theorem psr_lt (H : Nat → Int) (x : Int) : ∀ k i, psr H x k i < i + k → x < H (psr H x k i) := by
  intro k
  induction k with
  | zero => intro i h; exact absurd h (Nat.lt_irrefl i)
  | succ k ih => intro i; rw [psr]; split
                 · intro _; assumption
                 · intro h; exact ih (i + 1) (by omega)
theorem psr_bel (H : Nat → Int) (x : Int) : ∀ k i j, i ≤ j → j < psr H x k i → H j ≤ x := by
  intro k
  induction k with
  | zero => intro i j h1 h2; rw [psr] at h2; omega
  | succ k ih => intro i j h1; rw [psr]; split
                 · intro h2; omega
                 · intro h2
                   by_cases h : j = i
                   · subst h; omega
                   · exact ih (i + 1) j (by omega) h2
def tc (g : Nat → Int32) (t : Nat) : Nat := (g (36 + 25 * t)).toInt.toNat
def tH (g : Nat → Int32) (t p : Nat) : Int := (g (36 + 25 * t + (1 + 3 * p))).toInt
def tV (g : Nat → Int32) (t : Nat) (b : Bool) (p : Nat) : Int := (g (36 + 25 * t + ((if b = true then 3 else 2) + 3 * p))).toInt
def dvZ (b : Bool) (z w : Int) : Int := (if b = true then z + w - 1 else z) / w
def lnZ (g : Nat → Int32) (t : Nat) (b : Bool) (i : Nat) (x : Int) : Int := tV g t b (i - 1) * ((tH g t i - tH g t (i - 1)) - (x - tH g t (i - 1))) + tV g t b i * (x - tH g t (i - 1))
def spI (g : Nat → Int32) (t : Nat) (b : Bool) (x : Int) (i : Nat) : Int := if tc g t = 0 then 0 else if i = 0 then tV g t b 0 else if i = tc g t then tV g t b (i - 1) else dvZ b (lnZ g t b i x) (tH g t i - tH g t (i - 1))
def spZ (g : Nat → Int32) (t : Nat) (b : Bool) (x : Int) : Int := spI g t b x (psr (tH g t) x (tc g t) 0)
theorem tc_i {g : Nat → Int32} (hO : lawOk g) {t : Nat} (ht : t < 7) : g (36 + 25 * t) = nI (tc g t) ∧ tc g t ≤ 8 := by
  have h := hO.2.2 t ht
  have h1 : 0 ≤ (g (36 + 25 * t)).toInt := h.1
  have h2 : (g (36 + 25 * t)).toInt ≤ 8 := h.2.1
  exact ⟨i_nat h1, by unfold tc; omega⟩
theorem tH_r {g : Nat → Int32} (hO : lawOk g) {t p : Nat} (ht : t < 7) (hp : p < tc g t) : 0 ≤ tH g t p ∧ tH g t p ≤ 999 ∧ (p + 1 < tc g t → tH g t p < tH g t (p + 1)) := by
  have h := hO.2.2 t ht
  have h1 : 0 ≤ (g (36 + 25 * t)).toInt := h.1
  unfold tc at hp
  have h2 := h.2.2 p (by show (p : Int) < (g (36 + 25 * t)).toInt; omega)
  refine ⟨h2.1, h2.2.1, fun h3 => h2.2.2.2.2.2 ?_⟩
  unfold tc at h3
  show (p : Int) + 1 < (g (36 + 25 * t)).toInt; omega
theorem tV_r {g : Nat → Int32} (hO : lawOk g) {t p : Nat} (ht : t < 7) (hp : p < tc g t) (b : Bool) : 0 ≤ tV g t b p ∧ tV g t b p ≤ 9999 := by
  have h := hO.2.2 t ht
  have h1 : 0 ≤ (g (36 + 25 * t)).toInt := h.1
  unfold tc at hp
  have h2 := h.2.2 p (by show (p : Int) < (g (36 + 25 * t)).toInt; omega)
  have h3 := h2.2.2.1
  have h4 := h2.2.2.2.1
  have h5 := h2.2.2.2.2.1
  unfold tV
  cases b
  · exact ⟨h3, Int.le_trans h4 h5⟩
  · exact ⟨Int.le_trans h3 h4, h5⟩
theorem tH_i (g : Nat → Int32) (t p : Nat) : g (36 + 25 * t + (1 + 3 * p)) = zI (tH g t p) := (zI_of _).symm
theorem tV_i (g : Nat → Int32) (t p : Nat) (b : Bool) : g (36 + 25 * t + ((if b = true then 3 else 2) + 3 * p)) = zI (tV g t b p) := (zI_of _).symm
/-- line's bounds in a stretch -/
theorem ln_r {g : Nat → Int32} (hO : lawOk g) {t i : Nat} (ht : t < 7) (h0 : i ≠ 0) (hi : i < tc g t) (b : Bool) {x : Int} (h1 : tH g t (i - 1) ≤ x) (h2 : x ≤ tH g t i) : 0 < tH g t i - tH g t (i - 1) ∧ tH g t i - tH g t (i - 1) ≤ 999 ∧ 0 ≤ lnZ g t b i x ∧ lnZ g t b i x ≤ 9999 * (tH g t i - tH g t (i - 1)) ∧ lnZ g t b i x ≤ 9989001 := by
  have a1 := tH_r hO ht hi
  have a0 := tH_r hO ht (p := i - 1) (by omega)
  have a2 := a0.2.2 (by omega)
  rw [show i - 1 + 1 = i by omega] at a2
  have v1 := tV_r hO ht hi b
  have v0 := tV_r hO ht (p := i - 1) (by omega) b
  unfold lnZ
  generalize tH g t i = Hi at *
  generalize tH g t (i - 1) = Hl at *
  generalize tV g t b i = Vi at *
  generalize tV g t b (i - 1) = Vl at *
  have m1 := mul_rng v0.1 v0.2 (show 0 ≤ (Hi - Hl) - (x - Hl) by omega) (Int.le_refl _)
  have m2 := mul_rng v1.1 v1.2 (show 0 ≤ x - Hl by omega) (Int.le_refl _)
  generalize Vl * ((Hi - Hl) - (x - Hl)) = P at *
  generalize Vi * (x - Hl) = Q at *
  omega
theorem dv_r {z w : Int} (hw : 0 < w) (h0 : 0 ≤ z) (h1 : z ≤ 9999 * w) (b : Bool) : 0 ≤ dvZ b z w ∧ dvZ b z w ≤ 9999 := by
  unfold dvZ
  cases b
  · simp only [Bool.false_eq_true, if_false]
    refine ⟨(Int.le_ediv_iff_mul_le hw).mpr (by omega), (Int.ediv_le_iff_le_mul hw).mpr (by omega)⟩
  · simp only [if_true]
    refine ⟨(Int.le_ediv_iff_mul_le hw).mpr (by omega), (Int.ediv_le_iff_le_mul hw).mpr (by omega)⟩
/-- what is known of the number of points passed -/
theorem psx (g : Nat → Int32) (t : Nat) (x : Int) : psr (tH g t) x (tc g t) 0 ≤ tc g t ∧ (psr (tH g t) x (tc g t) 0 < tc g t → x < tH g t (psr (tH g t) x (tc g t) 0)) ∧ ∀ j, j < psr (tH g t) x (tc g t) 0 → tH g t j ≤ x := by
  refine ⟨by have := psr_le (tH g t) x (tc g t) 0; omega, fun h => psr_lt _ _ _ _ (by omega), fun j hj => psr_bel _ _ _ _ j (by omega) hj⟩
theorem sp_r {g : Nat → Int32} (hO : lawOk g) {t : Nat} (ht : t < 7) (b : Bool) (x : Int) : 0 ≤ spZ g t b x ∧ spZ g t b x ≤ 9999 := by
  obtain ⟨p1, p2, p3⟩ := psx g t x
  unfold spZ
  generalize psr (tH g t) x (tc g t) 0 = i at *
  unfold spI
  by_cases hn : tc g t = 0
  · rw [if_pos hn]; omega
  · rw [if_neg hn]
    by_cases h0 : i = 0
    · rw [if_pos h0]; exact tV_r hO ht (by omega) b
    · rw [if_neg h0]
      by_cases h1 : i = tc g t
      · rw [if_pos h1]; exact tV_r hO ht (by omega) b
      · rw [if_neg h1]
        have hi : i < tc g t := by omega
        have l := ln_r hO ht h0 hi b (p3 (i - 1) (by omega)) (Int.le_of_lt (p2 hi))
        exact dv_r l.1 l.2.2.1 l.2.2.2.1 b
theorem ptX {u : Mem} {T : Nat} {g : Nat → Int32} (hL : relL u T g) (hO : lawOk g) {t p j : Nat} (ht : t < 7) (hp : p < tc g t) (hj : j < 3) : fX3_ofPoint T (nI t) (nI p) (nI j) u = some (g (36 + 25 * t + (1 + 3 * p + j))) := by
  obtain ⟨c1, c2⟩ := tc_i hO ht
  unfold fX3_ofPoint
  have e : ((nI t * 8 + nI p) * 3) + nI j = nI ((t * 8 + p) * 3 + j) := by rw [show (8 : Int32) = nI 8 from rfl, show (3 : Int32) = nI 3 from rfl, pk_mul, nI_add, pk_mul, nI_add]
  rw [e, if_pos (inB_n (by omega) (by omega)), cl_n (by omega), hL.2.2.2 t ht p (by rw [c1, nI_n (by omega)]; omega) j hj]
theorem ptX0 {u : Mem} {T : Nat} {g : Nat → Int32} (hL : relL u T g) (hO : lawOk g) {t p : Nat} (ht : t < 7) (hp : p < tc g t) : fX3_ofPoint T (nI t) (nI p) 0 u = some (zI (tH g t p)) := by
  have := ptX hL hO (j := 0) ht hp (by omega)
  rw [show nI 0 = (0 : Int32) from rfl] at this
  rw [this, ← tH_i]; rfl
theorem ptXb {u : Mem} {T : Nat} {g : Nat → Int32} (hL : relL u T g) (hO : lawOk g) {t p : Nat} (ht : t < 7) (hp : p < tc g t) (b : Bool) : fX3_ofPoint T (nI t) (nI p) ((if b = true then 2 else 1) : Int32) u = some (zI (tV g t b p)) := by
  have e : ((if b = true then 2 else 1) : Int32) = nI (if b = true then 2 else 1) := by cases b <;> rfl
  rw [e, ptX hL hO ht hp (by cases b <;> decide), ← tV_i]
  cases b
  · simp only [Bool.false_eq_true, if_false]; congr 2; omega
  · simp only [if_true]; congr 2; omega
theorem fu_n {n : Nat} (h : n ≤ 99999) : n < fu0 := by unfold fu0; omega
theorem spX_loop {u : Mem} {T : Nat} {g : Nat → Int32} (hL : relL u T g) (hO : lawOk g) {t x : Nat} (ht : t < 7) (hx : x ≤ 999) (b : Bool) (K : Int32 → Option Int32) : ∀ (k i f : Nat), i + k = tc g t → k < f → fX3_span_L18 T (nI t) (nI x) b (nI (tc g t)) u K f (nI i) = K (nI (psr (tH g t) x k i)) := by
  obtain ⟨c1, c2⟩ := tc_i hO ht
  intro k
  induction k with
  | zero =>
    intro i f hi hf
    obtain ⟨f, rfl⟩ : ∃ k, f = k + 1 := ⟨f - 1, by omega⟩
    rw [fX3_span_L18, if_pos ((le_nI (by omega) (by omega)).mpr (by omega)), psr]
  | succ k ih =>
    intro i f hi hf
    obtain ⟨f, rfl⟩ : ∃ k, f = k + 1 := ⟨f - 1, by omega⟩
    have hr := tH_r hO ht (p := i) (by omega)
    rw [fX3_span_L18, if_neg (fun h => by have := (le_nI (by omega) (by omega)).mp h; omega), ptX0 hL hO ht (by omega), psr]
    simp only [Option.bind_some]
    have hc : nI x < zI (tH g t i) ↔ (x : Int) < tH g t i := by rw [i_lt, nI_n (by omega), zI_n (by omega) (by omega)]
    by_cases h : (x : Int) < tH g t i
    · rw [if_pos (hc.mpr h), if_pos h]
    · rw [if_neg (fun h2 => h (hc.mp h2)), if_neg h, nI_1]
      exact ih (i + 1) f (by omega) (by omega)
theorem nI_s1 {a : Nat} (h : 0 < a) (h2 : a < 2147483648) : nI a - 1 = nI (a - 1) := by
  have e1 : (1 : Int32).toInt = 1 := rfl
  rw [i_eq, i_sub (by rw [nI_n h2]; omega) (by rw [nI_n h2]; omega), nI_n h2, nI_n (by omega)]; omega
theorem spX {u : Mem} {T : Nat} {g : Nat → Int32} (hL : relL u T g) (hO : lawOk g) {t x : Nat} (ht : t < 7) (hx : x ≤ 999) (b : Bool) : fX3_span T (nI t) (nI x) b u = some (zI (spZ g t b x)) := by
  obtain ⟨c1, c2⟩ := tc_i hO ht
  obtain ⟨p1, p2, p3⟩ := psx g t x
  have e0 : (0 : Int32).toInt = 0 := rfl
  have e1 : (1 : Int32).toInt = 1 := rfl
  unfold fX3_span
  rw [if_pos (inB_n ht (by omega)), cl_n (by omega), hL.2.2.1 t ht, c1]
  unfold spZ
  by_cases hn : tc g t = 0
  · have hz : nI (tc g t) = 0 := by rw [hn]; rfl
    rw [if_pos hz, spI, if_pos hn]; rfl
  have hz : ¬ nI (tc g t) = 0 := fun h => hn (nI_inj (b := 0) (by omega) (by omega) h)
  rw [if_neg hz, show (0 : Int32) = nI 0 from rfl, spX_loop hL hO ht hx b _ (tc g t) 0 fu0 (by omega) (fu_n (by omega))]
  rw [show nI 0 = (0 : Int32) from rfl]
  generalize psr (tH g t) x (tc g t) 0 = i at *
  rw [Option.bind_some, nI_s1 (by omega) (by omega)]
  unfold spI
  rw [if_neg hn]
  by_cases h0 : i = 0
  · subst h0
    have q1 : ¬ nI (tc g t - 1) < nI 0 := fun h => by have := (lt_nI (by omega) (by omega)).mp h; omega
    have q2 : nI 0 - 1 < (0 : Int32) := by decide
    rw [if_neg q1, if_pos q2, show (0 : Int32) = nI 0 from rfl, show nI 0 = (0 : Int32) from rfl]
    have hp := ptX0 hL hO ht (p := 0) (by omega)
    rw [show nI 0 = (0 : Int32) from rfl] at hp
    have hq := ptXb hL hO ht (p := 0) (by omega) b
    rw [show nI 0 = (0 : Int32) from rfl] at hq
    rw [hp, Option.bind_some, Option.bind_some, zI_sub, Int.sub_self, if_neg (show ¬ 0 < zI 0 by decide), hq, if_pos rfl]
    rfl
  · have q2 : ¬ nI (i - 1) < (0 : Int32) := by rw [i_lt, nI_n (by omega)]; omega
    rw [nI_s1 (by omega) (by omega), if_neg q2, if_neg h0]
    by_cases h1 : i = tc g t
    · have q1 : nI (tc g t - 1) < nI i := (lt_nI (by omega) (by omega)).mpr (by omega)
      rw [if_pos q1, ptX0 hL hO ht (by omega), ptX0 hL hO ht (by omega), Option.bind_some, Option.bind_some, zI_sub, ← h1, Int.sub_self, if_neg (show ¬ 0 < zI 0 by decide), ptXb hL hO ht (by omega), Option.bind_some, if_pos rfl]
    · have hi : i < tc g t := by omega
      have q1 : ¬ nI (tc g t - 1) < nI i := fun h => by have := (lt_nI (by omega) (by omega)).mp h; omega
      have l := ln_r hO ht h0 hi b (p3 (i - 1) (by omega)) (Int.le_of_lt (p2 hi))
      have a1 := tH_r hO ht hi
      have a0 := tH_r hO ht (p := i - 1) (by omega)
      rw [if_neg q1, if_neg h1, ptX0 hL hO ht (by omega), ptX0 hL hO ht (by omega), Option.bind_some, Option.bind_some, zI_sub, if_pos (by rw [i_lt, zI_n (by omega) (by omega)]; omega), Option.bind_some, ptXb hL hO ht (by omega), Option.bind_some, ptXb hL hO ht (by omega), Option.bind_some, Option.bind_some, zI_nat x]
      unfold fX11_cut
      rw [if_neg (by rw [i_le, zI_n (by omega) (by omega)]; omega), if_neg (by rw [i_eq, zI_n (by omega) (by omega)]; omega), Option.bind_some]
      congr 1
      simp only [zI_add, zI_sub, zI_mul, show (1 : Int32) = zI 1 from rfl]
      unfold dvZ
      rw [show tV g t b (i - 1) * (tH g t i - tH g t (i - 1) - ((x : Int) - tH g t (i - 1))) + tV g t b i * ((x : Int) - tH g t (i - 1)) = lnZ g t b i x from rfl]
      cases b
      · simp only [Bool.false_eq_true, if_false]; rw [zI_div (by omega) (by omega) (by omega) (by omega)]
      · simp only [if_true]; rw [zI_div (by omega) (by omega) (by omega) (by omega)]
