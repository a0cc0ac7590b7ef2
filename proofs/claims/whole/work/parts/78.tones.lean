/-- the signs of the corners: count, negative, last, before -/
def tnStep (e b : Int) (s : Nat × Bool × Int × Int) : Nat × Bool × Int × Int :=
  (if e * s.2.2.1 - b * s.2.2.2 = 0 then s.1 else if decide (e * s.2.2.1 - b * s.2.2.2 < 0) = s.2.1 then s.1 else s.1 + 1, if e * s.2.2.1 - b * s.2.2.2 = 0 then s.2.1 else decide (e * s.2.2.1 - b * s.2.2.2 < 0), e * s.2.2.1 - b * s.2.2.2, s.2.2.1)
def tnRe (k : Int) (s : Nat × Bool × Int × Int) : Nat × Bool × Int × Int := if k = 0 then (s.1, false, 1, 0) else s
def tnS (K : Nat → Int) (x : Int) : Nat → Nat × Bool × Int × Int
  | 0 => (0, false, 1, 0)
  | i + 1 => tnStep (K i + K (i + 1) - x) (K i * K i) (tnRe (K i) (tnS K x i))
def sgn (b : Bool) : Int := if b = true then -1 else 1
theorem tn_norm (e b : Int) (s : Nat × Bool × Int × Int) : (e * (sgn s.2.1 * s.2.2.1) - b * (sgn s.2.1 * s.2.2.2) < 0 ∧ (tnStep e b s).1 = s.1 + 1 ∧ sgn (tnStep e b s).2.1 * (tnStep e b s).2.2.1 = -(e * (sgn s.2.1 * s.2.2.1) - b * (sgn s.2.1 * s.2.2.2)) ∧ sgn (tnStep e b s).2.1 * (tnStep e b s).2.2.2 = -(sgn s.2.1 * s.2.2.1)) ∨ (0 ≤ e * (sgn s.2.1 * s.2.2.1) - b * (sgn s.2.1 * s.2.2.2) ∧ (tnStep e b s).1 = s.1 ∧ sgn (tnStep e b s).2.1 * (tnStep e b s).2.2.1 = e * (sgn s.2.1 * s.2.2.1) - b * (sgn s.2.1 * s.2.2.2) ∧ sgn (tnStep e b s).2.1 * (tnStep e b s).2.2.2 = sgn s.2.1 * s.2.2.1) := by
  obtain ⟨c, neg, p, a⟩ := s
  unfold tnStep
  show (e * (sgn neg * p) - b * (sgn neg * a) < 0 ∧ (if e * p - b * a = 0 then c else if decide (e * p - b * a < 0) = neg then c else c + 1) = c + 1 ∧ sgn (if e * p - b * a = 0 then neg else decide (e * p - b * a < 0)) * (e * p - b * a) = -(e * (sgn neg * p) - b * (sgn neg * a)) ∧ sgn (if e * p - b * a = 0 then neg else decide (e * p - b * a < 0)) * p = -(sgn neg * p)) ∨ (0 ≤ e * (sgn neg * p) - b * (sgn neg * a) ∧ (if e * p - b * a = 0 then c else if decide (e * p - b * a < 0) = neg then c else c + 1) = c ∧ sgn (if e * p - b * a = 0 then neg else decide (e * p - b * a < 0)) * (e * p - b * a) = e * (sgn neg * p) - b * (sgn neg * a) ∧ sgn (if e * p - b * a = 0 then neg else decide (e * p - b * a < 0)) * p = sgn neg * p)
  have hm : e * (sgn neg * p) - b * (sgn neg * a) = sgn neg * (e * p - b * a) := by
    rw [Int.mul_left_comm e, Int.mul_left_comm b, ← Int.mul_sub]
  rw [hm]
  generalize e * p - b * a = v
  have n1 : ∀ z : Int, -1 * z = -z := fun z => by omega
  have s0 : sgn false = 1 := rfl
  have s1 : sgn true = -1 := rfl
  by_cases h0 : v = 0
  · right
    rw [if_pos h0, if_pos h0, h0, Int.mul_zero]
    exact ⟨Int.le_refl _, rfl, rfl, rfl⟩
  · rw [if_neg h0, if_neg h0]
    by_cases hv : v < 0
    · rw [decide_eq_true hv]
      cases neg
      · left
        rw [if_neg (by decide), s0, s1, Int.one_mul, Int.one_mul, n1, n1]
        exact ⟨hv, rfl, rfl, rfl⟩
      · right
        rw [if_pos rfl, s1]
        exact ⟨by omega, rfl, rfl, rfl⟩
    · rw [decide_eq_false hv]
      cases neg
      · right
        rw [if_pos rfl, s0]
        exact ⟨by omega, rfl, rfl, rfl⟩
      · left
        rw [if_neg (by decide), s0, s1, Int.one_mul, Int.one_mul, n1, n1, Int.neg_neg, Int.neg_neg]
        exact ⟨by omega, rfl, rfl, rfl⟩
def tnV (s : Nat × Bool × Int × Int) : Prop := 0 ≤ sgn s.2.1 * s.2.2.1 ∧ (sgn s.2.1 * s.2.2.1 = 0 → 0 < sgn s.2.1 * s.2.2.2)
def tnO (s r : Nat × Bool × Int × Int) : Prop := s.1 < r.1 ∨ (s.1 = r.1 ∧ (sgn s.2.1 * s.2.2.2) * (sgn r.2.1 * r.2.2.1) ≤ (sgn r.2.1 * r.2.2.2) * (sgn s.2.1 * s.2.2.1))
theorem tnV_st {e b : Int} {s : Nat × Bool × Int × Int} (hV : tnV s) (hb : 0 < b ∨ 0 < sgn s.2.1 * s.2.2.1) : tnV (tnStep e b s) := by
  have h := tn_norm e b s
  unfold tnV at *
  generalize sgn s.2.1 * s.2.2.1 = P at *
  generalize sgn s.2.1 * s.2.2.2 = A at *
  rcases h with ⟨h1, h2, h3, h4⟩ | ⟨h1, h2, h3, h4⟩
  · rw [h3, h4]; omega
  · rw [h3, h4]
    refine ⟨h1, fun h5 => ?_⟩
    by_cases hP : P = 0
    · have hA := hV.2 hP
      rcases hb with hb | hb
      · have := Int.mul_pos hb hA
        rw [hP, Int.mul_zero] at h5; omega
      · omega
    · omega
theorem crs (e f b P A Q B : Int) : (e * P - b * A) * Q - (f * Q - b * B) * P = (e - f) * (P * Q) + b * (B * P - A * Q) := by
  simp only [Int.sub_mul, Int.mul_sub, Int.mul_assoc, Int.mul_comm, Int.mul_left_comm]
  omega
theorem tnO_st {e f b : Int} {s r : Nat × Bool × Int × Int} (hef : f ≤ e) (hb0 : 0 ≤ b) (hs : tnV s) (hr : tnV r) (hb : 0 < b ∨ 0 < sgn r.2.1 * r.2.2.1) (h : tnO s r) : tnO (tnStep e b s) (tnStep f b r) := by
  have h1 := tn_norm e b s
  have h2 := tn_norm f b r
  unfold tnO tnV at *
  generalize hP : sgn s.2.1 * s.2.2.1 = P at *
  generalize sgn s.2.1 * s.2.2.2 = A at *
  generalize hQ : sgn r.2.1 * r.2.2.1 = Q at *
  generalize sgn r.2.1 * r.2.2.2 = B at *
  have hc := crs e f b P A Q B
  generalize hP1 : e * P - b * A = P1 at *
  generalize hQ1 : f * Q - b * B = Q1 at *
  rcases h1 with ⟨a1, a2, a3, a4⟩ | ⟨a1, a2, a3, a4⟩
  · rcases h2 with ⟨b1, b2, b3, b4⟩ | ⟨b1, b2, b3, b4⟩
    · rw [a2, a3, a4, b2, b3, b4]
      rcases h with h | ⟨h, h3⟩
      · left; omega
      · right
        refine ⟨by omega, ?_⟩
        have m1 := Int.mul_nonneg (show 0 ≤ e - f by omega) (Int.mul_nonneg hs.1 hr.1)
        have m2 := Int.mul_nonneg hb0 (show 0 ≤ B * P - A * Q by omega)
        rw [Int.neg_mul_neg, Int.neg_mul_neg, Int.mul_comm P, Int.mul_comm Q]; omega
    · rw [a2, a3, a4, b2, b3, b4]
      rcases h with h | ⟨h, h3⟩
      · by_cases h9 : s.1 + 1 < r.1
        · left; exact h9
        · right
          refine ⟨by omega, ?_⟩
          have m1 := Int.mul_nonneg hs.1 b1
          have m2 := Int.mul_nonneg hr.1 (show 0 ≤ -P1 by omega)
          rw [Int.neg_mul]; omega
      · exfalso
        have m1 := Int.mul_nonneg (show 0 ≤ e - f by omega) (Int.mul_nonneg hs.1 hr.1)
        have m2 := Int.mul_nonneg hb0 (show 0 ≤ B * P - A * Q by omega)
        have m3 := Int.mul_nonneg b1 hs.1
        by_cases hq0 : Q = 0
        · have hB := hr.2 hq0
          rcases hb with hb | hb
          · have := Int.mul_pos hb hB
            rw [hq0, Int.mul_zero] at hQ1; omega
          · omega
        · have m4 := Int.mul_pos (show 0 < -P1 by omega) (show 0 < Q by omega)
          rw [Int.neg_mul] at m4; omega
  · rcases h2 with ⟨b1, b2, b3, b4⟩ | ⟨b1, b2, b3, b4⟩
    · rw [a2, b2]
      left
      rcases h with h | ⟨h, h3⟩ <;> omega
    · rw [a2, a3, a4, b2, b3, b4]
      rcases h with h | ⟨h, h3⟩
      · left; omega
      · right
        refine ⟨h, ?_⟩
        have m1 := Int.mul_nonneg (show 0 ≤ e - f by omega) (Int.mul_nonneg hs.1 hr.1)
        have m2 := Int.mul_nonneg hb0 (show 0 ≤ B * P - A * Q by omega)
        rw [Int.mul_comm P, Int.mul_comm Q]; omega
theorem tnRe_V {k : Int} {s : Nat × Bool × Int × Int} (h : tnV s) : tnV (tnRe k s) := by
  unfold tnRe
  by_cases hk : k = 0
  · rw [if_pos hk]; exact ⟨by show (0 : Int) ≤ 1 * 1; decide, fun h => absurd h (by show ¬ (1 : Int) * 1 = 0; decide)⟩
  · rw [if_neg hk]; exact h
theorem tnRe_b {k : Int} (s : Nat × Bool × Int × Int) : 0 < k * k ∨ 0 < sgn (tnRe k s).2.1 * (tnRe k s).2.2.1 := by
  unfold tnRe
  by_cases hk : k = 0
  · right; rw [if_pos hk]; show (0 : Int) < 1 * 1; decide
  · left
    by_cases h : 0 < k
    · exact Int.mul_pos h h
    · have := Int.mul_pos (show 0 < -k by omega) (show 0 < -k by omega)
      rw [Int.neg_mul_neg] at this; exact this
theorem tn_V (K : Nat → Int) (x : Int) : ∀ i, tnV (tnS K x i) := by
  intro i
  induction i with
  | zero => exact ⟨by show (0 : Int) ≤ 1 * 1; decide, fun h => absurd h (by show ¬ (1 : Int) * 1 = 0; decide)⟩
  | succ i ih => exact tnV_st (tnRe_V ih) (tnRe_b _)
theorem tnRe_O {k : Int} {s r : Nat × Bool × Int × Int} (h : tnO s r) : tnO (tnRe k s) (tnRe k r) := by
  unfold tnRe
  by_cases hk : k = 0
  · rw [if_pos hk, if_pos hk]
    rcases h with h | ⟨h, -⟩
    · exact Or.inl h
    · exact Or.inr ⟨h, by show (1 * 0 : Int) * (1 * 1) ≤ (1 * 0) * (1 * 1); decide⟩
  · rw [if_neg hk, if_neg hk]; exact h
theorem sq0 (k : Int) : 0 ≤ k * k := by
  by_cases h : 0 ≤ k
  · exact Int.mul_nonneg h h
  · have := Int.mul_nonneg (show 0 ≤ -k by omega) (show 0 ≤ -k by omega)
    rw [Int.neg_mul_neg] at this; exact this
theorem tn_mono (K : Nat → Int) {x y : Int} (h : x ≤ y) : ∀ i, tnO (tnS K x i) (tnS K y i) := by
  intro i
  induction i with
  | zero => exact Or.inr ⟨rfl, by show (1 * 0 : Int) * (1 * 1) ≤ (1 * 0) * (1 * 1); decide⟩
  | succ i ih => exact tnO_st (by omega) (sq0 _) (tnRe_V (tn_V K x i)) (tnRe_V (tn_V K y i)) (tnRe_b _) (tnRe_O ih)
theorem tn_le (K : Nat → Int) {x y : Int} (h : x ≤ y) (i : Nat) : (tnS K x i).1 ≤ (tnS K y i).1 := by
  rcases tn_mono K h i with h | ⟨h, -⟩ <;> omega
/-- a long holds them -/
def tB : Nat → Nat
  | 0 => 1
  | i + 1 => 424 * tB i
theorem tB_1 : ∀ i, 1 ≤ tB i := by
  intro i
  induction i with
  | zero => exact Nat.le_refl _
  | succ i ih => rw [tB]; omega
theorem tB_7 : ∀ i, i ≤ 7 → tB i ≤ 2463495903746097152 + 1000000000000000000 := by decide
def tnR (i : Nat) (s : Nat × Bool × Int × Int) : Prop := s.2.2.1.natAbs ≤ tB i ∧ 424 * s.2.2.2.natAbs ≤ tB i ∧ s.1 ≤ i
theorem tnR_re {i : Nat} {k : Int} {s : Nat × Bool × Int × Int} (h : tnR i s) : tnR i (tnRe k s) := by
  unfold tnRe
  by_cases hk : k = 0
  · rw [if_pos hk]; exact ⟨tB_1 i, by show 424 * 0 ≤ tB i; omega, h.2.2⟩
  · rw [if_neg hk]; exact h
theorem tnR_st {i : Nat} {e b : Int} {s : Nat × Bool × Int × Int} (he : e.natAbs ≤ 400) (hb : b.natAbs ≤ 9801) (h : tnR i s) : tnR (i + 1) (tnStep e b s) := by
  obtain ⟨c, neg, p, a⟩ := s
  obtain ⟨h1, h2, h3⟩ := h
  have h1 : p.natAbs ≤ tB i := h1
  have h2 : 424 * a.natAbs ≤ tB i := h2
  have h3 : c ≤ i := h3
  have m1 : (e * p).natAbs ≤ 400 * tB i := by rw [Int.natAbs_mul]; exact Nat.mul_le_mul he h1
  have m2 : 424 * (b * a).natAbs ≤ 9801 * tB i := by
    rw [Int.natAbs_mul, Nat.mul_left_comm]; exact Nat.mul_le_mul hb h2
  refine ⟨?_, ?_, ?_⟩
  · show (e * p - b * a).natAbs ≤ 424 * tB i
    omega
  · show 424 * p.natAbs ≤ 424 * tB i
    omega
  · show (if e * p - b * a = 0 then c else if decide (e * p - b * a < 0) = neg then c else c + 1) ≤ i + 1
    split
    · omega
    · split <;> omega
def tnK (n : Nat) (kk : Nat → Nat) : Nat → Int := fun j => if j < n then (kk j : Int) else 0
theorem tnK_r {n : Nat} {kk : Nat → Nat} (hk : ∀ j, j < n → kk j ≤ 99) (j : Nat) : 0 ≤ tnK n kk j ∧ tnK n kk j ≤ 99 := by
  unfold tnK
  by_cases h : j < n
  · rw [if_pos h]; have := hk j h; omega
  · rw [if_neg h]; omega
theorem tnK_sq {k : Int} (h : 0 ≤ k ∧ k ≤ 99) : (k * k).natAbs ≤ 9801 := by
  have := mul_rng h.1 h.2 h.1 h.2
  omega
theorem tn_R {n : Nat} {kk : Nat → Nat} (hk : ∀ j, j < n → kk j ≤ 99) {x : Nat} (hx : x ≤ 400) : ∀ i, tnR i (tnS (tnK n kk) x i) := by
  intro i
  induction i with
  | zero => exact ⟨show (1 : Int).natAbs ≤ 1 by decide, show 424 * (0 : Int).natAbs ≤ 1 by decide, Nat.le_refl _⟩
  | succ i ih =>
    have r1 := tnK_r hk i
    have r2 := tnK_r hk (i + 1)
    exact tnR_st (by omega) (tnK_sq r1) (tnR_re ih)
theorem tnStep_0 (e : Int) (c : Nat) (neg : Bool) (p a : Int) : tnStep e 0 (c, neg, p, a) = tnStep e 0 (c, neg, p, 0) := by
  unfold tnStep
  show ((if e * p - 0 * a = 0 then c else if decide (e * p - 0 * a < 0) = neg then c else c + 1), (if e * p - 0 * a = 0 then neg else decide (e * p - 0 * a < 0)), e * p - 0 * a, p) = ((if e * p - 0 * 0 = 0 then c else if decide (e * p - 0 * 0 < 0) = neg then c else c + 1), (if e * p - 0 * 0 = 0 then neg else decide (e * p - 0 * 0 < 0)), e * p - 0 * 0, p)
  rw [Int.zero_mul, Int.zero_mul]
theorem tnJX {u : Mem} {i x ki kn c : Nat} {neg : Bool} {p a : Int} (hi : i < 7) (hu : u.1 208 i = nI ki) (hki : ki ≤ 99) (hx : x ≤ 400) (hc : c ≤ 7) (hr : tnR (i + 1) (tnStep ((ki : Int) + kn - x) ((ki : Int) * ki) (c, neg, p, a))) (Rc : Int32 → Int64 → Int64 → Bool → Int32 → Option Int32) : fX9_countBelow_J72 Rc (nI x) (nI c) (zL a) (zL p) neg (nI i) (zL kn) (zL ki) u = Rc (nI (tnStep ((ki : Int) + kn - x) ((ki : Int) * ki) (c, neg, p, a)).1) (zL p) (zL (tnStep ((ki : Int) + kn - x) ((ki : Int) * ki) (c, neg, p, a)).2.2.1) (tnStep ((ki : Int) + kn - x) ((ki : Int) * ki) (c, neg, p, a)).2.1 (nI (i + 1)) := by
  have b7 := tB_7 (i + 1) (by omega)
  have h1 : (((ki : Int) + kn - x) * p - (ki : Int) * ki * a).natAbs ≤ tB (i + 1) := hr.1
  have ev : ((((nI ki).toInt64 + zL kn) - (nI x).toInt64) * zL p) - ((zL ki * zL ki) * zL a) = zL (((ki : Int) + kn - x) * p - (ki : Int) * ki * a) := by
    rw [zI_nat, zI_nat, zIL (by omega) (by omega), zIL (by omega) (by omega), zL_add, zL_sub, zL_mul, zL_mul, zL_mul, zL_sub]
  unfold fX9_countBelow_J72
  rw [if_pos (inB_n hi (by omega)), cl_n (by omega), hu, ev, nI_1, nI_1, Option.bind_some]
  unfold tnStep
  show _ = Rc (nI (if ((ki : Int) + kn - x) * p - (ki : Int) * ki * a = 0 then c else if decide (((ki : Int) + kn - x) * p - (ki : Int) * ki * a < 0) = neg then c else c + 1)) (zL p) (zL (((ki : Int) + kn - x) * p - (ki : Int) * ki * a)) (if ((ki : Int) + kn - x) * p - (ki : Int) * ki * a = 0 then neg else decide (((ki : Int) + kn - x) * p - (ki : Int) * ki * a < 0)) (nI (i + 1))
  generalize ((ki : Int) + kn - x) * p - (ki : Int) * ki * a = w at *
  have hw : (zL w).toInt = w := zL_n (by omega) (by omega)
  by_cases h0 : w = 0
  · rw [if_pos h0, if_pos h0, if_pos (by rw [j_eq, hw, l0]; exact h0)]
  · rw [if_neg h0, if_neg h0, if_neg (by rw [j_eq, hw, l0]; exact h0)]
    by_cases hn : w < 0
    · rw [decide_eq_true hn, if_neg (show ¬ (0 : Int64) ≤ zL w by rw [j_le, hw, l0]; omega)]
      cases neg
      · rw [if_neg (by decide), if_neg (by decide), if_neg (by decide)]
      · rw [if_pos (by decide), if_pos rfl]
    · rw [decide_eq_false hn, if_pos (show (0 : Int64) ≤ zL w by rw [j_le, hw, l0]; omega)]
      cases neg
      · rw [if_pos (by decide), if_pos rfl]
      · rw [if_neg (by decide), if_pos rfl, if_neg (by decide)]
theorem cntX_loop {u : Mem} {n x : Nat} {kk : Nat → Nat} (hn : n ≤ 7) (hx : x ≤ 400) (h1 : u.1 207 1 = nI n) (h2 : ∀ j, j < n → u.1 208 j = nI (kk j)) (hk : ∀ j, j < n → kk j ≤ 99) : ∀ (d i t : Nat), i + d = n → d < t → fX9_countBelow_L13 (nI x) u t (nI (tnS (tnK n kk) x i).1) (zL (tnS (tnK n kk) x i).2.2.2) (zL (tnS (tnK n kk) x i).2.2.1) (tnS (tnK n kk) x i).2.1 (nI i) = some (nI (tnS (tnK n kk) x n).1) := by
  intro d
  induction d with
  | zero =>
    intro i t hi ht
    obtain ⟨t, rfl⟩ : ∃ m, t = m + 1 := ⟨t - 1, by omega⟩
    have : i = n := by omega
    subst this
    rw [fX9_countBelow_L13, h1, if_pos ((le_nI (by omega) (by omega)).mpr (by omega))]
  | succ d ih =>
    intro i t hi ht
    obtain ⟨t, rfl⟩ : ∃ m, t = m + 1 := ⟨t - 1, by omega⟩
    have ih := ih (i + 1) t (by omega) (by omega)
    have hR := tn_R hk hx i
    have hR1 := tn_R hk hx (i + 1)
    have hst : tnS (tnK n kk) x (i + 1) = tnStep (tnK n kk i + tnK n kk (i + 1) - x) (tnK n kk i * tnK n kk i) (tnRe (tnK n kk i) (tnS (tnK n kk) x i)) := rfl
    rw [hst] at ih hR1
    have ki : tnK n kk i = ((kk i : Nat) : Int) := by unfold tnK; rw [if_pos (by omega)]
    have hki := hk i (by omega)
    generalize hkn : (if i + 1 < n then kk (i + 1) else 0) = kn
    have kn1 : tnK n kk (i + 1) = (kn : Int) := by
      unfold tnK
      rw [← hkn]
      by_cases h : i + 1 < n
      · rw [if_pos h, if_pos h]
      · rw [if_neg h, if_neg h]; rfl
    have hknr : kn ≤ 99 := by
      rw [← hkn]
      by_cases h : i + 1 < n
      · rw [if_pos h]; exact hk _ h
      · rw [if_neg h]; omega
    rw [ki, kn1] at ih hR1
    generalize tnS (tnK n kk) x i = s at *
    obtain ⟨c, neg, p, a⟩ := s
    have hc : c ≤ i := hR.2.2
    have key : fX9_countBelow_J47 (fX9_countBelow_L13 (nI x) u t) (nI x) (nI c) (zL a) (zL p) neg (nI i) (zL kn) u = some (nI (tnS (tnK n kk) x n).1) := by
      unfold fX9_countBelow_J47
      rw [if_pos (inB_n (i := i) (n := 7) (by omega) (by omega)), cl_n (by omega), h2 i (by omega), zI_nat, zIL (by omega) (by omega)]
      by_cases h0 : kk i = 0
      · rw [if_pos (by rw [h0]; rfl)]
        have hre : tnRe ((kk i : Nat) : Int) (c, neg, p, a) = (c, false, 1, 0) := by unfold tnRe; rw [if_pos (by omega)]
        rw [hre] at ih hR1
        have hz : tnStep (((kk i : Nat) : Int) + kn - x) (((kk i : Nat) : Int) * ((kk i : Nat) : Int)) (c, false, 1, a) = tnStep (((kk i : Nat) : Int) + kn - x) (((kk i : Nat) : Int) * ((kk i : Nat) : Int)) (c, false, 1, 0) := by
          rw [h0]; exact tnStep_0 _ _ _ _ _
        have hj := tnJX (u := u) (i := i) (x := x) (ki := kk i) (kn := kn) (c := c) (neg := false) (p := 1) (a := a) (by omega) (h2 i (by omega)) hki hx (by omega) (by rw [hz]; exact hR1) (fX9_countBelow_L13 (nI x) u t)
        have hj : fX9_countBelow_J72 (fX9_countBelow_L13 (nI x) u t) (nI x) (nI c) (zL a) 1 false (nI i) (zL kn) (zL (kk i)) u = _ := hj
        rw [hz] at hj
        rw [hj]
        exact ih
      · have hre : tnRe ((kk i : Nat) : Int) (c, neg, p, a) = (c, neg, p, a) := by unfold tnRe; rw [if_neg (by omega)]
        rw [hre] at ih hR1
        have hj := tnJX (u := u) (i := i) (x := x) (ki := kk i) (kn := kn) (c := c) (neg := neg) (p := p) (a := a) (by omega) (h2 i (by omega)) hki hx (by omega) hR1 (fX9_countBelow_L13 (nI x) u t)
        rw [if_neg (by rw [j_eq, zL_n (by omega) (by omega), l0]; omega)]
        rw [hj]; exact ih
    rw [fX9_countBelow_L13, h1, if_neg (fun h => by have := (le_nI (by omega) (by omega)).mp h; omega), nI_1]
    by_cases h : i + 1 < n
    · rw [if_neg (fun h9 => by have := (le_nI (by omega) (by omega)).mp h9; omega), if_pos (inB_n (by omega) (by omega)), cl_n (by omega), h2 (i + 1) h]
      rw [if_pos h] at hkn
      rw [hkn, zI_nat kn, zIL (by omega) (by omega)]
      exact key
    · rw [if_pos ((le_nI (by omega) (by omega)).mpr (by omega))]
      rw [if_neg h] at hkn
      rw [← hkn] at key
      exact key
theorem cntX {u : Mem} {n x : Nat} {kk : Nat → Nat} (hn : n ≤ 7) (hx : x ≤ 400) (h1 : u.1 207 1 = nI n) (h2 : ∀ j, j < n → u.1 208 j = nI (kk j)) (hk : ∀ j, j < n → kk j ≤ 99) : fX9_countBelow (nI x) u = some (nI (tnS (tnK n kk) x n).1) := cntX_loop hn hx h1 h2 hk n 0 fu0 (by omega) (fu_n (by omega))
