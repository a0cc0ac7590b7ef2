def FRM (T1 : Nat) (u0 v0 u v : Mem) : Prop := (∀ k, k ≠ 184 → k ≠ 185 → (k < 5 * T1 ∨ 5 * T1 + 5 ≤ k) → u.1 k = u0.1 k) ∧ u.2 = u0.2 ∧ (∀ k, k ≠ 0 → k ≠ 7 → k ≠ 8 → v.1 k = v0.1 k) ∧ v.2 = v0.2 ∧ (∀ j, j < 11 → v.1 0 j = v0.1 0 j) ∧ (u.1 184 2 = nI T1 ∧ u.1 184 8 = 1) ∧ (u.1 184 9 = v.1 0 15 ∧ u.1 184 10 = v.1 0 16)
/-- reading goes on, on both sides -/
def OKs (B : Nat → Int) (L T1 : Nat) (u0 v0 u v : Mem) : Prop := FRM T1 u0 v0 u v ∧ v.1 0 15 = 0 ∧ (∀ j, j < 18 → u.1 185 j = v.1 7 j) ∧ TK B L u v
/-- a fault was found, on both sides -/
def FLs (T1 : Nat) (u0 v0 u v : Mem) : Prop := FRM T1 u0 v0 u v ∧ 0 < (v.1 0 15).toInt
def KP (T1 : Nat) (u v u2 v2 : Mem) : Prop := (∀ k, 5 * T1 ≤ k → k < 5 * T1 + 5 → u2.1 k = u.1 k) ∧ v2.1 8 = v.1 8
theorem KP_tr {T1 : Nat} {a b c d e f : Mem} (h1 : KP T1 a b c d) (h2 : KP T1 c d e f) : KP T1 a b e f := ⟨fun k x y => (h2.1 k x y).trans (h1.1 k x y), h2.2.trans h1.2⟩
theorem KP_rfl (T1 : Nat) (u v : Mem) : KP T1 u v u v := ⟨fun _ _ _ => rfl, rfl⟩
def CT (B : Nat → Int) (L T1 : Nat) (u0 v0 : Mem) : Prop := T1 ≤ 31 ∧ TP B L u0 v0
theorem OK_TP {B : Nat → Int} {L T1 : Nat} {u0 v0 u v : Mem} (C : CT B L T1 u0 v0) (h : OKs B L T1 u0 v0 u v) : TP B L u v := by
  obtain ⟨hT, h1, h2, h3, h4⟩ := C
  obtain ⟨⟨f1, -, f3, -, f5, -⟩, -⟩ := h
  exact ⟨by rw [f1 182 (by omega) (by omega) (by omega)]; exact h1, by rw [f5 10 (by omega)]; exact h2, h3, fun k hk => by rw [f1 183 (by omega) (by omega) (by omega), f3 6 (by omega) (by omega) (by omega)]; exact h4 k hk⟩
theorem FRM_d {T1 : Nat} {u0 v0 u v u2 v2 : Mem} (h : FRM T1 u0 v0 u v) (hu : dX u u2) (hv : dM v v2) : FRM T1 u0 v0 u2 v2 := by
  obtain ⟨f1, f2, f3, f4, f5, f6, f7⟩ := h
  exact ⟨fun k a b c => by rw [hu.1 k a]; exact f1 k a b c, hu.2.2.trans f2, fun k a b c => by rw [hv.1 k a]; exact f3 k a b c, hv.2.2.trans f4, fun j hj => by rw [hv.2.1 j (by omega)]; exact f5 j hj, by rw [hu.2.1 2 (by omega), hu.2.1 8 (by omega)]; exact f6, by rw [hu.2.1 9 (by omega), hu.2.1 10 (by omega), hv.2.1 15 (by omega), hv.2.1 16 (by omega)]; exact f7⟩
theorem nx {B : Nat → Int} {L T1 : Nat} {u0 v0 u v : Mem} (C : CT B L T1 u0 v0) (h : OKs B L T1 u0 v0 u v) : ∃ u2 v2, fX4_next u = some u2 ∧ fX12_next v = some v2 ∧ OKs B L T1 u0 v0 u2 v2 ∧ KP T1 u v u2 v2 ∧ u2.1 184 7 = u.1 184 7 := by
  have hT := OK_TP C h
  obtain ⟨hF, h0, ht, s, e, ⟨k1, k2, k3, k4, k5, k6⟩, -⟩ := h
  obtain ⟨u2, v2, r1, r2, r3, r4, r5⟩ := next_both (p := e) k6 hT k2 k4
  refine ⟨u2, v2, r1, r2, ⟨FRM_d hF r3 r4, by rw [r4.2.1 15 (by omega)]; exact h0, fun j hj => by rw [r3.1 185 (by omega), r4.1 7 (by omega)]; exact ht j hj, r5⟩, ⟨fun k a b => r3.1 k (by have := C.1; omega), r4.1 8 (by omega)⟩, r3.2.1 7 (by omega)⟩
theorem OK_7 {B : Nat → Int} {L T1 : Nat} {u0 v0 u v : Mem} (h : OKs B L T1 u0 v0 u v) (x : Int32) : OKs B L T1 u0 v0 (si u 184 7 x) v := by
  obtain ⟨⟨f1, f2, f3, f4, f5, f6, f7⟩, h0, ht, s, e, k, w⟩ := h
  have so : ∀ j, j ≠ 7 → (si u 184 7 x).1 184 j = u.1 184 j := fun j hj => by rw [si_1, if_neg (by omega)]
  refine ⟨⟨fun k a b c => by rw [si_ro _ _ a]; exact f1 k a b c, f2, f3, f4, f5, by rw [so 2 (by omega), so 8 (by omega)]; exact f6, by rw [so 9 (by omega), so 10 (by omega)]; exact f7⟩, h0, fun j hj => by rw [si_ro _ _ (by omega)]; exact ht j hj, s, e, by rw [so 4 (by omega), so 5 (by omega)]; exact k, by rw [so 3 (by omega), so 6 (by omega)]; exact w⟩
theorem OK_6 {B : Nat → Int} {L T1 : Nat} {u0 v0 u v : Mem} (h : OKs B L T1 u0 v0 u v) (hn : ¬ v.1 0 13 = 3) (x : Int32) : OKs B L T1 u0 v0 (si u 184 6 x) v := by
  obtain ⟨⟨f1, f2, f3, f4, f5, f6, f7⟩, h0, ht, s, e, k, w⟩ := h
  have so : ∀ j, j ≠ 6 → (si u 184 6 x).1 184 j = u.1 184 j := fun j hj => by rw [si_1, if_neg (by omega)]
  refine ⟨⟨fun k a b c => by rw [si_ro _ _ a]; exact f1 k a b c, f2, f3, f4, f5, by rw [so 2 (by omega), so 8 (by omega)]; exact f6, by rw [so 9 (by omega), so 10 (by omega)]; exact f7⟩, h0, fun j hj => by rw [si_ro _ _ (by omega)]; exact ht j hj, s, e, by rw [so 4 (by omega), so 5 (by omega)]; exact k, ?_⟩
  rw [so 3 (by omega)]
  obtain ⟨w1, w2, w3, w4⟩ := w
  exact ⟨w1, w2, fun h9 => absurd h9 hn, w4⟩
/-- draft rows may be written -/
theorem OK_D {B : Nat → Int} {L T1 : Nat} {u0 v0 u v u2 v2 : Mem} (hT : T1 ≤ 31) (h : OKs B L T1 u0 v0 u v) (hu : ∀ k, (k < 5 * T1 ∨ 5 * T1 + 5 ≤ k) → u2.1 k = u.1 k) (hu2 : u2.2 = u.2) (hv : ∀ k, k ≠ 8 → v2.1 k = v.1 k) (hv2 : v2.2 = v.2) : OKs B L T1 u0 v0 u2 v2 := by
  obtain ⟨⟨f1, f2, f3, f4, f5, f6, f7⟩, h0, ht, s, e, k, w⟩ := h
  have u184 := hu 184 (by omega)
  have u185 := hu 185 (by omega)
  have v00 := hv 0 (by omega)
  refine ⟨⟨fun k a b c => by rw [hu k c]; exact f1 k a b c, hu2.trans f2, fun k a b c => by rw [hv k c]; exact f3 k a b c, hv2.trans f4, by rw [v00]; exact f5, by rw [u184]; exact f6, by rw [u184, v00]; exact f7⟩, by rw [v00]; exact h0, by rw [u185, hv 7 (by omega)]; exact ht, s, e, by rw [u184, v00]; exact k, by rw [u184, v00]; exact w⟩
theorem bl {B : Nat → Int} {L T1 : Nat} {u0 v0 u v : Mem} (h : OKs B L T1 u0 v0 u v) {f : Int32} (hf : 0 < f.toInt) : ∃ u2 v2, fX4_blame f u = some (false, u2) ∧ fX12_errs f v = some v2 ∧ FLs T1 u0 v0 u2 v2 := by
  obtain ⟨⟨f1, f2, f3, f4, f5, f6, f7⟩, h0, ht, s, e, k, w⟩ := h
  unfold fX4_blame fX12_errs
  rw [Option.bind_some, if_pos h0]
  have a4 : (si u 184 9 f).1 184 4 = nI s := by rw [si_1, if_neg (by omega)]; exact k.1
  have c12 : (si v 0 15 f).1 0 12 = nI s := by rw [si_1, if_neg (by omega)]; exact k.2.2.1
  rw [a4, c12]
  have so : ∀ j, j ≠ 9 → j ≠ 10 → (si (si u 184 9 f) 184 10 (nI s)).1 184 j = u.1 184 j := fun j a b => by rw [si_1, if_neg (by omega), si_1, if_neg (by omega)]
  have sm : ∀ j, j ≠ 15 → j ≠ 16 → (si (si v 0 15 f) 0 16 (nI s)).1 0 j = v.1 0 j := fun j a b => by rw [si_1, if_neg (by omega), si_1, if_neg (by omega)]
  have e15 : (si (si v 0 15 f) 0 16 (nI s)).1 0 15 = f := by rw [si_1, if_neg (by omega), si_1, if_pos ⟨rfl, rfl⟩]
  refine ⟨_, _, rfl, rfl, ⟨fun k a b c => by rw [si_ro _ _ a, si_ro _ _ a]; exact f1 k a b c, f2, fun k a b c => by rw [si_ro _ _ a, si_ro _ _ a]; exact f3 k a b c, f4, fun j hj => by rw [sm j (by omega) (by omega)]; exact f5 j hj, by rw [so 2 (by omega) (by omega), so 8 (by omega) (by omega)]; exact f6, ?_, ?_⟩, ?_⟩
  · rw [e15, si_1, if_neg (by omega), si_1, if_pos ⟨rfl, rfl⟩]
  · rw [si_1, if_pos ⟨rfl, rfl⟩, si_1, if_pos ⟨rfl, rfl⟩]
  · rw [e15]; exact hf
/-- once wrong, the reference stays as it is -/
theorem wr_1 {v : Mem} (h : 0 < (v.1 0 15).toInt) : ¬ v.1 0 15 = 0 := by
  have e0 : (0 : Int32).toInt = 0 := rfl
  rw [i_eq]; omega
theorem wr_2 {v : Mem} (h : 0 < (v.1 0 15).toInt) : 0 < v.1 0 15 := by
  have e0 : (0 : Int32).toInt = 0 := rfl
  rw [i_lt]; omega
theorem wr_3 {v : Mem} (h : 0 < (v.1 0 15).toInt) : ¬ v.1 0 15 ≤ 0 := by
  have e0 : (0 : Int32).toInt = 0 := rfl
  rw [i_le]; omega
theorem err_no {v : Mem} (h : 0 < (v.1 0 15).toInt) (f : Int32) : fX12_errs f v = some v := by
  unfold fX12_errs; rw [if_neg (wr_1 h)]
theorem num_no {v : Mem} (h : 0 < (v.1 0 15).toInt) (a b : Int32) : fX12_number a b v = some (a, v) := by
  unfold fX12_number; rw [if_pos (wr_2 h), err_no h, Option.bind_some]
theorem tak_no {v : Mem} (h : 0 < (v.1 0 15).toInt) (a b : Int32) : fX12_takes a b v = some v := by
  unfold fX12_takes; rw [if_pos (wr_2 h), err_no h, Option.bind_some]
theorem kin_no {v : Mem} (h : 0 < (v.1 0 15).toInt) : fX12_kindOf v = some (0, v) := by
  unfold fX12_kindOf; rw [if_pos (wr_2 h), err_no h, Option.bind_some]
theorem atN {B : Nat → Int} {L T1 : Nat} {u0 v0 u v : Mem} (h : OKs B L T1 u0 v0 u v) {lo hi : Nat} (hlo : lo ≤ 99999) (hhi : hi ≤ 99999) : (∃ X : Nat, lo ≤ X ∧ X ≤ hi ∧ fX4_atNumber (nI lo) (nI hi) u = some (true, u) ∧ v.1 0 13 = 3 ∧ v.1 0 14 = nI X ∧ u.1 184 6 = nI X) ∨ (∃ u2 v2, fX4_atNumber (nI lo) (nI hi) u = some (false, u2) ∧ fX12_number (nI lo) (nI hi) v = some (nI lo, v2) ∧ FLs T1 u0 v0 u2 v2 ∧ (v.1 0 13 = 3 → ¬ ((lo : Int) ≤ (v.1 0 14).toInt ∧ (v.1 0 14).toInt ≤ hi))) := by
  obtain ⟨-, h0, -, s, e, -, w1, w2, w3, w4⟩ := id h
  have n0 : ¬ (0 : Int32) < v.1 0 15 := by rw [h0]; decide
  have el := nI_n (show lo < 2147483648 by omega)
  have eh := nI_n (show hi < 2147483648 by omega)
  unfold fX4_atNumber fX12_number
  rw [if_neg n0]
  by_cases h3 : v.1 0 13 = 3
  · obtain ⟨m1, m2, m3⟩ := w3 h3
    rw [if_pos (w2.mpr h3), if_pos h3, in_sp, Option.bind_some, j_of, j_of, j_of, el, eh]
    by_cases hr : (lo : Int) ≤ (v.1 0 14).toInt ∧ (v.1 0 14).toInt ≤ hi
    · left
      have hv := i_nat m1
      have hx : u.1 184 6 = v.1 0 14 := by rw [i_eq]; omega
      refine ⟨(v.1 0 14).toInt.toNat, by omega, by omega, ?_, h3, hv, hx.trans hv⟩
      rw [if_neg (by rw [i_lt, el]; omega), if_pos (by rw [i_le, eh]; omega)]
    · right
      obtain ⟨u2, v2, b1, b2, b3⟩ := bl h (f := 2) (by decide)
      refine ⟨u2, v2, ?_, ?_, b3, fun _ => hr⟩
      · by_cases hx : u.1 184 6 < nI lo
        · rw [if_pos hx, b1, Option.bind_some]; rfl
        · rw [if_neg hx, if_neg (by rw [i_lt, el] at hx; rw [i_le, eh]; omega), b1, Option.bind_some]; rfl
      · rw [decide_eq_false hr, if_neg (by decide), b2, Option.bind_some]
  · right
    obtain ⟨u2, v2, b1, b2, b3⟩ := bl h (f := 1) (by decide)
    refine ⟨u2, v2, ?_, ?_, b3, fun h9 => absurd h9 h3⟩
    · rw [if_neg (fun h9 => h3 (w2.mp h9)), b1, Option.bind_some]
    · rw [if_neg h3, b2, Option.bind_some]
theorem num_ok {v : Mem} {lo hi X : Nat} (h0 : v.1 0 15 = 0) (h3 : v.1 0 13 = 3) (hX : v.1 0 14 = nI X) (h1 : lo ≤ X) (h2 : X ≤ hi) (hh : hi ≤ 99999) {v2 : Mem} (hn : fX12_next v = some v2) : fX12_number (nI lo) (nI hi) v = some (nI X, v2) := by
  have n0 : ¬ (0 : Int32) < v.1 0 15 := by rw [h0]; decide
  unfold fX12_number
  rw [if_neg n0, if_pos h3, hX, in_sp, Option.bind_some, j_of, j_of, j_of, nI_n (by omega), nI_n (by omega), nI_n (by omega), decide_eq_true (by omega), if_pos rfl, hn, Option.bind_some]
theorem tkN {B : Nat → Int} {L T1 : Nat} {u0 v0 u v : Mem} (C : CT B L T1 u0 v0) (h : OKs B L T1 u0 v0 u v) {lo hi : Nat} (hlo : lo ≤ 99999) (hhi : hi ≤ 99999) : (∃ (X : Nat) (u2 v2 : Mem), lo ≤ X ∧ X ≤ hi ∧ fX4_takeNumber (nI lo) (nI hi) u = some (true, u2) ∧ fX12_number (nI lo) (nI hi) v = some (nI X, v2) ∧ OKs B L T1 u0 v0 u2 v2 ∧ KP T1 u v u2 v2 ∧ u2.1 184 7 = nI X) ∨ (∃ u2 v2, fX4_takeNumber (nI lo) (nI hi) u = some (false, u2) ∧ fX12_number (nI lo) (nI hi) v = some (nI lo, v2) ∧ FLs T1 u0 v0 u2 v2) := by
  unfold fX4_takeNumber
  rcases atN h hlo hhi with ⟨X, x1, x2, x3, x4, x5, x6⟩ | ⟨u2, v2, x1, x2, x3, x4⟩
  · left
    obtain ⟨u2, v2, n1, n2, n3, n4, n5⟩ := nx C (OK_7 h (nI X))
    refine ⟨X, u2, v2, x1, x2, ?_, num_ok h.2.1 x4 x5 x1 x2 hhi n2, n3, KP_tr ⟨fun k a b => si_ro _ _ (by have := C.1; omega), rfl⟩ n4, by rw [n5, si_1, if_pos ⟨rfl, rfl⟩]⟩
    rw [x3, Option.bind_some, if_pos rfl]
    show (fX4_next (si u 184 7 (u.1 184 6))).bind _ = _
    rw [x6, n1, Option.bind_some]
  · right
    exact ⟨u2, v2, by rw [x1, Option.bind_some]; rfl, x2, x3⟩
theorem tkS {B : Nat → Int} {L T1 : Nat} {u0 v0 u v : Mem} (C : CT B L T1 u0 v0) (h : OKs B L T1 u0 v0 u v) {c : Int32} (hc : c = 61 ∨ c = 44 ∨ c = 59) : (∃ u2 v2, fX4_takeSign c u = some (true, u2) ∧ fX12_takes 4 c v = some v2 ∧ OKs B L T1 u0 v0 u2 v2 ∧ KP T1 u v u2 v2 ∧ u2.1 184 7 = u.1 184 7) ∨ (∃ u2 v2, fX4_takeSign c u = some (false, u2) ∧ fX12_takes 4 c v = some v2 ∧ FLs T1 u0 v0 u2 v2) := by
  obtain ⟨-, h0, -, s, e, -, w1, w2, w3, w4, w5⟩ := id h
  have n0 : ¬ (0 : Int32) < v.1 0 15 := by rw [h0]; decide
  unfold fX4_takeSign fX12_takes
  rw [if_neg n0]
  by_cases ht : u.1 184 3 = c
  · left
    obtain ⟨s4, sc⟩ := (w4 c hc).mp ht
    obtain ⟨u2, v2, n1, n2, n3, n4, n5⟩ := nx C h
    exact ⟨u2, v2, by rw [if_pos ht, n1, Option.bind_some], by rw [if_pos s4, if_pos sc, n2, Option.bind_some], n3, n4, n5⟩
  · right
    obtain ⟨u2, v2, b1, b2, b3⟩ := bl h (f := 1) (by decide)
    refine ⟨u2, v2, by rw [if_neg ht, b1, Option.bind_some], ?_, b3⟩
    by_cases s4 : v.1 0 13 = 4
    · rw [if_pos s4, if_neg (fun sc => ht ((w4 c hc).mpr ⟨s4, sc⟩)), b2, Option.bind_some]
    · rw [if_neg s4, b2, Option.bind_some]
theorem isW2 {B : Nat → Int} {L T1 : Nat} {u0 v0 u v : Mem} (C : CT B L T1 u0 v0) (h : OKs B L T1 u0 v0 u v) {i : Nat} (hi : i < 7) : ∃ b : Bool, fX4_isWord i u = some b ∧ (b = true ↔ v.1 0 13 = 1 ∧ v.1 0 14 = nI (wdm i)) := by
  have hT := OK_TP C h
  obtain ⟨-, h0, -, s, e, ⟨k1, k2, k3, k4, k5, k6⟩, w1, w2, w3, w4, w5, w6⟩ := h
  obtain ⟨t1, t2, t3, t4⟩ := hT
  obtain ⟨b, b1, b2⟩ := isWX (B := B) hi k1 k2 k5 (by omega) (fun k hk => ⟨(t4 k (by omega)).1, (t4 k (by omega)).2.1⟩)
  exact ⟨b, b1, b2.trans (w5 i hi)⟩
theorem tkW {B : Nat → Int} {L T1 : Nat} {u0 v0 u v : Mem} (C : CT B L T1 u0 v0) (h : OKs B L T1 u0 v0 u v) {i : Nat} (hi : i < 7) {c : Int32} (hc : c = nI (wdm i)) : (∃ u2 v2, fX4_takeWord i u = some (true, u2) ∧ fX12_takes 1 c v = some v2 ∧ OKs B L T1 u0 v0 u2 v2 ∧ KP T1 u v u2 v2 ∧ u2.1 184 7 = u.1 184 7) ∨ (∃ u2 v2, fX4_takeWord i u = some (false, u2) ∧ fX12_takes 1 c v = some v2 ∧ FLs T1 u0 v0 u2 v2) := by
  have h0 := h.2.1
  have n0 : ¬ (0 : Int32) < v.1 0 15 := by rw [h0]; decide
  obtain ⟨b, b1, b2⟩ := isW2 C h hi
  unfold fX4_takeWord fX12_takes
  rw [if_neg n0, b1, Option.bind_some, hc]
  cases b
  · right
    obtain ⟨u2, v2, c1, c2, c3⟩ := bl h (f := 1) (by decide)
    refine ⟨u2, v2, by rw [if_neg (by decide), c1, Option.bind_some], ?_, c3⟩
    by_cases s4 : v.1 0 13 = 1
    · rw [if_pos s4, if_neg (fun sc => absurd (b2.mpr ⟨s4, sc⟩) (by decide)), c2, Option.bind_some]
    · rw [if_neg s4, c2, Option.bind_some]
  · left
    obtain ⟨s4, sc⟩ := b2.mp rfl
    obtain ⟨u2, v2, n1, n2, n3, n4, n5⟩ := nx C h
    exact ⟨u2, v2, by rw [if_pos rfl, n1, Option.bind_some], by rw [if_pos s4, if_pos sc, n2, Option.bind_some], n3, n4, n5⟩
theorem atK {B : Nat → Int} {L T1 : Nat} {u0 v0 u v : Mem} (C : CT B L T1 u0 v0) (h : OKs B L T1 u0 v0 u v) : (∃ k : Nat, k < 6 ∧ fX4_atKind u = some (true, si u 184 6 (nI k)) ∧ fX12_kindOf v = some (nI k, v) ∧ OKs B L T1 u0 v0 (si u 184 6 (nI k)) v) ∨ (∃ u2 v2, fX4_atKind u = some (false, u2) ∧ fX12_kindOf v = some (0, v2) ∧ FLs T1 u0 v0 u2 v2) := by
  have hT := OK_TP C h
  obtain ⟨-, h0, -, s, e, ⟨k1, k2, k3, k4, k5, k6⟩, w1, w2, w3, w4, w5, w6, w7, w8⟩ := id h
  obtain ⟨t1, t2, t3, t4⟩ := hT
  have n0 : ¬ (0 : Int32) < v.1 0 15 := by rw [h0]; decide
  have e65 : (65 : Int32).toInt = 65 := rfl
  have e71 : (71 : Int32).toInt = 71 := rfl
  unfold fX4_atKind fX12_kindOf
  rw [if_neg n0]
  obtain ⟨u2, v2, c1, c2, c3⟩ := bl h (f := 1) (by decide)
  by_cases h2 : v.1 0 13 = 2
  · left
    obtain ⟨a1, a2, a3, a4⟩ := w6.mpr h2
    obtain ⟨⟨b1, b2⟩, b3, b4⟩ := t4 s (by omega)
    have ubz : ub (B s) = B s := (ub_r b1 b2).2.2.2.1 (by omega)
    have hk : zI (B s) - 65 = nI (B s - 65).toNat := by rw [show (65 : Int32) = zI 65 from rfl, zI_sub, zI_nat]; congr 1; omega
    refine ⟨(B s - 65).toNat, by omega, ?_, ?_, OK_6 h (by rw [h2]; decide) _⟩
    · rw [if_pos a1, k1, k2, nI_sb k5 (by omega), if_pos (by rw [show e - s = 1 by omega]; rfl), if_pos (inB_n (by omega) (by omega)), cl_n (by omega), b3, ubz]
      unfold fX4_atKind_J37
      rw [if_neg (by rw [i_lt, zI_n (by omega) (by omega)]; omega), if_pos (by rw [i_lt, zI_n (by omega) (by omega)]; omega), hk]
    · rw [if_pos h2, w7 h2, zI_nat, show (((B s - 65).toNat : Nat) : Int) = B s - 65 by omega]
  · right
    refine ⟨u2, v2, ?_, by rw [if_neg h2, c2, Option.bind_some], c3⟩
    have hno : ¬ (u.1 184 3 = 1 ∧ e = s + 1 ∧ 65 ≤ B s ∧ B s ≤ 70) := fun h9 => h2 (w6.mp h9)
    have hj0 : fX4_atKind_J36 u = some (false, u2) := by
      unfold fX4_atKind_J36 fX4_atKind_J37
      rw [if_pos (by decide), c1, Option.bind_some]
    by_cases a1 : u.1 184 3 = 1
    · rw [if_pos a1, k1, k2, nI_sb k5 (by omega)]
      by_cases a2 : e = s + 1
      · obtain ⟨⟨b1, b2⟩, b3, b4⟩ := t4 s (by omega)
        obtain ⟨r1, r2, r3, r4, r5⟩ := ub_r b1 b2
        have hno2 : ¬ (65 ≤ B s ∧ B s ≤ 70) := fun h9 => hno ⟨a1, a2, h9⟩
        rw [if_pos (by rw [show e - s = 1 by omega]; rfl), if_pos (inB_n (by omega) (by omega)), cl_n (by omega), b3]
        unfold fX4_atKind_J37
        by_cases c4 : zI (ub (B s)) < 65
        · rw [if_pos c4, c1, Option.bind_some]
        · rw [if_neg c4, if_neg (by rw [i_lt, r1] at c4; rw [i_lt, r1]; omega), c1, Option.bind_some]
      · rw [if_neg (nI_n1 (by omega) (by omega))]; exact hj0
    · rw [if_neg a1]; exact hj0
theorem onc {B : Nat → Int} {L T1 : Nat} {u0 v0 u v : Mem} (C : CT B L T1 u0 v0) (h : OKs B L T1 u0 v0 u v) {j : Nat} (hj : j < 18) : (fX4_once (nI j) u = some (true, si u 185 j 1) ∧ fX12_once (nI j) v = some (si v 7 j 1) ∧ OKs B L T1 u0 v0 (si u 185 j 1) (si v 7 j 1) ∧ v.1 7 j = 0) ∨ (∃ u2 v2, fX4_once (nI j) u = some (false, u2) ∧ fX12_once (nI j) v = some v2 ∧ FLs T1 u0 v0 u2 v2 ∧ ¬ v.1 7 j = 0) := by
  obtain ⟨⟨f1, f2, f3, f4, f5, f6, f7⟩, h0, ht, s, e, k, w⟩ := id h
  have bj : inB (nI j) 18 := inB_n hj (by omega)
  unfold fX4_once fX12_once
  rw [if_pos bj, if_pos bj, cl_n (show j < 2147483648 by omega), ht j hj, if_pos h0, if_pos bj, if_pos bj]
  by_cases hz : v.1 7 j = 0
  · left
    rw [if_pos hz, if_pos hz]
    refine ⟨rfl, rfl, ⟨⟨fun k a b c => by rw [si_ro _ _ b]; exact f1 k a b c, f2, fun k a b c => by rw [si_ro _ _ b]; exact f3 k a b c, f4, fun i hi => by rw [si_ro _ _ (by omega)]; exact f5 i hi, by rw [si_ro _ _ (by omega)]; exact f6, by rw [si_ro _ _ (by omega), si_ro _ _ (by omega)]; exact f7⟩, by rw [si_ro _ _ (by omega)]; exact h0, fun i hi => ?_, s, e, by rw [si_ro _ _ (by omega), si_ro _ _ (by omega)]; exact k, by rw [si_ro _ _ (by omega), si_ro _ _ (by omega)]; exact w⟩, hz⟩
    rw [si_1, si_1]
    by_cases hij : i = j
    · rw [if_pos ⟨rfl, hij⟩, if_pos ⟨rfl, hij⟩]
    · rw [if_neg (by omega), if_neg (by omega)]; exact ht i hi
  · right
    obtain ⟨u2, v2, c1, c2, ⟨g1, g2, g3, g4, g5, g6, g7⟩, g8⟩ := bl h (f := 4) (by decide)
    rw [if_neg hz, if_neg hz, c1, Option.bind_some, c2, Option.bind_some, if_pos bj]
    refine ⟨u2, si v2 7 j 1, rfl, rfl, ⟨⟨g1, g2, fun k a b c => by rw [si_ro _ _ b]; exact g3 k a b c, g4, fun i hi => by rw [si_ro _ _ (by omega)]; exact g5 i hi, g6, by rw [si_ro _ _ (by omega)]; exact g7⟩, by rw [si_ro _ _ (by omega)]; exact g8⟩, hz⟩
