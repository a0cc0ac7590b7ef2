theorem tnJM {q i x ki kn c : Nat} {neg : Bool} {p a : Int} {v : Mem} (hi : i < 7) (hk1 : fX12_kOf (nI q) (nI i) v = some (nI ki)) (hk2 : fX12_kOf (nI q) (nI (i + 1)) v = some (nI kn)) (hki : ki ≤ 99) (hkn : kn ≤ 99) (hx : x ≤ 400) {bb : Int} (hbb : bb * bb * a = (ki : Int) * ki * a) (hr : tnR (i + 1) (tnStep ((ki : Int) + kn - x) ((ki : Int) * ki) (c, neg, p, a))) (Rc : Int32 → Int64 → Int64 → Int64 → Int32 → Option Int32) : fX12_belowOf_J62 Rc (nI q) (nI x) (nI c) (zL p) (zL a) (zL (sgn neg)) (nI i) (zL bb) v = Rc (nI (tnStep ((ki : Int) + kn - x) ((ki : Int) * ki) (c, neg, p, a)).1) (zL (tnStep ((ki : Int) + kn - x) ((ki : Int) * ki) (c, neg, p, a)).2.2.1) (zL p) (zL (sgn (tnStep ((ki : Int) + kn - x) ((ki : Int) * ki) (c, neg, p, a)).2.1)) (nI (i + 1)) := by
  have b7 := tB_7 (i + 1) (by omega)
  have h1 : (((ki : Int) + kn - x) * p - (ki : Int) * ki * a).natAbs ≤ tB (i + 1) := hr.1
  have ev : (((nI ki + nI kn) - nI x).toInt64 * zL p) - ((zL bb * zL bb) * zL a) = zL (((ki : Int) + kn - x) * p - (ki : Int) * ki * a) := by
    rw [zI_nat ki, zI_nat kn, zI_nat x, zI_add, zI_sub, zIL (by omega) (by omega), zL_mul, zL_mul, zL_mul, zL_sub, hbb]
  unfold fX12_belowOf_J62
  rw [hk1, Option.bind_some, nI_1, hk2, Option.bind_some, Option.bind_some, ev]
  unfold tnStep
  show _ = Rc (nI (if ((ki : Int) + kn - x) * p - (ki : Int) * ki * a = 0 then c else if decide (((ki : Int) + kn - x) * p - (ki : Int) * ki * a < 0) = neg then c else c + 1)) (zL (((ki : Int) + kn - x) * p - (ki : Int) * ki * a)) (zL p) (zL (sgn (if ((ki : Int) + kn - x) * p - (ki : Int) * ki * a = 0 then neg else decide (((ki : Int) + kn - x) * p - (ki : Int) * ki * a < 0)))) (nI (i + 1))
  generalize ((ki : Int) + kn - x) * p - (ki : Int) * ki * a = w at *
  have hw : (zL w).toInt = w := zL_n (by omega) (by omega)
  have ad0 : nI c + 0 = nI c := by rw [show (0 : Int32) = nI 0 from rfl, nI_add]; rfl
  by_cases h0 : w = 0
  · rw [if_pos h0, if_pos h0, if_pos (show zL w ≤ 0 by rw [j_le, hw, l0]; omega), if_pos (show (0 : Int64) ≤ zL w by rw [j_le, hw, l0]; omega), if_pos rfl]
  · rw [if_neg h0, if_neg h0]
    by_cases hn : w < 0
    · rw [decide_eq_true hn, if_pos (show zL w ≤ 0 by rw [j_le, hw, l0]; omega), if_neg (show ¬ (0 : Int64) ≤ zL w by rw [j_le, hw, l0]; omega), if_neg (show ¬ (-1 : Int64) = 0 by decide)]
      cases neg
      · rw [if_neg (show ¬ (-1 : Int64) = zL (sgn false) by decide), if_neg (show ¬ true = false by decide), nI_1]; rfl
      · rw [if_pos (show (-1 : Int64) = zL (sgn true) by decide), if_pos rfl, ad0]; rfl
    · rw [decide_eq_false hn, if_neg (show ¬ zL w ≤ 0 by rw [j_le, hw, l0]; omega), if_neg (show ¬ (1 : Int64) = 0 by decide)]
      cases neg
      · rw [if_pos (show (1 : Int64) = zL (sgn false) by decide), if_pos rfl, ad0]; rfl
      · rw [if_neg (show ¬ (1 : Int64) = zL (sgn true) by decide), if_neg (show ¬ false = true by decide), nI_1]; rfl
theorem kOfM {v : Mem} {q n : Nat} (hq : q < 2) (hn : n ≤ 7) (hv : v.1 1 (2 + q) = nI n) {lo : Nat → Nat} (hl : ∀ j, j < n → v.1 12 j = nI (lo j)) (hlo : ∀ j, j < n → lo j ≤ 999) {i : Nat} (hi : i ≤ 7) : fX12_kOf (nI q) (nI i) v = some (nI (if i < n then lo i / 10 else 0)) := by
  have e2 : (2 : Int32) + nI q = nI (2 + q) := nI_add 2 q
  unfold fX12_kOf
  rw [e2, if_pos (inB_n (by omega) (by omega)), cl_n (by omega), hv]
  by_cases h : i < n
  · have hh := hlo i h
    rw [if_neg (fun h9 => by have := (le_nI (by omega) (by omega)).mp h9; omega), if_pos (inB_n (by omega) (by omega)), cl_n (by omega), hl i h, if_pos h]
    congr 1
    rw [zI_nat, show (10 : Int32) = zI 10 from rfl, zI_div (by omega) (by omega) (by omega) (by omega), zI_nat]; congr 1
  · rw [if_pos ((le_nI (by omega) (by omega)).mpr (by omega)), if_neg h]; rfl
theorem cntM_loop {v : Mem} {q n x : Nat} (hq : q < 2) (hn : n ≤ 7) (hx : x ≤ 400) (hv : v.1 1 (2 + q) = nI n) {lo : Nat → Nat} (hl : ∀ j, j < n → v.1 12 j = nI (lo j)) (hlo : ∀ j, j < n → lo j ≤ 999) : ∀ (d i t : Nat), i + d = n → d < t → fX12_belowOf_L14 (nI q) (nI x) v t (nI (tnS (tnK n (fun j => lo j / 10)) x i).1) (zL (tnS (tnK n (fun j => lo j / 10)) x i).2.2.1) (zL (tnS (tnK n (fun j => lo j / 10)) x i).2.2.2) (zL (sgn (tnS (tnK n (fun j => lo j / 10)) x i).2.1)) (nI i) = some (nI (tnS (tnK n (fun j => lo j / 10)) x n).1) := by
  have e2 : (2 : Int32) + nI q = nI (2 + q) := nI_add 2 q
  have hk : ∀ j, j < n → (fun j => lo j / 10) j ≤ 99 := fun j hj => by have := hlo j hj; show lo j / 10 ≤ 99; omega
  intro d
  induction d with
  | zero =>
    intro i t hi ht
    obtain ⟨t, rfl⟩ : ∃ m, t = m + 1 := ⟨t - 1, by omega⟩
    have : i = n := by omega
    subst this
    rw [fX12_belowOf_L14, e2, if_pos (inB_n (by omega) (by omega)), cl_n (by omega), hv, if_pos ((le_nI (by omega) (by omega)).mpr (by omega))]
  | succ d ih =>
    intro i t hi ht
    obtain ⟨t, rfl⟩ : ∃ m, t = m + 1 := ⟨t - 1, by omega⟩
    have ih := ih (i + 1) t (by omega) (by omega)
    have hR := tn_R hk hx i
    have hR1 := tn_R hk hx (i + 1)
    have hst : tnS (tnK n (fun j => lo j / 10)) x (i + 1) = tnStep (tnK n (fun j => lo j / 10) i + tnK n (fun j => lo j / 10) (i + 1) - x) (tnK n (fun j => lo j / 10) i * tnK n (fun j => lo j / 10) i) (tnRe (tnK n (fun j => lo j / 10) i) (tnS (tnK n (fun j => lo j / 10)) x i)) := rfl
    have hs0 : i = 0 → tnS (tnK n (fun j => lo j / 10)) x i = (0, false, 1, 0) := fun h => by rw [h]; rfl
    rw [hst] at ih hR1
    have ki1 := kOfM hq hn hv hl hlo (i := i) (by omega)
    have kn1 := kOfM hq hn hv hl hlo (i := i + 1) (by omega)
    have kik : tnK n (fun j => lo j / 10) i = (((if i < n then lo i / 10 else 0) : Nat) : Int) := by
      unfold tnK
      by_cases h : i < n
      · rw [if_pos h, if_pos h]
      · rw [if_neg h, if_neg h]; rfl
    have knk : tnK n (fun j => lo j / 10) (i + 1) = (((if i + 1 < n then lo (i + 1) / 10 else 0) : Nat) : Int) := by
      unfold tnK
      by_cases h : i + 1 < n
      · rw [if_pos h, if_pos h]
      · rw [if_neg h, if_neg h]; rfl
    have r1 := tnK_r hk i
    have r2 := tnK_r hk (i + 1)
    rw [kik] at ih hR1 r1
    rw [knk] at ih hR1 r2
    generalize (if i < n then lo i / 10 else 0) = ki at *
    generalize (if i + 1 < n then lo (i + 1) / 10 else 0) = kn at *
    generalize tnS (tnK n (fun j => lo j / 10)) x i = s at *
    obtain ⟨c, neg, p, a⟩ := s
    rw [fX12_belowOf_L14, e2, if_pos (inB_n (by omega) (by omega)), cl_n (by omega), hv, if_neg (fun h => by have := (le_nI (by omega) (by omega)).mp h; omega)]
    have hre0 : fX12_belowOf_J62 (fX12_belowOf_L14 (nI q) (nI x) v t) (nI q) (nI x) (nI c) 1 0 1 (nI i) 0 v = fX12_belowOf_L14 (nI q) (nI x) v t (nI (tnStep ((ki : Int) + kn - x) ((ki : Int) * ki) (c, false, 1, 0)).1) (zL (tnStep ((ki : Int) + kn - x) ((ki : Int) * ki) (c, false, 1, 0)).2.2.1) (zL 1) (zL (sgn (tnStep ((ki : Int) + kn - x) ((ki : Int) * ki) (c, false, 1, 0)).2.1)) (nI (i + 1)) := by
      have hb : tnR (i + 1) (tnStep ((ki : Int) + kn - x) ((ki : Int) * ki) (c, false, 1, 0)) := tnR_st (by omega) (tnK_sq (by omega)) ⟨tB_1 i, by show 424 * 0 ≤ tB i; omega, hR.2.2⟩
      exact tnJM (bb := 0) (by omega) ki1 kn1 (by omega) (by omega) hx (by rw [Int.mul_zero, Int.mul_zero]) hb _
    by_cases hi0 : i = 0
    · have hs := hs0 hi0
      injection hs with h1 h2
      injection h2 with h2 h3
      injection h3 with h3 h4
      rw [if_pos (by rw [hi0]; rfl)]
      unfold fX12_belowOf_J44
      rw [if_pos rfl, hre0]
      have hre : tnRe (ki : Int) (c, neg, p, a) = (c, false, 1, 0) := by
        unfold tnRe
        by_cases hk0 : (ki : Int) = 0
        · rw [if_pos hk0]
        · rw [if_neg hk0, h2, h3, h4]
      rw [hre] at ih
      exact ih
    · rw [if_neg (nI_nz hi0 (by omega)), ki1, Option.bind_some, zI_nat ki, zIL (by omega) (by omega)]
      unfold fX12_belowOf_J44
      by_cases hk0 : ki = 0
      · have hz : zL (ki : Int) = 0 := by rw [hk0]; rfl
        rw [if_pos hz, hz, hre0]
        have hre : tnRe (ki : Int) (c, neg, p, a) = (c, false, 1, 0) := by unfold tnRe; rw [if_pos (by omega)]
        rw [hre] at ih
        exact ih
      · rw [if_neg (by rw [j_eq, zL_n (by omega) (by omega), l0]; omega)]
        have hre : tnRe (ki : Int) (c, neg, p, a) = (c, neg, p, a) := by unfold tnRe; rw [if_neg (by omega)]
        rw [hre] at ih hR1
        have hj := tnJM (q := q) (bb := (ki : Int)) (by omega) ki1 kn1 (by omega) (by omega) hx rfl hR1 (fX12_belowOf_L14 (nI q) (nI x) v t)
        rw [hj]; exact ih
theorem cntM {v : Mem} {q n x : Nat} (hq : q < 2) (hn : n ≤ 7) (hx : x ≤ 400) (hv : v.1 1 (2 + q) = nI n) {lo : Nat → Nat} (hl : ∀ j, j < n → v.1 12 j = nI (lo j)) (hlo : ∀ j, j < n → lo j ≤ 999) : fX12_belowOf (nI q) (nI x) v = some (nI (tnS (tnK n (fun j => lo j / 10)) x n).1) := cntM_loop hq hn hx hv hl hlo n 0 fu0 (by omega) (fu_n (by omega))
/-- the linear search -/
theorem toneM {v : Mem} {q n : Nat} (hq : q < 2) (hn : n ≤ 7) (hv : v.1 1 (2 + q) = nI n) {lo : Nat → Nat} (hl : ∀ j, j < n → v.1 12 j = nI (lo j)) (hlo : ∀ j, j < n → lo j ≤ 999) {k : Nat} (hk : k < 100) : ∀ (d m t : Nat), m + d = 400 → d < t → (∀ j, 1 ≤ j → j ≤ m → (tnS (tnK n (fun j => lo j / 10)) j n).1 ≤ k) → ∃ N, N ≤ 400 ∧ fX12_toneOf_L2 (nI q) (nI k) v t (nI m) = some (nI N) ∧ (∀ j : Nat, 1 ≤ j → j ≤ 400 → ((tnS (tnK n (fun j => lo j / 10)) j n).1 ≤ k ↔ j ≤ N)) := by
  have e400 : (400 : Int32).toInt = 400 := rfl
  have hk9 : ∀ j, j < n → (fun j => lo j / 10) j ≤ 99 := fun j hj => by have := hlo j hj; show lo j / 10 ≤ 99; omega
  intro d
  induction d with
  | zero =>
    intro m t hm ht ha
    obtain ⟨t, rfl⟩ : ∃ m, t = m + 1 := ⟨t - 1, by omega⟩
    have : m = 400 := by omega
    subst this
    exact ⟨400, Nat.le_refl _, by rw [fX12_toneOf_L2, if_pos (by decide)], fun j h1 h2 => ⟨fun _ => h2, fun _ => ha j h1 h2⟩⟩
  | succ d ih =>
    intro m t hm ht ha
    obtain ⟨t, rfl⟩ : ∃ m, t = m + 1 := ⟨t - 1, by omega⟩
    have hr := (tn_R hk9 (x := m + 1) (by omega) n).2.2
    rw [fX12_toneOf_L2, if_neg (by rw [i_le, nI_n (by omega)]; omega), nI_1, cntM hq hn (by omega) hv hl hlo, Option.bind_some]
    by_cases h : k < (tnS (tnK n (fun j => lo j / 10)) ((m + 1 : Nat) : Int) n).1
    · rw [if_pos ((lt_nI (by omega) (by omega)).mpr h)]
      refine ⟨m, by omega, rfl, fun j h1 h2 => ⟨fun h3 => ?_, fun h3 => ha j h1 h3⟩⟩
      by_cases h4 : j ≤ m
      · exact h4
      · have := tn_le (tnK n (fun j => lo j / 10)) (show ((m + 1 : Nat) : Int) ≤ (j : Int) by omega) n
        omega
    · rw [if_neg (fun h9 => h ((lt_nI (by omega) (by omega)).mp h9))]
      refine ih (m + 1) t (by omega) (by omega) (fun j h1 h2 => ?_)
      by_cases h4 : j = m + 1
      · rw [h4]; omega
      · exact ha j h1 (by omega)
/-- the bit search -/
theorem boxX {u : Mem} {n : Nat} {kk : Nat → Nat} (hn : n ≤ 7) (h1 : u.1 207 1 = nI n) (h2 : ∀ j, j < n → u.1 208 j = nI (kk j)) (hk : ∀ j, j < n → kk j ≤ 99) {k N : Nat} (hk2 : k < 100) (hN : N ≤ 400) (hNk : ∀ j : Nat, 1 ≤ j → j ≤ 400 → ((tnS (tnK n kk) j n).1 ≤ k ↔ j ≤ N)) : ∀ (e b m t : Nat), b = 2 ^ e / 2 → e < t → m ≤ N → N < m + 2 ^ e → e ≤ 9 → fX9_boxOf_L20 (nI k) u t (nI m) (nI b) = some (nI N) := by
  have e0 : (0 : Int32).toInt = 0 := rfl
  have e400 : (400 : Int32).toInt = 400 := rfl
  intro e
  induction e with
  | zero =>
    intro b m t hb ht hm hmN _
    obtain ⟨t, rfl⟩ : ∃ m, t = m + 1 := ⟨t - 1, by omega⟩
    have : b = 0 := by rw [hb]
    subst this
    have : m = N := by have : (2 : Nat) ^ 0 = 1 := rfl; omega
    rw [fX9_boxOf_L20, if_pos (by decide), this]
  | succ e ih =>
    intro b m t hb ht hm hmN he
    obtain ⟨t, rfl⟩ : ∃ m, t = m + 1 := ⟨t - 1, by omega⟩
    have p2 : (2 : Nat) ^ (e + 1) = 2 ^ e * 2 := rfl
    have pe : 0 < 2 ^ e := Nat.two_pow_pos e
    have pe9 : 2 ^ e ≤ 2 ^ 8 := Nat.pow_le_pow_right (by omega) (by omega)
    have p8 : (2 : Nat) ^ 8 = 256 := rfl
    have hb2 : b = 2 ^ e := by rw [hb, p2]; omega
    have hbd : nI b / 2 = nI (2 ^ e / 2) := by
      rw [hb2, zI_nat, show (2 : Int32) = zI 2 from rfl, zI_div (by omega) (by omega) (by omega) (by omega), zI_nat]; congr 1
    rw [fX9_boxOf_L20, if_neg (by rw [i_le, nI_n (by omega)]; omega), nI_add, hbd]
    by_cases h4 : 400 < m + b
    · rw [if_pos (by rw [i_lt, nI_n (by omega)]; omega)]
      exact ih (2 ^ e / 2) m t rfl (by omega) hm (by omega) (by omega)
    · have hr := (tn_R hk (x := m + b) (by omega) n).2.2
      have hq := hNk (m + b) (by omega) (by omega)
      rw [if_neg (by rw [i_lt, nI_n (by omega)]; omega), cntX hn (by omega) h1 h2 hk, Option.bind_some]
      by_cases h5 : k < (tnS (tnK n kk) ((m + b : Nat) : Int) n).1
      · rw [if_pos ((lt_nI (by omega) (by omega)).mpr h5)]
        have : ¬ m + b ≤ N := fun h6 => by have := hq.mpr h6; omega
        exact ih (2 ^ e / 2) m t rfl (by omega) hm (by omega) (by omega)
      · rw [if_neg (fun h9 => h5 ((lt_nI (by omega) (by omega)).mp h9))]
        have : m + b ≤ N := hq.mp (by omega)
        exact ih (2 ^ e / 2) (m + b) t rfl (by omega) this (by omega) (by omega)
/-- listen -/
def frT (u w : Mem) : Prop := (∀ k, k ≠ 207 → k ≠ 208 → w.1 k = u.1 k) ∧ w.2 = u.2
theorem lsn_loop {n : Nat} {lo : Nat → Nat} (hn : n ≤ 7) (hlo : ∀ j, j < n → lo j ≤ 999) : ∀ (d i t : Nat) (u : Mem), i + d = n → d < t → u.1 207 1 = nI n → (∀ j, j < n → u.1 199 j = nI (lo j)) → (∀ j, j < i → u.1 208 j = nI (lo j / 10)) → ∃ w, fX9_listen_L23 t (nI i) u = some ((if nI n ≤ 0 then false else true), w) ∧ frT u w ∧ w.1 207 1 = nI n ∧ ∀ j, j < n → w.1 208 j = nI (lo j / 10) := by
  intro d
  induction d with
  | zero =>
    intro i t u hi ht h1 h2 h3
    obtain ⟨t, rfl⟩ : ∃ m, t = m + 1 := ⟨t - 1, by omega⟩
    have : i = n := by omega
    subst this
    exact ⟨u, by rw [fX9_listen_L23, h1, if_pos ((le_nI (by omega) (by omega)).mpr (by omega))], ⟨fun _ _ _ => rfl, rfl⟩, h1, h3⟩
  | succ d ih =>
    intro i t u hi ht h1 h2 h3
    obtain ⟨t, rfl⟩ : ∃ m, t = m + 1 := ⟨t - 1, by omega⟩
    have hh := hlo i (by omega)
    have ed : nI (lo i) / 10 = nI (lo i / 10) := by
      rw [zI_nat, show (10 : Int32) = zI 10 from rfl, zI_div (by omega) (by omega) (by omega) (by omega), zI_nat]; congr 1
    obtain ⟨w, r1, r2, r3, r4⟩ := ih (i + 1) t (si u 208 i (nI (lo i / 10))) (by omega) (by omega) (by rw [si_ro _ _ (by omega)]; exact h1) (fun j hj => by rw [si_ro _ _ (by omega)]; exact h2 j hj) (fun j hj => by
      rw [si_1]
      by_cases h : j = i
      · rw [if_pos ⟨rfl, h⟩, h]
      · rw [if_neg (by omega)]; exact h3 j (by omega))
    refine ⟨w, ?_, ⟨fun k a b => by rw [r2.1 k a b, si_ro _ _ b], r2.2⟩, r3, r4⟩
    rw [fX9_listen_L23, h1, if_neg (fun h => by have := (le_nI (by omega) (by omega)).mp h; omega), if_pos (inB_n (i := i) (n := 16) (by omega) (by omega)), if_pos (inB_n (i := i) (n := 7) (by omega) (by omega)), cl_n (by omega), h2 i (by omega), ed, Option.bind_some, nI_1]
    exact r1
