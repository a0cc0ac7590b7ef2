/-- the reference's walk over the heats: how many boxes, the first one's ends -/
def scan (p : Nat → Bool) : Nat → Nat × Nat × Nat
  | 0 => (0, 0, 0)
  | x + 1 => if p x = true then (if x ≠ 0 ∧ p (x - 1) = true then ((scan p x).1, (scan p x).2.1, if (scan p x).1 = 1 then x else (scan p x).2.2) else ((scan p x).1 + 1, if (scan p x).1 + 1 = 1 then x else (scan p x).2.1, if (scan p x).1 + 1 = 1 then x else (scan p x).2.2)) else scan p x
theorem scan_le (p : Nat → Bool) : ∀ x, (scan p x).1 ≤ x ∧ (scan p x).2.1 ≤ x ∧ (scan p x).2.2 ≤ x := by
  intro x
  induction x with
  | zero => exact ⟨Nat.le_refl _, Nat.le_refl _, Nat.le_refl _⟩
  | succ x ih =>
    rw [scan]
    split
    · split
      · refine ⟨by show (scan p x).1 ≤ x + 1; omega, by show (scan p x).2.1 ≤ x + 1; omega, ?_⟩
        show (if (scan p x).1 = 1 then x else (scan p x).2.2) ≤ x + 1
        split <;> omega
      · refine ⟨by show (scan p x).1 + 1 ≤ x + 1; omega, ?_, ?_⟩
        · show (if (scan p x).1 + 1 = 1 then x else (scan p x).2.1) ≤ x + 1
          split <;> omega
        · show (if (scan p x).1 + 1 = 1 then x else (scan p x).2.2) ≤ x + 1
          split <;> omega
    · omega
theorem runs_sort {P : Int → Prop} {B : Int} {c : Nat} {l h : Nat → Int} (hr : Runs P B c l h) : ∀ (d j : Nat), j + d + 1 < c → h j + 1 < l (j + d + 1) := by
  intro d
  induction d with
  | zero => intro j hj; exact hr.b j hj
  | succ d ih =>
    intro j hj
    have h1 := ih j (by omega)
    have h2 := hr.b (j + d + 1) (by omega)
    have h3 := hr.a (j + d + 1) (by omega)
    rw [show j + (d + 1) + 1 = j + d + 1 + 1 by omega]; omega
theorem runs_so {P : Int → Prop} {B : Int} {c : Nat} {l h : Nat → Int} (hr : Runs P B c l h) {j k : Nat} (hj : j < k) (hk : k < c) : h j + 1 < l k := by
  have := runs_sort hr (k - j - 1) j (by omega)
  rw [show j + (k - j - 1) + 1 = k by omega] at this; exact this
/-- how many runs begin below x -/
def Inb (c : Nat) (l : Nat → Int) (x m : Nat) : Prop := m ≤ c ∧ (∀ k, k < m → l k < x) ∧ (m < c → (x : Int) ≤ l m)
theorem run_at {P : Int → Prop} {c : Nat} {l h : Nat → Int} (hr : Runs P 1000 c l h) {x m : Nat} (hx : x < 1000) (hi : Inb c l x m) : P x ↔ (m < c ∧ (x : Int) = l m) ∨ (0 < m ∧ (x : Int) ≤ h (m - 1)) := by
  obtain ⟨i1, i2, i3⟩ := hi
  rw [hr.c x (by omega) (by omega)]
  constructor
  · intro ⟨k, hk, hk1, hk2⟩
    by_cases h1 : k < m
    · right
      by_cases h2 : k = m - 1
      · subst h2; omega
      · have := runs_so hr (show k < m - 1 by omega) (by omega)
        have := i2 (m - 1) (by omega)
        omega
    · left
      have := i3 (by omega)
      by_cases h2 : k = m
      · subst h2; omega
      · have := runs_so hr (show m < k by omega) hk
        have := hr.a m (by omega)
        omega
  · intro h1
    rcases h1 with ⟨h1, h2⟩ | ⟨h1, h2⟩
    · exact ⟨m, h1, by have := hr.a m h1; omega⟩
    · exact ⟨m - 1, by omega, by have := i2 (m - 1) (by omega); omega, h2⟩
/-- a step of the walk -/
theorem Inb_step {P : Int → Prop} {c : Nat} {l h : Nat → Int} (hr : Runs P 1000 c l h) {x m : Nat} (hx : x < 1000) (hi : Inb c l x m) : (P x ∧ ¬ (x ≠ 0 ∧ P ((x : Int) - 1)) ∧ m < c ∧ (x : Int) = l m ∧ Inb c l (x + 1) (m + 1)) ∨ (P x ∧ x ≠ 0 ∧ P ((x : Int) - 1) ∧ 0 < m ∧ (x : Int) ≤ h (m - 1) ∧ Inb c l (x + 1) m) ∨ (¬ P x ∧ (0 < m → h (m - 1) < x) ∧ Inb c l (x + 1) m) := by
  have ha := run_at hr hx hi
  obtain ⟨i1, i2, i3⟩ := hi
  by_cases hA : m < c ∧ (x : Int) = l m
  · left
    refine ⟨ha.mpr (Or.inl hA), ?_, hA.1, hA.2, by omega, fun k hk => ?_, fun h2 => ?_⟩
    · intro ⟨hx0, hp⟩
      rw [hr.c _ (by omega) (by omega)] at hp
      obtain ⟨k, hk, hk1, hk2⟩ := hp
      by_cases h1 : k < m
      · have := runs_so hr h1 hA.1; omega
      · by_cases h2 : k = m
        · subst h2; omega
        · have := runs_so hr (show m < k by omega) hk
          have := hr.a m hA.1
          omega
    · by_cases h3 : k = m
      · subst h3; omega
      · have := i2 k (by omega); omega
    · have := hr.b m h2
      have := hr.a m hA.1
      omega
  · right
    have hI : Inb c l (x + 1) m := ⟨i1, fun k hk => by have := i2 k hk; omega, fun h2 => by have := i3 h2; omega⟩
    by_cases hB : 0 < m ∧ (x : Int) ≤ h (m - 1)
    · left
      have h2 := i2 (m - 1) (by omega)
      have h3 := hr.a (m - 1) (by omega)
      refine ⟨ha.mpr (Or.inr hB), by omega, ?_, hB.1, hB.2, hI⟩
      rw [hr.c _ (by omega) (by omega)]
      exact ⟨m - 1, by omega, by omega, by omega⟩
    · right
      refine ⟨fun hp => ?_, fun h0 => by omega, hI⟩
      rcases ha.mp hp with h1 | h1
      · exact hA h1
      · exact hB h1
theorem runs_scan0 {P : Int → Prop} {p : Nat → Bool} {c : Nat} {l h : Nat → Int} (hr : Runs P 1000 c l h) (hp : ∀ x, x < 1000 → (p x = true ↔ P x)) : ∀ x, x ≤ 1000 → ∃ m, Inb c l x m ∧ scan p x = (m, if m = 0 then 0 else (l 0).toNat, if m = 0 then 0 else (min (h 0) ((x : Int) - 1)).toNat) := by
  intro x
  induction x with
  | zero =>
    intro _
    refine ⟨0, ⟨by omega, fun k hk => by omega, fun h0 => by have := hr.a 0 h0; omega⟩, rfl⟩
  | succ x ih =>
    intro hx
    obtain ⟨m, hi, hs⟩ := ih (by omega)
    have hpx := hp x (by omega)
    have hpy : x ≠ 0 → (p (x - 1) = true ↔ P ((x : Int) - 1)) := fun h0 => by
      rw [hp (x - 1) (by omega), show ((x - 1 : Nat) : Int) = (x : Int) - 1 by omega]
    have hmc := hi.1
    rcases Inb_step hr (by omega) hi with ⟨a1, a2, a3, a4, a5⟩ | ⟨a1, a2, a3, a4, a5, a6⟩ | ⟨a1, a2, a3⟩
    · refine ⟨m + 1, a5, ?_⟩
      rw [scan, if_pos (hpx.mpr a1), if_neg (fun hh => a2 ⟨hh.1, (hpy hh.1).mp hh.2⟩), hs]
      have ham := hr.a m a3
      by_cases h0 : m = 0
      · subst h0
        simp only [if_true, show ¬ (0 + 1 = 0) by omega, if_false]
        have : min (h 0) (((x + 1 : Nat) : Int) - 1) = x := by omega
        rw [this, ← a4]; simp
      · simp only [show ¬ (m + 1 = 1) by omega, if_false, show ¬ (m + 1 = 0) by omega, h0]
        have := runs_so hr (show 0 < m by omega) a3
        have e1 : min (h 0) ((x : Int) - 1) = h 0 := by omega
        have e2 : min (h 0) (((x + 1 : Nat) : Int) - 1) = h 0 := by omega
        rw [e1, e2]
    · refine ⟨m, a6, ?_⟩
      rw [scan, if_pos (hpx.mpr a1), if_pos ⟨a2, (hpy a2).mpr a3⟩, hs]
      have h0 : ¬ m = 0 := by omega
      simp only [h0, if_false]
      by_cases h1 : m = 1
      · subst h1
        simp only [if_true]
        have a5 : (x : Int) ≤ h 0 := a5
        have : min (h 0) (((x + 1 : Nat) : Int) - 1) = x := by omega
        rw [this]; simp
      · simp only [h1, if_false]
        have := runs_so hr (show 0 < m - 1 by omega) (by omega)
        have h3 := hi.2.1 (m - 1) (by omega)
        have e1 : min (h 0) ((x : Int) - 1) = h 0 := by omega
        have e2 : min (h 0) (((x + 1 : Nat) : Int) - 1) = h 0 := by omega
        rw [e1, e2]
    · refine ⟨m, a3, ?_⟩
      rw [scan, if_neg (fun hh => a1 (hpx.mp hh)), hs]
      by_cases h0 : m = 0
      · simp only [h0, if_true]
      · simp only [h0, if_false]
        have h2 := a2 (by omega)
        have h3 : h 0 ≤ h (m - 1) := by
          by_cases h1 : m = 1
          · subst h1; exact Int.le_refl _
          · have := runs_so hr (show 0 < m - 1 by omega) (by omega)
            have := hr.a (m - 1) (by omega)
            omega
        have e1 : min (h 0) ((x : Int) - 1) = h 0 := by omega
        have e2 : min (h 0) (((x + 1 : Nat) : Int) - 1) = h 0 := by omega
        rw [e1, e2]
theorem runs_scan {P : Int → Prop} {p : Nat → Bool} {c : Nat} {l h : Nat → Int} (hr : Runs P 1000 c l h) (hp : ∀ x, x < 1000 → (p x = true ↔ P x)) : scan p 1000 = (c, if c = 0 then 0 else (l 0).toNat, if c = 0 then 0 else (h 0).toNat) := by
  obtain ⟨m, hi, hs⟩ := runs_scan0 hr hp 1000 (by omega)
  have hm : m = c := by
    have h1 := hi.1
    by_cases h2 : m < c
    · have := hi.2.2 h2; have := hr.a m h2; omega
    · omega
  subst hm
  rw [hs]
  by_cases h0 : m = 0
  · simp only [h0, if_true]
  · have := hr.a 0 (by omega)
    simp only [h0, if_false]
    rw [show min (h 0) (((1000 : Nat) : Int) - 1) = h 0 by omega]
def pb (g : Nat → Int32) (z : Int) : Nat → Bool := fun x => decide (spZ g 0 false x ≤ z ∧ z ≤ spZ g 0 true x)
theorem pb_P (g : Nat → Int32) (z : Int) (x : Nat) : pb g z x = true ↔ Pn g z x := by unfold pb Pn; rw [decide_eq_true_iff]
def bxs (g : Nat → Int32) (z : Int) : Nat × Nat × Nat := scan (pb g z) 1000
theorem bxs_le (g : Nat → Int32) (z : Int) : (bxs g z).1 ≤ 1000 ∧ (bxs g z).2.1 ≤ 1000 ∧ (bxs g z).2.2 ≤ 1000 := scan_le _ _
theorem bxs_runs {g : Nat → Int32} {z : Int} {c : Nat} {l h : Nat → Int} (hr : Runs (Pn g z) 1000 c l h) : bxs g z = (c, if c = 0 then 0 else (l 0).toNat, if c = 0 then 0 else (h 0).toNat) := runs_scan hr (fun x _ => pb_P g z x)
/-- sums -/
def wsum (F : Nat → Int32) : Nat → Int32
  | 0 => 0
  | k + 1 => wsum F k + F k
def upS (w : Nat → Int32) (n : Nat) : Nat → Int32
  | 0 => 0
  | d + 1 => upS w n d + w (n - (d + 1))
def wtI (g f : Nat → Int32) (q s : Nat) : Int32 := wsum (fun k => f (20 + (96 * q + (6 * s + k))) * (if g k = 0 then 1 else g k)) 6
def ndI (g f : Nat → Int32) (q n : Nat) (unit : Int32) (s : Nat) : Int32 := (upS (wtI g f q) n (n - 1 - s) + wtI g f q s / 2) / unit
theorem wX_loop {u : Mem} {T i q : Nat} {g f : Nat → Int32} {bk : Nat → Int64} (hL : relL u T g) (hS : relS u i q f bk) {s : Nat} (hs : s < 16) : ∀ (d k t : Nat), k + d = 6 → d < t → fX7_weightOf_L5 i (nI s) T u t (wsum (fun k => f (20 + (96 * q + (6 * s + k))) * (if g k = 0 then 1 else g k)) k) (nI k) = some (wtI g f q s) := by
  intro d
  induction d with
  | zero =>
    intro k t hk ht
    obtain ⟨t, rfl⟩ : ∃ k, t = k + 1 := ⟨t - 1, by omega⟩
    have hk : k = 6 := by omega
    subst hk
    rw [fX7_weightOf_L5, if_pos (by decide)]; rfl
  | succ d ih =>
    intro k t hk ht
    obtain ⟨t, rfl⟩ : ∃ k, t = k + 1 := ⟨t - 1, by omega⟩
    have e6 : (6 : Int32).toInt = 6 := rfl
    rw [fX7_weightOf_L5, if_neg (by rw [i_le, nI_n (by omega)]; omega), partX hS hs (by omega), Option.bind_some, if_pos (inB_n (by omega) (by omega)), cl_n (by omega), hL.1 k (by omega), nI_1]
    exact ih (k + 1) t (by omega) (by omega)
theorem wX {u : Mem} {T i q : Nat} {g f : Nat → Int32} {bk : Nat → Int64} (hL : relL u T g) (hS : relS u i q f bk) {s : Nat} (hs : s < 16) : fX7_weightOf i (nI s) T u = some (wtI g f q s) := wX_loop hL hS hs 6 0 fu0 rfl (fu_n (by omega))
theorem wM_loop {v : Mem} {g : Nat → Int32} (hS : ∀ k, k < 220 → fX12_says (nI k) v = some (g k)) {q s : Nat} (hq : q < 2) (hs : s < 16) : ∀ (d k t : Nat), k + d = 6 → d < t → fX12_weighs_L5 (nI q) (nI s) v t (wsum (fun k => v.1 1 (20 + (96 * q + (6 * s + k))) * (if g k = 0 then 1 else g k)) k) (nI k) = some (wtI g (v.1 1) q s) := by
  intro d
  induction d with
  | zero =>
    intro k t hk ht
    obtain ⟨t, rfl⟩ : ∃ k, t = k + 1 := ⟨t - 1, by omega⟩
    have hk : k = 6 := by omega
    subst hk
    rw [fX12_weighs_L5, if_pos (by decide)]; rfl
  | succ d ih =>
    intro k t hk ht
    obtain ⟨t, rfl⟩ : ∃ k, t = k + 1 := ⟨t - 1, by omega⟩
    have e6 : (6 : Int32).toInt = 6 := rfl
    have ew : fX12_weightOf (nI k) v = some (if g k = 0 then 1 else g k) := by
      unfold fX12_weightOf
      rw [hS k (by omega), Option.bind_some]
      by_cases h0 : g k = 0
      · rw [if_pos h0, if_pos h0]
      · rw [if_neg h0, if_neg h0, Option.bind_some]
    rw [fX12_weighs_L5, if_neg (by rw [i_le, nI_n (by omega)]; omega), ew, Option.bind_some, partM hq hs (by omega), Option.bind_some, Int32.mul_comm, nI_1]
    exact ih (k + 1) t (by omega) (by omega)
theorem wM {v : Mem} {g : Nat → Int32} (hS : ∀ k, k < 220 → fX12_says (nI k) v = some (g k)) {q s : Nat} (hq : q < 2) (hs : s < 16) : fX12_weighs (nI q) (nI s) v = some (wtI g (v.1 1) q s) := wM_loop hS hq hs 6 0 fu0 rfl (fu_n (by omega))
theorem nM_loop {v : Mem} {g : Nat → Int32} (hS : ∀ k, k < 220 → fX12_says (nI k) v = some (g k)) {q n : Nat} (hq : q < 2) (hn : n ≤ 16) (hv : v.1 1 (2 + q) = nI n) {unit : Int32} (hu : 0 < unit.toInt) : ∀ (d k t : Nat) (a : Int32), k + d = n → d < t → fX12_needOf_L15 (nI q) unit v t a (nI k) = some ((upS (wtI g (v.1 1) q) n d + a) / unit) := by
  have e2 : (2 : Int32) + nI q = nI (2 + q) := nI_add 2 q
  have p3 : inB (nI (2 + q)) 8320 := inB_n (by omega) (by omega)
  have c2 := cl_n (show 2 + q < 2147483648 by omega)
  intro d
  induction d with
  | zero =>
    intro k t a hk ht
    obtain ⟨t, rfl⟩ : ∃ k, t = k + 1 := ⟨t - 1, by omega⟩
    have e0 : (0 : Int32).toInt = 0 := rfl
    rw [fX12_needOf_L15, e2, if_pos p3, c2, hv, if_pos ((le_nI (by omega) (by omega)).mpr (by omega)), if_neg (by rw [i_eq]; omega), upS, Int32.zero_add]
  | succ d ih =>
    intro k t a hk ht
    obtain ⟨t, rfl⟩ : ∃ k, t = k + 1 := ⟨t - 1, by omega⟩
    rw [fX12_needOf_L15, e2, if_pos p3, c2, hv, if_neg (fun h => by have := (le_nI (by omega) (by omega)).mp h; omega), wM hS hq (by omega), Option.bind_some, nI_1, ih (k + 1) t _ (by omega) (by omega), upS, show n - (d + 1) = k by omega, Int32.add_assoc, Int32.add_comm a]
theorem nedM {v : Mem} {g : Nat → Int32} (hS : ∀ k, k < 220 → fX12_says (nI k) v = some (g k)) {q n s : Nat} (hq : q < 2) (hn : n ≤ 16) (hs : s < n) (hv : v.1 1 (2 + q) = nI n) {unit : Int32} (hu : 0 < unit.toInt) : fX12_needOf (nI q) (nI s) unit v = some (ndI g (v.1 1) q n unit s) := by
  unfold fX12_needOf
  rw [wM hS hq (by omega), Option.bind_some, nI_1, nM_loop hS hq hn hv hu (n - 1 - s) (s + 1) fu0 _ (by omega) (fu_n (by omega))]
  rfl
