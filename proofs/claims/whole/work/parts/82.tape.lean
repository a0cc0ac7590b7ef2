/-- a byte of the tape, signed and not -/
def ub (z : Int) : Int := if z < 0 then z + 256 else z
theorem ub_d : ∀ n : Nat, n < 256 → (zI ((n : Int) - 128)) &&& 255 = zI (ub ((n : Int) - 128)) := by decide +kernel
theorem byt {b : Int32} (h : b.toInt8.toInt32 = b) : -128 ≤ b.toInt ∧ b.toInt ≤ 127 ∧ b &&& 255 = zI (ub b.toInt) := by
  have h1 : b.toInt8.toInt32.toInt = b.toInt8.toInt := Int8.toInt_toInt32 _
  have h2 := Int8.le_toInt b.toInt8
  have h3 := Int8.toInt_lt b.toInt8
  rw [h] at h1
  have r1 : -128 ≤ b.toInt := by omega
  have r2 : b.toInt ≤ 127 := by omega
  refine ⟨r1, r2, ?_⟩
  have := ub_d (b.toInt + 128).toNat (by omega)
  rw [show (((b.toInt + 128).toNat : Nat) : Int) - 128 = b.toInt by omega, zI_of] at this
  exact this
def isL (z : Int) : Bool := decide ((97 ≤ z ∧ z ≤ 122) ∨ (65 ≤ z ∧ z ≤ 90))
def isD (z : Int) : Bool := decide (48 ≤ z ∧ z ≤ 57)
def isB (z : Int) : Bool := decide (z = 32 ∨ z = 10)
theorem ub_r {z : Int} (h1 : -128 ≤ z) (h2 : z ≤ 127) : (zI (ub z)).toInt = ub z ∧ 0 ≤ ub z ∧ ub z ≤ 255 ∧ (0 ≤ z → ub z = z) ∧ (z < 0 → 128 ≤ ub z) := by
  have : ub z = if z < 0 then z + 256 else z := rfl
  by_cases h : z < 0
  · rw [if_pos h] at this; rw [zI_n (by omega) (by omega)]; omega
  · rw [if_neg h] at this; rw [zI_n (by omega) (by omega)]; omega
theorem cB {z : Int} (h1 : -128 ≤ z) (h2 : z ≤ 127) : fX4_isBlank (zI (ub z)) = some (isB z) := by
  obtain ⟨r1, r2, r3, r4, r5⟩ := ub_r h1 h2
  have e32 : (32 : Int32).toInt = 32 := rfl
  have e10 : (10 : Int32).toInt = 10 := rfl
  unfold fX4_isBlank isB
  congr 1
  by_cases a : zI (ub z) = 32
  · rw [if_pos a]; rw [i_eq] at a; rw [decide_eq_true (by omega)]
  · rw [if_neg a]; rw [i_eq] at a
    by_cases b : zI (ub z) = 10
    · rw [if_pos b]; rw [i_eq] at b; rw [decide_eq_true (by omega)]
    · rw [if_neg b]; rw [i_eq] at b; rw [decide_eq_false (by omega)]
theorem cL {z : Int} (h1 : -128 ≤ z) (h2 : z ≤ 127) : fX4_isLetter (zI (ub z)) = some (isL z) := by
  obtain ⟨r1, r2, r3, r4, r5⟩ := ub_r h1 h2
  have e1 : (97 : Int32).toInt = 97 := rfl
  have e2 : (122 : Int32).toInt = 122 := rfl
  have e3 : (65 : Int32).toInt = 65 := rfl
  have e4 : (90 : Int32).toInt = 90 := rfl
  unfold fX4_isLetter isL
  simp only [i_lt, i_le, r1, e1, e2, e3, e4]
  congr 1
  by_cases hL : (97 ≤ z ∧ z ≤ 122) ∨ (65 ≤ z ∧ z ≤ 90)
  · rw [decide_eq_true hL]
    by_cases a : ub z < 97
    · rw [if_pos a, if_neg (by omega), if_neg (by omega)]
    · rw [if_neg a, if_pos (by omega)]
  · rw [decide_eq_false hL]
    by_cases a : ub z < 97
    · rw [if_pos a]
      by_cases b : ub z < 65
      · rw [if_pos b]
      · rw [if_neg b, if_pos (by omega)]
    · rw [if_neg a, if_neg (by omega), if_neg (by omega), if_pos (by omega)]
theorem cD {z : Int} (h1 : -128 ≤ z) (h2 : z ≤ 127) : fX4_isDigit (zI (ub z)) = some (isD z) := by
  obtain ⟨r1, r2, r3, r4, r5⟩ := ub_r h1 h2
  have e1 : (48 : Int32).toInt = 48 := rfl
  have e2 : (57 : Int32).toInt = 57 := rfl
  unfold fX4_isDigit isD
  simp only [i_lt, r1, e1, e2]
  congr 1
  by_cases a : ub z < 48
  · rw [if_pos a, decide_eq_false (by omega)]
  · rw [if_neg a]
    by_cases b : 57 < ub z
    · rw [if_pos b, decide_eq_false (by omega)]
    · rw [if_neg b, decide_eq_true (by omega)]
theorem mL {z : Int} (h1 : -128 ≤ z) (h2 : z ≤ 127) : fX12_isLetter (zI z) = some (isL z) := by
  have r1 := zI_n (z := z) (by omega) (by omega)
  unfold fX12_isLetter
  rw [in_sp2 (zI z) (L := 97) (Hh := 122) rfl rfl, in_sp2 (zI z) (L := 65) (Hh := 90) rfl rfl, Option.bind_some, Option.bind_some, r1]
  unfold isL
  by_cases a : 97 ≤ z ∧ z ≤ 122
  · rw [decide_eq_true a, if_pos rfl, decide_eq_true (Or.inl a)]
  · rw [decide_eq_false a, if_neg (by decide)]
    congr 1
    by_cases b : 65 ≤ z ∧ z ≤ 90
    · rw [decide_eq_true b, if_pos rfl, decide_eq_true (Or.inr b)]
    · rw [decide_eq_false b, if_neg (by decide), decide_eq_false (by omega)]
theorem mD {z : Int} (h1 : -128 ≤ z) (h2 : z ≤ 127) : fX12_in (zI z).toInt64 48 57 = some (isD z) := by
  rw [in_sp2 (zI z) (L := 48) (Hh := 57) rfl rfl, zI_n (by omega) (by omega)]; rfl
/-- the words -/
def wcN : List (List Nat) := [[107, 105, 110, 100], [99, 104, 97, 105, 110], [114, 97, 116, 101], [112, 117, 115, 104], [104, 97, 122, 101], [116, 111], [108, 105, 103, 104, 116]]
def wdl (i : Nat) : Nat := lenS.getD i 0
def wdc (i j : Nat) : Nat := (wcN.getD i []).getD j 0
def wdm (i : Nat) : Nat := [0, 1, 6, 4, 5, 2, 3].getD i 0
theorem wdl_le : ∀ i, i < 7 → 2 ≤ wdl i ∧ wdl i ≤ 5 := by decide
theorem lenX {i : Nat} (hi : i < 7) (u : Mem) : fJ0_length_8abf5 i u = some (nI (wdl i)) := by
  unfold fJ0_length_8abf5 fJ0_coder_7d493
  rw [Option.bind_some]
  have : ∀ i, i < 7 → (nI (lenS.getD i 0)) >>> ((0 : Int32) &&& 31) = nI (wdl i) := by decide +kernel
  rw [this i hi]
theorem chrX {i j : Nat} (hi : i < 7) (hj : j < wdl i) (u : Mem) : fJ0_charAt_5068e i (nI j) u = some (nI (wdc i j)) := by
  have h1 : ∀ i, i < 7 → ∀ j, j < wdl i → ((((bytS.getD i []).getD j 0) &&& 255).toUInt32 % 65536).toInt32 = nI (wdc i j) := by decide +kernel
  have h2 : ∀ i, i < 7 → ∀ j, j < wdl i → narrow .char (.int (nI (wdc i j))) = .int (nI (wdc i j)) := by
    intro i hi j hj
    have h3 : ∀ i, i < 7 → ∀ j, j < wdl i → (nI (wdc i j)).toUInt32.toUInt16.toUInt32.toInt32 = nI (wdc i j) := by decide +kernel
    have := h3 i hi j hj
    show Value.int (nI (wdc i j)).toUInt32.toUInt16.toUInt32.toInt32 = Value.int (nI (wdc i j))
    rw [this]
  have hw := wdl_le i hi
  have hl : (lenS.getD i 0) = wdl i := rfl
  have e0 : (0 : Int32).toInt = 0 := rfl
  unfold fJ0_charAt_5068e fJ0_isLatin1_aae02 fJ1_charAt_3b067 fJ0_checkIndex_df160 fJ3_checkIndex_8e157
  rw [Option.bind_some, if_pos rfl, if_neg (by rw [i_lt, nI_n (by omega)]; omega), hl, if_pos ((lt_nI (by omega) (by omega)).mpr hj), Option.bind_some, Option.bind_some, if_pos (inB_n hj (by omega)), Option.bind_some, cl_n (by omega), h1 i hi j hj, if_pos (h2 i hi j hj)]
def wdM (B : Nat → Int) (s e i : Nat) : Prop := e = s + wdl i ∧ ∀ j, j < wdl i → B (s + j) = wdc i j
theorem wdc_r : ∀ i, i < 7 → ∀ j, j < wdl i → wdc i j < 128 ∧ 97 ≤ wdc i j ∧ wdc i j ≤ 122 := by decide
theorem isW_loop {u : Mem} {B : Nat → Int} {i s e : Nat} (hi : i < 7) (hs : u.1 184 4 = nI s) (he : e = s + wdl i) (he4 : e ≤ 400) (hB : ∀ k, k < e → (-128 ≤ B k ∧ B k ≤ 127) ∧ u.1 183 k = zI (ub (B k))) : ∀ (d j t : Nat), j + d = wdl i → d < t → (∀ k, k < j → B (s + k) = wdc i k) → ∃ b : Bool, fX4_isWord_L28 i u t (nI j) = some b ∧ (b = true ↔ ∀ k, k < wdl i → B (s + k) = wdc i k) := by
  have hw := wdl_le i hi
  intro d
  induction d with
  | zero =>
    intro j t hj ht hk
    obtain ⟨t, rfl⟩ : ∃ m, t = m + 1 := ⟨t - 1, by omega⟩
    refine ⟨true, ?_, ⟨fun _ k hk2 => hk k (by omega), fun _ => rfl⟩⟩
    rw [fX4_isWord_L28, lenX hi, Option.bind_some, if_pos ((le_nI (by omega) (by omega)).mpr (by omega))]
  | succ d ih =>
    intro j t hj ht hk
    obtain ⟨t, rfl⟩ : ∃ m, t = m + 1 := ⟨t - 1, by omega⟩
    obtain ⟨⟨b1, b2⟩, b3⟩ := hB (s + j) (by omega)
    obtain ⟨r1, r2, r3, r4, r5⟩ := ub_r b1 b2
    have wr := wdc_r i hi j (by omega)
    rw [fX4_isWord_L28, lenX hi, Option.bind_some, if_neg (fun h => by have := (le_nI (by omega) (by omega)).mp h; omega), hs, nI_add, if_pos (inB_n (by omega) (by omega)), chrX hi (by omega), Option.bind_some, cl_n (by omega), b3, nI_1]
    by_cases h : B (s + j) = wdc i j
    · rw [if_pos (by rw [i_eq, r1, nI_n (by omega)]; omega)]
      refine ih (j + 1) t (by omega) (by omega) (fun k hk2 => ?_)
      by_cases h9 : k = j
      · rw [h9]; exact h
      · exact hk k (by omega)
    · rw [if_neg (by rw [i_eq, r1, nI_n (by omega)]; omega)]
      exact ⟨false, rfl, fun h2 => absurd h2 (by decide), fun h2 => absurd (h2 j (by omega)) h⟩
theorem isWX {u : Mem} {B : Nat → Int} {i s e : Nat} (hi : i < 7) (hs : u.1 184 4 = nI s) (he : u.1 184 5 = nI e) (hse : s ≤ e) (he4 : e ≤ 400) (hB : ∀ k, k < e → (-128 ≤ B k ∧ B k ≤ 127) ∧ u.1 183 k = zI (ub (B k))) : ∃ b : Bool, fX4_isWord i u = some b ∧ (b = true ↔ u.1 184 3 = 1 ∧ wdM B s e i) := by
  have hw := wdl_le i hi
  unfold fX4_isWord
  by_cases h1 : u.1 184 3 = 1
  · rw [if_pos h1, lenX hi, Option.bind_some, hs, he, nI_sb hse (by omega)]
    by_cases h2 : e = s + wdl i
    · rw [if_pos (by rw [show e - s = wdl i by omega])]
      obtain ⟨b, p1, p2⟩ := isW_loop hi hs h2 he4 hB (wdl i) 0 fu0 (by omega) (fu_n (by omega)) (fun k hk => by omega)
      exact ⟨b, p1, ⟨fun h => ⟨h1, h2, p2.mp h⟩, fun h => p2.mpr h.2.2⟩⟩
    · rw [if_neg (fun h => by have := nI_inj (by omega) (by omega) h; omega)]
      exact ⟨false, rfl, fun h => absurd h (by decide), fun h => absurd h.2.1 h2⟩
  · rw [if_neg h1]
    exact ⟨false, rfl, fun h => absurd h (by decide), fun h => absurd h.1 h1⟩
/-- letters packed -/
def pkz (B : Nat → Int) (s : Nat) : Nat → Int
  | 0 => 0
  | m + 1 => 64 * pkz B s m + (B (s + m)) - 64
def cst (i : Nat) : Int := [11443108, 597826158, 13245733, 12803304, 10624677, 3375, 749107764].getD i 0
theorem pq_1_0 {b0 : Int} (h0 : 65 ≤ b0 ∧ b0 ≤ 122) : ¬ (64 * 0 + b0 - 64 = 11443108) := by omega
theorem pq_1_1 {b0 : Int} (h0 : 65 ≤ b0 ∧ b0 ≤ 122) : ¬ (64 * 0 + b0 - 64 = 597826158) := by omega
theorem pq_1_2 {b0 : Int} (h0 : 65 ≤ b0 ∧ b0 ≤ 122) : ¬ (64 * 0 + b0 - 64 = 13245733) := by omega
theorem pq_1_3 {b0 : Int} (h0 : 65 ≤ b0 ∧ b0 ≤ 122) : ¬ (64 * 0 + b0 - 64 = 12803304) := by omega
theorem pq_1_4 {b0 : Int} (h0 : 65 ≤ b0 ∧ b0 ≤ 122) : ¬ (64 * 0 + b0 - 64 = 10624677) := by omega
theorem pq_1_5 {b0 : Int} (h0 : 65 ≤ b0 ∧ b0 ≤ 122) : ¬ (64 * 0 + b0 - 64 = 3375) := by omega
theorem pq_1_6 {b0 : Int} (h0 : 65 ≤ b0 ∧ b0 ≤ 122) : ¬ (64 * 0 + b0 - 64 = 749107764) := by omega
theorem pq_2_0 {b0 b1 : Int} (h0 : 65 ≤ b0 ∧ b0 ≤ 122) (h1 : 65 ≤ b1 ∧ b1 ≤ 122) : ¬ (64 * (64 * 0 + b0 - 64) + b1 - 64 = 11443108) := by omega
theorem pq_2_1 {b0 b1 : Int} (h0 : 65 ≤ b0 ∧ b0 ≤ 122) (h1 : 65 ≤ b1 ∧ b1 ≤ 122) : ¬ (64 * (64 * 0 + b0 - 64) + b1 - 64 = 597826158) := by omega
theorem pq_2_2 {b0 b1 : Int} (h0 : 65 ≤ b0 ∧ b0 ≤ 122) (h1 : 65 ≤ b1 ∧ b1 ≤ 122) : ¬ (64 * (64 * 0 + b0 - 64) + b1 - 64 = 13245733) := by omega
theorem pq_2_3 {b0 b1 : Int} (h0 : 65 ≤ b0 ∧ b0 ≤ 122) (h1 : 65 ≤ b1 ∧ b1 ≤ 122) : ¬ (64 * (64 * 0 + b0 - 64) + b1 - 64 = 12803304) := by omega
theorem pq_2_4 {b0 b1 : Int} (h0 : 65 ≤ b0 ∧ b0 ≤ 122) (h1 : 65 ≤ b1 ∧ b1 ≤ 122) : ¬ (64 * (64 * 0 + b0 - 64) + b1 - 64 = 10624677) := by omega
theorem pq_2_5 {b0 b1 : Int} (h0 : 65 ≤ b0 ∧ b0 ≤ 122) (h1 : 65 ≤ b1 ∧ b1 ≤ 122) : 64 * (64 * 0 + b0 - 64) + b1 - 64 = 3375 ↔ b0 = 116 ∧ b1 = 111 := by
  constructor
  · intro h
    have e0 : b0 = 116 := by omega
    subst e0
    omega
  · intro h
    omega
theorem pq_2_6 {b0 b1 : Int} (h0 : 65 ≤ b0 ∧ b0 ≤ 122) (h1 : 65 ≤ b1 ∧ b1 ≤ 122) : ¬ (64 * (64 * 0 + b0 - 64) + b1 - 64 = 749107764) := by omega
theorem pq_3_0 {b0 b1 b2 : Int} (h0 : 65 ≤ b0 ∧ b0 ≤ 122) (h1 : 65 ≤ b1 ∧ b1 ≤ 122) (h2 : 65 ≤ b2 ∧ b2 ≤ 122) : ¬ (64 * (64 * (64 * 0 + b0 - 64) + b1 - 64) + b2 - 64 = 11443108) := by omega
theorem pq_3_1 {b0 b1 b2 : Int} (h0 : 65 ≤ b0 ∧ b0 ≤ 122) (h1 : 65 ≤ b1 ∧ b1 ≤ 122) (h2 : 65 ≤ b2 ∧ b2 ≤ 122) : ¬ (64 * (64 * (64 * 0 + b0 - 64) + b1 - 64) + b2 - 64 = 597826158) := by omega
theorem pq_3_2 {b0 b1 b2 : Int} (h0 : 65 ≤ b0 ∧ b0 ≤ 122) (h1 : 65 ≤ b1 ∧ b1 ≤ 122) (h2 : 65 ≤ b2 ∧ b2 ≤ 122) : ¬ (64 * (64 * (64 * 0 + b0 - 64) + b1 - 64) + b2 - 64 = 13245733) := by omega
theorem pq_3_3 {b0 b1 b2 : Int} (h0 : 65 ≤ b0 ∧ b0 ≤ 122) (h1 : 65 ≤ b1 ∧ b1 ≤ 122) (h2 : 65 ≤ b2 ∧ b2 ≤ 122) : ¬ (64 * (64 * (64 * 0 + b0 - 64) + b1 - 64) + b2 - 64 = 12803304) := by omega
theorem pq_3_4 {b0 b1 b2 : Int} (h0 : 65 ≤ b0 ∧ b0 ≤ 122) (h1 : 65 ≤ b1 ∧ b1 ≤ 122) (h2 : 65 ≤ b2 ∧ b2 ≤ 122) : ¬ (64 * (64 * (64 * 0 + b0 - 64) + b1 - 64) + b2 - 64 = 10624677) := by omega
theorem pq_3_5 {b0 b1 b2 : Int} (h0 : 65 ≤ b0 ∧ b0 ≤ 122) (h1 : 65 ≤ b1 ∧ b1 ≤ 122) (h2 : 65 ≤ b2 ∧ b2 ≤ 122) : ¬ (64 * (64 * (64 * 0 + b0 - 64) + b1 - 64) + b2 - 64 = 3375) := by omega
theorem pq_3_6 {b0 b1 b2 : Int} (h0 : 65 ≤ b0 ∧ b0 ≤ 122) (h1 : 65 ≤ b1 ∧ b1 ≤ 122) (h2 : 65 ≤ b2 ∧ b2 ≤ 122) : ¬ (64 * (64 * (64 * 0 + b0 - 64) + b1 - 64) + b2 - 64 = 749107764) := by omega
theorem pq_4_0 {b0 b1 b2 b3 : Int} (h0 : 65 ≤ b0 ∧ b0 ≤ 122) (h1 : 65 ≤ b1 ∧ b1 ≤ 122) (h2 : 65 ≤ b2 ∧ b2 ≤ 122) (h3 : 65 ≤ b3 ∧ b3 ≤ 122) : 64 * (64 * (64 * (64 * 0 + b0 - 64) + b1 - 64) + b2 - 64) + b3 - 64 = 11443108 ↔ b0 = 107 ∧ b1 = 105 ∧ b2 = 110 ∧ b3 = 100 := by
  constructor
  · intro h
    have e0 : b0 = 107 := by omega
    subst e0
    have e1 : b1 = 105 := by omega
    subst e1
    have e2 : b2 = 110 := by omega
    subst e2
    omega
  · intro h
    omega
theorem pq_4_1 {b0 b1 b2 b3 : Int} (h0 : 65 ≤ b0 ∧ b0 ≤ 122) (h1 : 65 ≤ b1 ∧ b1 ≤ 122) (h2 : 65 ≤ b2 ∧ b2 ≤ 122) (h3 : 65 ≤ b3 ∧ b3 ≤ 122) : ¬ (64 * (64 * (64 * (64 * 0 + b0 - 64) + b1 - 64) + b2 - 64) + b3 - 64 = 597826158) := by omega
theorem pq_4_2 {b0 b1 b2 b3 : Int} (h0 : 65 ≤ b0 ∧ b0 ≤ 122) (h1 : 65 ≤ b1 ∧ b1 ≤ 122) (h2 : 65 ≤ b2 ∧ b2 ≤ 122) (h3 : 65 ≤ b3 ∧ b3 ≤ 122) : 64 * (64 * (64 * (64 * 0 + b0 - 64) + b1 - 64) + b2 - 64) + b3 - 64 = 13245733 ↔ b0 = 114 ∧ b1 = 97 ∧ b2 = 116 ∧ b3 = 101 := by
  constructor
  · intro h
    have e0 : b0 = 114 := by omega
    subst e0
    have e1 : b1 = 97 := by omega
    subst e1
    have e2 : b2 = 116 := by omega
    subst e2
    omega
  · intro h
    omega
theorem pq_4_3 {b0 b1 b2 b3 : Int} (h0 : 65 ≤ b0 ∧ b0 ≤ 122) (h1 : 65 ≤ b1 ∧ b1 ≤ 122) (h2 : 65 ≤ b2 ∧ b2 ≤ 122) (h3 : 65 ≤ b3 ∧ b3 ≤ 122) : 64 * (64 * (64 * (64 * 0 + b0 - 64) + b1 - 64) + b2 - 64) + b3 - 64 = 12803304 ↔ b0 = 112 ∧ b1 = 117 ∧ b2 = 115 ∧ b3 = 104 := by
  constructor
  · intro h
    have e0 : b0 = 112 := by omega
    subst e0
    have e1 : b1 = 117 := by omega
    subst e1
    have e2 : b2 = 115 := by omega
    subst e2
    omega
  · intro h
    omega
theorem pq_4_4 {b0 b1 b2 b3 : Int} (h0 : 65 ≤ b0 ∧ b0 ≤ 122) (h1 : 65 ≤ b1 ∧ b1 ≤ 122) (h2 : 65 ≤ b2 ∧ b2 ≤ 122) (h3 : 65 ≤ b3 ∧ b3 ≤ 122) : 64 * (64 * (64 * (64 * 0 + b0 - 64) + b1 - 64) + b2 - 64) + b3 - 64 = 10624677 ↔ b0 = 104 ∧ b1 = 97 ∧ b2 = 122 ∧ b3 = 101 := by
  constructor
  · intro h
    have e0 : b0 = 104 := by omega
    subst e0
    have e1 : b1 = 97 := by omega
    subst e1
    have e2 : b2 = 122 := by omega
    subst e2
    omega
  · intro h
    omega
theorem pq_4_5 {b0 b1 b2 b3 : Int} (h0 : 65 ≤ b0 ∧ b0 ≤ 122) (h1 : 65 ≤ b1 ∧ b1 ≤ 122) (h2 : 65 ≤ b2 ∧ b2 ≤ 122) (h3 : 65 ≤ b3 ∧ b3 ≤ 122) : ¬ (64 * (64 * (64 * (64 * 0 + b0 - 64) + b1 - 64) + b2 - 64) + b3 - 64 = 3375) := by omega
theorem pq_4_6 {b0 b1 b2 b3 : Int} (h0 : 65 ≤ b0 ∧ b0 ≤ 122) (h1 : 65 ≤ b1 ∧ b1 ≤ 122) (h2 : 65 ≤ b2 ∧ b2 ≤ 122) (h3 : 65 ≤ b3 ∧ b3 ≤ 122) : ¬ (64 * (64 * (64 * (64 * 0 + b0 - 64) + b1 - 64) + b2 - 64) + b3 - 64 = 749107764) := by omega
theorem pq_5_0 {b0 b1 b2 b3 b4 : Int} (h0 : 65 ≤ b0 ∧ b0 ≤ 122) (h1 : 65 ≤ b1 ∧ b1 ≤ 122) (h2 : 65 ≤ b2 ∧ b2 ≤ 122) (h3 : 65 ≤ b3 ∧ b3 ≤ 122) (h4 : 65 ≤ b4 ∧ b4 ≤ 122) : ¬ (64 * (64 * (64 * (64 * (64 * 0 + b0 - 64) + b1 - 64) + b2 - 64) + b3 - 64) + b4 - 64 = 11443108) := by omega
theorem pq_5_1 {b0 b1 b2 b3 b4 : Int} (h0 : 65 ≤ b0 ∧ b0 ≤ 122) (h1 : 65 ≤ b1 ∧ b1 ≤ 122) (h2 : 65 ≤ b2 ∧ b2 ≤ 122) (h3 : 65 ≤ b3 ∧ b3 ≤ 122) (h4 : 65 ≤ b4 ∧ b4 ≤ 122) : 64 * (64 * (64 * (64 * (64 * 0 + b0 - 64) + b1 - 64) + b2 - 64) + b3 - 64) + b4 - 64 = 597826158 ↔ b0 = 99 ∧ b1 = 104 ∧ b2 = 97 ∧ b3 = 105 ∧ b4 = 110 := by
  constructor
  · intro h
    have e0 : b0 = 99 := by omega
    subst e0
    have e1 : b1 = 104 := by omega
    subst e1
    have e2 : b2 = 97 := by omega
    subst e2
    have e3 : b3 = 105 := by omega
    subst e3
    omega
  · intro h
    omega
theorem pq_5_2 {b0 b1 b2 b3 b4 : Int} (h0 : 65 ≤ b0 ∧ b0 ≤ 122) (h1 : 65 ≤ b1 ∧ b1 ≤ 122) (h2 : 65 ≤ b2 ∧ b2 ≤ 122) (h3 : 65 ≤ b3 ∧ b3 ≤ 122) (h4 : 65 ≤ b4 ∧ b4 ≤ 122) : ¬ (64 * (64 * (64 * (64 * (64 * 0 + b0 - 64) + b1 - 64) + b2 - 64) + b3 - 64) + b4 - 64 = 13245733) := by omega
theorem pq_5_3 {b0 b1 b2 b3 b4 : Int} (h0 : 65 ≤ b0 ∧ b0 ≤ 122) (h1 : 65 ≤ b1 ∧ b1 ≤ 122) (h2 : 65 ≤ b2 ∧ b2 ≤ 122) (h3 : 65 ≤ b3 ∧ b3 ≤ 122) (h4 : 65 ≤ b4 ∧ b4 ≤ 122) : ¬ (64 * (64 * (64 * (64 * (64 * 0 + b0 - 64) + b1 - 64) + b2 - 64) + b3 - 64) + b4 - 64 = 12803304) := by omega
theorem pq_5_4 {b0 b1 b2 b3 b4 : Int} (h0 : 65 ≤ b0 ∧ b0 ≤ 122) (h1 : 65 ≤ b1 ∧ b1 ≤ 122) (h2 : 65 ≤ b2 ∧ b2 ≤ 122) (h3 : 65 ≤ b3 ∧ b3 ≤ 122) (h4 : 65 ≤ b4 ∧ b4 ≤ 122) : ¬ (64 * (64 * (64 * (64 * (64 * 0 + b0 - 64) + b1 - 64) + b2 - 64) + b3 - 64) + b4 - 64 = 10624677) := by omega
theorem pq_5_5 {b0 b1 b2 b3 b4 : Int} (h0 : 65 ≤ b0 ∧ b0 ≤ 122) (h1 : 65 ≤ b1 ∧ b1 ≤ 122) (h2 : 65 ≤ b2 ∧ b2 ≤ 122) (h3 : 65 ≤ b3 ∧ b3 ≤ 122) (h4 : 65 ≤ b4 ∧ b4 ≤ 122) : ¬ (64 * (64 * (64 * (64 * (64 * 0 + b0 - 64) + b1 - 64) + b2 - 64) + b3 - 64) + b4 - 64 = 3375) := by omega
theorem pq_5_6 {b0 b1 b2 b3 b4 : Int} (h0 : 65 ≤ b0 ∧ b0 ≤ 122) (h1 : 65 ≤ b1 ∧ b1 ≤ 122) (h2 : 65 ≤ b2 ∧ b2 ≤ 122) (h3 : 65 ≤ b3 ∧ b3 ≤ 122) (h4 : 65 ≤ b4 ∧ b4 ≤ 122) : 64 * (64 * (64 * (64 * (64 * 0 + b0 - 64) + b1 - 64) + b2 - 64) + b3 - 64) + b4 - 64 = 749107764 ↔ b0 = 108 ∧ b1 = 105 ∧ b2 = 103 ∧ b3 = 104 ∧ b4 = 116 := by
  constructor
  · intro h
    have e0 : b0 = 108 := by omega
    subst e0
    have e1 : b1 = 105 := by omega
    subst e1
    have e2 : b2 = 103 := by omega
    subst e2
    have e3 : b3 = 104 := by omega
    subst e3
    omega
  · intro h
    omega
theorem pk_w {B : Nat → Int} {s m : Nat} (hm : 1 ≤ m ∧ m ≤ 5) (hB : ∀ j, j < m → isL (B (s + j)) = true) {i : Nat} (hi : i < 7) : pkz B s m = cst i ↔ wdM B s (s + m) i := by
  have hd : ∀ j, j < m → 65 ≤ B (s + j) ∧ B (s + j) ≤ 122 := fun j hj => by
    have := hB j hj
    unfold isL at this
    rw [decide_eq_true_iff] at this
    omega
  have hm5 : m = 1 ∨ m = 2 ∨ m = 3 ∨ m = 4 ∨ m = 5 := by omega
  have hi7 : i = 0 ∨ i = 1 ∨ i = 2 ∨ i = 3 ∨ i = 4 ∨ i = 5 ∨ i = 6 := by omega
  unfold wdM
  rcases hm5 with rfl | rfl | rfl | rfl | rfl
  · rcases hi7 with rfl | rfl | rfl | rfl | rfl | rfl | rfl
    · refine ⟨fun h => absurd h (pq_1_0 (hd 0 (by omega))), fun h => ?_⟩
      have h := h.1
      have : wdl 0 = 4 := rfl
      omega
    · refine ⟨fun h => absurd h (pq_1_1 (hd 0 (by omega))), fun h => ?_⟩
      have h := h.1
      have : wdl 1 = 5 := rfl
      omega
    · refine ⟨fun h => absurd h (pq_1_2 (hd 0 (by omega))), fun h => ?_⟩
      have h := h.1
      have : wdl 2 = 4 := rfl
      omega
    · refine ⟨fun h => absurd h (pq_1_3 (hd 0 (by omega))), fun h => ?_⟩
      have h := h.1
      have : wdl 3 = 4 := rfl
      omega
    · refine ⟨fun h => absurd h (pq_1_4 (hd 0 (by omega))), fun h => ?_⟩
      have h := h.1
      have : wdl 4 = 4 := rfl
      omega
    · refine ⟨fun h => absurd h (pq_1_5 (hd 0 (by omega))), fun h => ?_⟩
      have h := h.1
      have : wdl 5 = 2 := rfl
      omega
    · refine ⟨fun h => absurd h (pq_1_6 (hd 0 (by omega))), fun h => ?_⟩
      have h := h.1
      have : wdl 6 = 5 := rfl
      omega
  · rcases hi7 with rfl | rfl | rfl | rfl | rfl | rfl | rfl
    · refine ⟨fun h => absurd h (pq_2_0 (hd 0 (by omega)) (hd 1 (by omega))), fun h => ?_⟩
      have h := h.1
      have : wdl 0 = 4 := rfl
      omega
    · refine ⟨fun h => absurd h (pq_2_1 (hd 0 (by omega)) (hd 1 (by omega))), fun h => ?_⟩
      have h := h.1
      have : wdl 1 = 5 := rfl
      omega
    · refine ⟨fun h => absurd h (pq_2_2 (hd 0 (by omega)) (hd 1 (by omega))), fun h => ?_⟩
      have h := h.1
      have : wdl 2 = 4 := rfl
      omega
    · refine ⟨fun h => absurd h (pq_2_3 (hd 0 (by omega)) (hd 1 (by omega))), fun h => ?_⟩
      have h := h.1
      have : wdl 3 = 4 := rfl
      omega
    · refine ⟨fun h => absurd h (pq_2_4 (hd 0 (by omega)) (hd 1 (by omega))), fun h => ?_⟩
      have h := h.1
      have : wdl 4 = 4 := rfl
      omega
    · have q := pq_2_5 (hd 0 (by omega)) (hd 1 (by omega))
      refine ⟨fun h => ⟨rfl, ?_⟩, fun h => q.mpr ⟨h.2 0 (by decide), h.2 1 (by decide)⟩⟩
      have q2 := q.mp h
      intro j hj
      have hj : j < 2 := hj
      rcases (show j = 0 ∨ j = 1 by omega) with rfl | rfl
      · exact q2.1
      · exact q2.2
    · refine ⟨fun h => absurd h (pq_2_6 (hd 0 (by omega)) (hd 1 (by omega))), fun h => ?_⟩
      have h := h.1
      have : wdl 6 = 5 := rfl
      omega
  · rcases hi7 with rfl | rfl | rfl | rfl | rfl | rfl | rfl
    · refine ⟨fun h => absurd h (pq_3_0 (hd 0 (by omega)) (hd 1 (by omega)) (hd 2 (by omega))), fun h => ?_⟩
      have h := h.1
      have : wdl 0 = 4 := rfl
      omega
    · refine ⟨fun h => absurd h (pq_3_1 (hd 0 (by omega)) (hd 1 (by omega)) (hd 2 (by omega))), fun h => ?_⟩
      have h := h.1
      have : wdl 1 = 5 := rfl
      omega
    · refine ⟨fun h => absurd h (pq_3_2 (hd 0 (by omega)) (hd 1 (by omega)) (hd 2 (by omega))), fun h => ?_⟩
      have h := h.1
      have : wdl 2 = 4 := rfl
      omega
    · refine ⟨fun h => absurd h (pq_3_3 (hd 0 (by omega)) (hd 1 (by omega)) (hd 2 (by omega))), fun h => ?_⟩
      have h := h.1
      have : wdl 3 = 4 := rfl
      omega
    · refine ⟨fun h => absurd h (pq_3_4 (hd 0 (by omega)) (hd 1 (by omega)) (hd 2 (by omega))), fun h => ?_⟩
      have h := h.1
      have : wdl 4 = 4 := rfl
      omega
    · refine ⟨fun h => absurd h (pq_3_5 (hd 0 (by omega)) (hd 1 (by omega)) (hd 2 (by omega))), fun h => ?_⟩
      have h := h.1
      have : wdl 5 = 2 := rfl
      omega
    · refine ⟨fun h => absurd h (pq_3_6 (hd 0 (by omega)) (hd 1 (by omega)) (hd 2 (by omega))), fun h => ?_⟩
      have h := h.1
      have : wdl 6 = 5 := rfl
      omega
  · rcases hi7 with rfl | rfl | rfl | rfl | rfl | rfl | rfl
    · have q := pq_4_0 (hd 0 (by omega)) (hd 1 (by omega)) (hd 2 (by omega)) (hd 3 (by omega))
      refine ⟨fun h => ⟨rfl, ?_⟩, fun h => q.mpr ⟨h.2 0 (by decide), h.2 1 (by decide), h.2 2 (by decide), h.2 3 (by decide)⟩⟩
      have q2 := q.mp h
      intro j hj
      have hj : j < 4 := hj
      rcases (show j = 0 ∨ j = 1 ∨ j = 2 ∨ j = 3 by omega) with rfl | rfl | rfl | rfl
      · exact q2.1
      · exact q2.2.1
      · exact q2.2.2.1
      · exact q2.2.2.2
    · refine ⟨fun h => absurd h (pq_4_1 (hd 0 (by omega)) (hd 1 (by omega)) (hd 2 (by omega)) (hd 3 (by omega))), fun h => ?_⟩
      have h := h.1
      have : wdl 1 = 5 := rfl
      omega
    · have q := pq_4_2 (hd 0 (by omega)) (hd 1 (by omega)) (hd 2 (by omega)) (hd 3 (by omega))
      refine ⟨fun h => ⟨rfl, ?_⟩, fun h => q.mpr ⟨h.2 0 (by decide), h.2 1 (by decide), h.2 2 (by decide), h.2 3 (by decide)⟩⟩
      have q2 := q.mp h
      intro j hj
      have hj : j < 4 := hj
      rcases (show j = 0 ∨ j = 1 ∨ j = 2 ∨ j = 3 by omega) with rfl | rfl | rfl | rfl
      · exact q2.1
      · exact q2.2.1
      · exact q2.2.2.1
      · exact q2.2.2.2
    · have q := pq_4_3 (hd 0 (by omega)) (hd 1 (by omega)) (hd 2 (by omega)) (hd 3 (by omega))
      refine ⟨fun h => ⟨rfl, ?_⟩, fun h => q.mpr ⟨h.2 0 (by decide), h.2 1 (by decide), h.2 2 (by decide), h.2 3 (by decide)⟩⟩
      have q2 := q.mp h
      intro j hj
      have hj : j < 4 := hj
      rcases (show j = 0 ∨ j = 1 ∨ j = 2 ∨ j = 3 by omega) with rfl | rfl | rfl | rfl
      · exact q2.1
      · exact q2.2.1
      · exact q2.2.2.1
      · exact q2.2.2.2
    · have q := pq_4_4 (hd 0 (by omega)) (hd 1 (by omega)) (hd 2 (by omega)) (hd 3 (by omega))
      refine ⟨fun h => ⟨rfl, ?_⟩, fun h => q.mpr ⟨h.2 0 (by decide), h.2 1 (by decide), h.2 2 (by decide), h.2 3 (by decide)⟩⟩
      have q2 := q.mp h
      intro j hj
      have hj : j < 4 := hj
      rcases (show j = 0 ∨ j = 1 ∨ j = 2 ∨ j = 3 by omega) with rfl | rfl | rfl | rfl
      · exact q2.1
      · exact q2.2.1
      · exact q2.2.2.1
      · exact q2.2.2.2
    · refine ⟨fun h => absurd h (pq_4_5 (hd 0 (by omega)) (hd 1 (by omega)) (hd 2 (by omega)) (hd 3 (by omega))), fun h => ?_⟩
      have h := h.1
      have : wdl 5 = 2 := rfl
      omega
    · refine ⟨fun h => absurd h (pq_4_6 (hd 0 (by omega)) (hd 1 (by omega)) (hd 2 (by omega)) (hd 3 (by omega))), fun h => ?_⟩
      have h := h.1
      have : wdl 6 = 5 := rfl
      omega
  · rcases hi7 with rfl | rfl | rfl | rfl | rfl | rfl | rfl
    · refine ⟨fun h => absurd h (pq_5_0 (hd 0 (by omega)) (hd 1 (by omega)) (hd 2 (by omega)) (hd 3 (by omega)) (hd 4 (by omega))), fun h => ?_⟩
      have h := h.1
      have : wdl 0 = 4 := rfl
      omega
    · have q := pq_5_1 (hd 0 (by omega)) (hd 1 (by omega)) (hd 2 (by omega)) (hd 3 (by omega)) (hd 4 (by omega))
      refine ⟨fun h => ⟨rfl, ?_⟩, fun h => q.mpr ⟨h.2 0 (by decide), h.2 1 (by decide), h.2 2 (by decide), h.2 3 (by decide), h.2 4 (by decide)⟩⟩
      have q2 := q.mp h
      intro j hj
      have hj : j < 5 := hj
      rcases (show j = 0 ∨ j = 1 ∨ j = 2 ∨ j = 3 ∨ j = 4 by omega) with rfl | rfl | rfl | rfl | rfl
      · exact q2.1
      · exact q2.2.1
      · exact q2.2.2.1
      · exact q2.2.2.2.1
      · exact q2.2.2.2.2
    · refine ⟨fun h => absurd h (pq_5_2 (hd 0 (by omega)) (hd 1 (by omega)) (hd 2 (by omega)) (hd 3 (by omega)) (hd 4 (by omega))), fun h => ?_⟩
      have h := h.1
      have : wdl 2 = 4 := rfl
      omega
    · refine ⟨fun h => absurd h (pq_5_3 (hd 0 (by omega)) (hd 1 (by omega)) (hd 2 (by omega)) (hd 3 (by omega)) (hd 4 (by omega))), fun h => ?_⟩
      have h := h.1
      have : wdl 3 = 4 := rfl
      omega
    · refine ⟨fun h => absurd h (pq_5_4 (hd 0 (by omega)) (hd 1 (by omega)) (hd 2 (by omega)) (hd 3 (by omega)) (hd 4 (by omega))), fun h => ?_⟩
      have h := h.1
      have : wdl 4 = 4 := rfl
      omega
    · refine ⟨fun h => absurd h (pq_5_5 (hd 0 (by omega)) (hd 1 (by omega)) (hd 2 (by omega)) (hd 3 (by omega)) (hd 4 (by omega))), fun h => ?_⟩
      have h := h.1
      have : wdl 5 = 2 := rfl
      omega
    · have q := pq_5_6 (hd 0 (by omega)) (hd 1 (by omega)) (hd 2 (by omega)) (hd 3 (by omega)) (hd 4 (by omega))
      refine ⟨fun h => ⟨rfl, ?_⟩, fun h => q.mpr ⟨h.2 0 (by decide), h.2 1 (by decide), h.2 2 (by decide), h.2 3 (by decide), h.2 4 (by decide)⟩⟩
      have q2 := q.mp h
      intro j hj
      have hj : j < 5 := hj
      rcases (show j = 0 ∨ j = 1 ∨ j = 2 ∨ j = 3 ∨ j = 4 by omega) with rfl | rfl | rfl | rfl | rfl
      · exact q2.1
      · exact q2.2.1
      · exact q2.2.2.1
      · exact q2.2.2.2.1
      · exact q2.2.2.2.2
