theorem si_1 (u : Mem) (k j : Nat) (x : Int32) (a b : Nat) : (si u k j x).1 a b = if a = k ∧ b = j then x else u.1 a b := by
  unfold si va_up upd
  by_cases h : a = k
  · subst h; by_cases h2 : b = j <;> simp [h2]
  · simp [h]
theorem si_2 (u : Mem) (k j : Nat) (x : Int32) : (si u k j x).2 = u.2 := rfl
theorem sl_1 (u : Mem) (k j : Nat) (x : Int64) : (sl u k j x).1 = u.1 := rfl
theorem sl_2 (u : Mem) (k j : Nat) (x : Int64) (a b : Nat) : (sl u k j x).2 a b = if a = k ∧ b = j then x else u.2 a b := by
  unfold sl va_up vp_updL
  by_cases h : a = k
  · subst h; by_cases h2 : b = j <;> simp [h2]
  · simp [h]
theorem sr_1 (u : Mem) (k : Nat) (f : Nat → Int32) (a b : Nat) : (sr u k f).1 a b = if a = k then f b else u.1 a b := by
  unfold sr va_up
  by_cases h : a = k <;> simp [h]
theorem sr_2 (u : Mem) (k : Nat) (f : Nat → Int32) : (sr u k f).2 = u.2 := rfl
theorem srl_1 (u : Mem) (k : Nat) (f : Nat → Int64) : (srl u k f).1 = u.1 := rfl
theorem srl_2 (u : Mem) (k : Nat) (f : Nat → Int64) (a b : Nat) : (srl u k f).2 a b = if a = k then f b else u.2 a b := by
  unfold srl va_up
  by_cases h : a = k <;> simp [h]
theorem mem_ext {u w : Mem} (h1 : ∀ a b, u.1 a b = w.1 a b) (h2 : ∀ a b, u.2 a b = w.2 a b) : u = w := Prod.ext (funext fun a => funext fun b => h1 a b) (funext fun a => funext fun b => h2 a b)
theorem cpy0 {α : Type} (f g : Nat → α) (n j : Nat) : va_cpy f g 0 0 n j = if j < n then f j else g j := by
  unfold va_cpy
  by_cases h : j < n <;> simp [h]
theorem i_le (a b : Int32) : a ≤ b ↔ a.toInt ≤ b.toInt := Int32.le_iff_toInt_le
theorem i_lt (a b : Int32) : a < b ↔ a.toInt < b.toInt := Int32.lt_iff_toInt_lt
theorem i_eq (a b : Int32) : a = b ↔ a.toInt = b.toInt := Int32.toInt_inj.symm
theorem j_le (a b : Int64) : a ≤ b ↔ a.toInt ≤ b.toInt := Int64.le_iff_toInt_le
theorem j_lt (a b : Int64) : a < b ↔ a.toInt < b.toInt := Int64.lt_iff_toInt_lt
theorem j_eq (a b : Int64) : a = b ↔ a.toInt = b.toInt := Int64.toInt_inj.symm
theorem i_rng (x : Int32) : -2147483648 ≤ x.toInt ∧ x.toInt < 2147483648 := ⟨Int32.minValue_le_toInt x, Int32.toInt_lt x⟩
theorem bm32 {z : Int} (h1 : -2147483648 ≤ z) (h2 : z < 2147483648) : z.bmod 4294967296 = z := by
  rw [Int.bmod_eq_of_le] <;> omega
theorem bm64 {z : Int} (h1 : -9223372036854775808 ≤ z) (h2 : z < 9223372036854775808) : z.bmod 18446744073709551616 = z := by
  rw [Int.bmod_eq_of_le] <;> omega
theorem i_add {a b : Int32} (h1 : -2147483648 ≤ a.toInt + b.toInt) (h2 : a.toInt + b.toInt < 2147483648) : (a + b).toInt = a.toInt + b.toInt := by
  rw [Int32.toInt_add]; exact bm32 h1 h2
theorem i_sub {a b : Int32} (h1 : -2147483648 ≤ a.toInt - b.toInt) (h2 : a.toInt - b.toInt < 2147483648) : (a - b).toInt = a.toInt - b.toInt := by
  rw [Int32.toInt_sub]; exact bm32 h1 h2
theorem i_mul {a b : Int32} (h1 : -2147483648 ≤ a.toInt * b.toInt) (h2 : a.toInt * b.toInt < 2147483648) : (a * b).toInt = a.toInt * b.toInt := by
  rw [Int32.toInt_mul]; exact bm32 h1 h2
theorem j_add {a b : Int64} (h1 : -9223372036854775808 ≤ a.toInt + b.toInt) (h2 : a.toInt + b.toInt < 9223372036854775808) : (a + b).toInt = a.toInt + b.toInt := by
  rw [Int64.toInt_add]; exact bm64 h1 h2
theorem j_sub {a b : Int64} (h1 : -9223372036854775808 ≤ a.toInt - b.toInt) (h2 : a.toInt - b.toInt < 9223372036854775808) : (a - b).toInt = a.toInt - b.toInt := by
  rw [Int64.toInt_sub]; exact bm64 h1 h2
theorem j_mul {a b : Int64} (h1 : -9223372036854775808 ≤ a.toInt * b.toInt) (h2 : a.toInt * b.toInt < 9223372036854775808) : (a * b).toInt = a.toInt * b.toInt := by
  rw [Int64.toInt_mul]; exact bm64 h1 h2
theorem j_of (a : Int32) : a.toInt64.toInt = a.toInt := Int32.toInt_toInt64 a
/-- a number that isn't below 0, as a Nat -/
theorem i_nat {x : Int32} (h : 0 ≤ x.toInt) : x = nI x.toInt.toNat := by
  rw [i_eq, nI_toInt (by have := (i_rng x).2; omega)]; omega
theorem i_cl {x : Int32} (h : 0 ≤ x.toInt) : (x.toNatClampNeg : Int) = x.toInt := by
  have e := i_nat h
  have h2 := (i_rng x).2
  rw [e, nI_clamp (by omega), nI_toInt (by omega)]
theorem nI_n {n : Nat} (h : n < 2147483648) : (nI n).toInt = (n : Int) := nI_toInt h
theorem inB_n {i n : Nat} (h : i < n) (hn : n < 2147483648) : inB (nI i) n := by
  unfold inB; rw [nI_n (by omega)]; omega
theorem cl_n {n : Nat} (h : n < 2147483648) : (nI n).toNatClampNeg = n := nI_clamp h
