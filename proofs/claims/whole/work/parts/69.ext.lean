def cmpB (b : Bool) (x e : Int) : Prop := if b = true then x ≤ e else e ≤ x
def IsB (b : Bool) (F : Nat → Int) (a c : Nat) (e : Int) : Prop := (∃ x, a ≤ x ∧ x ≤ c ∧ F x = e) ∧ ∀ x, a ≤ x → x ≤ c → cmpB b (F x) e
theorem IsB_u {b : Bool} {F : Nat → Int} {a c : Nat} {e e2 : Int} (h1 : IsB b F a c e) (h2 : IsB b F a c e2) : e = e2 := by
  obtain ⟨⟨x, x1, x2, x3⟩, x4⟩ := h1
  obtain ⟨⟨y, y1, y2, y3⟩, y4⟩ := h2
  have p := x4 y y1 y2
  have r := y4 x x1 x2
  rw [y3] at p
  rw [x3] at r
  unfold cmpB at p r
  cases b
  · simp only [Bool.false_eq_true, if_false] at p r; omega
  · simp only [if_true] at p r; omega
def pkB (b : Bool) (x y : Int) : Int := if b = true then (if x < y then y else x) else (if y < x then y else x)
theorem pkI {b : Bool} {x y : Int} (hx : 0 ≤ x ∧ x ≤ 9999) (hy : 0 ≤ y ∧ y ≤ 9999) : (if b = true then (if zI x < zI y then zI y else zI x) else (if zI y < zI x then zI y else zI x)) = zI (pkB b x y) := by
  have h1 : (zI x < zI y) = (x < y) := by rw [i_lt, zI_n (by omega) (by omega), zI_n (by omega) (by omega)]
  have h2 : (zI y < zI x) = (y < x) := by rw [i_lt, zI_n (by omega) (by omega), zI_n (by omega) (by omega)]
  unfold pkB
  cases b
  · simp only [Bool.false_eq_true, if_false, h2]; split <;> rfl
  · simp only [if_true, h1]; split <;> rfl
theorem pkB_c (b : Bool) (x y : Int) : cmpB b x (pkB b x y) ∧ cmpB b y (pkB b x y) ∧ (pkB b x y = x ∨ pkB b x y = y) := by
  unfold cmpB pkB
  cases b
  · simp only [Bool.false_eq_true, if_false]; split <;> omega
  · simp only [if_true]; split <;> omega
theorem cmpB_t {b : Bool} {x y z : Int} (h1 : cmpB b x y) (h2 : cmpB b y z) : cmpB b x z := by
  unfold cmpB at *
  cases b
  · simp only [Bool.false_eq_true, if_false] at *; omega
  · simp only [if_true] at *; omega
theorem cmpB_r (b : Bool) (x : Int) : cmpB b x x := by
  unfold cmpB; cases b <;> simp
def exZ (b : Bool) (F : Nat → Int) (a : Nat) : Nat → Int
  | 0 => F a
  | d + 1 => pkB b (exZ b F a d) (F (a + d + 1))
theorem exZ_is (b : Bool) (F : Nat → Int) (a : Nat) : ∀ d, IsB b F a (a + d) (exZ b F a d) := by
  intro d
  induction d with
  | zero =>
    refine ⟨⟨a, by omega, by omega, rfl⟩, fun x h1 h2 => ?_⟩
    have : x = a := by omega
    rw [this]; exact cmpB_r b _
  | succ d ih =>
    obtain ⟨⟨x, x1, x2, x3⟩, x4⟩ := ih
    obtain ⟨c1, c2, c3⟩ := pkB_c b (exZ b F a d) (F (a + d + 1))
    rw [exZ]
    refine ⟨?_, fun y h1 h2 => ?_⟩
    · rcases c3 with h | h
      · exact ⟨x, x1, by omega, by rw [h]; exact x3⟩
      · exact ⟨a + d + 1, by omega, by omega, h.symm⟩
    · by_cases hy : y = a + d + 1
      · rw [hy]; exact c2
      · exact cmpB_t (x4 y h1 (by omega)) c1
theorem dv_ex {V w : Int} (hw : 0 < w) (b : Bool) : dvZ b (V * w) w = V := by
  unfold dvZ
  cases b
  · simp only [Bool.false_eq_true, if_false]; exact Int.mul_ediv_cancel _ (by omega)
  · simp only [if_true]
    have x1 : (V * w + w - 1) / w ≤ V := (Int.ediv_le_iff_le_mul hw).mpr (by omega)
    have x2 : V ≤ (V * w + w - 1) / w := (Int.le_ediv_iff_mul_le hw).mpr (by omega)
    omega
theorem dv_mono {z y w : Int} (hw : 0 < w) (h : z ≤ y) (b : Bool) : dvZ b z w ≤ dvZ b y w := by
  unfold dvZ
  cases b
  · simp only [Bool.false_eq_true, if_false]; exact Int.ediv_le_ediv hw h
  · simp only [if_true]; exact Int.ediv_le_ediv hw (by omega)
theorem ln_l (g : Nat → Int32) (t : Nat) (b : Bool) (i : Nat) : lnZ g t b i (tH g t (i - 1)) = tV g t b (i - 1) * (tH g t i - tH g t (i - 1)) := by
  unfold lnZ; rw [Int.sub_self, Int.sub_zero, Int.mul_zero, Int.add_zero]
theorem ln_h (g : Nat → Int32) (t : Nat) (b : Bool) (i : Nat) : lnZ g t b i (tH g t i) = tV g t b i * (tH g t i - tH g t (i - 1)) := by
  unfold lnZ; rw [Int.sub_self, Int.mul_zero, Int.zero_add]
/-- in a stretch the law is the line -/
theorem sp_str {g : Nat → Int32} (hO : lawOk g) {t s : Nat} (ht : t < 7) (h0 : s ≠ 0) (hs : s < tc g t) (b : Bool) {x : Int} (h1 : tH g t (s - 1) ≤ x) (h2 : x < tH g t s) : spZ g t b x = dvZ b (lnZ g t b s x) (tH g t s - tH g t (s - 1)) := by
  have hp : psr (tH g t) x (tc g t) 0 = s := ps_eq (by omega) (fun _ => h2) (fun j hj => by
    have := tH_mono hO ht (s - 1 - j) j (by omega)
    rw [show j + (s - 1 - j) = s - 1 by omega] at this; omega)
  unfold spZ
  rw [hp, spI, if_neg (by omega), if_neg h0, if_neg (by omega)]
theorem sp_pt {g : Nat → Int32} (hO : lawOk g) {t j : Nat} (ht : t < 7) (hj : j < tc g t) (b : Bool) : spZ g t b (tH g t j) = tV g t b j := by
  have hp : psr (tH g t) (tH g t j) (tc g t) 0 = j + 1 := ps_eq (by omega) (fun h => (tH_r hO ht hj).2.2 h) (fun i hi => by
    have := tH_mono hO ht (j - i) i (by omega)
    rw [show i + (j - i) = j by omega] at this; omega)
  unfold spZ
  rw [hp, spI, if_neg (by omega), if_neg (by omega)]
  by_cases h : j + 1 = tc g t
  · rw [if_pos h]; rfl
  · rw [if_neg h]
    have h2 := ln_l g t b (j + 1)
    rw [show j + 1 - 1 = j by omega] at h2 ⊢
    have h3 := (tH_r hO ht hj).2.2 (by omega)
    rw [h2, dv_ex (by omega)]
theorem ln_lin (g : Nat → Int32) (t : Nat) (b : Bool) (i : Nat) (x y : Int) : lnZ g t b i y - lnZ g t b i x = (tV g t b i - tV g t b (i - 1)) * (y - x) := by
  unfold lnZ
  generalize tV g t b i = P
  generalize tV g t b (i - 1) = Q
  generalize tH g t i = R
  generalize tH g t (i - 1) = S
  simp only [Int.mul_sub, Int.sub_mul]
  omega
/-- the ends and the points between them are enough -/
theorem ext_is {g : Nat → Int32} (hO : lawOk g) {t a c : Nat} (ht : t < 7) (b : Bool) {e : Int} (h0 : ∃ x, a ≤ x ∧ x ≤ c ∧ spZ g t b ((x : Nat) : Int) = e) (h1 : cmpB b (spZ g t b a) e) (h2 : cmpB b (spZ g t b c) e) (h3 : ∀ j, j < tc g t → (a : Int) < tH g t j → tH g t j < c → cmpB b (tV g t b j) e) : IsB b (fun x => spZ g t b x) a c e := by
  refine ⟨h0, fun x hx1 hx2 => ?_⟩
  show cmpB b (spZ g t b x) e
  obtain ⟨p1, p2, p3⟩ := psx g t x
  generalize hs : psr (tH g t) x (tc g t) 0 = s at p1 p2 p3
  by_cases hn : tc g t = 0
  · have : ∀ y, spZ g t b y = 0 := fun y => by unfold spZ spI; rw [if_pos hn]
    rw [this] at *; exact h1
  by_cases hs0 : s = 0
  · have e1 : ∀ y : Int, y ≤ x → spZ g t b y = tV g t b 0 := fun y hy => by
      have : psr (tH g t) y (tc g t) 0 = 0 := ps_eq (by omega) (fun _ => by have := p2 (by omega); rw [hs0] at this; omega) (fun j hj => by omega)
      unfold spZ; rw [this, spI, if_neg hn, if_pos rfl]
    rw [e1 x (by omega), ← e1 a (by omega)]; exact h1
  by_cases hsn : s = tc g t
  · have e1 : ∀ y : Int, (x : Int) ≤ y → spZ g t b y = tV g t b (s - 1) := fun y hy => by
      have : psr (tH g t) y (tc g t) 0 = s := ps_eq (by omega) (fun _ => by omega) (fun j hj => by have := p3 j hj; omega)
      unfold spZ; rw [this, spI, if_neg hn, if_neg hs0, if_pos hsn]
    rw [e1 x (by omega), ← e1 c (by omega)]; exact h2
  have hl := p3 (s - 1) (by omega)
  have hh := p2 (by omega)
  have hst : s < tc g t := by omega
  have rl := tH_r hO ht (p := s - 1) (by omega)
  have rh := tH_r hO ht hst
  have hw : 0 < tH g t s - tH g t (s - 1) := by omega
  have A : ∃ y : Int, y ≤ x ∧ cmpB b (dvZ b (lnZ g t b s y) (tH g t s - tH g t (s - 1))) e := by
    by_cases h : tH g t (s - 1) ≤ a
    · exact ⟨a, by omega, by rw [← sp_str hO ht hs0 hst b h (by omega)]; exact h1⟩
    · refine ⟨tH g t (s - 1), hl, ?_⟩
      rw [ln_l, dv_ex hw]
      by_cases h4 : tH g t (s - 1) < c
      · exact h3 (s - 1) (by omega) (by omega) h4
      · have : ((c : Nat) : Int) = tH g t (s - 1) := by omega
        rw [this, sp_pt hO ht (by omega)] at h2; exact h2
  have B : ∃ y : Int, (x : Int) ≤ y ∧ cmpB b (dvZ b (lnZ g t b s y) (tH g t s - tH g t (s - 1))) e := by
    by_cases h : (c : Int) < tH g t s
    · exact ⟨c, by omega, by rw [← sp_str hO ht hs0 hst b (by omega) h]; exact h2⟩
    · refine ⟨tH g t s, by omega, ?_⟩
      rw [ln_h, dv_ex hw]
      by_cases h4 : tH g t s < c
      · exact h3 s hst (by omega) h4
      · have : ((c : Nat) : Int) = tH g t s := by omega
        rw [this, sp_pt hO ht hst] at h2; exact h2
  obtain ⟨y, y1, y2⟩ := A
  obtain ⟨z, z1, z2⟩ := B
  rw [sp_str hO ht hs0 hst b hl hh]
  have ly := ln_lin g t b s y x
  have lz := ln_lin g t b s x z
  by_cases hv : tV g t b (s - 1) ≤ tV g t b s
  · have m1 := Int.mul_nonneg (show 0 ≤ tV g t b s - tV g t b (s - 1) by omega) (show 0 ≤ (x : Int) - y by omega)
    have m2 := Int.mul_nonneg (show 0 ≤ tV g t b s - tV g t b (s - 1) by omega) (show 0 ≤ z - (x : Int) by omega)
    have d1 := dv_mono hw (show lnZ g t b s y ≤ lnZ g t b s x by omega) b
    have d2 := dv_mono hw (show lnZ g t b s x ≤ lnZ g t b s z by omega) b
    unfold cmpB at *
    cases b
    · simp only [Bool.false_eq_true, if_false] at *; omega
    · simp only [if_true] at *; omega
  · have m1 := Int.mul_nonneg (show 0 ≤ tV g t b (s - 1) - tV g t b s by omega) (show 0 ≤ (x : Int) - y by omega)
    have m2 := Int.mul_nonneg (show 0 ≤ tV g t b (s - 1) - tV g t b s by omega) (show 0 ≤ z - (x : Int) by omega)
    rw [Int.sub_mul] at m1 m2 ly lz
    have d1 := dv_mono hw (show lnZ g t b s x ≤ lnZ g t b s y by omega) b
    have d2 := dv_mono hw (show lnZ g t b s z ≤ lnZ g t b s x by omega) b
    unfold cmpB at *
    cases b
    · simp only [Bool.false_eq_true, if_false] at *; omega
    · simp only [if_true] at *; omega
def exV (g : Nat → Int32) (t : Nat) (b : Bool) (a c : Nat) : Int := exZ b (fun x => spZ g t b x) a (c - a)
theorem exV_is (g : Nat → Int32) (t : Nat) (b : Bool) {a c : Nat} (h : a ≤ c) : IsB b (fun x => spZ g t b x) a c (exV g t b a c) := by
  have := exZ_is b (fun x => spZ g t b x) a (c - a)
  rw [show a + (c - a) = c by omega] at this
  exact this
theorem exX_loop {u : Mem} {T : Nat} {g : Nat → Int32} (hL : relL u T g) (hO : lawOk g) {t a c : Nat} (ht : t < 7) (ha : a ≤ c) (hc : c ≤ 999) (b : Bool) : ∀ (d p f : Nat) (e : Int), p + d = tc g t → d < f → (0 ≤ e ∧ e ≤ 9999) → (∃ x, a ≤ x ∧ x ≤ c ∧ spZ g t b ((x : Nat) : Int) = e) → cmpB b (spZ g t b a) e → cmpB b (spZ g t b c) e → (∀ j, j < p → (a : Int) < tH g t j → tH g t j < c → cmpB b (tV g t b j) e) → fX3_extreme_L47 T (nI t) (nI a) (nI c) b u f (zI e) (nI p) = some (zI (exV g t b a c)) := by
  obtain ⟨c1, c2⟩ := tc_i hO ht
  intro d
  induction d with
  | zero =>
    intro p f e hp hf he h0 h1 h2 h3
    obtain ⟨f, rfl⟩ : ∃ k, f = k + 1 := ⟨f - 1, by omega⟩
    rw [fX3_extreme_L47, if_pos (inB_n ht (by omega)), cl_n (by omega), hL.2.2.1 t ht, c1, if_pos ((le_nI (by omega) (by omega)).mpr (by omega)), IsB_u (ext_is hO ht b h0 h1 h2 (fun j hj => h3 j (by omega))) (exV_is g t b ha)]
  | succ d ih =>
    intro p f e hp hf he h0 h1 h2 h3
    obtain ⟨f, rfl⟩ : ∃ k, f = k + 1 := ⟨f - 1, by omega⟩
    have hr := tH_r hO ht (p := p) (by omega)
    have hv := tV_r hO ht (p := p) (by omega) b
    rw [fX3_extreme_L47, if_pos (inB_n ht (by omega)), cl_n (by omega), hL.2.2.1 t ht, c1, if_neg (fun h => by have := (le_nI (by omega) (by omega)).mp h; omega), ptX0 hL hO ht (by omega), Option.bind_some, nI_1]
    by_cases q1 : tH g t p ≤ a
    · rw [if_pos (by rw [i_le, zI_n (by omega) (by omega), nI_n (by omega)]; exact q1)]
      refine ih (p + 1) f e (by omega) (by omega) he h0 h1 h2 (fun j hj k1 k2 => ?_)
      by_cases h : j = p
      · subst h; omega
      · exact h3 j (by omega) k1 k2
    · rw [if_neg (by rw [i_le, zI_n (by omega) (by omega), nI_n (by omega)]; exact q1)]
      by_cases q2 : (c : Int) ≤ tH g t p
      · rw [if_pos (by rw [i_le, zI_n (by omega) (by omega), nI_n (by omega)]; exact q2)]
        refine ih (p + 1) f e (by omega) (by omega) he h0 h1 h2 (fun j hj k1 k2 => ?_)
        by_cases h : j = p
        · subst h; omega
        · exact h3 j (by omega) k1 k2
      · rw [if_neg (by rw [i_le, zI_n (by omega) (by omega), nI_n (by omega)]; exact q2), ptXb hL hO ht (by omega), Option.bind_some]
        obtain ⟨k1, k2, k3⟩ := pkB_c b e (tV g t b p)
        rw [pkI he hv]
        refine ih (p + 1) f _ (by omega) (by omega) (by rcases k3 with h | h <;> rw [h] <;> omega) ?_ (cmpB_t h1 k1) (cmpB_t h2 k1) (fun j hj j1 j2 => ?_)
        · rcases k3 with h | h
          · rw [h]; exact h0
          · refine ⟨(tH g t p).toNat, by omega, by omega, ?_⟩
            rw [show (((tH g t p).toNat : Nat) : Int) = tH g t p by omega, sp_pt hO ht (by omega), h]
        · by_cases h : j = p
          · subst h; exact k2
          · exact cmpB_t (h3 j (by omega) j1 j2) k1
theorem exX {u : Mem} {T : Nat} {g : Nat → Int32} (hL : relL u T g) (hO : lawOk g) {t a c : Nat} (ht : t < 7) (ha : a ≤ c) (hc : c ≤ 999) (b : Bool) : fX3_extreme T (nI t) (nI a) (nI c) b u = some (zI (exV g t b a c)) := by
  have r1 := sp_r hO ht b a
  have r2 := sp_r hO ht b c
  unfold fX3_extreme
  rw [spX hL hO ht (by omega), Option.bind_some, spX hL hO ht hc, Option.bind_some]
  obtain ⟨k1, k2, k3⟩ := pkB_c b (spZ g t b a) (spZ g t b c)
  rw [pkI r1 r2]
  refine exX_loop hL hO ht ha hc b (tc g t) 0 fu0 _ (by omega) (fu_n (by have := (tc_i hO ht).2; omega)) (by rcases k3 with h | h <;> rw [h] <;> omega) ?_ k1 k2 (fun j hj => by omega)
  rcases k3 with h | h
  · exact ⟨a, by omega, ha, h.symm⟩
  · exact ⟨c, ha, by omega, h.symm⟩
/-- the reference's least and most -/
theorem mostM {g : Nat → Int32} {v : Mem} (hO : lawOk g) (hd : dnF g 7000 v) {t c : Nat} (ht : t < 7) (hc : c < 1000) : ∀ (d x f : Nat) (a : Nat) (e : Int), x + d = c + 1 → a ≤ x → d < f → (0 ≤ e ∧ e ≤ 9999) → (∃ y, a ≤ y ∧ y ≤ c ∧ spZ g t true ((y : Nat) : Int) = e) → (∀ y, a ≤ y → y < x → spZ g t true ((y : Nat) : Int) ≤ e) → fX12_most_L7 10 (nI (1000 * t + c)) v f (zI e) (nI (1000 * t + x)) = some (zI (exV g t true a c)) := by
  intro d
  induction d with
  | zero =>
    intro x f a e hx ha hf he h0 h1
    obtain ⟨f, rfl⟩ : ∃ k, f = k + 1 := ⟨f - 1, by omega⟩
    have hac : a ≤ c := by obtain ⟨y, y1, y2, y3⟩ := h0; omega
    rw [fX12_most_L7, if_pos ((lt_nI (by omega) (by omega)).mpr (by omega)), IsB_u (b := true) ⟨h0, fun y y1 y2 => by unfold cmpB; simp only [if_true]; exact h1 y y1 (by omega)⟩ (exV_is g t true hac)]
  | succ d ih =>
    intro x f a e hx ha hf he h0 h1
    obtain ⟨f, rfl⟩ : ∃ k, f = k + 1 := ⟨f - 1, by omega⟩
    have hr := sp_r hO ht true x
    have hb : inB (nI (1000 * t + x)) 7000 := inB_n (by omega) (by omega)
    rw [fX12_most_L7, if_neg (fun h => by have := (lt_nI (by omega) (by omega)).mp h; omega), if_pos hb, cl_n (by omega), (dn_at hd ht (by omega)).2, if_pos hb, nI_1, show 1000 * t + x + 1 = 1000 * t + (x + 1) by omega]
    by_cases h : spZ g t true x ≤ e
    · rw [if_pos (by rw [i_le, zI_n (by omega) (by omega), zI_n (by omega) (by omega)]; exact h)]
      refine ih (x + 1) f a e (by omega) (by omega) (by omega) he h0 (fun y y1 y2 => ?_)
      by_cases hy : y = x
      · rw [hy]; exact h
      · exact h1 y y1 (by omega)
    · rw [if_neg (by rw [i_le, zI_n (by omega) (by omega), zI_n (by omega) (by omega)]; exact h)]
      refine ih (x + 1) f a _ (by omega) (by omega) (by omega) hr ⟨x, ha, by omega, rfl⟩ (fun y y1 y2 => ?_)
      by_cases hy : y = x
      · rw [hy]; exact Int.le_refl _
      · have := h1 y y1 (by omega); omega
theorem leastM {g : Nat → Int32} {v : Mem} (hO : lawOk g) (hd : dnF g 7000 v) {t c : Nat} (ht : t < 7) (hc : c < 1000) : ∀ (d x f : Nat) (a : Nat) (e : Int), x + d = c + 1 → a ≤ x → d < f → (0 ≤ e ∧ e ≤ 9999) → (∃ y, a ≤ y ∧ y ≤ c ∧ spZ g t false ((y : Nat) : Int) = e) → (∀ y, a ≤ y → y < x → e ≤ spZ g t false ((y : Nat) : Int)) → fX12_least_L7 9 (nI (1000 * t + c)) v f (zI e) (nI (1000 * t + x)) = some (zI (exV g t false a c)) := by
  intro d
  induction d with
  | zero =>
    intro x f a e hx ha hf he h0 h1
    obtain ⟨f, rfl⟩ : ∃ k, f = k + 1 := ⟨f - 1, by omega⟩
    have hac : a ≤ c := by obtain ⟨y, y1, y2, y3⟩ := h0; omega
    rw [fX12_least_L7, if_pos ((lt_nI (by omega) (by omega)).mpr (by omega)), IsB_u (b := false) ⟨h0, fun y y1 y2 => by unfold cmpB; simp only [Bool.false_eq_true, if_false]; exact h1 y y1 (by omega)⟩ (exV_is g t false hac)]
  | succ d ih =>
    intro x f a e hx ha hf he h0 h1
    obtain ⟨f, rfl⟩ : ∃ k, f = k + 1 := ⟨f - 1, by omega⟩
    have hr := sp_r hO ht false x
    have hb : inB (nI (1000 * t + x)) 7000 := inB_n (by omega) (by omega)
    rw [fX12_least_L7, if_neg (fun h => by have := (lt_nI (by omega) (by omega)).mp h; omega), if_pos hb, cl_n (by omega), (dn_at hd ht (by omega)).1, if_pos hb, nI_1, show 1000 * t + x + 1 = 1000 * t + (x + 1) by omega]
    by_cases h : e ≤ spZ g t false x
    · rw [if_pos (by rw [i_le, zI_n (by omega) (by omega), zI_n (by omega) (by omega)]; exact h)]
      refine ih (x + 1) f a e (by omega) (by omega) (by omega) he h0 (fun y y1 y2 => ?_)
      by_cases hy : y = x
      · rw [hy]; exact h
      · exact h1 y y1 (by omega)
    · rw [if_neg (by rw [i_le, zI_n (by omega) (by omega), zI_n (by omega) (by omega)]; exact h)]
      refine ih (x + 1) f a _ (by omega) (by omega) (by omega) hr ⟨x, ha, by omega, rfl⟩ (fun y y1 y2 => ?_)
      by_cases hy : y = x
      · rw [hy]; exact Int.le_refl _
      · have := h1 y y1 (by omega); omega
theorem mostV {g : Nat → Int32} {v : Mem} (hO : lawOk g) (hd : dnF g 7000 v) {t a c : Nat} (ht : t < 7) (ha : a ≤ c) (hc : c < 1000) : fX12_most 10 (nI (1000 * t + a)) (nI (1000 * t + c)) v = some (zI (exV g t true a c)) := by
  unfold fX12_most
  rw [if_pos (inB_n (by omega) (by omega)), cl_n (by omega), (dn_at hd ht (by omega)).2]
  exact mostM hO hd ht hc (c + 1 - a) a fu0 a _ (by omega) (by omega) (fu_n (by omega)) (sp_r hO ht true a) ⟨a, by omega, ha, rfl⟩ (fun y y1 y2 => by omega)
theorem leastV {g : Nat → Int32} {v : Mem} (hO : lawOk g) (hd : dnF g 7000 v) {t a c : Nat} (ht : t < 7) (ha : a ≤ c) (hc : c < 1000) : fX12_least 9 (nI (1000 * t + a)) (nI (1000 * t + c)) v = some (zI (exV g t false a c)) := by
  unfold fX12_least
  rw [if_pos (inB_n (by omega) (by omega)), cl_n (by omega), (dn_at hd ht (by omega)).1]
  exact leastM hO hd ht hc (c + 1 - a) a fu0 a _ (by omega) (by omega) (fu_n (by omega)) (sp_r hO ht false a) ⟨a, by omega, ha, rfl⟩ (fun y y1 y2 => by omega)
theorem scan_lh (p : Nat → Bool) : ∀ x, (scan p x).2.1 ≤ (scan p x).2.2 ∧ ((scan p x).2.2 < x ∨ (scan p x).2.2 = 0) := by
  intro x
  induction x with
  | zero => exact ⟨Nat.le_refl _, Or.inr rfl⟩
  | succ x ih =>
    have l := scan_le p x
    rw [scan]
    split
    · split
      · show (scan p x).2.1 ≤ (if (scan p x).1 = 1 then x else (scan p x).2.2) ∧ ((if (scan p x).1 = 1 then x else (scan p x).2.2) < x + 1 ∨ (if (scan p x).1 = 1 then x else (scan p x).2.2) = 0)
        split <;> omega
      · show (if (scan p x).1 + 1 = 1 then x else (scan p x).2.1) ≤ (if (scan p x).1 + 1 = 1 then x else (scan p x).2.2) ∧ ((if (scan p x).1 + 1 = 1 then x else (scan p x).2.2) < x + 1 ∨ (if (scan p x).1 + 1 = 1 then x else (scan p x).2.2) = 0)
        split <;> omega
    · omega
theorem bxs_lh (g : Nat → Int32) (z : Int) : (bxs g z).2.1 ≤ (bxs g z).2.2 ∧ (bxs g z).2.2 ≤ 999 := by
  have := scan_lh (pb g z) 1000
  unfold bxs; omega
