theorem tabOk_fr {h h2 : Nat → Int32} (e : ∀ k, k < 25 → h2 k = h k) (hc : tabOk h) : tabOk h2 := by
  obtain ⟨t1, t2, t3⟩ := hc
  refine ⟨by rw [e 0 (by omega)]; exact t1, by rw [e 0 (by omega)]; exact t2, fun p hp => ?_⟩
  rw [e 0 (by omega)] at hp
  obtain ⟨q1, q2, q3, q4, q5, q6⟩ := t3 p hp
  rw [e 0 (by omega), e (1 + 3 * p) (by omega), e (2 + 3 * p) (by omega), e (3 + 3 * p) (by omega)]
  refine ⟨q1, q2, q3, q4, q5, fun h8 => ?_⟩
  rw [e (1 + 3 * (p + 1)) (by omega)]; exact q6 h8
theorem lawOk_ext {g g2 : Nat → Int32} (e : ∀ j, j < 220 → g2 j = g j) (h : lawOk g) : lawOk g2 := ⟨fun k hk => by rw [e k (by omega)]; exact h.1 k hk, fun c hc => chOk_fr (fun k hk => e _ (by omega)) (h.2.1 c hc), fun t ht => tabOk_fr (fun k hk => e _ (by omega)) (h.2.2 t ht)⟩
theorem relL_ext {u : Mem} {T : Nat} {g g2 : Nat → Int32} (e : ∀ j, j < 220 → g2 j = g j) (hO : lawOk g) (h : relL u T g) : relL u T g2 := by
  obtain ⟨l1, l2, l3, l4⟩ := h
  refine ⟨fun k hk => by rw [e k (by omega)]; exact l1 k hk, fun c hc j hj => by rw [e _ (by omega)]; exact l2 c hc j hj, fun n hn => by rw [e _ (by omega)]; exact l3 n hn, fun n hn p hp j hj => ?_⟩
  rw [e _ (by omega)] at hp
  have hb : (g (36 + 25 * n)).toInt ≤ 8 := (hO.2.2 n hn).2.1
  rw [e _ (by omega)]; exact l4 n hn p hp j hj
theorem copyX {u : Mem} {T T1 : Nat} (hT : T1 = T + 1) {g : Nat → Int32} (hO : lawOk g) (hL : relL u T g) : ∃ w, fX3_copyFrom T1 T u = some w ∧ (∀ k, k < 5 * T1 + 1 ∨ 5 * T1 + 5 ≤ k → w.1 k = u.1 k) ∧ w.2 = u.2 ∧ relL w T1 g := by
  obtain ⟨l1, l2, l3, l4⟩ := hL
  unfold fX3_copyFrom
  rw [Option.bind_some, Option.bind_some, Option.bind_some]
  refine ⟨_, rfl, fun k hk => ?_, rfl, fun k hk => ?_, fun c hc j hj => ?_, fun n hn => ?_, fun n hn p hp j hj => ?_⟩
  · funext j
    rw [sr_1, if_neg (by omega), sr_1, if_neg (by omega), sr_1, if_neg (by omega), sr_1, if_neg (by omega)]
  · rw [sr_1, if_neg (by omega), sr_1, if_neg (by omega), sr_1, if_neg (by omega), sr_1, if_pos rfl, cpy0, if_pos hk]; exact l1 k hk
  · rw [sr_1, if_neg (by omega), sr_1, if_neg (by omega), sr_1, if_pos rfl, cpy0, if_pos (by omega), sr_1, if_neg (by omega)]; exact l2 c hc j hj
  · rw [sr_1, if_neg (by omega), sr_1, if_pos rfl, cpy0, if_pos hn, sr_1, if_neg (by omega), sr_1, if_neg (by omega)]; exact l3 n hn
  · have hb : (g (36 + 25 * n)).toInt ≤ 8 := (hO.2.2 n hn).2.1
    rw [sr_1, if_pos rfl, cpy0, if_pos (by omega), sr_1, if_neg (by omega), sr_1, if_neg (by omega), sr_1, if_neg (by omega)]; exact l4 n hn p hp j hj
theorem r35 : ∀ (d i t : Nat) (u : Mem), i + d = 18 → d < t → (∀ j, j < i → u.1 185 j = 0) → ∃ w, (∀ K : Mem → Option (Bool × Mem), fX4_read_L35 K t (nI i) u = K w) ∧ (∀ k, k ≠ 185 → w.1 k = u.1 k) ∧ w.2 = u.2 ∧ ∀ j, j < 18 → w.1 185 j = 0 := by
  have e18 : (18 : Int32).toInt = 18 := rfl
  intro d
  induction d with
  | zero =>
    intro i t u hi ht hz
    obtain ⟨t, rfl⟩ : ∃ m, t = m + 1 := ⟨t - 1, by omega⟩
    have : i = 18 := by omega
    subst this
    exact ⟨u, fun K => by rw [fX4_read_L35, if_pos (by decide)], fun _ _ => rfl, rfl, hz⟩
  | succ d ih =>
    intro i t u hi ht hz
    obtain ⟨t, rfl⟩ : ∃ m, t = m + 1 := ⟨t - 1, by omega⟩
    obtain ⟨w, r1, r2, r3, r4⟩ := ih (i + 1) t (si u 185 i 0) (by omega) (by omega) (fun j hj => by
      rw [si_1]
      by_cases h : j = i
      · rw [if_pos ⟨rfl, h⟩]
      · rw [if_neg (by omega)]; exact hz j (by omega))
    refine ⟨w, fun K => ?_, fun k hk => by rw [r2 k hk, si_ro _ _ hk], r3, r4⟩
    rw [fX4_read_L35, if_neg (by rw [i_le, nI_n (by omega)]; omega), if_pos (inB_n (by omega) (by omega)), cl_n (by omega), nI_1]; exact r1 K
theorem m43 : ∀ (d i t : Nat) (u : Mem), i + d = 18 → d < t → (∀ j, j < i → u.1 7 j = 0) → ∃ w, (∀ K : Mem → Option (Int32 × Mem), fX12_text_L43 K t (nI i) u = K w) ∧ (∀ k, k ≠ 7 → w.1 k = u.1 k) ∧ w.2 = u.2 ∧ ∀ j, j < 18 → w.1 7 j = 0 := by
  have e18 : (18 : Int32).toInt = 18 := rfl
  intro d
  induction d with
  | zero =>
    intro i t u hi ht hz
    obtain ⟨t, rfl⟩ : ∃ m, t = m + 1 := ⟨t - 1, by omega⟩
    have : i = 18 := by omega
    subst this
    exact ⟨u, fun K => by rw [fX12_text_L43, if_pos (by decide)], fun _ _ => rfl, rfl, hz⟩
  | succ d ih =>
    intro i t u hi ht hz
    obtain ⟨t, rfl⟩ : ∃ m, t = m + 1 := ⟨t - 1, by omega⟩
    obtain ⟨w, r1, r2, r3, r4⟩ := ih (i + 1) t (si u 7 i 0) (by omega) (by omega) (fun j hj => by
      rw [si_1]
      by_cases h : j = i
      · rw [if_pos ⟨rfl, h⟩]
      · rw [if_neg (by omega)]; exact hz j (by omega))
    refine ⟨w, fun K => ?_, fun k hk => by rw [r2 k hk, si_ro _ _ hk], r3, r4⟩
    rw [fX12_text_L43, if_neg (by rw [i_le, nI_n (by omega)]; omega), if_pos (inB_n (by omega) (by omega)), cl_n (by omega), nI_1]; exact r1 K
theorem m64 {T : Nat} (hT : T ≤ 30) : ∀ (d i t : Nat) (u : Mem), i + d = 220 → d < t → u.1 1 0 = nI T → (∀ j, j < i → u.1 8 j = u.1 1 (1500 + 220 * T + j)) → ∃ w, (∀ K : Mem → Option (Int32 × Mem), fX12_text_L64 K t (nI i) u = K w) ∧ (∀ k, k ≠ 8 → w.1 k = u.1 k) ∧ w.2 = u.2 ∧ ∀ j, j < 220 → w.1 8 j = u.1 1 (1500 + 220 * T + j) := by
  have e220 : (220 : Int32).toInt = 220 := rfl
  intro d
  induction d with
  | zero =>
    intro i t u hi ht h1 hz
    obtain ⟨t, rfl⟩ : ∃ m, t = m + 1 := ⟨t - 1, by omega⟩
    have : i = 220 := by omega
    subst this
    exact ⟨u, fun K => by rw [fX12_text_L64, if_pos (by decide)], fun _ _ => rfl, rfl, hz⟩
  | succ d ih =>
    intro i t u hi ht h1 hz
    obtain ⟨t, rfl⟩ : ∃ m, t = m + 1 := ⟨t - 1, by omega⟩
    have e : (1500 : Int32) + 220 * nI T + nI i = nI (1500 + 220 * T + i) := by rw [show (1500 : Int32) = nI 1500 from rfl, show (220 : Int32) = nI 220 from rfl, pk_mul, nI_add, nI_add]
    have s1 : (si u 8 i (u.1 1 (1500 + 220 * T + i))).1 1 = u.1 1 := si_ro _ _ (by omega)
    obtain ⟨w, r1, r2, r3, r4⟩ := ih (i + 1) t (si u 8 i (u.1 1 (1500 + 220 * T + i))) (by omega) (by omega) (by rw [s1]; exact h1) (fun j hj => by
      rw [s1, si_1]
      by_cases h : j = i
      · rw [if_pos ⟨rfl, h⟩, h]
      · rw [if_neg (by omega)]; exact hz j (by omega))
    refine ⟨w, fun K => ?_, fun k hk => by rw [r2 k hk, si_ro _ _ hk], r3, fun j hj => by rw [r4 j hj, s1]⟩
    rw [fX12_text_L64, if_neg (by rw [i_le, nI_n (by omega)]; omega), h1, e, if_pos (inB_n (by omega) (by omega)), if_pos (inB_n (by omega) (by omega)), Option.bind_some, cl_n (by omega), cl_n (by omega), nI_1]; exact r1 K
theorem m309 {T1 : Nat} (hT : T1 ≤ 30) : ∀ (d i t : Nat) (u : Mem), i + d = 220 → d < t → u.1 1 0 = nI T1 → (∀ j, j < i → u.1 1 (1500 + 220 * T1 + j) = u.1 8 j) → ∃ w, fX12_text_L309 t (nI i) u = some (nI T1, w) ∧ (∀ k, k ≠ 1 → w.1 k = u.1 k) ∧ w.2 = u.2 ∧ (∀ j, j < 220 → w.1 1 (1500 + 220 * T1 + j) = u.1 8 j) ∧ ∀ j, j < 1500 + 220 * T1 ∨ 1500 + 220 * T1 + 220 ≤ j → w.1 1 j = u.1 1 j := by
  have e220 : (220 : Int32).toInt = 220 := rfl
  intro d
  induction d with
  | zero =>
    intro i t u hi ht h1 hz
    obtain ⟨t, rfl⟩ : ∃ m, t = m + 1 := ⟨t - 1, by omega⟩
    have : i = 220 := by omega
    subst this
    exact ⟨u, by rw [fX12_text_L309, if_pos (by decide), h1], fun _ _ => rfl, rfl, hz, fun _ _ => rfl⟩
  | succ d ih =>
    intro i t u hi ht h1 hz
    obtain ⟨t, rfl⟩ : ∃ m, t = m + 1 := ⟨t - 1, by omega⟩
    have e : (1500 : Int32) + 220 * nI T1 + nI i = nI (1500 + 220 * T1 + i) := by rw [show (1500 : Int32) = nI 1500 from rfl, show (220 : Int32) = nI 220 from rfl, pk_mul, nI_add, nI_add]
    have s8 : (si u 1 (1500 + 220 * T1 + i) (u.1 8 i)).1 8 = u.1 8 := si_ro _ _ (by omega)
    have so : ∀ j, j ≠ 1500 + 220 * T1 + i → (si u 1 (1500 + 220 * T1 + i) (u.1 8 i)).1 1 j = u.1 1 j := fun j hj => by rw [si_1, if_neg (by omega)]
    obtain ⟨w, r1, r2, r3, r4, r5⟩ := ih (i + 1) t (si u 1 (1500 + 220 * T1 + i) (u.1 8 i)) (by omega) (by omega) (by rw [so _ (by omega)]; exact h1) (fun j hj => by
      rw [s8]
      by_cases h : j = i
      · rw [h, si_1, if_pos ⟨rfl, rfl⟩]
      · rw [so _ (by omega)]; exact hz j (by omega))
    refine ⟨w, ?_, fun k hk => by rw [r2 k hk, si_ro _ _ hk], r3, fun j hj => by rw [r4 j hj, s8], fun j hj => by rw [r5 j hj, so _ (by omega)]⟩
    rw [fX12_text_L309, if_neg (by rw [i_le, nI_n (by omega)]; omega), if_pos (inB_n (i := i) (n := 220) (by omega) (by omega)), h1, e, if_pos (inB_n (i := 1500 + 220 * T1 + i) (n := 8320) (by omega) (by omega)), Option.bind_some, cl_n (by omega), cl_n (by omega), nI_1]; exact r1
/-- the frame of a text, on the class's side -/
def frW (T1 : Nat) (u w : Mem) : Prop := (∀ k, k < 195 → k ≠ 176 → k ≠ 182 → k ≠ 184 → k ≠ 185 → (k < 5 * T1 ∨ 5 * T1 + 5 ≤ k) → w.1 k = u.1 k) ∧ w.2 = u.2 ∧ w.1 182 1 = 0 ∧ w.1 184 8 = 1
def frV (v w : Mem) : Prop := (∀ k, 1 < k → k < 7 → w.1 k = v.1 k) ∧ w.2 = v.2 ∧ w.1 0 5 = v.1 0 5 ∧ w.1 0 7 = 0
theorem relW_dr {u w : Mem} {n T1 : Nat} {f : Nat → Int32} {bk : Nat → Int64} (hn : n < 2) (hf : (f 0).toInt < T1) (hT1 : T1 ≤ 30) (h : frW T1 u w) (h0 : w.1 (176 + 2 * n) 1 = f 0 ∧ w.1 (176 + 2 * n) 2 = f 1 ∧ w.1 (176 + 2 * n) 3 = f 4 ∧ w.1 (176 + 2 * n) 4 = f 5 ∧ w.1 (176 + 2 * n) 5 = f 6) (hW : relW u n f bk) : relW w n f bk := by
  obtain ⟨-, b2, b3, b4, b5, b6⟩ := hW
  obtain ⟨x1, x2, -⟩ := h
  refine ⟨h0, fun q hq => relS_fr (u := u) (fun r hr => ⟨x1 _ (by omega) (by omega) (by omega) (by omega) (by omega) (by omega), by rw [x2]⟩) (b2 q hq), fun t ht => relL_fr (u := u) (fun r hr => x1 _ (by omega) (by omega) (by omega) (by omega) (by omega) (by omega)) (b3 t ht), fun t ht => ?_, fun k hk => ?_, fun i hi => ?_⟩
  · rw [x1 _ (by omega) (by omega) (by omega) (by omega) (by omega) (by omega)]; exact b4 t ht
  · rw [x1 187 (by omega) (by omega) (by omega) (by omega) (by omega) (by omega)]; exact b5 k hk
  · rw [x1 189 (by omega) (by omega) (by omega) (by omega) (by omega) (by omega), x1 190 (by omega) (by omega) (by omega) (by omega) (by omega) (by omega), x1 191 (by omega) (by omega) (by omega) (by omega) (by omega) (by omega), x1 192 (by omega) (by omega) (by omega) (by omega) (by omega) (by omega)]; exact b6 i hi
theorem RR_tail {u v w z : Mem} {T1 : Nat} (hT1 : T1 ≤ 30) (hR : RR u v) (hu : frW T1 u w) (hv : frV v z) (hf : w.1 184 9 = z.1 0 8 ∧ w.1 184 10 = z.1 0 9) : relT w z ∧ relF w z ∧ relP w z := by
  obtain ⟨r1, r2, w1, w2, c, t, f, p⟩ := hR
  obtain ⟨x1, x2, x3, x4⟩ := hu
  obtain ⟨y1, y2, y3, y4⟩ := hv
  refine ⟨⟨by rw [x3, y4], by rw [y4]; decide, fun k hk => ?_⟩, Or.inr ⟨x4, hf.1, hf.2⟩, ?_⟩
  · rw [y4] at hk
    have : (0 : Int32).toInt = 0 := rfl
    omega
  · unfold relP at p ⊢
    rw [x1 193 (by omega) (by omega) (by omega) (by omega) (by omega) (by omega), y3, x2, y2]; exact p
theorem RR_fail {u v w z : Mem} {T T1 : Nat} (hT : v.1 1 0 = nI T) (hT1 : T1 = T + 1) (hT30 : T1 ≤ 30) (hR : RR u v) (hu : frW T1 u w) (h176 : w.1 176 = u.1 176) (hv : frV v z) (h1 : z.1 1 = v.1 1) (hf : w.1 184 9 = z.1 0 8 ∧ w.1 184 10 = z.1 0 9) : RR w z := by
  obtain ⟨r1, r2, w1, w2, c, t, f, p⟩ := id hR
  obtain ⟨q1, q2, q3⟩ := RR_tail hT30 hR hu hv hf
  have e0 : (v.1 1 0).toInt = (T : Int) := by rw [hT, nI_n (by omega)]
  have z2 := hv.1 2 (by omega) (by omega)
  refine ⟨by rw [h1]; exact r1, by rw [z2]; exact r2, ?_, ?_, by rw [h1, z2]; exact c, q1, q2, q3⟩
  · rw [h1, hv.2.1]
    exact relW_dr (by omega) (by omega) hT30 hu (by rw [show 176 + 2 * 0 = 176 from rfl, h176]; exact w1.1) w1
  · rw [z2, hv.2.1]
    have c1 := c.1
    exact relW_dr (by omega) (by omega) hT30 hu (by rw [hu.1 (176 + 2 * 1) (by omega) (by omega) (by omega) (by omega) (by omega) (by omega)]; exact w2.1) w2
theorem RR_ok {u v w z : Mem} {T T1 n : Nat} {g : Nat → Int32} (hT : v.1 1 0 = nI T) (hT1 : T1 = T + 1) (hT30 : T1 ≤ 30) (hR : RR u v) (hu : frW T1 u w) (h176 : w.1 176 1 = nI T1 ∧ w.1 176 2 = nI T1 ∧ ∀ j, 3 ≤ j → w.1 176 j = u.1 176 j) (hv : frV v z) (hf : w.1 184 9 = z.1 0 8 ∧ w.1 184 10 = z.1 0 9) (h10 : z.1 1 0 = nI T1) (h11 : z.1 1 1 = nI T1) (h17 : z.1 1 7 = nI n) (hg : ∀ j, j < 220 → z.1 1 (1500 + 220 * T1 + j) = g j) (ho : ∀ j, j ≠ 0 → j ≠ 1 → j ≠ 7 → (j < 1500 + 220 * T1 ∨ 1500 + 220 * T1 + 220 ≤ j) → z.1 1 j = v.1 1 j) (hL : relL w T1 g) (hO : lawOk g) (hc : w.1 (5 * T1) 4 = nI n) : RR w z := by
  obtain ⟨r1, r2, w1, w2, c, t, f, p⟩ := id hR
  obtain ⟨q1, q2, q3⟩ := RR_tail hT30 hR hu hv hf
  have e0 : (v.1 1 0).toInt = (T : Int) := by rw [hT, nI_n (by omega)]
  have e1 : (z.1 1 0).toInt = (T1 : Int) := by rw [h10, nI_n (by omega)]
  have e2 : (z.1 1 1).toInt = (T1 : Int) := by rw [h11, nI_n (by omega)]
  have z2 := hv.1 2 (by omega) (by omega)
  obtain ⟨a0, a1, a2, a3, a4, a5, a6, a7, a8, a9, a10, a11⟩ := r1
  have lo : ∀ t2 : Nat, (t2 : Int) ≤ (z.1 1 0).toInt → lawOk (fun k => z.1 1 (1500 + 220 * t2 + k)) := fun t2 ht2 => by
    rw [e1] at ht2
    by_cases h9 : t2 = T1
    · subst h9; exact lawOk_ext (fun j hj => hg j hj) hO
    · exact lawOk_ext (fun j hj => ho _ (by omega) (by omega) (by omega) (by omega)) (a11 t2 (by omega))
  refine ⟨⟨by rw [e1]; omega, by rw [e1, e2]; omega, fun i hi => by rw [ho _ (by omega) (by omega) (by omega) (by omega)]; exact a2 i hi, by rw [ho 4 (by omega) (by omega) (by omega) (by omega)]; exact a3, by rw [ho 5 (by omega) (by omega) (by omega) (by omega)]; exact a4, by rw [ho 6 (by omega) (by omega) (by omega) (by omega)]; exact a5, fun i hi => by rw [ho _ (by omega) (by omega) (by omega) (by omega)]; exact a6 i hi, fun i hi => by rw [ho _ (by omega) (by omega) (by omega) (by omega)]; exact a7 i hi, fun k hk => by rw [ho _ (by omega) (by omega) (by omega) (by omega)]; exact a8 k hk, fun k hk => by rw [ho _ (by omega) (by omega) (by omega) (by omega)]; exact a9 k hk, fun i hi => ?_, lo⟩, by rw [z2]; exact r2, ?_, ?_, ?_, q1, q2, q3⟩
  · rw [ho 6 (by omega) (by omega) (by omega) (by omega)] at hi
    have := a10 i hi
    have h20 := a5.2
    rw [ho _ (by omega) (by omega) (by omega) (by omega), ho _ (by omega) (by omega) (by omega) (by omega), ho _ (by omega) (by omega) (by omega) (by omega), ho _ (by omega) (by omega) (by omega) (by omega)]; exact this
  · rw [hv.2.1]
    obtain ⟨b1, b2, b3, b4, b5, b6⟩ := w1
    obtain ⟨x1, x2, x3, x4⟩ := hu
    refine ⟨⟨?_, ?_, ?_, ?_, ?_⟩, fun q2 hq2 => ?_, fun t2 ht2 => ?_, fun t2 ht2 => ?_, fun k hk => ?_, fun i hi => ?_⟩
    · rw [show 176 + 2 * 0 = 176 from rfl, h176.1, h10]
    · rw [show 176 + 2 * 0 = 176 from rfl, h176.2.1, h11]
    · rw [show 176 + 2 * 0 = 176 from rfl, h176.2.2 3 (by omega), ho 4 (by omega) (by omega) (by omega) (by omega)]; exact b1.2.2.1
    · rw [show 176 + 2 * 0 = 176 from rfl, h176.2.2 4 (by omega), ho 5 (by omega) (by omega) (by omega) (by omega)]; exact b1.2.2.2.1
    · rw [show 176 + 2 * 0 = 176 from rfl, h176.2.2 5 (by omega), ho 6 (by omega) (by omega) (by omega) (by omega)]; exact b1.2.2.2.2
    · have h9 := relS_fr (u := u) (w := w) (fun r hr => ⟨x1 _ (by omega) (by omega) (by omega) (by omega) (by omega) (by omega), by rw [x2]⟩) (b2 q2 hq2)
      obtain ⟨s1, s2, s3, s4, s5, s6⟩ := h9
      exact ⟨by rw [s1, ho _ (by omega) (by omega) (by omega) (by omega)], by rw [s2, ho _ (by omega) (by omega) (by omega) (by omega)], by rw [s3, ho _ (by omega) (by omega) (by omega) (by omega)], fun k hk => by rw [s4 k hk, ho _ (by omega) (by omega) (by omega) (by omega)], s5, fun k hk => by rw [s6 k hk, ho _ (by omega) (by omega) (by omega) (by omega)]⟩
    · rw [e1] at ht2
      by_cases h9 : t2 = T1
      · subst h9; exact relL_ext (fun j hj => hg j hj) hO hL
      · exact relL_ext (fun j hj => ho _ (by omega) (by omega) (by omega) (by omega)) (a11 t2 (by omega)) (relL_fr (u := u) (fun r hr => x1 _ (by omega) (by omega) (by omega) (by omega) (by omega) (by omega)) (b3 t2 (by omega)))
    · rw [e1] at ht2
      have : t2 = T1 := by omega
      rw [this, hc, h17]
    · rw [ho 5 (by omega) (by omega) (by omega) (by omega)] at hk
      have h20 := a4.2
      rw [x1 187 (by omega) (by omega) (by omega) (by omega) (by omega) (by omega), ho _ (by omega) (by omega) (by omega) (by omega)]; exact b5 k hk
    · rw [ho 6 (by omega) (by omega) (by omega) (by omega)] at hi
      have h20 := a5.2
      rw [x1 189 (by omega) (by omega) (by omega) (by omega) (by omega) (by omega), x1 190 (by omega) (by omega) (by omega) (by omega) (by omega) (by omega), x1 191 (by omega) (by omega) (by omega) (by omega) (by omega) (by omega), x1 192 (by omega) (by omega) (by omega) (by omega) (by omega) (by omega), ho _ (by omega) (by omega) (by omega) (by omega), ho _ (by omega) (by omega) (by omega) (by omega), ho _ (by omega) (by omega) (by omega) (by omega), ho _ (by omega) (by omega) (by omega) (by omega)]; exact b6 i hi
  · rw [z2, hv.2.1]
    have c1 := c.1
    exact relW_dr (by omega) (by omega) hT30 hu (by rw [hu.1 (176 + 2 * 1) (by omega) (by omega) (by omega) (by omega) (by omega) (by omega)]; exact w2.1) w2
  · rw [z2, e1, ho 5 (by omega) (by omega) (by omega) (by omega), ho 6 (by omega) (by omega) (by omega) (by omega)]
    exact ⟨by omega, c.2⟩
