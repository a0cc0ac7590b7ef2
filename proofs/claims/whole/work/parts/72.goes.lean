/-- what a step may change, against the memories at its beginning -/
def GOX (q : Nat) (u0 u : Mem) : Prop := (∀ k, k < 209 → k ≠ 160 + 4 * q + 1 → k ≠ 160 + 4 * q + 3 → k ≠ 176 → k ≠ 187 → u.1 k = u0.1 k) ∧ (∀ k, k < 209 → k ≠ 160 + 4 * q + 2 → u.2 k = u0.2 k) ∧ ∀ j, j ≠ 3 → j ≠ 4 → u.1 176 j = u0.1 176 j
def GOM (q : Nat) (v0 v : Mem) : Prop := (∀ k, k < 16 → k ≠ 1 → v.1 k = v0.1 k) ∧ (∀ k, k ≠ 3 → v.2 k = v0.2 k) ∧ (∀ k, k < 4 ∨ (6 ≤ k ∧ k < 20) ∨ 1400 ≤ k → v.1 1 k = v0.1 1 k) ∧ (∀ k, k < 96 → v.1 1 (20 + (96 * (1 - q) + k)) = v0.1 1 (20 + (96 * (1 - q) + k))) ∧ (∀ k, k < 80 → v.1 1 (220 + (80 * (1 - q) + k)) = v0.1 1 (220 + (80 * (1 - q) + k))) ∧ ∀ k, k < 80 → v.2 3 (80 * (1 - q) + k) = v0.2 3 (80 * (1 - q) + k)
def GOR (q : Nat) (u0 v0 u v : Mem) : Prop := (∀ k, k < 96 → u.1 (160 + 4 * q + 1) k = v.1 1 (20 + (96 * q + k)) ∧ 0 ≤ (v.1 1 (20 + (96 * q + k))).toInt ∧ (v.1 1 (20 + (96 * q + k))).toInt ≤ 100000) ∧ (∀ k, k < 80 → u.2 (160 + 4 * q + 2) k = v.2 3 (80 * q + k)) ∧ (∀ k, k < 80 → u.1 (160 + 4 * q + 3) k = v.1 1 (220 + (80 * q + k)) ∧ (v.1 1 (220 + (80 * q + k)) = 0 ∨ v.1 1 (220 + (80 * q + k)) = 1)) ∧ (u.1 176 3 = v.1 1 4 ∧ 0 ≤ (v.1 1 4).toInt ∧ (v.1 1 4).toInt ≤ (v0.1 1 4).toInt) ∧ (u.1 176 4 = v.1 1 5 ∧ (v0.1 1 5).toInt ≤ (v.1 1 5).toInt ∧ (v.1 1 5).toInt ≤ 200) ∧ (∀ k : Nat, (k : Int) < 5 * (v.1 1 5).toInt → u.1 187 k = v.1 1 (400 + k)) ∧ ∀ k : Nat, (k : Int) < 5 * (v0.1 1 5).toInt → u.1 187 k = u0.1 187 k
def GO (q : Nat) (u0 v0 u v : Mem) : Prop := GOX q u0 u ∧ GOM q v0 v ∧ GOR q u0 v0 u v
theorem go_start {u v : Mem} {q : Nat} (hq : q < 2) (hR : RR u v) : GO q u v u v := by
  obtain ⟨r1, r2, w1, w2, c, t, f, p⟩ := hR
  have hst := w1.2.1 q hq
  rw [show 2 * 0 + q = q by omega] at hst
  refine ⟨⟨fun _ _ _ _ _ _ => rfl, fun _ _ _ => rfl, fun _ _ _ => rfl⟩, ⟨fun _ _ _ => rfl, fun _ _ => rfl, fun _ _ => rfl, fun _ _ => rfl, fun _ _ => rfl, fun _ _ => rfl⟩, ?_, ?_, ?_, ?_, ?_, ?_, fun _ _ => rfl⟩
  · exact fun k hk => ⟨hst.2.2.2.1 k hk, r1.2.2.2.2.2.2.2.2.1 (96 * q + k) (by omega)⟩
  · exact fun k hk => hst.2.2.2.2.1 k hk
  · exact fun k hk => ⟨hst.2.2.2.2.2 k hk, r1.2.2.2.2.2.2.2.2.2.1 (80 * q + k) (by omega)⟩
  · exact ⟨w1.1.2.2.1, r1.2.2.2.1.1, Int.le_refl _⟩
  · exact ⟨w1.1.2.2.2.1, Int.le_refl _, r1.2.2.2.2.1.2⟩
  · exact w1.2.2.2.2.1
theorem go_rg {u0 v0 u v : Mem} {q : Nat} (hq : q < 2) (r1 : rgA (v0.1 1)) (hM : GOM q v0 v) (hG : GOR q u0 v0 u v) : rgA (v.1 1) := by
  obtain ⟨m1, m2, m3, m4, m5, m6⟩ := hM
  obtain ⟨g1, g2, g3, g4, g5, g6, g7⟩ := hG
  obtain ⟨a0, a1, a2, a3, a4, a5, a6, a7, a8, a9, a10, a11⟩ := r1
  refine ⟨?_, ?_, ?_, ⟨g4.2.1, Int.le_trans g4.2.2 a3.2⟩, ?_, ?_, ?_, ?_, ?_, ?_, ?_, ?_⟩
  · rw [m3 0 (by omega)]; exact a0
  · rw [m3 0 (by omega), m3 1 (by omega)]; exact a1
  · intro i hi; rw [m3 (2 + i) (by omega)]; exact a2 i hi
  · exact ⟨Int.le_trans a4.1 g5.2.1, g5.2.2⟩
  · rw [m3 6 (by omega)]; exact a5
  · intro i hi; rw [m3 (8 + i) (by omega)]; exact a6 i hi
  · intro i hi; rw [m3 (10 + i) (by omega)]; exact a7 i hi
  · intro k hk
    by_cases h : 96 * q ≤ k ∧ k < 96 * q + 96
    · have := (g1 (k - 96 * q) (by omega)).2
      rw [show 96 * q + (k - 96 * q) = k by omega] at this; exact this
    · have := m4 (k - 96 * (1 - q)) (by omega)
      rw [show 96 * (1 - q) + (k - 96 * (1 - q)) = k by omega] at this
      rw [this]; exact a8 k hk
  · intro k hk
    by_cases h : 80 * q ≤ k ∧ k < 80 * q + 80
    · have := (g3 (k - 80 * q) (by omega)).2
      rw [show 80 * q + (k - 80 * q) = k by omega] at this; exact this
    · have := m5 (k - 80 * (1 - q)) (by omega)
      rw [show 80 * (1 - q) + (k - 80 * (1 - q)) = k by omega] at this
      rw [this]; exact a9 k hk
  · intro i hi
    rw [m3 6 (by omega)] at hi
    rw [m3 (1400 + 4 * i) (by omega), m3 (1401 + 4 * i) (by omega), m3 (1402 + 4 * i) (by omega), m3 (1403 + 4 * i) (by omega)]
    exact a10 i hi
  · intro t ht
    rw [m3 0 (by omega)] at ht
    have := a11 t ht
    have e : (fun k => v.1 1 (1500 + 220 * t + k)) = fun k => v0.1 1 (1500 + 220 * t + k) := funext fun k => m3 _ (by omega)
    rw [e]; exact this
theorem go_RR {u0 v0 u v : Mem} {q : Nat} (hq : q < 2) (hR : RR u0 v0) (h : GO q u0 v0 u v) : RR u v := by
  obtain ⟨r1, r2, w1, w2, c, t, f, p⟩ := hR
  obtain ⟨⟨x1, x2, x3⟩, hM, hG⟩ := h
  have hrg := go_rg hq r1 hM hG
  obtain ⟨m1, m2, m3, m4, m5, m6⟩ := hM
  obtain ⟨g1, g2, g3, g4, g5, g6, g7⟩ := hG
  have e2 := m1 2 (by omega) (by omega)
  have e0 := m1 0 (by omega) (by omega)
  have e6 := m1 6 (by omega) (by omega)
  have xr : ∀ k, k < 160 ∨ (176 < k ∧ k < 187) ∨ (187 < k ∧ k < 195) → u.1 k = u0.1 k := fun k hk => x1 k (by omega) (by omega) (by omega) (by omega) (by omega)
  have c0 : (v0.1 1 0).toInt ≤ 30 := r1.1.2
  refine ⟨hrg, by rw [e2]; exact r2, ?_, ?_, ?_, ?_, ?_, ?_⟩
  · obtain ⟨b1, b2, b3, b4, b5, b6⟩ := w1
    refine ⟨⟨?_, ?_, g4.1, g5.1, ?_⟩, ?_, ?_, ?_, g6, ?_⟩
    · rw [show 176 + 2 * 0 = 176 from rfl, x3 1 (by omega) (by omega), m3 0 (by omega)]; exact b1.1
    · rw [show 176 + 2 * 0 = 176 from rfl, x3 2 (by omega) (by omega), m3 1 (by omega)]; exact b1.2.1
    · rw [show 176 + 2 * 0 = 176 from rfl, x3 5 (by omega) (by omega), m3 6 (by omega)]; exact b1.2.2.2.2
    · intro q2 hq2
      have hb := b2 q2 hq2
      rw [show 2 * 0 + q2 = q2 by omega] at hb ⊢
      obtain ⟨s1, s2, s3, s4, s5, s6⟩ := hb
      have x4 : u.1 (160 + 4 * q2) = u0.1 (160 + 4 * q2) := x1 _ (by omega) (by omega) (by omega) (by omega) (by omega)
      refine ⟨by rw [x4, m3 (2 + q2) (by omega)]; exact s1, by rw [x4, m3 (8 + q2) (by omega)]; exact s2, by rw [x4, m3 (10 + q2) (by omega)]; exact s3, ?_⟩
      by_cases h : q2 = q
      · subst h
        exact ⟨fun k hk => (g1 k hk).1, g2, fun k hk => (g3 k hk).1⟩
      · have hq3 : q2 = 1 - q := by omega
        subst hq3
        refine ⟨fun k hk => ?_, fun k hk => ?_, fun k hk => ?_⟩
        · rw [x1 _ (by omega) (by omega) (by omega) (by omega) (by omega), m4 k hk]; exact s4 k hk
        · rw [x2 _ (by omega) (by omega), m6 k hk]; exact s5 k hk
        · rw [x1 _ (by omega) (by omega) (by omega) (by omega) (by omega), m5 k hk]; exact s6 k hk
    · intro t ht
      rw [m3 0 (by omega)] at ht
      have e : (fun k => v.1 1 (1500 + 220 * t + k)) = fun k => v0.1 1 (1500 + 220 * t + k) := funext fun k => m3 _ (by omega)
      rw [e]
      exact relL_fr (u := u0) (fun r hr => xr _ (by omega)) (b3 t ht)
    · intro t ht
      rw [m3 0 (by omega)] at ht
      rw [xr _ (by omega), m3 7 (by omega)]; exact b4 t ht
    · intro i hi
      rw [m3 6 (by omega)] at hi
      rw [xr 189 (by omega), xr 190 (by omega), xr 191 (by omega), xr 192 (by omega), m3 (1400 + 4 * i) (by omega), m3 (1401 + 4 * i) (by omega), m3 (1402 + 4 * i) (by omega), m3 (1403 + 4 * i) (by omega)]
      exact b6 i hi
  · rw [e2, m2 4 (by omega)]
    obtain ⟨b1, b2, b3, b4, b5, b6⟩ := w2
    have c2 : (v0.1 2 0).toInt ≤ 30 := r2.1.2
    refine ⟨by rw [xr (176 + 2 * 1) (by omega)]; exact b1, fun q2 hq2 => ?_, fun t ht => ?_, fun t ht => ?_, fun k hk => ?_, fun i hi => ?_⟩
    · exact relS_fr (u := u0) (fun r hr => ⟨x1 _ (by omega) (by omega) (by omega) (by omega) (by omega), x2 _ (by omega) (by omega)⟩) (b2 q2 hq2)
    · exact relL_fr (u := u0) (fun r hr => xr _ (by omega)) (b3 t ht)
    · rw [xr _ (by omega)]; exact b4 t ht
    · rw [g7 k (by have := c.2.1; omega)]; exact b5 k hk
    · rw [xr 189 (by omega), xr 190 (by omega), xr 191 (by omega), xr 192 (by omega)]; exact b6 i hi
  · rw [e2, m3 0 (by omega), m3 6 (by omega)]
    exact ⟨c.1, Int.le_trans c.2.1 g5.2.1, c.2.2⟩
  · unfold relT at t ⊢; rw [e0, e6, xr 182 (by omega), xr 183 (by omega)]; exact t
  · unfold relF at f ⊢; rw [e0, xr 184 (by omega)]; exact f
  · unfold relP at p ⊢; rw [e0, m2 5 (by omega), xr 193 (by omega), x2 194 (by omega) (by omega)]; exact p
/-- set a part on both sides -/
theorem go_set {u0 v0 u v : Mem} {q : Nat} (hq : q < 2) (h : GO q u0 v0 u v) {j : Nat} (hj : j < 96) {x : Int32} (hx : 0 ≤ x.toInt ∧ x.toInt ≤ 100000) : GO q u0 v0 (si u (160 + 4 * q + 1) j x) (si v 1 (20 + (96 * q + j)) x) := by
  obtain ⟨⟨x1, x2, x3⟩, ⟨m1, m2, m3, m4, m5, m6⟩, g1, g2, g3, g4, g5, g6, g7⟩ := h
  have vo : ∀ k, k ≠ 20 + (96 * q + j) → (si v 1 (20 + (96 * q + j)) x).1 1 k = v.1 1 k := fun k hk => by rw [si_1, if_neg (by omega)]
  have h5 := i_rng (v.1 1 5)
  refine ⟨⟨fun k a b c d e => by rw [si_ro _ _ b]; exact x1 k a b c d e, x2, fun k a b => by rw [si_ro _ _ (by omega)]; exact x3 k a b⟩, ⟨fun k a b => by rw [si_ro _ _ b]; exact m1 k a b, m2, fun k a => by rw [vo k (by omega)]; exact m3 k a, fun k a => by rw [vo _ (by omega)]; exact m4 k a, fun k a => by rw [vo _ (by omega)]; exact m5 k a, m6⟩, fun k hk => ?_, g2, fun k hk => ?_, ?_, ?_, fun k hk => ?_, fun k hk => ?_⟩
  · by_cases hkj : k = j
    · rw [hkj, si_1, if_pos ⟨rfl, rfl⟩, si_1, if_pos ⟨rfl, rfl⟩]; exact ⟨rfl, hx⟩
    · rw [si_1, if_neg (by omega), vo _ (by omega)]; exact g1 k hk
  · rw [si_ro _ _ (by omega), vo _ (by omega)]; exact g3 k hk
  · rw [si_ro _ _ (by omega), vo _ (by omega)]; exact g4
  · rw [si_ro _ _ (by omega), vo _ (by omega)]; exact g5
  · rw [vo 5 (by omega)] at hk
    rw [si_ro _ _ (by omega), vo _ (by omega)]; exact g6 k hk
  · rw [si_ro _ _ (by omega)]; exact g7 k hk
theorem go_book {u0 v0 u v : Mem} {q : Nat} (hq : q < 2) (h : GO q u0 v0 u v) {j : Nat} (hj : j < 80) (x : Int64) : GO q u0 v0 (sl u (160 + 4 * q + 2) j x) (sl v 3 (80 * q + j) x) := by
  obtain ⟨⟨x1, x2, x3⟩, ⟨m1, m2, m3, m4, m5, m6⟩, g1, g2, g3, g4, g5, g6, g7⟩ := h
  have vo : ∀ k, k ≠ 80 * q + j → (sl v 3 (80 * q + j) x).2 3 k = v.2 3 k := fun k hk => by rw [sl_2, if_neg (by omega)]
  refine ⟨⟨x1, fun k a b => by rw [sl_ro _ _ b]; exact x2 k a b, x3⟩, ⟨m1, fun k a => by rw [sl_ro _ _ a]; exact m2 k a, m3, m4, m5, fun k a => by rw [vo _ (by omega)]; exact m6 k a⟩, g1, fun k hk => ?_, g3, g4, g5, g6, g7⟩
  by_cases hkj : k = j
  · rw [hkj, sl_2, if_pos ⟨rfl, rfl⟩, sl_2, if_pos ⟨rfl, rfl⟩]
  · rw [sl_2, if_neg (by omega), vo _ (by omega)]; exact g2 k hk
theorem go_shone {u0 v0 u v : Mem} {q : Nat} (hq : q < 2) (h : GO q u0 v0 u v) {j : Nat} (hj : j < 80) {x : Int32} (hx : x = 0 ∨ x = 1) : GO q u0 v0 (si u (160 + 4 * q + 3) j x) (si v 1 (220 + (80 * q + j)) x) := by
  obtain ⟨⟨x1, x2, x3⟩, ⟨m1, m2, m3, m4, m5, m6⟩, g1, g2, g3, g4, g5, g6, g7⟩ := h
  have vo : ∀ k, k ≠ 220 + (80 * q + j) → (si v 1 (220 + (80 * q + j)) x).1 1 k = v.1 1 k := fun k hk => by rw [si_1, if_neg (by omega)]
  refine ⟨⟨fun k a b c d e => by rw [si_ro _ _ c]; exact x1 k a b c d e, x2, fun k a b => by rw [si_ro _ _ (by omega)]; exact x3 k a b⟩, ⟨fun k a b => by rw [si_ro _ _ b]; exact m1 k a b, m2, fun k a => by rw [vo k (by omega)]; exact m3 k a, fun k a => by rw [vo _ (by omega)]; exact m4 k a, fun k a => by rw [vo _ (by omega)]; exact m5 k a, m6⟩, fun k hk => ?_, g2, fun k hk => ?_, ?_, ?_, fun k hk => ?_, fun k hk => ?_⟩
  · rw [si_ro _ _ (by omega), vo _ (by omega)]; exact g1 k hk
  · by_cases hkj : k = j
    · rw [hkj, si_1, if_pos ⟨rfl, rfl⟩, si_1, if_pos ⟨rfl, rfl⟩]; exact ⟨rfl, hx⟩
    · rw [si_1, if_neg (by omega), vo _ (by omega)]; exact g3 k hk
  · rw [si_ro _ _ (by omega), vo _ (by omega)]; exact g4
  · rw [si_ro _ _ (by omega), vo _ (by omega)]; exact g5
  · rw [vo 5 (by omega)] at hk
    rw [si_ro _ _ (by omega), vo _ (by omega)]; exact g6 k hk
  · rw [si_ro _ _ (by omega)]; exact g7 k hk
theorem go_auxX {u0 v0 u v w : Mem} {q : Nat} (hq : q < 2) (h : GO q u0 v0 u v) (hw : ∀ k, k < 209 → w.1 k = u.1 k ∧ w.2 k = u.2 k) : GO q u0 v0 w v := by
  obtain ⟨⟨x1, x2, x3⟩, hM, g1, g2, g3, g4, g5, g6, g7⟩ := h
  have e1 := (hw 176 (by omega)).1
  have e2 := (hw 187 (by omega)).1
  refine ⟨⟨fun k a b c d e => by rw [(hw k a).1]; exact x1 k a b c d e, fun k a b => by rw [(hw k a).2]; exact x2 k a b, fun k a b => by rw [e1]; exact x3 k a b⟩, hM, ?_, ?_, ?_, ?_, ?_, ?_, ?_⟩
  · rw [(hw _ (by omega)).1]; exact g1
  · rw [(hw _ (by omega)).2]; exact g2
  · rw [(hw _ (by omega)).1]; exact g3
  · rw [e1]; exact g4
  · rw [e1]; exact g5
  · rw [e2]; exact g6
  · rw [e2]; exact g7
theorem go_auxM {u0 v0 u v w : Mem} {q : Nat} (h : GO q u0 v0 u v) (hw : ∀ k, k < 16 → w.1 k = v.1 k) (hw2 : w.2 = v.2) : GO q u0 v0 u w := by
  obtain ⟨hX, ⟨m1, m2, m3, m4, m5, m6⟩, hG⟩ := h
  have e1 := hw 1 (by omega)
  refine ⟨hX, ⟨fun k a b => by rw [hw k a]; exact m1 k a b, by rw [hw2]; exact m2, by rw [e1]; exact m3, by rw [e1]; exact m4, by rw [e1]; exact m5, by rw [hw2]; exact m6⟩, ?_⟩
  unfold GOR at hG ⊢
  rw [e1, hw2]; exact hG
def wr5 (u : Mem) (p b : Nat) (x0 x1 x2 x3 x4 : Int32) : Mem := si (si (si (si (si u p b x0) p (b + 1) x1) p (b + 2) x2) p (b + 3) x3) p (b + 4) x4
def pk5 (d : Nat) (x0 x1 x2 x3 x4 : Int32) : Int32 := if d = 0 then x0 else if d = 1 then x1 else if d = 2 then x2 else if d = 3 then x3 else x4
theorem wr5_1 (u : Mem) (p b : Nat) (x0 x1 x2 x3 x4 : Int32) (a c : Nat) : (wr5 u p b x0 x1 x2 x3 x4).1 a c = if a = p ∧ b ≤ c ∧ c < b + 5 then pk5 (c - b) x0 x1 x2 x3 x4 else u.1 a c := by
  unfold wr5 pk5
  rw [si_1, si_1, si_1, si_1, si_1]
  by_cases h : a = p ∧ b ≤ c ∧ c < b + 5
  · rw [if_pos h]
    by_cases h4 : c = b + 4
    · rw [if_pos ⟨h.1, h4⟩, if_neg (by omega), if_neg (by omega), if_neg (by omega), if_neg (by omega)]
    · rw [if_neg (by omega)]
      by_cases h3 : c = b + 3
      · rw [if_pos ⟨h.1, h3⟩, if_neg (by omega), if_neg (by omega), if_neg (by omega), if_pos (by omega)]
      · rw [if_neg (by omega)]
        by_cases h2 : c = b + 2
        · rw [if_pos ⟨h.1, h2⟩, if_neg (by omega), if_neg (by omega), if_pos (by omega)]
        · rw [if_neg (by omega)]
          by_cases h1 : c = b + 1
          · rw [if_pos ⟨h.1, h1⟩, if_neg (by omega), if_pos (by omega)]
          · rw [if_neg (by omega), if_pos ⟨h.1, by omega⟩, if_pos (by omega)]
  · rw [if_neg h, if_neg (by omega), if_neg (by omega), if_neg (by omega), if_neg (by omega), if_neg (by omega)]
theorem wr5_ro (u : Mem) {p b : Nat} (x0 x1 x2 x3 x4 : Int32) {a : Nat} (h : a ≠ p) : (wr5 u p b x0 x1 x2 x3 x4).1 a = u.1 a := by
  funext c; rw [wr5_1, if_neg (by omega)]
/-- an event on both sides -/
theorem go_tell {u0 v0 u v : Mem} {q : Nat} (hq : q < 2) (hr : 0 ≤ (v0.1 1 5).toInt) (h : GO q u0 v0 u v) (a1 a2 a3 a4 : Int32) : ∃ u2 v2, fX11_keepEvent a1 a2 a3 a4 u = some u2 ∧ fX12_tells a1 a2 a3 a4 v = some v2 ∧ GO q u0 v0 u2 v2 ∧ (∀ k, k ≠ 176 → k ≠ 187 → u2.1 k = u.1 k) ∧ u2.2 = u.2 ∧ (∀ k, k ≠ 1 → v2.1 k = v.1 k) ∧ (∀ k, k ≠ 5 → (k < 400 ∨ 1400 ≤ k) → v2.1 1 k = v.1 1 k) := by
  obtain ⟨⟨x1, x2, x3⟩, ⟨m1, m2, m3, m4, m5, m6⟩, g1, g2, g3, g4, g5, g6, g7⟩ := id h
  have e200 : (200 : Int32).toInt = 200 := rfl
  unfold fX11_keepEvent fX12_tells
  rw [show 176 + 2 * 0 = 176 from rfl, g5.1]
  have hE := i_nat (x := v.1 1 5) (by omega)
  by_cases hf : (v.1 1 5).toInt = 200
  · rw [if_neg (show ¬ v.1 1 5 < 200 by rw [i_lt]; omega), if_pos (show v.1 1 5 = 200 by rw [i_eq]; omega)]
    exact ⟨u, v, rfl, rfl, h, fun _ _ _ => rfl, rfl, fun _ _ => rfl, fun _ _ _ => rfl⟩
  · rw [if_pos (by rw [i_lt]; omega), if_neg (show ¬ v.1 1 5 = 200 by rw [i_eq]; omega), g4.1]
    generalize hEE : (v.1 1 5).toInt.toNat = E at hE
    have hE2 : E < 200 := by omega
    have hEi : (v.1 1 5).toInt = (E : Int) := by omega
    rw [hE]
    have i0 : nI E * 5 = nI (5 * E) := by rw [show (5 : Int32) = nI 5 from rfl, pk_mul]; congr 1; omega
    have k0 : (400 : Int32) + 5 * nI E = nI (400 + 5 * E) := by rw [show (5 : Int32) = nI 5 from rfl, pk_mul, show (400 : Int32) = nI 400 from rfl, nI_add]
    have j1 : ∀ m, nI m + 1 = nI (m + 1) := fun m => nI_add m 1
    have j2 : ∀ m, nI m + 2 = nI (m + 2) := fun m => nI_add m 2
    have j3 : ∀ m, nI m + 3 = nI (m + 3) := fun m => nI_add m 3
    have j4 : ∀ m, nI m + 4 = nI (m + 4) := fun m => nI_add m 4
    rw [i0, k0]
    simp only [j1, j2, j3, j4]
    have b0 := fun (m : Nat) (hm : m < 1000) => inB_n (i := m) (n := 1000) hm (by omega)
    have b1 := fun (m : Nat) (hm : m < 8320) => inB_n (i := m) (n := 8320) hm (by omega)
    rw [if_pos (b0 _ (by omega)), Option.bind_some, if_pos (b0 _ (by omega)), Option.bind_some, if_pos (b0 _ (by omega)), Option.bind_some, if_pos (b0 _ (by omega)), Option.bind_some, if_pos (b0 _ (by omega)), Option.bind_some]
    rw [if_pos (b1 _ (by omega)), Option.bind_some, if_pos (b1 _ (by omega)), Option.bind_some, if_pos (b1 _ (by omega)), Option.bind_some, if_pos (b1 _ (by omega)), Option.bind_some, if_pos (b1 _ (by omega)), Option.bind_some]
    rw [cl_n (by omega), cl_n (by omega), cl_n (by omega), cl_n (by omega), cl_n (by omega), cl_n (by omega), cl_n (by omega), cl_n (by omega), cl_n (by omega), cl_n (by omega)]
    have eU : si (si (si (si (si u 187 (5 * E) (v.1 1 4)) 187 (5 * E + 1) a1) 187 (5 * E + 2) a2) 187 (5 * E + 3) a3) 187 (5 * E + 4) a4 = wr5 u 187 (5 * E) (v.1 1 4) a1 a2 a3 a4 := rfl
    have eV : si (si (si (si (si v 1 (400 + 5 * E) (v.1 1 4)) 1 (400 + 5 * E + 1) a1) 1 (400 + 5 * E + 2) a2) 1 (400 + 5 * E + 3) a3) 1 (400 + 5 * E + 4) a4 = wr5 v 1 (400 + 5 * E) (v.1 1 4) a1 a2 a3 a4 := rfl
    rw [eU, eV]
    have n1 : (wr5 u 187 (5 * E) (v.1 1 4) a1 a2 a3 a4).1 176 4 = nI E := by rw [wr5_ro _ _ _ _ _ _ (by omega), g5.1, ← hE]
    have n2 : (wr5 v 1 (400 + 5 * E) (v.1 1 4) a1 a2 a3 a4).1 1 5 = nI E := by rw [wr5_1, if_neg (by omega), ← hE]
    rw [n1, n2, j1]
    generalize hu2 : si (wr5 u 187 (5 * E) (v.1 1 4) a1 a2 a3 a4) 176 4 (nI (E + 1)) = u2
    generalize hv2 : si (wr5 v 1 (400 + 5 * E) (v.1 1 4) a1 a2 a3 a4) 1 5 (nI (E + 1)) = v2
    have p1 : ∀ k, k ≠ 176 → k ≠ 187 → u2.1 k = u.1 k := fun k a b => by rw [← hu2, si_ro _ _ a, wr5_ro _ _ _ _ _ _ b]
    have p2 : u2.2 = u.2 := by rw [← hu2]; rfl
    have p3 : ∀ k, k ≠ 1 → v2.1 k = v.1 k := fun k a => by rw [← hv2, si_ro _ _ a, wr5_ro _ _ _ _ _ _ a]
    have p4 : v2.2 = v.2 := by rw [← hv2]; rfl
    have p5 : ∀ k, k ≠ 5 → (k < 400 + 5 * E ∨ 400 + 5 * E + 5 ≤ k) → v2.1 1 k = v.1 1 k := fun k a b => by rw [← hv2, si_1, if_neg (by omega), wr5_1, if_neg (by omega)]
    have p6 : v2.1 1 5 = nI (E + 1) := by rw [← hv2, si_1, if_pos ⟨rfl, rfl⟩]
    have p7 : u2.1 176 4 = nI (E + 1) := by rw [← hu2, si_1, if_pos ⟨rfl, rfl⟩]
    have p8 : ∀ j, j ≠ 4 → u2.1 176 j = u.1 176 j := fun j a => by rw [← hu2, si_1, if_neg (by omega), wr5_ro _ _ _ _ _ _ (by omega)]
    have p9 : ∀ k, k < 5 * E → u2.1 187 k = u.1 187 k := fun k a => by rw [← hu2, si_ro _ _ (by omega), wr5_1, if_neg (by omega)]
    have p10 : ∀ k, 5 * E ≤ k → k < 5 * E + 5 → u2.1 187 k = v2.1 1 (400 + k) := fun k a b => by
      rw [← hu2, ← hv2, si_ro _ _ (by omega), wr5_1, if_pos ⟨rfl, a, b⟩, si_1, if_neg (by omega), wr5_1, if_pos ⟨rfl, by omega, by omega⟩, show 400 + k - (400 + 5 * E) = k - 5 * E by omega]
    have eN : (v2.1 1 5).toInt = (E : Int) + 1 := by rw [p6, nI_n (by omega)]; omega
    refine ⟨u2, v2, rfl, rfl, ⟨⟨fun k a b c d e => by rw [p1 k d e]; exact x1 k a b c d e, by rw [p2]; exact x2, fun j a b => by rw [p8 j b]; exact x3 j a b⟩, ⟨fun k a b => by rw [p3 k b]; exact m1 k a b, by rw [p4]; exact m2, fun k a => by rw [p5 k (by omega) (by omega)]; exact m3 k a, fun k a => by rw [p5 _ (by omega) (by omega)]; exact m4 k a, fun k a => by rw [p5 _ (by omega) (by omega)]; exact m5 k a, by rw [p4]; exact m6⟩, fun k hk => ?_, ?_, fun k hk => ?_, ?_, ?_, fun k hk => ?_, fun k hk => ?_⟩, p1, p2, p3, fun k a b => p5 k a (by omega)⟩
    · rw [p1 _ (by omega) (by omega), p5 _ (by omega) (by omega)]; exact g1 k hk
    · rw [p2, p4]; exact g2
    · rw [p1 _ (by omega) (by omega), p5 _ (by omega) (by omega)]; exact g3 k hk
    · rw [p8 3 (by omega), p5 4 (by omega) (by omega)]; exact g4
    · rw [eN, p7, p6]; exact ⟨rfl, by omega, by omega⟩
    · rw [eN] at hk
      by_cases hk2 : k < 5 * E
      · rw [p9 k hk2, p5 _ (by omega) (by omega)]; exact g6 k (by omega)
      · exact p10 k (by omega) (by omega)
    · rw [p9 k (by omega)]; exact g7 k hk
