theorem tabOk_c {g h : Nat → Int32} (e : ∀ k, k < 25 → h k = g k) (hg : tabOk g) : tabOk h := by
  obtain ⟨a, b, c⟩ := hg
  rw [← e 0 (by omega)] at a b c
  refine ⟨a, b, fun p hp => ?_⟩
  have := c p hp
  rw [e (1 + 3 * p) (by omega), e (2 + 3 * p) (by omega), e (3 + 3 * p) (by omega)]
  refine ⟨this.1, this.2.1, this.2.2.1, this.2.2.2.1, this.2.2.2.2.1, fun h9 => ?_⟩
  rw [e (1 + 3 * (p + 1)) (by omega)]; exact this.2.2.2.2.2 h9
theorem chOk_c {g h : Nat → Int32} (e : ∀ k, k < 6 → h k = g k) (hg : chOk g) : chOk h := by
  unfold chOk at hg ⊢
  rw [e 0 (by omega), e 1 (by omega), e 2 (by omega), e 3 (by omega), e 4 (by omega), e 5 (by omega)]
  rcases hg with ⟨a, b⟩ | b
  · exact Or.inl ⟨a, fun j hj => by rw [e (1 + j) (by omega)]; exact b j hj⟩
  · exact Or.inr b
theorem lawOk_c {g h : Nat → Int32} (e : ∀ k, k < 220 → h k = g k) (hg : lawOk g) : lawOk h := by
  obtain ⟨a, b, c⟩ := hg
  exact ⟨fun k hk => by rw [e k (by omega)]; exact a k hk, fun c' hc => chOk_c (fun k hk => e _ (by omega)) (b c' hc), fun t ht => tabOk_c (fun k hk => e _ (by omega)) (c t ht)⟩
theorem rgA_c {f g : Nat → Int32} (e : ∀ k, k < 8320 → g k = f k) (hf : rgA f) : rgA g := by
  obtain ⟨a0, a1, a2, a4, a5, a6, a8, a10, a20, a220, a1400, a1500⟩ := hf
  refine ⟨by rw [e 0 (by omega)]; exact a0, by rw [e 0 (by omega), e 1 (by omega)]; exact a1, fun i hi => by rw [e _ (by omega)]; exact a2 i hi, by rw [e _ (by omega)]; exact a4, by rw [e _ (by omega)]; exact a5, by rw [e _ (by omega)]; exact a6, fun i hi => by rw [e _ (by omega)]; exact a8 i hi, fun i hi => by rw [e _ (by omega)]; exact a10 i hi, fun i hi => by rw [e _ (by omega)]; exact a20 i hi, fun i hi => by rw [e _ (by omega)]; exact a220 i hi, fun i hi => ?_, fun t ht => ?_⟩
  · rw [e 6 (by omega)] at hi
    rw [e (1400 + 4 * i) (by omega), e (1401 + 4 * i) (by omega), e (1402 + 4 * i) (by omega), e (1403 + 4 * i) (by omega)]
    exact a1400 i hi
  · rw [e 0 (by omega)] at ht
    exact lawOk_c (fun k hk => e _ (by omega)) (a1500 t ht)
theorem relL_c {u : Mem} {t : Nat} {g h : Nat → Int32} (hO : lawOk g) (e : ∀ k, k < 220 → h k = g k) (hL : relL u t g) : relL u t h := by
  obtain ⟨a, b, c, d⟩ := hL
  refine ⟨fun k hk => by rw [e k (by omega)]; exact a k hk, fun c' hc j hj => by rw [e _ (by omega)]; exact b c' hc j hj, fun n hn => by rw [e _ (by omega)]; exact c n hn, fun n hn p hp j hj => ?_⟩
  rw [e (36 + 25 * n) (by omega)] at hp
  have h8 := (hO.2.2 n hn).2.1
  have h8 : (g (36 + 25 * n)).toInt ≤ 8 := h8
  rw [e _ (by omega)]; exact d n hn p hp j hj
theorem relS_c {u : Mem} {i q : Nat} (hq : q < 2) {f g : Nat → Int32} {bk bl : Nat → Int64} (e : ∀ k, k < 8320 → g k = f k) (eb : ∀ k, k < 160 → bl k = bk k) (h : relS u i q f bk) : relS u i q g bl := by
  obtain ⟨s1, s2, s3, s4, s5, s6⟩ := h
  exact ⟨by rw [s1, e _ (by omega)], by rw [s2, e _ (by omega)], by rw [s3, e _ (by omega)], fun k hk => by rw [s4 k hk, e _ (by omega)], fun k hk => by rw [s5 k hk, eb _ (by omega)], fun k hk => by rw [s6 k hk, e _ (by omega)]⟩
theorem relW_c {u : Mem} {w : Nat} {f g : Nat → Int32} {bk bl : Nat → Int64} (hr : rgA f) (e : ∀ k, k < 8320 → g k = f k) (eb : ∀ k, k < 160 → bl k = bk k) (h : relW u w f bk) : relW u w g bl := by
  obtain ⟨b1, b2, b3, b4, b5, b6⟩ := h
  have h0 := hr.1
  have h5 := hr.2.2.2.2.1
  have h6 := hr.2.2.2.2.2.1
  refine ⟨by rw [e 0 (by omega), e 1 (by omega), e 4 (by omega), e 5 (by omega), e 6 (by omega)]; exact b1, fun q hq => relS_c hq e eb (b2 q hq), fun t ht => ?_, fun t ht => ?_, fun k hk => ?_, fun i hi => ?_⟩
  · rw [e 0 (by omega)] at ht
    exact relL_c (hr.2.2.2.2.2.2.2.2.2.2.2 t ht) (fun k hk => e _ (by omega)) (b3 t ht)
  · rw [e 0 (by omega)] at ht
    rw [e 7 (by omega)]; exact b4 t ht
  · rw [e 5 (by omega)] at hk
    rw [e _ (by omega)]; exact b5 k hk
  · rw [e 6 (by omega)] at hi
    rw [e (1400 + 4 * i) (by omega), e (1401 + 4 * i) (by omega), e (1402 + 4 * i) (by omega), e (1403 + 4 * i) (by omega)]
    exact b6 i hi
theorem cps_loop (i0 i1 : Nat) (hne : i0 ≠ i1) (K : Mem → Option Mem) : ∀ (n p : Nat) (u : Mem) (t : Nat), p + n = 80 → n < t → (∀ k, k < 80 → u.1 (160 + 4 * i1 + 3) k = 0 ∨ u.1 (160 + 4 * i1 + 3) k = 1) → fX7_copyFrom_L38 i0 i1 K t (nI p) u = K (sr u (160 + 4 * i0 + 3) (fun j => if p ≤ j ∧ j < 80 then u.1 (160 + 4 * i1 + 3) j else u.1 (160 + 4 * i0 + 3) j)) := by
  intro n
  induction n with
  | zero =>
    intro p u t hp ht hb
    obtain ⟨t, rfl⟩ : ∃ k, t = k + 1 := ⟨t - 1, by omega⟩
    have hp : p = 80 := by omega
    subst hp
    rw [fX7_copyFrom_L38, if_pos (by decide)]
    congr 1
    apply mem_ext
    · intro a b; simp only [sr_1]; repeat' split
      all_goals first | rfl | (exfalso; omega) | (rename_i h _; subst h; rfl) | simp_all
    · intro a b; rfl
  | succ n ih =>
    intro p u t hp ht hb
    obtain ⟨t, rfl⟩ : ∃ k, t = k + 1 := ⟨t - 1, by omega⟩
    have h1 : ¬ (80 : Int32) ≤ nI p := by rw [i_le, nI_n (by omega)]; have : (80 : Int32).toInt = 80 := by decide
                                          omega
    have p1 : inB (nI p) 80 := inB_n (by omega) (by omega)
    have p2 : vp_nar .boolean (u.1 (160 + 4 * i1 + 3) p) = u.1 (160 + 4 * i1 + 3) p := by
      rcases hb p (by omega) with h | h <;> rw [h] <;> rfl
    rw [fX7_copyFrom_L38, if_neg h1]
    simp only [if_pos p1, cl_n (show p < 2147483648 by omega), if_pos p2, Option.bind_some, nI_1]
    rw [ih (p + 1) _ t (by omega) (by omega) (fun k hk => by rw [si_ro _ _ (by omega)]; exact hb k hk)]
    congr 1
    apply mem_ext
    · intro a b
      simp only [sr_1, si_1, true_and, show ¬ (160 + 4 * i1 + 3 = 160 + 4 * i0 + 3) by omega, false_and, if_false]
      repeat' split
      all_goals first | rfl | (exfalso; omega) | (have e : b = p := by omega
                                                  subst e; rfl) | simp_all
    · intro a b; rfl
theorem cps (i0 i1 : Nat) (hne : i0 ≠ i1) (u : Mem) (hb : ∀ k, k < 80 → u.1 (160 + 4 * i1 + 3) k = 0 ∨ u.1 (160 + 4 * i1 + 3) k = 1) : ∃ w, fX7_copyFrom i0 i1 u = some w ∧ (∀ k, k < 160 + 4 * i0 ∨ 160 + 4 * i0 + 4 ≤ k → w.1 k = u.1 k ∧ w.2 k = u.2 k) ∧ w.1 (160 + 4 * i0) 3 = u.1 (160 + 4 * i1) 3 ∧ w.1 (160 + 4 * i0) 4 = u.1 (160 + 4 * i1) 4 ∧ w.1 (160 + 4 * i0) 5 = u.1 (160 + 4 * i1) 5 ∧ (∀ k, k < 96 → w.1 (160 + 4 * i0 + 1) k = u.1 (160 + 4 * i1 + 1) k) ∧ (∀ k, k < 80 → w.2 (160 + 4 * i0 + 2) k = u.2 (160 + 4 * i1 + 2) k) ∧ (∀ k, k < 80 → w.1 (160 + 4 * i0 + 3) k = u.1 (160 + 4 * i1 + 3) k) := by
  unfold fX7_copyFrom
  have hT0 : 80 < fu0 := by decide
  generalize fu0 = T at hT0 ⊢
  rw [Option.bind_some, Option.bind_some]
  rw [show (0 : Int32) = nI 0 from rfl, cps_loop i0 i1 hne _ 80 0 _ T rfl hT0 (fun k hk => by rw [srl_1, sr_1, if_neg (by omega)]; exact hb k hk)]
  refine ⟨_, rfl, fun k hk => ⟨?_, ?_⟩, ?_, ?_, ?_, fun k hk => ?_, fun k hk => ?_, fun k hk => ?_⟩
  · funext j; simp only [si_1, sr_1, srl_1, show ¬ (k = 160 + 4 * i0) by omega, show ¬ (k = 160 + 4 * i0 + 1) by omega, show ¬ (k = 160 + 4 * i0 + 3) by omega, false_and, if_false]
  · funext j; simp only [si_2, sr_2, srl_2, show ¬ (k = 160 + 4 * i0 + 2) by omega, if_false]
  · simp only [si_1, sr_1, srl_1, show ¬ (160 + 4 * i1 = 160 + 4 * i0) by omega, show ¬ (160 + 4 * i1 = 160 + 4 * i0 + 1) by omega, show ¬ (160 + 4 * i1 = 160 + 4 * i0 + 3) by omega, false_and, if_false]; simp
  · simp only [si_1, sr_1, srl_1, show ¬ (160 + 4 * i1 = 160 + 4 * i0) by omega, show ¬ (160 + 4 * i1 = 160 + 4 * i0 + 1) by omega, show ¬ (160 + 4 * i1 = 160 + 4 * i0 + 3) by omega, false_and, if_false]; simp
  · simp only [si_1, sr_1, srl_1, show ¬ (160 + 4 * i1 = 160 + 4 * i0) by omega, show ¬ (160 + 4 * i1 = 160 + 4 * i0 + 1) by omega, show ¬ (160 + 4 * i1 = 160 + 4 * i0 + 3) by omega, false_and, if_false]; simp
  · simp only [si_1, sr_1, srl_1, show ¬ (160 + 4 * i0 + 1 = 160 + 4 * i0) by omega, show ¬ (160 + 4 * i0 + 1 = 160 + 4 * i0 + 3) by omega, false_and, if_false, if_true, cpy0, if_pos hk]
  · simp only [si_2, sr_2, srl_2, if_true, cpy0, if_pos hk]
  · simp only [si_1, sr_1, srl_1, show ¬ (160 + 4 * i0 + 3 = 160 + 4 * i0) by omega, show ¬ (160 + 4 * i0 + 3 = 160 + 4 * i0 + 1) by omega, show ¬ (160 + 4 * i1 + 3 = 160 + 4 * i0 + 1) by omega, false_and, if_false, if_true, hk, Nat.zero_le, and_self]
/-- a star's copy -/
theorem relS_cp {u w : Mem} {i0 i1 q : Nat} {f : Nat → Int32} {bk : Nat → Int64} (h : relS u i1 q f bk) (h1 : w.1 (160 + 4 * i0) 3 = u.1 (160 + 4 * i1) 3) (h2 : w.1 (160 + 4 * i0) 4 = u.1 (160 + 4 * i1) 4) (h3 : w.1 (160 + 4 * i0) 5 = u.1 (160 + 4 * i1) 5) (h4 : ∀ k, k < 96 → w.1 (160 + 4 * i0 + 1) k = u.1 (160 + 4 * i1 + 1) k) (h5 : ∀ k, k < 80 → w.2 (160 + 4 * i0 + 2) k = u.2 (160 + 4 * i1 + 2) k) (h6 : ∀ k, k < 80 → w.1 (160 + 4 * i0 + 3) k = u.1 (160 + 4 * i1 + 3) k) : relS w i0 q f bk := by
  obtain ⟨s1, s2, s3, s4, s5, s6⟩ := h
  exact ⟨h1.trans s1, h2.trans s2, h3.trans s3, fun k hk => (h4 k hk).trans (s4 k hk), fun k hk => (h5 k hk).trans (s5 k hk), fun k hk => (h6 k hk).trans (s6 k hk)⟩
theorem cpw {a0 a1 : Nat} (h0 : a0 < 2) (h1 : a1 < 2) (hne : a0 ≠ a1) {u : Mem} {f : Nat → Int32} {bk : Nat → Int64} (hr : rgA f) (hW : relW u a1 f bk) : ∃ w, fX10_copyFrom a0 a1 u = some w ∧ (∀ k, k < 160 + 8 * a0 ∨ 160 + 8 * a0 + 8 ≤ k → k ≠ 176 + 2 * a0 → w.1 k = u.1 k ∧ w.2 k = u.2 k) ∧ relW w a0 f bk := by
  obtain ⟨b1, b2, b3, b4, b5, b6⟩ := hW
  have hb : ∀ q, q < 2 → ∀ k, k < 80 → u.1 (160 + 4 * (2 * a1 + q) + 3) k = 0 ∨ u.1 (160 + 4 * (2 * a1 + q) + 3) k = 1 := by
    intro q hq k hk
    rw [(b2 q hq).2.2.2.2.2 k hk]
    exact hr.2.2.2.2.2.2.2.2.2.1 _ (by omega)
  obtain ⟨w, x1, x2, x3, x4, x5, x6, x7, x8⟩ := cps (2 * a0 + 0) (2 * a1 + 0) (by omega) u (hb 0 (by omega))
  obtain ⟨z, y1, y2, y3, y4, y5, y6, y7, y8⟩ := cps (2 * a0 + 1) (2 * a1 + 1) (by omega) w (fun k hk => by rw [(x2 _ (by omega)).1]; exact hb 1 (by omega) k hk)
  unfold fX10_copyFrom
  have hT0 : 80 < fu0 := by decide
  generalize fu0 = T at hT0 ⊢
  obtain ⟨T, rfl⟩ : ∃ k, T = k + 1 + 1 + 1 := ⟨T - 3, by omega⟩
  rw [fX10_copyFrom_L2, if_neg (by decide), if_pos (by decide), if_pos (by decide), show (0 : Int32).toNatClampNeg = 0 from rfl, x1]
  simp only [Option.bind_some]
  rw [show (0 : Int32) + 1 = 1 from rfl, fX10_copyFrom_L2, if_neg (by decide), if_pos (by decide), if_pos (by decide), show (1 : Int32).toNatClampNeg = 1 from rfl, y1]
  simp only [Option.bind_some]
  rw [fX10_copyFrom_L2, if_pos (by decide)]
  have hz : ∀ k, k < 160 + 8 * a0 ∨ 160 + 8 * a0 + 8 ≤ k → z.1 k = u.1 k ∧ z.2 k = u.2 k := fun k hk => ⟨by rw [(y2 k (by omega)).1, (x2 k (by omega)).1], by rw [(y2 k (by omega)).2, (x2 k (by omega)).2]⟩
  have hm : ∀ m : Mem, m.1 = (si (si (si (si (si z (176 + 2 * a0) 1 (z.1 (176 + 2 * a1) 1)) (176 + 2 * a0) 2 (z.1 (176 + 2 * a1) 2)) (176 + 2 * a0) 3 (z.1 (176 + 2 * a1) 3)) (176 + 2 * a0) 4 (z.1 (176 + 2 * a1) 4)) (176 + 2 * a0) 5 (z.1 (176 + 2 * a1) 5)).1 → m.2 = z.2 → ((∀ k, k < 160 + 8 * a0 ∨ 160 + 8 * a0 + 8 ≤ k → k ≠ 176 + 2 * a0 → m.1 k = u.1 k ∧ m.2 k = u.2 k) ∧ relW m a0 f bk) := by
    intro m hm1 hm2
    have hmz : ∀ k, k ≠ 176 + 2 * a0 → m.1 k = z.1 k := fun k hk => by rw [hm1]; funext j; simp only [si_1, hk, false_and, if_false]
    have hmu : ∀ k, k < 160 + 8 * a0 ∨ 160 + 8 * a0 + 8 ≤ k → k ≠ 176 + 2 * a0 → m.1 k = u.1 k ∧ m.2 k = u.2 k := fun k hk h9 => ⟨by rw [hmz k h9, (hz k hk).1], by rw [hm2, (hz k hk).2]⟩
    refine ⟨hmu, ?_, fun q hq => ?_, fun t ht => ?_, fun t ht => ?_, fun k hk => ?_, fun i hi => ?_⟩
    · have e1 := hz (176 + 2 * a1) (by omega)
      rw [hm1]
      simp only [si_1, true_and, e1.1]
      simp only [show ¬ ((1 : Nat) = 2) by decide, show ¬ ((1 : Nat) = 3) by decide, show ¬ ((1 : Nat) = 4) by decide, show ¬ ((1 : Nat) = 5) by decide, show ¬ ((2 : Nat) = 3) by decide, show ¬ ((2 : Nat) = 4) by decide, show ¬ ((2 : Nat) = 5) by decide, show ¬ ((3 : Nat) = 4) by decide, show ¬ ((3 : Nat) = 5) by decide, show ¬ ((4 : Nat) = 5) by decide, if_true, if_false]
      exact b1
    · have hs := b2 q hq
      rcases (by omega : q = 0 ∨ q = 1) with rfl | rfl
      · refine relS_cp hs ?_ ?_ ?_ (fun k hk => ?_) (fun k hk => ?_) (fun k hk => ?_)
        · rw [hmz _ (by omega), (y2 _ (by omega)).1]; exact x3
        · rw [hmz _ (by omega), (y2 _ (by omega)).1]; exact x4
        · rw [hmz _ (by omega), (y2 _ (by omega)).1]; exact x5
        · rw [hmz _ (by omega), (y2 _ (by omega)).1]; exact x6 k hk
        · rw [hm2, (y2 _ (by omega)).2]; exact x7 k hk
        · rw [hmz _ (by omega), (y2 _ (by omega)).1]; exact x8 k hk
      · refine relS_cp hs ?_ ?_ ?_ (fun k hk => ?_) (fun k hk => ?_) (fun k hk => ?_)
        · rw [hmz _ (by omega), y3, (x2 _ (by omega)).1]
        · rw [hmz _ (by omega), y4, (x2 _ (by omega)).1]
        · rw [hmz _ (by omega), y5, (x2 _ (by omega)).1]
        · rw [hmz _ (by omega), y6 k hk, (x2 _ (by omega)).1]
        · rw [hm2, y7 k hk, (x2 _ (by omega)).2]
        · rw [hmz _ (by omega), y8 k hk, (x2 _ (by omega)).1]
    · have hf := hr.1
      exact relL_fr (fun r hr => (hmu _ (by omega) (by omega)).1) (b3 t ht)
    · have hf := hr.1
      rw [(hmu (5 * t) (by omega) (by omega)).1]; exact b4 t ht
    · rw [(hmu 187 (by omega) (by omega)).1]; exact b5 k hk
    · rw [(hmu 189 (by omega) (by omega)).1, (hmu 190 (by omega) (by omega)).1, (hmu 191 (by omega) (by omega)).1, (hmu 192 (by omega) (by omega)).1]; exact b6 i hi
  have e1 : 176 + 2 * a1 ≠ 176 + 2 * a0 := by omega
  refine ⟨_, rfl, hm _ ?_ ?_⟩
  · simp only [si_1, e1, false_and, if_false]
  · rfl
/-- places of the class that neither the stars nor the worlds are -/
theorem rest_fr {u w v v2 : Mem} (h : ∀ k, 180 ≤ k → w.1 k = u.1 k ∧ w.2 k = u.2 k) (h0 : v2.1 0 = v.1 0) (h6 : v2.1 6 = v.1 6) (h5 : v2.2 5 = v.2 5) (t : relT u v) (f : relF u v) (p : relP u v) : relT w v2 ∧ relF w v2 ∧ relP w v2 := by
  unfold relT relF relP at *
  rw [h0, h6, h5, (h 182 (by omega)).1, (h 183 (by omega)).1, (h 184 (by omega)).1, (h 193 (by omega)).1, (h 194 (by omega)).2]
  exact ⟨t, f, p⟩
theorem sp_image_ok : sp_image RR := by
  intro u v hR
  obtain ⟨r1, r2, w1, w2, c, t, f, p⟩ := id hR
  obtain ⟨w, x1, x2, x3⟩ := cpw (a0 := 1) (a1 := 0) (by omega) (by omega) (by omega) r1 w1
  unfold fX11_image fX12_image
  rw [x1, copies_out]
  have ev1 : (cbO (cpO v 0) 0).1 1 = v.1 1 := by funext j; simp only [cbO, srl_1, cpO, sr_1]; simp
  have ev2 : ∀ j, j < 8320 → (cbO (cpO v 0) 0).1 2 j = v.1 1 j := fun j hj => by simp only [cbO, srl_1, cpO, sr_1]; simp [hj]
  have eb3 : (cbO (cpO v 0) 0).2 3 = v.2 3 := by funext j; simp only [cbO, srl_2, cpO, sr_2]; simp
  have eb4 : ∀ j, j < 160 → (cbO (cpO v 0) 0).2 4 j = v.2 3 j := fun j hj => by simp only [cbO, srl_2, cpO, sr_2]; simp [hj]
  have ez0 : (cbO (cpO v 0) 0).1 0 = v.1 0 := by funext j; simp only [cbO, srl_1, cpO, sr_1]; simp
  have ez6 : (cbO (cpO v 0) 0).1 6 = v.1 6 := by funext j; simp only [cbO, srl_1, cpO, sr_1]; simp
  have eb5 : (cbO (cpO v 0) 0).2 5 = v.2 5 := by funext j; simp only [cbO, srl_2, cpO, sr_2]; simp
  have ew : w.1 (176 + 2 * 0) 1 = v.1 1 0 := by rw [(x2 _ (by omega) (by omega)).1]; exact w1.1.1
  refine ⟨v.1 1 0, w, cbO (cpO v 0) 0, ?_, ?_, ?_⟩
  · simp only [Option.bind_some, ew]
  · simp only [Option.bind_some, ev1]
  · obtain ⟨g1, g2, g3⟩ := rest_fr (w := w) (v2 := cbO (cpO v 0) 0) (fun k hk => x2 k (by omega) (by omega)) ez0 ez6 eb5 t f p
    refine ⟨by rw [ev1]; exact r1, rgA_c ev2 r1, ?_, relW_c r1 ev2 eb4 x3, ?_, g1, g2, g3⟩
    · rw [ev1, eb3]
      refine relW_rows r1.1.2 w1 (fun _ _ => rfl) (fun k hk => (x2 k (by omega) (by omega)).1) ?_ (fun q hq => relS_fr (fun r hr => x2 _ (by omega) (by omega)) (w1.2.1 q hq))
      rw [(x2 (176 + 2 * 0) (by omega) (by omega)).1]; exact w1.1
    · rw [ev1, ev2 0 (by omega), ev2 5 (by omega), ev2 6 (by omega)]; exact ⟨Int.le_refl _, Int.le_refl _, Int.le_refl _⟩
theorem sp_back_ok : sp_back RR := by
  intro u v hR
  obtain ⟨r1, r2, w1, w2, c, t, f, p⟩ := id hR
  obtain ⟨w, x1, x2, x3⟩ := cpw (a0 := 0) (a1 := 1) (by omega) (by omega) (by omega) r2 w2
  unfold fX11_back fX12_back
  rw [x1, copies_in]
  have ev1 : (cbI (cpI v 0) 0).1 2 = v.1 2 := by funext j; simp only [cbI, srl_1, cpI, sr_1]; simp
  have ev2 : ∀ j, j < 8320 → (cbI (cpI v 0) 0).1 1 j = v.1 2 j := fun j hj => by simp only [cbI, srl_1, cpI, sr_1]; simp [hj]
  have eb3 : (cbI (cpI v 0) 0).2 4 = v.2 4 := by funext j; simp only [cbI, srl_2, cpI, sr_2]; simp
  have eb4 : ∀ j, j < 160 → (cbI (cpI v 0) 0).2 3 j = v.2 4 j := fun j hj => by simp only [cbI, srl_2, cpI, sr_2]; simp [hj]
  have ez0 : (cbI (cpI v 0) 0).1 0 = v.1 0 := by funext j; simp only [cbI, srl_1, cpI, sr_1]; simp
  have ez6 : (cbI (cpI v 0) 0).1 6 = v.1 6 := by funext j; simp only [cbI, srl_1, cpI, sr_1]; simp
  have eb5 : (cbI (cpI v 0) 0).2 5 = v.2 5 := by funext j; simp only [cbI, srl_2, cpI, sr_2]; simp
  have ew : w.1 (176 + 2 * 0) 1 = v.1 2 0 := by rw [x3.1.1]
  refine ⟨v.1 2 0, w, cbI (cpI v 0) 0, ?_, ?_, ?_⟩
  · simp only [Option.bind_some, ew]
  · simp only [Option.bind_some, ev2 0 (by omega)]
  · obtain ⟨g1, g2, g3⟩ := rest_fr (w := w) (v2 := cbI (cpI v 0) 0) (fun k hk => x2 k (by omega) (by omega)) ez0 ez6 eb5 t f p
    refine ⟨rgA_c ev2 r2, by rw [ev1]; exact r2, relW_c r2 ev2 eb4 x3, ?_, ?_, g1, g2, g3⟩
    · rw [ev1, eb3]
      refine relW_rows r2.1.2 w2 (fun _ _ => rfl) (fun k hk => (x2 k (by omega) (by omega)).1) ?_ (fun q hq => relS_fr (fun r hr => x2 _ (by omega) (by omega)) (w2.2.1 q hq))
      rw [(x2 (176 + 2 * 1) (by omega) (by omega)).1]; exact w2.1
    · rw [ev1, ev2 0 (by omega), ev2 5 (by omega), ev2 6 (by omega)]; exact ⟨Int.le_refl _, Int.le_refl _, Int.le_refl _⟩
