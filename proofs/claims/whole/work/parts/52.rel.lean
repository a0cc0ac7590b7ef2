/-- a table: how many points, then heat, low, high of each -/
def tabOk (h : Nat → Int32) : Prop := 0 ≤ (h 0).toInt ∧ (h 0).toInt ≤ 8 ∧ ∀ p : Nat, (p : Int) < (h 0).toInt → 0 ≤ (h (1 + 3 * p)).toInt ∧ (h (1 + 3 * p)).toInt ≤ 999 ∧ 0 ≤ (h (2 + 3 * p)).toInt ∧ (h (2 + 3 * p)).toInt ≤ (h (3 + 3 * p)).toInt ∧ (h (3 + 3 * p)).toInt ≤ 9999 ∧ ((p : Int) + 1 < (h 0).toInt → (h (1 + 3 * p)).toInt < (h (1 + 3 * (p + 1))).toInt)
def chOk (h : Nat → Int32) : Prop := (h 0 = 0 ∧ ∀ j, j < 5 → h (1 + j) = 0) ∨ (h 0 = 1 ∧ (0 ≤ (h 1).toInt ∧ (h 1).toInt < 6) ∧ (1 ≤ (h 2).toInt ∧ (h 2).toInt ≤ 9) ∧ (0 ≤ (h 3).toInt ∧ (h 3).toInt < 6) ∧ (1 ≤ (h 4).toInt ∧ (h 4).toInt ≤ 9) ∧ (0 ≤ (h 5).toInt ∧ (h 5).toInt ≤ 999))
/-- the laws of one time, 220 ints -/
def lawOk (g : Nat → Int32) : Prop := (∀ k, k < 6 → 0 ≤ (g k).toInt ∧ (g k).toInt ≤ 99) ∧ (∀ c, c < 5 → chOk (fun k => g (6 + 6 * c + k))) ∧ ∀ t, t < 7 → tabOk (fun k => g (36 + 25 * t + k))
/-- the flat state: ranges -/
def rgA (f : Nat → Int32) : Prop :=
  (0 ≤ (f 0).toInt ∧ (f 0).toInt ≤ 30) ∧ (0 ≤ (f 1).toInt ∧ (f 1).toInt ≤ (f 0).toInt) ∧ (∀ i, i < 2 → 0 ≤ (f (2 + i)).toInt ∧ (f (2 + i)).toInt ≤ 16) ∧ (0 ≤ (f 4).toInt ∧ (f 4).toInt ≤ 300) ∧ (0 ≤ (f 5).toInt ∧ (f 5).toInt ≤ 200) ∧ (0 ≤ (f 6).toInt ∧ (f 6).toInt ≤ 20) ∧
  (∀ i, i < 2 → 1 ≤ (f (8 + i)).toInt ∧ (f (8 + i)).toInt ≤ 100000) ∧ (∀ i, i < 2 → 0 ≤ (f (10 + i)).toInt ∧ (f (10 + i)).toInt ≤ 1000000) ∧ (∀ k, k < 192 → 0 ≤ (f (20 + k)).toInt ∧ (f (20 + k)).toInt ≤ 100000) ∧ (∀ k, k < 160 → f (220 + k) = 0 ∨ f (220 + k) = 1) ∧
  (∀ i : Nat, (i : Int) < (f 6).toInt → (f (1400 + 4 * i) = 0 ∨ f (1400 + 4 * i) = 1) ∧ (-1 ≤ (f (1401 + 4 * i)).toInt ∧ (f (1401 + 4 * i)).toInt ≤ 6) ∧ (0 ≤ (f (1402 + 4 * i)).toInt ∧ (f (1402 + 4 * i)).toInt ≤ 1000000000) ∧ (0 ≤ (f (1403 + 4 * i)).toInt ∧ (f (1403 + 4 * i)).toInt ≤ 1000000000)) ∧
  (∀ t : Nat, (t : Int) ≤ (f 0).toInt → lawOk (fun k => f (1500 + 220 * t + k)))
/-- the class's Laws number t hold g -/
def relL (u : Mem) (t : Nat) (g : Nat → Int32) : Prop := (∀ k, k < 6 → u.1 (5 * t + 1) k = if g k = 0 then 1 else g k) ∧ (∀ c, c < 5 → ∀ j, j < 5 → u.1 (5 * t + 2) (5 * c + j) = g (6 + 6 * c + (1 + j))) ∧ (∀ n, n < 7 → u.1 (5 * t + 3) n = g (36 + 25 * n)) ∧ ∀ n, n < 7 → ∀ p : Nat, (p : Int) < (g (36 + 25 * n)).toInt → ∀ j, j < 3 → u.1 (5 * t + 4) ((n * 8 + p) * 3 + j) = g (36 + 25 * n + (1 + 3 * p + j))
/-- the class's Star number i holds the flat state's star q -/
def relS (u : Mem) (i q : Nat) (f : Nat → Int32) (bk : Nat → Int64) : Prop := u.1 (160 + 4 * i) 3 = f (2 + q) ∧ u.1 (160 + 4 * i) 4 = f (8 + q) ∧ u.1 (160 + 4 * i) 5 = f (10 + q) ∧ (∀ k, k < 96 → u.1 (160 + 4 * i + 1) k = f (20 + (96 * q + k))) ∧ (∀ k, k < 80 → u.2 (160 + 4 * i + 2) k = bk (80 * q + k)) ∧ ∀ k, k < 80 → u.1 (160 + 4 * i + 3) k = f (220 + (80 * q + k))
/-- the class's World number w, and the rows that it counts, hold the flat state -/
def relW (u : Mem) (w : Nat) (f : Nat → Int32) (bk : Nat → Int64) : Prop :=
  (u.1 (176 + 2 * w) 1 = f 0 ∧ u.1 (176 + 2 * w) 2 = f 1 ∧ u.1 (176 + 2 * w) 3 = f 4 ∧ u.1 (176 + 2 * w) 4 = f 5 ∧ u.1 (176 + 2 * w) 5 = f 6) ∧ (∀ q, q < 2 → relS u (2 * w + q) q f bk) ∧
  (∀ t : Nat, (t : Int) ≤ (f 0).toInt → relL u t (fun k => f (1500 + 220 * t + k))) ∧ (∀ t : Nat, (t : Int) = (f 0).toInt → u.1 (5 * t) 4 = f 7) ∧
  (∀ k : Nat, (k : Int) < 5 * (f 5).toInt → u.1 187 k = f (400 + k)) ∧
  (∀ i : Nat, (i : Int) < (f 6).toInt → u.1 189 i = f (1400 + 4 * i) ∧ u.1 190 i = f (1401 + 4 * i) ∧ u.1 191 i = f (1402 + 4 * i) ∧ u.1 192 i = f (1403 + 4 * i))
def relT (u v : Mem) : Prop := u.1 182 1 = v.1 0 7 ∧ (0 ≤ (v.1 0 7).toInt ∧ (v.1 0 7).toInt ≤ 400) ∧ ∀ k : Nat, (k : Int) < (v.1 0 7).toInt → u.1 183 k = (v.1 6 k) &&& 255 ∧ (v.1 6 k).toInt8.toInt32 = v.1 6 k
def relF (u v : Mem) : Prop := (u.1 184 8 = 0 ∧ v.1 0 8 = -1 ∧ v.1 0 9 = -1) ∨ (u.1 184 8 = 1 ∧ u.1 184 9 = v.1 0 8 ∧ u.1 184 10 = v.1 0 9)
def relP (u v : Mem) : Prop := u.1 193 1 = v.1 0 5 ∧ (v.1 0 5 = -1 ∨ v.1 0 5 = 0 ∨ v.1 0 5 = 1) ∧ ∀ k, k < 80 → u.2 194 k = v.2 5 k
/-- THE RELATION between the class's memory and the reference's -/
def RR (u v : Mem) : Prop := rgA (v.1 1) ∧ rgA (v.1 2) ∧ relW u 0 (v.1 1) (v.2 3) ∧ relW u 1 (v.1 2) (v.2 4) ∧ ((v.1 2 0).toInt ≤ (v.1 1 0).toInt ∧ (v.1 2 5).toInt ≤ (v.1 1 5).toInt ∧ (v.1 2 6).toInt ≤ (v.1 1 6).toInt) ∧ relT u v ∧ relF u v ∧ relP u v
/-- what is left alone -/
def frX (u w : Mem) : Prop := ∀ k, k < 195 → w.1 k = u.1 k ∧ w.2 k = u.2 k
def frM (v w : Mem) : Prop := (∀ k, 0 < k → k < 7 → w.1 k = v.1 k ∧ w.2 k = v.2 k) ∧ w.1 0 5 = v.1 0 5 ∧ w.1 0 7 = v.1 0 7 ∧ w.1 0 8 = v.1 0 8 ∧ w.1 0 9 = v.1 0 9
theorem frX_rfl (u : Mem) : frX u u := fun _ _ => ⟨rfl, rfl⟩
theorem frM_rfl (u : Mem) : frM u u := ⟨fun _ _ _ => ⟨rfl, rfl⟩, rfl, rfl, rfl, rfl⟩
theorem frX_tr {a b c : Mem} (h1 : frX a b) (h2 : frX b c) : frX a c := fun k hk => ⟨(h2 k hk).1.trans (h1 k hk).1, (h2 k hk).2.trans (h1 k hk).2⟩
theorem frM_tr {a b c : Mem} (h1 : frM a b) (h2 : frM b c) : frM a c := ⟨fun k h0 hk => ⟨(h2.1 k h0 hk).1.trans (h1.1 k h0 hk).1, (h2.1 k h0 hk).2.trans (h1.1 k h0 hk).2⟩, h2.2.1.trans h1.2.1, h2.2.2.1.trans h1.2.2.1, h2.2.2.2.1.trans h1.2.2.2.1, h2.2.2.2.2.trans h1.2.2.2.2⟩
theorem relL_fr {u w : Mem} {t : Nat} {g : Nat → Int32} (h : ∀ r, r < 5 → w.1 (5 * t + r) = u.1 (5 * t + r)) (hL : relL u t g) : relL w t g := by
  unfold relL at hL ⊢
  rw [h 1 (by omega), h 2 (by omega), h 3 (by omega), h 4 (by omega)]
  exact hL
theorem relS_fr {u w : Mem} {i q : Nat} {f : Nat → Int32} {bk : Nat → Int64} (h : ∀ r, r < 4 → w.1 (160 + 4 * i + r) = u.1 (160 + 4 * i + r) ∧ w.2 (160 + 4 * i + r) = u.2 (160 + 4 * i + r)) (hL : relS u i q f bk) : relS w i q f bk := by
  unfold relS at hL ⊢
  have h0 : w.1 (160 + 4 * i) = u.1 (160 + 4 * i) := (h 0 (by omega)).1
  rw [h0, (h 1 (by omega)).1, (h 2 (by omega)).2, (h 3 (by omega)).1]
  exact hL
theorem relW_fr {u w : Mem} {n : Nat} {f : Nat → Int32} {bk : Nat → Int64} (hn : n < 2) (hr : (f 0).toInt ≤ 30) (h : frX u w) (hL : relW u n f bk) : relW w n f bk := by
  obtain ⟨h1, h2, h3, h4, h5, h6⟩ := hL
  refine ⟨?_, fun q hq => relS_fr (fun r hr => h _ (by omega)) (h2 q hq), fun t ht => relL_fr (fun r hr => (h _ (by omega)).1) (h3 t ht), fun t ht => ?_, fun k hk => ?_, fun i hi => ?_⟩
  · rw [(h (176 + 2 * n) (by omega)).1]; exact h1
  · rw [(h (5 * t) (by omega)).1]; exact h4 t ht
  · rw [(h 187 (by omega)).1]; exact h5 k hk
  · rw [(h 189 (by omega)).1, (h 190 (by omega)).1, (h 191 (by omega)).1, (h 192 (by omega)).1]; exact h6 i hi
theorem RR_frX {u w v : Mem} (h : frX u w) (hR : RR u v) : RR w v := by
  obtain ⟨r1, r2, w1, w2, c, t, f, p⟩ := hR
  refine ⟨r1, r2, relW_fr (by omega) r1.1.2 h w1, relW_fr (by omega) r2.1.2 h w2, c, ?_, ?_, ?_⟩
  · unfold relT at t ⊢; rw [(h 182 (by omega)).1, (h 183 (by omega)).1]; exact t
  · unfold relF at f ⊢; rw [(h 184 (by omega)).1]; exact f
  · unfold relP at p ⊢; rw [(h 193 (by omega)).1, (h 194 (by omega)).2]; exact p
theorem RR_frM {u v w : Mem} (h : frM v w) (hR : RR u v) : RR u w := by
  obtain ⟨h0, h5, h7, h8, h9⟩ := h
  obtain ⟨r1, r2, w1, w2, c, t, f, p⟩ := hR
  refine ⟨?_, ?_, ?_, ?_, ?_, ?_, ?_, ?_⟩
  · rw [(h0 1 (by omega) (by omega)).1]; exact r1
  · rw [(h0 2 (by omega) (by omega)).1]; exact r2
  · rw [(h0 1 (by omega) (by omega)).1, (h0 3 (by omega) (by omega)).2]; exact w1
  · rw [(h0 2 (by omega) (by omega)).1, (h0 4 (by omega) (by omega)).2]; exact w2
  · rw [(h0 1 (by omega) (by omega)).1, (h0 2 (by omega) (by omega)).1]; exact c
  · unfold relT at t ⊢; rw [h7, (h0 6 (by omega) (by omega)).1]; exact t
  · unfold relF at f ⊢; rw [h8, h9]; exact f
  · unfold relP at p ⊢; rw [h5, (h0 5 (by omega) (by omega)).2]; exact p
/-- the start -/
theorem RR_start : RR uX0 (cbO (cpO uM1 0) 0) := by
  have z0 : ∀ k, 12 ≤ k → wA0 k = 0 := fun k hk => by simp only [wA0, upd]; repeat' split
                                                      all_goals first | rfl | (exfalso; omega)
  have hv1 : (cbO (cpO uM1 0) 0).1 1 = wA0 := by funext j; simp only [cbO, srl_1, cpO, sr_1]; simp [uM1]
  have hv2 : ∀ j, j < 8320 → (cbO (cpO uM1 0) 0).1 2 j = wA0 j := fun j hj => by simp only [cbO, srl_1, cpO, sr_1]; simp [uM1, hj]
  have hv2b : ∀ j, ¬ j < 8320 → (cbO (cpO uM1 0) 0).1 2 j = 0 := fun j hj => by simp only [cbO, srl_1, cpO, sr_1]; simp [uM1, hj]
  have hw2 : (cbO (cpO uM1 0) 0).1 2 = wA0 := by
    funext j
    by_cases hj : j < 8320
    · exact hv2 j hj
    · rw [hv2b j hj, z0 j (by omega)]
  have hb3 : (cbO (cpO uM1 0) 0).2 3 = fun _ => 0 := by funext j; simp only [cbO, srl_2, cpO, sr_2]; simp [uM1]
  have hb4 : (cbO (cpO uM1 0) 0).2 4 = fun _ => 0 := by funext j; simp only [cbO, srl_2, cpO, sr_2]; simp [uM1]
  have w0 : wA0 0 = 0 := rfl
  have w1 : wA0 1 = 0 := rfl
  have w4 : wA0 4 = 0 := rfl
  have w5 : wA0 5 = 0 := rfl
  have w6_ : wA0 6 = 0 := rfl
  have w7 : wA0 7 = 0 := rfl
  have i0 : (0 : Int32).toInt = 0 := rfl
  have hr : rgA wA0 := by
    refine ⟨by rw [w0]; decide, by rw [w0, w1]; decide, fun i hi => ?_, by rw [w4]; decide, by rw [w5]; decide, by rw [w6_]; decide, fun i hi => ?_, fun i hi => ?_, fun k hk => ?_, fun k hk => ?_, fun i hi => ?_, fun t ht => ?_⟩
    · rcases (by omega : i = 0 ∨ i = 1) with rfl | rfl <;> decide
    · rcases (by omega : i = 0 ∨ i = 1) with rfl | rfl <;> decide
    · rcases (by omega : i = 0 ∨ i = 1) with rfl | rfl <;> decide
    · rw [z0 _ (by omega)]; decide
    · rw [z0 _ (by omega)]; exact Or.inl rfl
    · rw [w6_, i0] at hi; omega
    · refine ⟨fun k hk => ?_, fun c hc => Or.inl ⟨z0 _ (by omega), fun j hj => z0 _ (by omega)⟩, fun n hn => ⟨?_, ?_, fun p hp => ?_⟩⟩
      · show 0 ≤ (wA0 (1500 + 220 * t + k)).toInt ∧ (wA0 (1500 + 220 * t + k)).toInt ≤ 99; rw [z0 _ (by omega)]; decide
      · show 0 ≤ (wA0 _).toInt; rw [z0 _ (by omega)]; decide
      · show (wA0 _).toInt ≤ 8; rw [z0 _ (by omega)]; decide
      · have hp : (p : Int) < (wA0 (1500 + 220 * t + (36 + 25 * n + 0))).toInt := hp
        rw [z0 _ (by omega), i0] at hp; omega
  have hW : ∀ n, n < 2 → relW uX0 n wA0 (fun _ => 0) := by
    intro n hn
    refine ⟨?_, fun q hq => ⟨?_, ?_, ?_, fun k hk => ?_, fun k hk => rfl, fun k hk => ?_⟩, fun t ht => ?_, fun t ht => ?_, fun k hk => ?_, fun i hi => ?_⟩
    · rcases (by omega : n = 0 ∨ n = 1) with rfl | rfl <;> exact ⟨rfl, rfl, rfl, rfl, rfl⟩
    · rcases (by omega : n = 0 ∨ n = 1) with rfl | rfl <;> rcases (by omega : q = 0 ∨ q = 1) with rfl | rfl <;> rfl
    · rcases (by omega : n = 0 ∨ n = 1) with rfl | rfl <;> rcases (by omega : q = 0 ∨ q = 1) with rfl | rfl <;> rfl
    · rcases (by omega : n = 0 ∨ n = 1) with rfl | rfl <;> rcases (by omega : q = 0 ∨ q = 1) with rfl | rfl <;> rfl
    · rw [z0 _ (by omega)]
      rcases (by omega : n = 0 ∨ n = 1) with rfl | rfl <;> rcases (by omega : q = 0 ∨ q = 1) with rfl | rfl <;> rfl
    · rw [z0 _ (by omega)]
      rcases (by omega : n = 0 ∨ n = 1) with rfl | rfl <;> rcases (by omega : q = 0 ∨ q = 1) with rfl | rfl <;> rfl
    · rw [w0, i0] at ht
      have ht : t = 0 := by omega
      subst ht
      refine ⟨fun k hk => ?_, fun c hc j hj => ?_, fun m hm => ?_, fun m hm p hp => ?_⟩
      · show uX0.1 (5 * 0 + 1) k = if wA0 (1500 + 220 * 0 + k) = 0 then 1 else wA0 (1500 + 220 * 0 + k)
        rw [z0 _ (by omega), if_pos rfl]
        rcases (by omega : k = 0 ∨ k = 1 ∨ k = 2 ∨ k = 3 ∨ k = 4 ∨ k = 5) with rfl | rfl | rfl | rfl | rfl | rfl <;> rfl
      · show uX0.1 (5 * 0 + 2) (5 * c + j) = wA0 _
        rw [z0 _ (by omega)]; rfl
      · show uX0.1 (5 * 0 + 3) m = wA0 _
        rw [z0 _ (by omega)]; rfl
      · have hp : (p : Int) < (wA0 (1500 + 220 * 0 + (36 + 25 * m))).toInt := hp
        rw [z0 _ (by omega), i0] at hp; omega
    · rw [w0, i0] at ht
      have ht : t = 0 := by omega
      subst ht; rfl
    · rw [w5, i0] at hk; omega
    · rw [w6_, i0] at hi; omega
  have e07 : (cbO (cpO uM1 0) 0).1 0 7 = 0 := rfl
  refine ⟨by rw [hv1]; exact hr, by rw [hw2]; exact hr, by rw [hv1, hb3]; exact hW 0 (by omega), by rw [hw2, hb4]; exact hW 1 (by omega), by rw [hv1, hw2]; exact ⟨Int.le_refl _, Int.le_refl _, Int.le_refl _⟩, ⟨rfl, ?_, fun k hk => ?_⟩, Or.inl ⟨rfl, rfl, rfl⟩, rfl, Or.inl rfl, fun k hk => rfl⟩
  · rw [e07]; decide
  · rw [e07, i0] at hk; omega
