/-- the class's settle: what it leaves behind for the shells from the rim inward -/
def SX (g f : Nat → Int32) (q n : Nat) (unit : Int32) (u : Mem) (s : Nat) : Prop :=
  u.1 196 s = wtI g f q s ∧ u.1 197 s = ndI g f q n unit s ∧ u.1 198 s = nI (bxs g (ndI g f q n unit s).toInt).1 ∧ u.1 199 s = (if (bxs g (ndI g f q n unit s).toInt).1 = 0 then -1 else nI (bxs g (ndI g f q n unit s).toInt).2.1) ∧ u.1 200 s = (if (bxs g (ndI g f q n unit s).toInt).1 = 0 then -1 else nI (bxs g (ndI g f q n unit s).toInt).2.2)
/-- calmness, from the rim inward -/
def cmv (c : Nat → Nat) (n : Nat) : Nat → Nat
  | 0 => if n = 0 then 0 else 2
  | d + 1 => if c (n - (d + 1)) = 1 then cmv c n d else min (if c (n - (d + 1)) = 0 then 0 else 1) (cmv c n d)
theorem cmv_le (c : Nat → Nat) (n : Nat) : ∀ d, cmv c n d ≤ 2 := by
  intro d
  induction d with
  | zero => rw [cmv]; split <;> omega
  | succ d ih => rw [cmv]; split
                 · exact ih
                 · omega
def bxC (g f : Nat → Int32) (q n : Nat) (unit : Int32) (s : Nat) : Nat := (bxs g (ndI g f q n unit s).toInt).1
def frI (u w : Mem) : Prop := ∀ k, k < 195 ∨ 206 < k → w.1 k = u.1 k ∧ w.2 k = u.2 k
theorem frI_X {u w : Mem} (h : frI u w) : frX u w := fun k hk => h k (Or.inl hk)
theorem frI_tr {a b c : Mem} (h1 : frI a b) (h2 : frI b c) : frI a c := fun k x => ⟨(h2 k x).1.trans (h1 k x).1, (h2 k x).2.trans (h1 k x).2⟩
theorem SX_fr {g f : Nat → Int32} {q n : Nat} {unit : Int32} {u w : Mem} {s : Nat} (h : SX g f q n unit u s) (e : ∀ k, 196 ≤ k → k ≤ 200 → w.1 k s = u.1 k s) : SX g f q n unit w s := by
  unfold SX at *
  rw [e 196 (by omega) (by omega), e 197 (by omega) (by omega), e 198 (by omega) (by omega), e 199 (by omega) (by omega), e 200 (by omega) (by omega)]
  exact h
theorem stX {T i q n : Nat} {g f : Nat → Int32} {bk : Nat → Int64} {unit : Int32} (hT : T ≤ 30) (hi : i < 4) (hO : lawOk g) (hn : n ≤ 16) (hu : 0 < unit.toInt) : ∀ (r d t : Nat) (u : Mem), r + d = n → r < t → relL u T g → relS u i q f bk → u.1 195 9 = nI n → u.1 195 10 = nI (cmv (bxC g f q n unit) n d) → (∀ s, r ≤ s → s < n → SX g f q n unit u s) → ∃ w, fX2_settle_L35 i T unit t (upS (wtI g f q) n d) (zI ((r : Int) - 1)) u = some w ∧ frI u w ∧ w.1 195 9 = nI n ∧ w.1 195 10 = nI (cmv (bxC g f q n unit) n n) ∧ ∀ s, s < n → SX g f q n unit w s := by
  have e0 : (0 : Int32).toInt = 0 := rfl
  intro r
  induction r with
  | zero =>
    intro d t u hd ht hL hS h9 h10 hX
    obtain ⟨t, rfl⟩ : ∃ k, t = k + 1 := ⟨t - 1, by omega⟩
    rw [fX2_settle_L35, if_pos (by decide)]
    have : d = n := by omega
    subst this
    exact ⟨u, rfl, fun _ _ => ⟨rfl, rfl⟩, h9, h10, fun s hs => hX s (by omega) hs⟩
  | succ r ih =>
    intro d t u hd ht hL hS h9 h10 hX
    obtain ⟨t, rfl⟩ : ∃ k, t = k + 1 := ⟨t - 1, by omega⟩
    have ea : zI (((r + 1 : Nat) : Int) - 1) = nI r := by rw [zI_nat]; congr 1; omega
    have er : n - 1 - r = d := by omega
    have er2 : n - (d + 1) = r := by omega
    have hb := inB_n (i := r) (n := 16) (by omega) (by omega)
    have hcl := cl_n (show r < 2147483648 by omega)
    rw [fX2_settle_L35, ea, if_neg (by rw [i_lt, nI_n (by omega)]; omega), wX hL hS (by omega), Option.bind_some, if_pos hb, if_pos hb, hcl]
    have g196 : (si u 196 r (wtI g f q r)).1 196 r = wtI g f q r := by rw [si_1, if_pos ⟨rfl, rfl⟩]
    have ecut : fX11_cut (upS (wtI g f q) n d + wtI g f q r / 2) unit = some (ndI g f q n unit r) := by
      unfold fX11_cut ndI
      rw [if_neg (by rw [i_le]; omega), if_neg (by rw [i_eq]; omega), er]
    rw [g196, ecut, Option.bind_some, if_pos hb, Option.bind_some, if_pos hb, if_pos hb]
    generalize hu8 : si (si u 196 r (wtI g f q r)) 197 r (ndI g f q n unit r) = u8
    have g197 : u8.1 197 r = ndI g f q n unit r := by rw [← hu8, si_1, if_pos ⟨rfl, rfl⟩]
    have g1968 : u8.1 196 r = wtI g f q r := by rw [← hu8, si_1, if_neg (by omega)]; exact g196
    have fr8 : ∀ k, k ≠ 196 → k ≠ 197 → u8.1 k = u.1 k := fun k x1 x2 => by rw [← hu8, si_ro _ _ x2, si_ro _ _ x1]
    have fr8s : ∀ k s, s ≠ r → u8.1 k s = u.1 k s := fun k s hs => by rw [← hu8, si_1, if_neg (by omega), si_1, if_neg (by omega)]
    have fr82 : u8.2 = u.2 := by rw [← hu8]; rfl
    have hL8 : relL u8 T g := relL_fr (fun r hr => fr8 _ (by omega) (by omega)) hL
    rw [g197, g1968]
    obtain ⟨u10, c, l, h, x1, x2, x3, x4, x5⟩ := findX hT hL8 hO (ndI g f q n unit r)
    have hbx := bxs_runs x4
    have hb1 : (bxs g (ndI g f q n unit r).toInt).1 = c := by rw [hbx]
    rw [x1, Option.bind_some, if_pos hb]
    have g2 : u10.1 204 2 = nI c := x3.1
    have g3 : ∀ z, (si u10 198 r z).1 204 2 = nI c := fun z => by rw [si_1, if_neg (by omega)]; exact g2
    rw [g3, g2]
    -- the low end
    have hlow : (if nI c = 0 then fX2_settle_J147 (fX2_settle_L35 i T unit t) i T unit (upS (wtI g f q) n d + wtI g f q r) (nI r) (-1) (nI r) (si u10 198 r (nI c)) else fX2_settle_J147 (fX2_settle_L35 i T unit t) i T unit (upS (wtI g f q) n d + wtI g f q r) (nI r) ((si u10 198 r (nI c)).1 205 0) (nI r) (si u10 198 r (nI c))) = fX2_settle_J147 (fX2_settle_L35 i T unit t) i T unit (upS (wtI g f q) n d + wtI g f q r) (nI r) (if c = 0 then -1 else nI (bxs g (ndI g f q n unit r).toInt).2.1) (nI r) (si u10 198 r (nI c)) := by
      by_cases hc : c = 0
      · rw [if_pos (by rw [hc]; rfl), if_pos hc]
      · rw [if_neg (nI_nz hc (by omega)), if_neg hc, si_1, if_neg (by omega), (x3.2 0 (by omega)).1, hbx]
        congr 1
        simp only [hc, if_false]
        have := x4.a 0 (by omega)
        rw [zI_nat]; congr 1; omega
    rw [hlow]
    unfold fX2_settle_J147
    rw [if_pos hb, hcl]
    generalize hlo : (if c = 0 then -1 else nI (bxs g (ndI g f q n unit r).toInt).2.1) = lowI
    generalize hu11 : si (si u10 198 r (nI c)) 199 r lowI = u11
    have g4 : u11.1 204 2 = nI c := by rw [← hu11, si_1, if_neg (by omega)]; exact g3 _
    rw [g4]
    have hhigh : (if nI c = 0 then fX2_settle_J177 (fX2_settle_L35 i T unit t) i T unit (upS (wtI g f q) n d + wtI g f q r) (nI r) (-1) (nI r) u11 else fX2_settle_J177 (fX2_settle_L35 i T unit t) i T unit (upS (wtI g f q) n d + wtI g f q r) (nI r) (u11.1 206 0) (nI r) u11) = fX2_settle_J177 (fX2_settle_L35 i T unit t) i T unit (upS (wtI g f q) n d + wtI g f q r) (nI r) (if c = 0 then -1 else nI (bxs g (ndI g f q n unit r).toInt).2.2) (nI r) u11 := by
      by_cases hc : c = 0
      · rw [if_pos (by rw [hc]; rfl), if_pos hc]
      · have e206 : u11.1 206 0 = u10.1 206 0 := by rw [← hu11, si_1, if_neg (by omega), si_1, if_neg (by omega)]
        rw [if_neg (nI_nz hc (by omega)), if_neg hc, e206, (x3.2 0 (by omega)).2, hbx]
        congr 1
        simp only [hc, if_false]
        have := x4.a 0 (by omega)
        rw [zI_nat]; congr 1; omega
    rw [hhigh]
    unfold fX2_settle_J177
    rw [if_pos hb, hcl]
    generalize hhi : (if c = 0 then -1 else nI (bxs g (ndI g f q n unit r).toInt).2.2) = highI
    generalize hu12 : si u11 200 r highI = u12
    have g5 : u12.1 204 2 = nI c := by rw [← hu12, si_1, if_neg (by omega)]; exact g4
    have fr12 : ∀ k, k < 195 ∨ k = 195 ∨ 206 < k → u12.1 k = u.1 k := fun k hk => by
      rw [← hu12, si_ro _ _ (by omega), ← hu11, si_ro _ _ (by omega), si_ro _ _ (by omega), (x5 k (by omega) (by omega) (by omega)).1, fr8 k (by omega) (by omega)]
    have fr122 : ∀ k, k < 195 ∨ k = 195 ∨ 206 < k → u12.2 k = u.2 k := fun k hk => by
      rw [← hu12, ← hu11]
      show u10.2 k = u.2 k
      rw [(x5 k (by omega) (by omega) (by omega)).2, fr82]
    have f12s : ∀ k s, 196 ≤ k → k ≤ 200 → s ≠ r → u12.1 k s = u.1 k s := fun k s h1 h2 hs => by
      rw [← hu12, si_1, if_neg (by omega), ← hu11, si_1, if_neg (by omega), si_1, if_neg (by omega), (x5 k (by omega) (by omega) (by omega)).1, fr8s k s hs]
    have gr : SX g f q n unit u12 r := by
      refine ⟨?_, ?_, ?_, ?_, ?_⟩
      · rw [← hu12, si_1, if_neg (by omega), ← hu11, si_1, if_neg (by omega), si_1, if_neg (by omega), (x5 196 (by omega) (by omega) (by omega)).1]; exact g1968
      · rw [← hu12, si_1, if_neg (by omega), ← hu11, si_1, if_neg (by omega), si_1, if_neg (by omega), (x5 197 (by omega) (by omega) (by omega)).1]; exact g197
      · rw [← hu12, si_1, if_neg (by omega), ← hu11, si_1, if_neg (by omega), si_1, if_pos ⟨rfl, rfl⟩, hb1]
      · rw [← hu12, si_1, if_neg (by omega), ← hu11, si_1, if_pos ⟨rfl, rfl⟩, hb1]; exact hlo.symm
      · rw [← hu12, si_1, if_pos ⟨rfl, rfl⟩, hb1]; exact hhi.symm
    have eup : upS (wtI g f q) n d + wtI g f q r = upS (wtI g f q) n (d + 1) := by rw [upS, er2]
    have em : nI r + (-1) = zI ((r : Int) - 1) := by rw [zI_nat, show (-1 : Int32) = zI (-1) from by decide, zI_add, Int.sub_eq_add_neg]
    have hcm := cmv_le (bxC g f q n unit) n d
    have ebc : bxC g f q n unit r = c := hb1
    rw [g5, eup, em]
    have fin : ∀ u13 : Mem, (∀ k, k ≠ 195 → u13.1 k = u12.1 k) → u13.2 = u12.2 → u13.1 195 9 = nI n → u13.1 195 10 = nI (cmv (bxC g f q n unit) n (d + 1)) → ∃ w, fX2_settle_L35 i T unit t (upS (wtI g f q) n (d + 1)) (zI ((r : Int) - 1)) u13 = some w ∧ frI u w ∧ w.1 195 9 = nI n ∧ w.1 195 10 = nI (cmv (bxC g f q n unit) n n) ∧ ∀ s, s < n → SX g f q n unit w s := by
      intro u13 k1 k2 k3 k4
      have fr13 : frI u u13 := fun k hk => ⟨by rw [k1 k (by omega), fr12 k (by omega)], by rw [k2, fr122 k (by omega)]⟩
      have hSX : ∀ s, r ≤ s → s < n → SX g f q n unit u13 s := by
        intro s h1 h2
        by_cases hs : s = r
        · rw [hs]; exact SX_fr gr (fun k h3 h4 => by rw [k1 k (by omega)])
        · exact SX_fr (hX s (by omega) h2) (fun k h3 h4 => by rw [k1 k (by omega), f12s k s h3 h4 hs])
      obtain ⟨w, y1, y2, y3, y4, y5⟩ := ih (d + 1) t u13 (by omega) (by omega) (relL_fr (fun r hr => (fr13 _ (by omega)).1) hL) (relS_fr (fun r hr => fr13 _ (by omega)) hS) k3 k4 hSX
      exact ⟨w, y1, frI_tr fr13 y2, y3, y4, y5⟩
    by_cases hc1 : c = 1
    · rw [if_pos (by rw [hc1]; rfl)]
      refine fin u12 (fun _ _ => rfl) rfl (by rw [fr12 195 (by omega)]; exact h9) ?_
      rw [fr12 195 (by omega), h10, cmv, er2, ebc, if_pos hc1]
    · have hc1' : ¬ nI c = 1 := fun h3 => hc1 (nI_inj (b := 1) (by omega) (by omega) h3)
      rw [if_neg hc1', Option.bind_some]
      refine fin _ (fun k hk => si_ro _ _ hk) rfl (by rw [si_1, if_neg (by omega), fr12 195 (by omega)]; exact h9) ?_
      rw [si_1, if_pos ⟨rfl, rfl⟩, fr12 195 (by omega), h10, cmv, er2, ebc, if_neg hc1]
      have e9 : ((if nI c = 0 then 0 else 1) : Int32) = nI (if c = 0 then 0 else 1) := by
        by_cases hc : c = 0
        · rw [if_pos (by rw [hc]; rfl), if_pos hc]; rfl
        · rw [if_neg (nI_nz hc (by omega)), if_neg hc]; rfl
      have hle : (if c = 0 then 0 else 1) ≤ 1 := by split <;> omega
      rw [e9]
      generalize (if c = 0 then 0 else 1) = z at *
      generalize cmv (bxC g f q n unit) n d = y at *
      by_cases h7 : z < y
      · rw [if_pos ((lt_nI (by omega) (by omega)).mpr h7), Nat.min_eq_left (by omega)]
      · rw [if_neg (fun h8 => h7 ((lt_nI (by omega) (by omega)).mp h8)), Nat.min_eq_right (by omega)]
theorem settleX {T i q n : Nat} {g f : Nat → Int32} {bk : Nat → Int64} {unit : Int32} {u : Mem} (hT : T ≤ 30) (hi : i < 4) (hO : lawOk g) (hn : n ≤ 16) (hu : 0 < unit.toInt) (hL : relL u T g) (hS : relS u i q f bk) (hf : f (2 + q) = nI n) : ∃ w, fX2_settle i T unit u = some w ∧ frI u w ∧ w.1 195 9 = nI n ∧ w.1 195 10 = nI (cmv (bxC g f q n unit) n n) ∧ ∀ s, s < n → SX g f q n unit w s := by
  unfold fX2_settle
  have e1 : u.1 (160 + 4 * i) 3 = nI n := hS.1.trans hf
  have e2 : (si u 195 9 (nI n)).1 195 9 = nI n := by rw [si_1, if_pos ⟨rfl, rfl⟩]
  rw [e1, Option.bind_some, e2]
  have e3 : ((if nI n = 0 then 0 else 2) : Int32) = nI (cmv (bxC g f q n unit) n 0) := by
    rw [cmv]
    by_cases h : n = 0
    · rw [if_pos (by rw [h]; rfl), if_pos h]; rfl
    · rw [if_neg (nI_nz h (by omega)), if_neg h]; rfl
  rw [e3]
  have e4 : (si (si u 195 9 (nI n)) 195 10 (nI (cmv (bxC g f q n unit) n 0))).1 195 9 = nI n := by rw [si_1, if_neg (by omega)]; exact e2
  have e5 : nI n - 1 = zI ((n : Int) - 1) := by rw [zI_nat]; exact zI_sub n 1
  rw [e4, e5]
  have fr : frI u (si (si u 195 9 (nI n)) 195 10 (nI (cmv (bxC g f q n unit) n 0))) := fun k hk => ⟨by rw [si_ro _ _ (by omega), si_ro _ _ (by omega)], rfl⟩
  obtain ⟨w, y1, y2, y3⟩ := stX (q := q) (f := f) (bk := bk) hT hi hO hn hu n 0 fu0 _ (by omega) (fu_n (by omega)) (relL_fr (fun r hr => (fr _ (by omega)).1) hL) (relS_fr (fun r hr => fr _ (by omega)) hS) e4 (by rw [si_1, if_pos ⟨rfl, rfl⟩]) (fun s h1 h2 => by omega)
  exact ⟨w, y1, frI_tr fr y2, y3⟩
