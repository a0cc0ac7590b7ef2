theorem nI_nz {a : Nat} (h : a ≠ 0) (h2 : a < 2147483648) : ¬ nI a = 0 := fun h3 => h (nI_inj (b := 0) h2 (by omega) h3)
theorem tH_mono {g : Nat → Int32} (hO : lawOk g) {t : Nat} (ht : t < 7) : ∀ (d j : Nat), j + d < tc g t → tH g t j ≤ tH g t (j + d) := by
  intro d
  induction d with
  | zero => intro j _; exact Int.le_refl _
  | succ d ih =>
    intro j hj
    have h1 := ih j (by omega)
    have h2 := (tH_r hO ht (p := j + d) (by omega)).2.2 (by omega)
    rw [show j + (d + 1) = j + d + 1 by omega]; omega
theorem ps_eq {g : Nat → Int32} {t : Nat} {x : Int} {s : Nat} (hs : s ≤ tc g t) (h1 : s < tc g t → x < tH g t s) (h2 : ∀ j, j < s → tH g t j ≤ x) : psr (tH g t) x (tc g t) 0 = s := by
  obtain ⟨p1, p2, p3⟩ := psx g t x
  generalize psr (tH g t) x (tc g t) 0 = i at *
  by_cases h : i < s
  · have a := p2 (by omega); have b := h2 i h; omega
  · by_cases h3 : s < i
    · have a := p3 s h3; have b := h1 (by omega); omega
    · omega
def strB (g : Nat → Int32) (t s : Nat) : Int := if s = 0 then 0 else if s ≤ tc g t then tH g t (s - 1) else 1000
/-- which stretch a heat lies in -/
theorem str_ps {g : Nat → Int32} (hO : lawOk g) {t : Nat} (ht : t < 7) {s : Nat} (hs : s ≤ tc g t) {x : Int} (h1 : strB g t s ≤ x) (h2 : x < strB g t (s + 1)) : psr (tH g t) x (tc g t) 0 = s := by
  refine ps_eq hs (fun h => ?_) (fun j hj => ?_)
  · unfold strB at h2
    rw [if_neg (by omega), if_pos (by omega)] at h2
    exact h2
  · unfold strB at h1
    rw [if_neg (by omega), if_pos hs] at h1
    have := tH_mono hO ht (s - 1 - j) j (by omega)
    rw [show j + (s - 1 - j) = s - 1 by omega] at this
    omega
def Pn (g : Nat → Int32) (need : Int) (x : Int) : Prop := spZ g 0 false x ≤ need ∧ need ≤ spZ g 0 true x
def lo_ (s : Nat) : Nat := s - 1
def ro_ (n s : Nat) : Nat := if s = n then n - 1 else s
def wdZ (g : Nat → Int32) (n s : Nat) : Int := if tH g 0 (ro_ n s) - tH g 0 (lo_ s) < 1 then 1 else tH g 0 (ro_ n s) - tH g 0 (lo_ s)
theorem str_P {g : Nat → Int32} (hO : lawOk g) {need x : Int} {s : Nat} (hn : tc g 0 ≠ 0) (hs : s ≤ tc g 0) (h1 : strB g 0 s ≤ x) (h2 : x < strB g 0 (s + 1)) : Pn g need x ↔ (tV g 0 false (ro_ (tc g 0) s) - tV g 0 false (lo_ s)) * (x - tH g 0 (lo_ s)) < (need + 1 - tV g 0 false (lo_ s)) * wdZ g (tc g 0) s ∧ (tV g 0 true (lo_ s) - tV g 0 true (ro_ (tc g 0) s)) * (x - tH g 0 (lo_ s)) < (tV g 0 true (lo_ s) + 1 - need) * wdZ g (tc g 0) s := by
  have hp := str_ps hO (by omega) hs h1 h2
  unfold Pn spZ
  rw [hp]
  unfold spI
  rw [if_neg hn, if_neg hn]
  by_cases h0 : s = 0
  · subst h0
    rw [if_pos rfl, if_pos rfl]
    have e1 : lo_ 0 = 0 := rfl
    have e2 : ro_ (tc g 0) 0 = 0 := by unfold ro_; split <;> omega
    have e3 : wdZ g (tc g 0) 0 = 1 := by unfold wdZ; rw [e1, e2, Int.sub_self]; rfl
    rw [e1, e2, e3, Int.sub_self, Int.sub_self, Int.zero_mul, Int.mul_one, Int.mul_one]
    omega
  · rw [if_neg h0, if_neg h0]
    by_cases h3 : s = tc g 0
    · rw [if_pos h3, if_pos h3]
      have e1 : lo_ s = s - 1 := rfl
      have e2 : ro_ (tc g 0) s = s - 1 := by unfold ro_; rw [if_pos h3]; omega
      have e3 : wdZ g (tc g 0) s = 1 := by unfold wdZ; rw [e1, e2, Int.sub_self]; rfl
      rw [e1, e2, e3, Int.sub_self, Int.sub_self, Int.zero_mul, Int.mul_one, Int.mul_one]
      omega
    · rw [if_neg h3, if_neg h3]
      have hi : s < tc g 0 := by omega
      have e1 : lo_ s = s - 1 := rfl
      have e2 : ro_ (tc g 0) s = s := by unfold ro_; rw [if_neg h3]
      have a0 := (tH_r hO (t := 0) (by omega) (p := s - 1) (by omega)).2.2 (by omega)
      rw [show s - 1 + 1 = s by omega] at a0
      have e3 : wdZ g (tc g 0) s = tH g 0 s - tH g 0 (s - 1) := by unfold wdZ; rw [e1, e2, if_neg (by omega)]
      rw [e1, e2, e3]
      unfold dvZ lnZ
      simp only [Bool.false_eq_true, if_false, if_true]
      generalize hw : tH g 0 s - tH g 0 (s - 1) = w at *
      generalize x - tH g 0 (s - 1) = d at *
      generalize tV g 0 false (s - 1) = La
      generalize tV g 0 false s = Lb
      generalize tV g 0 true (s - 1) = Ua
      generalize tV g 0 true s = Ub
      have hw0 : 0 < w := by omega
      rw [Int.ediv_le_iff_le_mul hw0, Int.le_ediv_iff_mul_le hw0, Int.mul_sub, Int.mul_sub, Int.sub_mul, Int.sub_mul, Int.sub_mul, Int.sub_mul, Int.add_mul, Int.add_mul, Int.one_mul]
      omega
theorem pt0 {u : Mem} {T : Nat} {g : Nat → Int32} (hL : relL u T g) (hO : lawOk g) {p : Nat} (hp : p < tc g 0) : fX3_ofPoint T 0 (nI p) 0 u = some (zI (tH g 0 p)) := ptX0 hL hO (t := 0) (by omega) hp
theorem pt1 {u : Mem} {T : Nat} {g : Nat → Int32} (hL : relL u T g) (hO : lawOk g) {p : Nat} (hp : p < tc g 0) : fX3_ofPoint T 0 (nI p) 1 u = some (zI (tV g 0 false p)) := ptXb hL hO (t := 0) (by omega) hp false
theorem pt2 {u : Mem} {T : Nat} {g : Nat → Int32} (hL : relL u T g) (hO : lawOk g) {p : Nat} (hp : p < tc g 0) : fX3_ofPoint T 0 (nI p) 2 u = some (zI (tV g 0 true p)) := ptXb hL hO (t := 0) (by omega) hp true
theorem pr_b {a w : Int} (h1 : -2200000000 ≤ a) (h2 : a ≤ 2200000000) (h3 : 0 ≤ w) (h4 : w ≤ 999) : -4000000000000 ≤ a * w ∧ a * w ≤ 4000000000000 := by
  have m1 := mul_rng (show 0 ≤ a + 2200000000 by omega) (show a + 2200000000 ≤ 4400000000 by omega) h3 h4
  have m2 := mul_rng (show 0 ≤ 2200000000 - a by omega) (show 2200000000 - a ≤ 4400000000 by omega) h3 h4
  rw [Int.add_mul] at m1
  rw [Int.sub_mul] at m2
  omega
theorem ntn {u : Mem} {T : Nat} {g : Nat → Int32} (hT : T ≤ 30) (hL : relL u T g) (hO : lawOk g) {l r : Nat} (hl : l < tc g 0) (hr : r < tc g 0) {need F Tt : Int} (hn : -2147483648 ≤ need ∧ need < 2147483648) (hF : u.2 204 3 = zL F) (hTt : u.2 204 4 = zL Tt) (hF2 : -5000 ≤ F ∧ F ≤ 5000) (hT2 : -5000 ≤ Tt ∧ Tt ≤ 5000) : ∃ (F2 T2 : Int) (w : Mem), fX0_narrowToNeed T (nI l) (nI r) (zL need) u = some w ∧ w.2 204 3 = zL F2 ∧ w.2 204 4 = zL T2 ∧ (-6000000000000 ≤ F2 ∧ F2 ≤ 6000000000000) ∧ (-6000000000000 ≤ T2 ∧ T2 ≤ 6000000000000) ∧ (∀ x, F2 ≤ x ∧ x ≤ T2 ↔ (F ≤ x ∧ x ≤ Tt) ∧ (tV g 0 false r - tV g 0 false l) * (x - tH g 0 l) < (need + 1 - tV g 0 false l) * (if tH g 0 r - tH g 0 l < 1 then 1 else tH g 0 r - tH g 0 l) ∧ (tV g 0 true l - tV g 0 true r) * (x - tH g 0 l) < (tV g 0 true l + 1 - need) * (if tH g 0 r - tH g 0 l < 1 then 1 else tH g 0 r - tH g 0 l)) ∧ w.1 = u.1 ∧ ∀ k, k ≠ 204 → w.2 k = u.2 k := by
  have bl := tH_r hO (t := 0) (by omega) hl
  have br := tH_r hO (t := 0) (by omega) hr
  have v1 := tV_r hO (t := 0) (by omega) hl false
  have v2 := tV_r hO (t := 0) (by omega) hl true
  have v3 := tV_r hO (t := 0) (by omega) hr false
  have v4 := tV_r hO (t := 0) (by omega) hr true
  unfold fX0_narrowToNeed
  rw [pt0 hL hO hl, Option.bind_some, pt0 hL hO hr, Option.bind_some, pt1 hL hO hl, Option.bind_some, pt2 hL hO hl, Option.bind_some, pt1 hL hO hr, Option.bind_some]
  have ew : (if zI (tH g 0 r) - zI (tH g 0 l) < 1 then 1 else zI (tH g 0 r) - zI (tH g 0 l)) = zI (if tH g 0 r - tH g 0 l < 1 then 1 else tH g 0 r - tH g 0 l) := by
    rw [zI_sub]
    by_cases h : tH g 0 r - tH g 0 l < 1
    · rw [if_pos (by rw [i_lt, zI_n (by omega) (by omega)]; exact h), if_pos h]; rfl
    · rw [if_neg (by rw [i_lt, zI_n (by omega) (by omega)]; exact h), if_neg h]
  rw [ew]
  have hw : 1 ≤ (if tH g 0 r - tH g 0 l < 1 then 1 else tH g 0 r - tH g 0 l) ∧ (if tH g 0 r - tH g 0 l < 1 then 1 else tH g 0 r - tH g 0 l) ≤ 999 := by split <;> omega
  generalize (if tH g 0 r - tH g 0 l < 1 then 1 else tH g 0 r - tH g 0 l) = wd at *
  rw [zI_sub, zIL (by omega) (by omega), zIL (by omega) (by omega), show (1 : Int64) = zL 1 from rfl, zL_add, zL_sub, zL_mul]
  obtain ⟨F1, T1, w1, x1, x2, x3, x4, x5, x6, x7, x8⟩ := nrw (base := tH g 0 l) (slope := tV g 0 false r - tV g 0 false l) (bound := (need + 1 - tV g 0 false l) * wd) (M := 5000000000000) hF hTt (by omega) (by omega) (pr_b (by omega) (by omega) (by omega) (by omega)) (by omega) (by omega) (by omega)
  rw [x1, Option.bind_some]
  have hL1 : relL w1 T g := relL_fr (fun _ _ => by rw [x7]) hL
  rw [pt2 hL1 hO hr, Option.bind_some, zI_sub, show (1 : Int32) = zI 1 from rfl, zI_add, zIL (by omega) (by omega), zL_sub, zL_mul]
  obtain ⟨F2, T2, w2, y1, y2, y3, y4, y5, y6, y7, y8⟩ := nrw (base := tH g 0 l) (slope := tV g 0 true l - tV g 0 true r) (bound := (tV g 0 true l + 1 - need) * wd) (M := 5000000000001) x2 x3 (by omega) (by omega) (pr_b (by omega) (by omega) (by omega) (by omega)) (by omega) (by omega) (by omega)
  rw [y1, Option.bind_some]
  refine ⟨F2, T2, w2, rfl, y2, y3, by omega, by omega, fun x => ?_, y7.trans x7, fun k hk => (y8 k hk).trans (x8 k hk)⟩
  rw [y6 x, x6 x]
  exact and_assoc
/-- the loop over the stretches -/
theorem fnd {T : Nat} {g : Nat → Int32} (hT : T ≤ 30) (hO : lawOk g) {need : Int32} (hn : tc g 0 ≠ 0) : ∀ (d s f : Nat) (u : Mem) (c : Nat) (l h : Nat → Int), s + d = tc g 0 + 1 → d < f → relL u T g → c ≤ s → BM u c l h → Runs (Pn g need.toInt) (strB g 0 s) c l h → ∃ (w : Mem) (c2 : Nat) (l2 h2 : Nat → Int), fX0_find_L31 T need (nI (tc g 0)) f (nI s) u = some w ∧ c2 ≤ 9 ∧ BM w c2 l2 h2 ∧ Runs (Pn g need.toInt) 1000 c2 l2 h2 ∧ frB u w := by
  obtain ⟨c1, c2⟩ := tc_i hO (t := 0) (by omega)
  have hnr := i_rng need
  intro d
  induction d with
  | zero =>
    intro s f u c l h hs hf hL hc hm hr
    obtain ⟨f, rfl⟩ : ∃ k, f = k + 1 := ⟨f - 1, by omega⟩
    rw [fX0_find_L31, if_pos ((lt_nI (by omega) (by omega)).mpr (by omega))]
    refine ⟨u, c, l, h, rfl, by omega, hm, ?_, frB_rfl u⟩
    have e : strB g 0 s = 1000 := by unfold strB; rw [if_neg (by omega), if_neg (by omega)]
    rw [← e]; exact hr
  | succ d ih =>
    intro s f u c l h hs hf hL hc hm hr
    obtain ⟨f, rfl⟩ : ∃ k, f = k + 1 := ⟨f - 1, by omega⟩
    have hs2 : s ≤ tc g 0 := by omega
    have e0 : (0 : Int32).toInt = 0 := rfl
    rw [fX0_find_L31, if_neg (fun h9 => by have := (lt_nI (by omega) (by omega)).mp h9; omega), if_neg (by rw [i_le, nI_n (by omega)]; omega)]
    have hB : 0 ≤ strB g 0 s ∧ strB g 0 s ≤ 999 := by
      unfold strB
      by_cases h8 : s = 0
      · rw [if_pos h8]; omega
      · rw [if_neg h8, if_pos hs2]; have := tH_r hO (t := 0) (by omega) (p := s - 1) (by omega); omega
    have hB2 : strB g 0 s ≤ strB g 0 (s + 1) ∧ strB g 0 (s + 1) ≤ 1000 := by
      unfold strB
      rw [if_neg (show ¬ s + 1 = 0 by omega), if_pos hs2]
      by_cases h9 : s + 1 ≤ tc g 0
      · rw [if_pos h9, show s + 1 - 1 = s by omega]
        have a1 := tH_r hO (t := 0) (by omega) (p := s) (by omega)
        by_cases h8 : s = 0
        · rw [if_pos h8]; omega
        · rw [if_neg h8]
          have a0 := tH_r hO (t := 0) (by omega) (p := s - 1) (by omega)
          have := a0.2.2 (by omega)
          rw [show s - 1 + 1 = s by omega] at this
          omega
      · rw [if_neg h9]
        by_cases h8 : s = 0
        · rw [if_pos h8]; omega
        · rw [if_neg h8]
          have a0 := tH_r hO (t := 0) (by omega) (p := s - 1) (by omega)
          omega
    have J89 : ∀ (u9 : Mem), u9 = sl (sl u 204 3 (zL (strB g 0 s))) 204 4 (zL (strB g 0 (s + 1) - 1)) → ∃ (w : Mem) (c2 : Nat) (l2 h2 : Nat → Int), (((fX0_narrowToNeed T (if (nI s - 1) < 0 then 0 else (nI s - 1)) (if (nI (tc g 0) - 1) < nI s then (nI (tc g 0) - 1) else nI s) need.toInt64 u9).bind fun u11 => (if (u11.2 204 4) < (u11.2 204 3) then fX0_find_L31 T need (nI (tc g 0)) f (nI s + 1) u11 else ((fX0_keep ((u11.2 204 3).toInt32) ((u11.2 204 4).toInt32) u11).bind fun u14 => fX0_find_L31 T need (nI (tc g 0)) f (nI s + 1) u14)))) = some w ∧ c2 ≤ 9 ∧ BM w c2 l2 h2 ∧ Runs (Pn g need.toInt) 1000 c2 l2 h2 ∧ frB u w := by
      intro u9 hu9
      have e_l : (if (nI s - 1) < 0 then 0 else (nI s - 1)) = nI (lo_ s) := by
        unfold lo_
        by_cases h9 : s = 0
        · subst h9; rfl
        · rw [nI_s1 (by omega) (by omega), if_neg (by rw [i_lt, nI_n (by omega)]; omega)]
      have e_r : (if (nI (tc g 0) - 1) < nI s then (nI (tc g 0) - 1) else nI s) = nI (ro_ (tc g 0) s) := by
        unfold ro_
        rw [nI_s1 (by omega) (by omega)]
        by_cases h9 : s = tc g 0
        · rw [if_pos h9, if_pos ((lt_nI (by omega) (by omega)).mpr (by omega))]
        · rw [if_neg h9, if_neg (fun h8 => by have := (lt_nI (by omega) (by omega)).mp h8; omega)]
      have hlo : lo_ s < tc g 0 := by unfold lo_; omega
      have hro : ro_ (tc g 0) s < tc g 0 := by unfold ro_; split <;> omega
      have hfr9 : frB u u9 := fun k x1 x2 x3 => by rw [hu9]; exact ⟨rfl, by rw [sl_ro _ _ x1, sl_ro _ _ x1]⟩
      have hm9 : BM u9 c l h := by rw [hu9]; exact hm
      obtain ⟨F2, T2, w1, y1, y2, y3, y4, y5, y6, y7, y8⟩ := ntn hT (relL_B hT hfr9 hL) hO hlo hro (need := need.toInt) (F := strB g 0 s) (Tt := strB g 0 (s + 1) - 1) hnr (by rw [hu9, sl_2, if_neg (by omega), sl_2, if_pos ⟨rfl, rfl⟩]) (by rw [hu9, sl_2, if_pos ⟨rfl, rfl⟩]) (by omega) (by omega)
      rw [e_l, e_r, xL need, y1, Option.bind_some, y2, y3, nI_1]
      have hfr1 : frB u w1 := frB_tr hfr9 (fun k x1 x2 x3 => ⟨by rw [y7], y8 k x1⟩)
      have hm1 : BM w1 c l h := by unfold BM; rw [y7]; exact hm9
      have hP : ∀ x, strB g 0 s ≤ x → x < strB g 0 (s + 1) → (Pn g need.toInt x ↔ F2 ≤ x ∧ x ≤ T2) := by
        intro x hx1 hx2
        rw [str_P hO hn hs2 hx1 hx2, y6 x]
        unfold wdZ
        constructor
        · intro hh; exact ⟨by omega, hh⟩
        · intro hh; exact hh.2
      by_cases h9 : T2 < F2
      · rw [if_pos (by rw [j_lt, zL_n (by omega) (by omega), zL_n (by omega) (by omega)]; exact h9)]
        obtain ⟨w, c2, l2, h2, z1, z2, z3, z4, z5⟩ := ih (s + 1) f w1 c l h (by omega) (by omega) (relL_B hT hfr1 hL) (by omega) hm1 (runs_none hr hB2.1 (fun x hx1 hx2 hp => by have := (hP x hx1 hx2).mp hp; omega))
        exact ⟨w, c2, l2, h2, z1, z2, z3, z4, frB_tr hfr1 z5⟩
      · rw [if_neg (by rw [j_lt, zL_n (by omega) (by omega), zL_n (by omega) (by omega)]; exact h9), zLI, zLI]
        have b1 := (y6 F2).mp ⟨Int.le_refl _, by omega⟩
        have b2 := (y6 T2).mp ⟨by omega, Int.le_refl _⟩
        obtain ⟨w2, c3, l3, h3, k1, k2, k3, k4, k5⟩ := keepB (B2 := strB g 0 (s + 1)) hB.1 hm1 hr (by omega) hB2.2 b1.1.1 (by omega) (by have := b2.1.2; omega) hP
        rw [k1, Option.bind_some]
        have hfr2 : frB u w2 := frB_tr hfr1 k5
        obtain ⟨w, c2, l2, h2, z1, z2, z3, z4, z5⟩ := ih (s + 1) f w2 c3 l3 h3 (by omega) (by omega) (relL_B hT hfr2 hL) (by omega) k3 k4
        exact ⟨w, c2, l2, h2, z1, z2, z3, z4, frB_tr hfr2 z5⟩
    have J62 : ∃ (w : Mem) (c2 : Nat) (l2 h2 : Nat → Int), fX0_find_J62 (fX0_find_L31 T need (nI (tc g 0)) f) T need (nI (tc g 0)) (nI s) (zL (strB g 0 s)) u = some w ∧ c2 ≤ 9 ∧ BM w c2 l2 h2 ∧ Runs (Pn g need.toInt) 1000 c2 l2 h2 ∧ frB u w := by
      unfold fX0_find_J62 fX0_find_J89
      by_cases h9 : s = tc g 0
      · rw [if_pos (by rw [h9])]
        refine J89 _ ?_
        have : strB g 0 (s + 1) = 1000 := by unfold strB; rw [if_neg (by omega), if_neg (by omega)]
        rw [this]; rfl
      · rw [if_neg (fun h8 => h9 (nI_inj (by omega) (by omega) h8)), pt0 (u := sl u 204 3 (zL (strB g 0 s))) (relL_fr (u := u) (fun _ _ => rfl) hL) hO (by omega), Option.bind_some]
        refine J89 _ ?_
        have e9 : strB g 0 (s + 1) = tH g 0 s := by unfold strB; rw [if_neg (by omega), if_pos (by omega)]; rfl
        have a1 := tH_r hO (t := 0) (by omega) (p := s) (by omega)
        rw [e9, show (1 : Int32) = zI 1 from rfl, zI_sub, zIL (by omega) (by omega)]
    by_cases h9 : s = 0
    · rw [if_pos (by rw [h9]; rfl)]
      have : zL (strB g 0 s) = 0 := by unfold strB; rw [if_pos h9]; rfl
      rw [this] at J62; exact J62
    · rw [if_neg (nI_nz h9 (by omega)), nI_s1 (by omega) (by omega), pt0 hL hO (by omega), Option.bind_some]
      have a1 := tH_r hO (t := 0) (by omega) (p := s - 1) (by omega)
      have : strB g 0 s = tH g 0 (s - 1) := by unfold strB; rw [if_neg h9, if_pos hs2]
      rw [this] at J62
      rw [zIL (by omega) (by omega)]; exact J62
/-- the class's boxes for a need -/
theorem findX {T : Nat} {g : Nat → Int32} {u : Mem} (hT : T ≤ 30) (hL : relL u T g) (hO : lawOk g) (need : Int32) : ∃ (w : Mem) (c : Nat) (l h : Nat → Int), fX0_find T need u = some w ∧ c ≤ 9 ∧ BM w c l h ∧ Runs (Pn g need.toInt) 1000 c l h ∧ frB u w := by
  obtain ⟨c1, c2⟩ := tc_i hO (t := 0) (by omega)
  have hL0 : relL (si u 204 2 0) T g := relL_fr (fun r hr => si_ro _ _ (by omega)) hL
  have ec : (si u 204 2 0).1 (5 * T + 3) 0 = nI (tc g 0) := by
    have := hL0.2.2.1 0 (by omega)
    rw [this]; exact c1
  have hfr : frB u (si u 204 2 0) := fun k x1 x2 x3 => ⟨si_ro _ _ x1, rfl⟩
  have hm0 : BM (si u 204 2 0) 0 (fun _ => 0) (fun _ => 0) := ⟨by rw [si_1, if_pos ⟨rfl, rfl⟩]; rfl, fun k hk => by omega⟩
  have hr0 : ∀ P : Int → Prop, Runs P 0 0 (fun _ => 0) (fun _ => 0) := fun P => ⟨fun k hk => by omega, fun k hk => by omega, fun x h1 h2 => by omega⟩
  unfold fX0_find fX0_find_J28
  rw [ec]
  by_cases hn : tc g 0 = 0
  · have hsp : ∀ b x, spZ g 0 b x = 0 := fun b x => by unfold spZ spI; rw [if_pos hn]
    have hex : ∀ w : Mem, fX0_find_L31 T need (nI (tc g 0)) fu0 0 w = some w := by
      intro w
      rw [hn, show fu0 = 99999 + 1 from rfl, fX0_find_L31, if_neg (by decide), if_pos (by decide)]
    rw [if_pos (by rw [hn]; rfl), hex]
    by_cases hz : need = 0
    · rw [if_pos hz]
      have hp : ∀ x : Int, 0 ≤ x → x < 1000 → (Pn g need.toInt x ↔ 0 ≤ x ∧ x ≤ 999) := by
        intro x h1 h2
        unfold Pn
        rw [hsp, hsp, hz]
        have : (0 : Int32).toInt = 0 := rfl
        omega
      obtain ⟨w2, c3, l3, h3, k1, k2, k3, k4, k5⟩ := keepB (B2 := 1000) (f := 0) (t := 999) (Int.le_refl 0) hm0 (hr0 _) (by omega) (by omega) (by omega) (by omega) (by omega) hp
      rw [show (0 : Int32) = zI 0 from rfl, show (999 : Int32) = zI 999 from rfl] 
      rw [show (0 : Int32) = zI 0 from rfl] at k1
      rw [k1, Option.bind_some]
      rw [show zI 0 = (0 : Int32) from rfl, hex]
      exact ⟨w2, c3, l3, h3, rfl, by omega, k3, k4, frB_tr hfr k5⟩
    · rw [if_neg hz]
      refine ⟨_, 0, fun _ => 0, fun _ => 0, rfl, by omega, hm0, runs_none (hr0 _) (by omega) (fun x h1 h2 hp => ?_), hfr⟩
      unfold Pn at hp
      rw [hsp, hsp] at hp
      apply hz
      rw [i_eq]
      have : (0 : Int32).toInt = 0 := rfl
      omega
  · rw [if_neg (nI_nz hn (by omega))]
    have e : strB g 0 0 = 0 := rfl
    obtain ⟨w, c2, l2, h2, z1, z2, z3, z4, z5⟩ := fnd hT hO (need := need) hn (tc g 0 + 1) 0 fu0 (si u 204 2 0) 0 (fun _ => 0) (fun _ => 0) (by omega) (fu_n (by omega)) hL0 (by omega) hm0 (by rw [e]; exact hr0 _)
    exact ⟨w, c2, l2, h2, z1, z2, z3, z4, frB_tr hfr z5⟩
