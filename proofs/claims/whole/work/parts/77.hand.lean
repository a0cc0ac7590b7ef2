def gvI (l p : Int32) : Int32 := if l < p then l else p
theorem gv_r {l p : Int32} (hl : 0 ≤ l.toInt) (hp : 0 ≤ p.toInt) : 0 ≤ (gvI l p).toInt ∧ (gvI l p).toInt ≤ l.toInt ∧ (gvI l p).toInt ≤ p.toInt := by
  unfold gvI
  by_cases h : l < p
  · rw [if_pos h]; rw [i_lt] at h; omega
  · rw [if_neg h]; rw [i_lt] at h; omega
theorem gv_m {l p : Int32} (h : l ≤ p) : gvI l p = l := by
  unfold gvI
  by_cases h2 : l < p
  · rw [if_pos h2]
  · rw [if_neg h2, i_eq]; rw [i_lt] at h2; rw [i_le] at h; omega
theorem gv_p {l p : Int32} (h : ¬ l ≤ p) : gvI l p = p := by
  unfold gvI
  rw [if_neg (fun h2 => h (by rw [i_lt] at h2; rw [i_le]; omega))]
def lfI (P : Nat → Int32) (n : Int32) : Nat → Int32
  | 0 => n
  | k + 1 => lfI P n k - gvI (lfI P n k) (P k)
theorem lf_r {P : Nat → Int32} {n : Int32} (hn : 0 ≤ n.toInt ∧ n.toInt ≤ 100000) (hP : ∀ k, k < 6 → 0 ≤ (P k).toInt) : ∀ k, k ≤ 6 → 0 ≤ (lfI P n k).toInt ∧ (lfI P n k).toInt ≤ 100000 := by
  intro k
  induction k with
  | zero => exact fun _ => hn
  | succ k ih =>
    intro hk
    obtain ⟨i1, i2⟩ := ih (by omega)
    obtain ⟨g1, g2, -⟩ := gv_r i1 (hP k (by omega))
    rw [lfI, i_sub (by omega) (by omega)]; omega
theorem hnd_test {u v : Mem} {q x y : Nat} (hq : q < 2) (hx : x < 16) (hy : y < 16) (hs : relS u q q (v.1 1) (v.2 3)) (hs2 : relS u (1 - q) (1 - q) (v.1 1) (v.2 3)) (h1 : v.1 1 (2 + q) = nI (x + 1)) (h2 : v.1 1 (2 + (1 - q)) = nI (y + 1)) {P R : Nat → Int32} (hP : ∀ k, k < 6 → v.1 1 (20 + (96 * q + (6 * x + k))) = P k) (hQ : ∀ k, k < 6 → v.1 1 (20 + (96 * (1 - q) + (6 * y + k))) = R k) (hP0 : ∀ k, k < 6 → 0 ≤ (P k).toInt ∧ (P k).toInt ≤ 100000) (hR0 : ∀ k, k < 6 → 0 ≤ (R k).toInt ∧ (R k).toInt ≤ 100000) {n : Int32} (hn : 0 ≤ n.toInt ∧ n.toInt ≤ 100000) (a2 : Int32) (KX : Int32 → Option (Bool × Mem)) (KM : Int32 → Bool → Option (Bool × Mem)) : ∀ (d k tX tM : Nat), k + d = 6 → d < tX → d < tM → ∃ b : Bool, (b = true → ∀ j, k ≤ j → j < 6 → (R j + gvI (lfI P n j) (P j)).toInt ≤ 100000) ∧ fX7_giveRim_L21 q (1 - q) n u KX tX (lfI P n k) (nI k) = (if b = true then KX (lfI P n 6) else some (false, u)) ∧ ∀ c : Bool, fX12_hand_L76 (nI q) a2 (nI (1 - q)) (nI x) (nI y) v KM tM (lfI P n k) c (nI k) = KM (lfI P n 6) (c && b) := by
  have e6 : (6 : Int32).toInt = 6 := rfl
  have eM : (100000 : Int32).toInt = 100000 := rfl
  have s1 : u.1 (160 + 4 * q) 3 - 1 = nI x := by rw [hs.1, h1, nI_s1 (by omega) (by omega)]; congr 1
  have s2 : u.1 (160 + 4 * (1 - q)) 3 - 1 = nI y := by rw [hs2.1, h2, nI_s1 (by omega) (by omega)]; congr 1
  intro d
  induction d with
  | zero =>
    intro k tX tM hk t1 t2
    obtain ⟨tX, rfl⟩ : ∃ m, tX = m + 1 := ⟨tX - 1, by omega⟩
    obtain ⟨tM, rfl⟩ : ∃ m, tM = m + 1 := ⟨tM - 1, by omega⟩
    have : k = 6 := by omega
    subst this
    refine ⟨true, fun _ j _ _ => by omega, ?_, fun c => ?_⟩
    · rw [fX7_giveRim_L21, if_pos (by decide), if_pos rfl]
    · rw [fX12_hand_L76, if_pos (by decide), Bool.and_true]
  | succ d ih =>
    intro k tX tM hk t1 t2
    obtain ⟨tX, rfl⟩ : ∃ m, tX = m + 1 := ⟨tX - 1, by omega⟩
    obtain ⟨tM, rfl⟩ : ∃ m, tM = m + 1 := ⟨tM - 1, by omega⟩
    have n6 : ¬ (6 : Int32) ≤ nI k := by rw [i_le, nI_n (by omega)]; omega
    obtain ⟨b, p1, p2, p3⟩ := ih (k + 1) tX tM (by omega) (by omega) (by omega)
    have hl := lf_r hn (fun j hj => (hP0 j hj).1) k (by omega)
    obtain ⟨g1, g2, g3⟩ := gv_r hl.1 (hP0 k (by omega)).1
    have hp := hP0 k (by omega)
    have hr := hR0 k (by omega)
    have hadd : (R k + gvI (lfI P n k) (P k)).toInt = (R k).toInt + (gvI (lfI P n k) (P k)).toInt := i_add (by omega) (by omega)
    have hX : fX7_giveRim_L21 q (1 - q) n u KX (tX + 1) (lfI P n k) (nI k) = if (R k + gvI (lfI P n k) (P k)) ≤ 100000 then fX7_giveRim_L21 q (1 - q) n u KX tX (lfI P n (k + 1)) (nI (k + 1)) else some (false, u) := by
      rw [fX7_giveRim_L21, if_neg n6, s1, s2, partX hs hx (by omega), Option.bind_some, partX hs2 hy (by omega), Option.bind_some, hP k (by omega), hQ k (by omega), nI_1]
      rfl
    have hM : ∀ c : Bool, fX12_hand_L76 (nI q) a2 (nI (1 - q)) (nI x) (nI y) v KM (tM + 1) (lfI P n k) c (nI k) = fX12_hand_L76 (nI q) a2 (nI (1 - q)) (nI x) (nI y) v KM tM (lfI P n (k + 1)) (c && (if 100000 < (R k + gvI (lfI P n k) (P k)) then false else true)) (nI (k + 1)) := fun c => by
      have hJ : ∀ s0 : Int32, s0 = gvI (lfI P n k) (P k) → fX12_hand_J111 (fX12_hand_L76 (nI q) a2 (nI (1 - q)) (nI x) (nI y) v KM tM) (nI q) a2 (nI (1 - q)) (nI x) (nI y) (lfI P n k) c (nI k) s0 v = fX12_hand_L76 (nI q) a2 (nI (1 - q)) (nI x) (nI y) v KM tM (lfI P n (k + 1)) (c && (if 100000 < (R k + gvI (lfI P n k) (P k)) then false else true)) (nI (k + 1)) := fun s0 h0 => by
        unfold fX12_hand_J111
        rw [partM (show 1 - q < 2 by omega) hy (by omega), Option.bind_some, hQ k (by omega), h0, nI_1]
        cases c
        · rw [if_neg (by decide), Bool.false_and]; rfl
        · rw [if_pos rfl, Bool.true_and]; rfl
      rw [fX12_hand_L76, if_neg n6, partM hq hx (by omega), Option.bind_some, hP k (by omega), Option.bind_some]
      by_cases h : lfI P n k ≤ P k
      · rw [if_pos h]; exact hJ _ (gv_m h).symm
      · rw [if_neg h]; exact hJ _ (gv_p h).symm
    by_cases hk2 : (R k + gvI (lfI P n k) (P k)) ≤ 100000
    · refine ⟨b, fun hb j j1 j2 => ?_, ?_, fun c => ?_⟩
      · by_cases h : j = k
        · rw [h]; rw [i_le] at hk2; omega
        · exact p1 hb j (by omega) j2
      · rw [hX, if_pos hk2]; exact p2
      · rw [hM, if_neg (by rw [i_le] at hk2; rw [i_lt]; omega), Bool.and_true]; exact p3 c
    · refine ⟨false, fun hb => absurd hb (by decide), ?_, fun c => ?_⟩
      · rw [hX, if_neg hk2, if_neg (by decide)]
      · rw [hM, if_pos (by rw [i_le] at hk2; rw [i_lt]; omega), Bool.and_false, p3 false, Bool.false_and]
theorem hnd_go {q x y : Nat} (hq : q < 2) (hx : x < 16) (hy : y < 16) {P R : Nat → Int32} (hP0 : ∀ k, k < 6 → 0 ≤ (P k).toInt ∧ (P k).toInt ≤ 100000) (hR0 : ∀ k, k < 6 → 0 ≤ (R k).toInt ∧ (R k).toInt ≤ 100000) {n : Int32} (hn : 0 ≤ n.toInt ∧ n.toInt ≤ 100000) (hok : ∀ j, j < 6 → (R j + gvI (lfI P n j) (P j)).toInt ≤ 100000) : ∀ (d k tX tM : Nat) (u v : Mem), k + d = 6 → d < tX → d < tM → RR u v → v.1 1 (2 + q) = nI (x + 1) → v.1 1 (2 + (1 - q)) = nI (y + 1) → (∀ j, k ≤ j → j < 6 → v.1 1 (20 + (96 * q + (6 * x + j))) = P j) → (∀ j, k ≤ j → j < 6 → v.1 1 (20 + (96 * (1 - q) + (6 * y + j))) = R j) → ∃ u2 v2, fX7_giveRim_L90 q (1 - q) tX (lfI P n k) (nI k) u = some (true, u2) ∧ fX12_hand_L174 (nI q) (nI (1 - q)) (nI x) (nI y) tM (lfI P n k) (nI k) v = some (true, v2) ∧ RR u2 v2 := by
  have e6 : (6 : Int32).toInt = 6 := rfl
  intro d
  induction d with
  | zero =>
    intro k tX tM u v hk t1 t2 hR _ _ _ _
    obtain ⟨tX, rfl⟩ : ∃ m, tX = m + 1 := ⟨tX - 1, by omega⟩
    obtain ⟨tM, rfl⟩ : ∃ m, tM = m + 1 := ⟨tM - 1, by omega⟩
    have : k = 6 := by omega
    subst this
    refine ⟨u, v, ?_, ?_, hR⟩
    · rw [fX7_giveRim_L90, if_pos (by decide)]
    · rw [fX12_hand_L174, if_pos (by decide)]
  | succ d ih =>
    intro k tX tM u v hk t1 t2 hR h1 h2 hP hQ
    obtain ⟨tX, rfl⟩ : ∃ m, tX = m + 1 := ⟨tX - 1, by omega⟩
    obtain ⟨tM, rfl⟩ : ∃ m, tM = m + 1 := ⟨tM - 1, by omega⟩
    have n6 : ¬ (6 : Int32) ≤ nI k := by rw [i_le, nI_n (by omega)]; omega
    have k6 : k < 6 := by omega
    have hl := lf_r hn (fun j hj => (hP0 j hj).1) k (by omega)
    obtain ⟨g1, g2, g3⟩ := gv_r hl.1 (hP0 k k6).1
    have hp := hP0 k k6
    have hr := hR0 k k6
    have ho := hok k k6
    have hadd : (R k + gvI (lfI P n k) (P k)).toInt = (R k).toInt + (gvI (lfI P n k) (P k)).toInt := i_add (by omega) (by omega)
    have hsub : (P k - gvI (lfI P n k) (P k)).toInt = (P k).toInt - (gvI (lfI P n k) (P k)).toInt := i_sub (by omega) (by omega)
    have stq : ∀ w z : Mem, RR w z → ∀ q2, q2 < 2 → relS w q2 q2 (z.1 1) (z.2 3) := fun w z hw q2 hq2 => by
      have := hw.2.2.1.2.1 q2 hq2
      rw [show 2 * 0 + q2 = q2 by omega] at this; exact this
    have hs := stq u v hR q hq
    have s1 : u.1 (160 + 4 * q) 3 - 1 = nI x := by rw [hs.1, h1, nI_s1 (by omega) (by omega)]; congr 1
    have i1 : nI x * 6 + nI k = nI (6 * x + k) := by rw [show (6 : Int32) = nI 6 from rfl, pk_mul, nI_add, Nat.mul_comm]
    have i2 : nI y * 6 + nI k = nI (6 * y + k) := by rw [show (6 : Int32) = nI 6 from rfl, pk_mul, nI_add, Nat.mul_comm]
    have b1 : inB (nI (6 * x + k)) 96 := inB_n (by omega) (by omega)
    have b2 : inB (nI (6 * y + k)) 96 := inB_n (by omega) (by omega)
    have hR1 := RR_set hR hq (j := 6 * x + k) (by omega) (x := P k - gvI (lfI P n k) (P k)) (by omega)
    generalize hu1 : si u (160 + 4 * q + 1) (6 * x + k) (P k - gvI (lfI P n k) (P k)) = u1 at *
    generalize hv1 : si v 1 (20 + (96 * q + (6 * x + k))) (P k - gvI (lfI P n k) (P k)) = v1 at *
    have vo1 : ∀ j, j ≠ 20 + (96 * q + (6 * x + k)) → v1.1 1 j = v.1 1 j := fun j hj => by rw [← hv1, si_1, if_neg (by omega)]
    have hs1 := stq u1 v1 hR1 (1 - q) (by omega)
    have s2 : u1.1 (160 + 4 * (1 - q)) 3 - 1 = nI y := by rw [hs1.1, vo1 _ (by omega), h2, nI_s1 (by omega) (by omega)]; congr 1
    have hq1 : v1.1 1 (20 + (96 * (1 - q) + (6 * y + k))) = R k := by rw [vo1 _ (by omega)]; exact hQ k (Nat.le_refl _) k6
    have hR2 := RR_set hR1 (show 1 - q < 2 by omega) (j := 6 * y + k) (by omega) (x := R k + gvI (lfI P n k) (P k)) (by omega)
    generalize hu2 : si u1 (160 + 4 * (1 - q) + 1) (6 * y + k) (R k + gvI (lfI P n k) (P k)) = u2 at *
    generalize hv2 : si v1 1 (20 + (96 * (1 - q) + (6 * y + k))) (R k + gvI (lfI P n k) (P k)) = v2 at *
    have vo2 : ∀ j, j ≠ 20 + (96 * (1 - q) + (6 * y + k)) → v2.1 1 j = v1.1 1 j := fun j hj => by rw [← hv2, si_1, if_neg (by omega)]
    obtain ⟨u3, v3, r1, r2, r3⟩ := ih (k + 1) tX tM u2 v2 (by omega) (by omega) (by omega) hR2 (by rw [vo2 _ (by omega), vo1 _ (by omega)]; exact h1) (by rw [vo2 _ (by omega), vo1 _ (by omega)]; exact h2) (fun j j1 j2 => by rw [vo2 _ (by omega), vo1 _ (by omega)]; exact hP j (by omega) j2) (fun j j1 j2 => by rw [vo2 _ (by omega), vo1 _ (by omega)]; exact hQ j (by omega) j2)
    refine ⟨u3, v3, ?_, ?_, r3⟩
    · have pX : u.1 (160 + 4 * q + 1) (6 * x + k) = P k := by rw [hs.2.2.2.1 _ (by omega)]; exact hP k (Nat.le_refl _) k6
      have pY : u1.1 (160 + 4 * (1 - q) + 1) (6 * y + k) = R k := by rw [hs1.2.2.2.1 _ (by omega)]; exact hq1
      rw [fX7_giveRim_L90, if_neg n6, s1, partX hs hx k6, Option.bind_some, hP k (Nat.le_refl _) k6, i1, if_pos b1, Option.bind_some, if_pos b1, Option.bind_some, cl_n (by omega), pX]
      have e : (if lfI P n k < P k then lfI P n k else P k) = gvI (lfI P n k) (P k) := rfl
      rw [e, hu1, s2, i2, if_pos b2, Option.bind_some, if_pos b2, Option.bind_some, cl_n (by omega), pY, hu2, nI_1]
      exact r1
    · have hJ : ∀ s0 : Int32, s0 = gvI (lfI P n k) (P k) → fX12_hand_J209 (fX12_hand_L174 (nI q) (nI (1 - q)) (nI x) (nI y) tM) (nI q) (nI (1 - q)) (nI x) (nI y) (lfI P n k) (nI k) s0 v = some (true, v3) := fun s0 h0 => by
        unfold fX12_hand_J209
        rw [partM hq hx k6, Option.bind_some, hP k (Nat.le_refl _) k6, h0, setM hq hx k6, Option.bind_some, hv1, partM (show 1 - q < 2 by omega) hy k6, Option.bind_some, hq1, setM (show 1 - q < 2 by omega) hy k6, Option.bind_some, hv2, nI_1]
        exact r2
      rw [fX12_hand_L174, if_neg n6, partM hq hx k6, Option.bind_some, hP k (Nat.le_refl _) k6, Option.bind_some]
      by_cases h : lfI P n k ≤ P k
      · rw [if_pos h]; exact hJ _ (gv_m h).symm
      · rw [if_neg h]; exact hJ _ (gv_p h).symm
theorem sp_hand_ok : sp_hand RR := by
  intro u v a n hR
  have e0 : (0 : Int32).toInt = 0 := rfl
  have e1 : (1 : Int32).toInt = 1 := rfl
  have eM : (100000 : Int32).toInt = 100000 := rfl
  unfold fX11_hand fX12_hand
  rw [starX, starM, Option.bind_some, Option.bind_some, in_sp2 n (L := 1) (Hh := 100000) rfl rfl, Option.bind_some]
  rcases cut_n a 2 with h | ⟨q, hq, rfl⟩
  · have h : ¬ (0 ≤ a.toInt ∧ a.toInt < 2) := h
    rw [decide_eq_false h]
    exact ⟨false, u, v, rfl, rfl, hR⟩
  · have e := nI_n (show q < 2147483648 by omega)
    rw [decide_eq_true (show 0 ≤ (nI q).toInt ∧ (nI q).toInt < 2 by omega), if_pos rfl, if_pos rfl]
    by_cases hb : 1 ≤ n.toInt ∧ n.toInt ≤ 100000
    · have eq1 : (1 : Int32) - nI q = nI (1 - q) := nI_sb (a := q) (b := 1) (by omega) (by omega)
      have e2 : (2 : Int32) + nI q = nI (2 + q) := nI_add 2 q
      have e3 : (2 : Int32) + nI (1 - q) = nI (2 + (1 - q)) := nI_add 2 (1 - q)
      rw [if_neg (show ¬ n < 1 by rw [i_lt]; omega), if_pos (show n ≤ 100000 by rw [i_le]; omega), decide_eq_true hb, if_pos rfl, if_pos (inB_n hq (by omega)), eq1, if_pos (inB_n (i := 1 - q) (n := 2) (by omega) (by omega)), cl_n (by omega), cl_n (by omega), show 2 * 0 + q = q by omega, show 2 * 0 + (1 - q) = 1 - q by omega, e2, e3, if_pos (inB_n (i := 2 + q) (n := 8320) (by omega) (by omega)), if_pos (inB_n (i := 2 + (1 - q)) (n := 8320) (by omega) (by omega)), cl_n (by omega), cl_n (by omega)]
      have stq : ∀ q2, q2 < 2 → relS u q2 q2 (v.1 1) (v.2 3) := fun q2 hq2 => by
        have := hR.2.2.1.2.1 q2 hq2
        rw [show 2 * 0 + q2 = q2 by omega] at this; exact this
      have hs := stq q hq
      have hs2 := stq (1 - q) (by omega)
      have r1 := hR.1.2.2.1 q hq
      have r2 := hR.1.2.2.1 (1 - q) (by omega)
      have hz : (v.1 1 2 = 0 ∨ v.1 1 3 = 0) ↔ (v.1 1 (2 + q) = 0 ∨ v.1 1 (2 + (1 - q)) = 0) := by
        by_cases h : q = 0
        · subst h; exact Iff.rfl
        · have : q = 1 := by omega
          subst this
          exact Or.comm
      unfold fX7_giveRim
      rw [hs.1, hs2.1]
      by_cases z : v.1 1 (2 + q) = 0 ∨ v.1 1 (2 + (1 - q)) = 0
      · refine ⟨false, u, v, ?_, ?_, hR⟩
        · rcases z with z | z
          · rw [if_pos z, Option.bind_some]
          · by_cases z2 : v.1 1 (2 + q) = 0
            · rw [if_pos z2, Option.bind_some]
            · rw [if_neg z2, if_pos z, Option.bind_some]
        · rcases hz.mpr z with z | z
          · rw [if_pos z]
          · by_cases z2 : v.1 1 2 = 0
            · rw [if_pos z2]
            · rw [if_neg z2, if_pos z]
      · have z2 : ¬ (v.1 1 2 = 0 ∨ v.1 1 3 = 0) := fun h => z (hz.mp h)
        have z3 : ¬ v.1 1 (2 + q) = 0 := fun h => z (Or.inl h)
        have z4 : ¬ v.1 1 (2 + (1 - q)) = 0 := fun h => z (Or.inr h)
        rw [if_neg z3, if_neg z4, if_neg (fun h => z2 (Or.inl h)), if_neg (fun h => z2 (Or.inr h))]
        rw [i_eq] at z3 z4
        have hx := i_nat r1.1
        have hy := i_nat r2.1
        obtain ⟨x, hx2⟩ : ∃ x, (v.1 1 (2 + q)).toInt.toNat = x + 1 := ⟨(v.1 1 (2 + q)).toInt.toNat - 1, by omega⟩
        obtain ⟨y, hy2⟩ : ∃ y, (v.1 1 (2 + (1 - q))).toInt.toNat = y + 1 := ⟨(v.1 1 (2 + (1 - q))).toInt.toNat - 1, by omega⟩
        rw [hx2] at hx
        rw [hy2] at hy
        have hx3 : x < 16 := by omega
        have hy3 : y < 16 := by omega
        rw [hx, hy, nI_s1 (by omega) (by omega), nI_s1 (by omega) (by omega), show x + 1 - 1 = x from rfl, show y + 1 - 1 = y from rfl]
        have pr := hR.1.2.2.2.2.2.2.2.2.1
        obtain ⟨b, p1, p2, p3⟩ := hnd_test hq hx3 hy3 hs hs2 hx hy (P := fun k => v.1 1 (20 + (96 * q + (6 * x + k)))) (R := fun k => v.1 1 (20 + (96 * (1 - q) + (6 * y + k)))) (fun _ _ => rfl) (fun _ _ => rfl) (fun k hk => pr _ (by omega)) (fun k hk => pr _ (by omega)) (n := n) (by omega) n (fun v9 => (if v9 ≤ 0 then fX7_giveRim_L90 q (1 - q) fu0 n 0 u else (some (false, u)))) (fun v19 v20 => (if v20 = true then (if v19 ≤ 0 then fX12_hand_L174 (nI q) (nI (1 - q)) (nI x) (nI y) fu0 n 0 v else (some (false, v))) else (some (false, v)))) 6 0 fu0 fu0 (by omega) (fu_n (by omega)) (fu_n (by omega))
        have p2' : fX7_giveRim_L21 q (1 - q) n u (fun v9 => (if v9 ≤ 0 then fX7_giveRim_L90 q (1 - q) fu0 n 0 u else (some (false, u)))) fu0 n 0 = _ := p2
        have p3' : fX12_hand_L76 (nI q) n (nI (1 - q)) (nI x) (nI y) v (fun v19 v20 => (if v20 = true then (if v19 ≤ 0 then fX12_hand_L174 (nI q) (nI (1 - q)) (nI x) (nI y) fu0 n 0 v else (some (false, v))) else (some (false, v)))) fu0 n true 0 = _ := p3 true
        rw [p2', p3', Bool.true_and]
        cases b with
        | false =>
          rw [if_neg (by decide), if_neg (by decide), Option.bind_some]
          exact ⟨false, u, v, rfl, rfl, hR⟩
        | true =>
          rw [if_pos rfl, if_pos rfl]
          generalize hl6 : lfI (fun k => v.1 1 (20 + (96 * q + (6 * x + k)))) n 6 = l6
          by_cases hl : l6 ≤ 0
          · obtain ⟨u2, v2, g1, g2, g3⟩ := hnd_go hq hx3 hy3 (P := fun k => v.1 1 (20 + (96 * q + (6 * x + k)))) (R := fun k => v.1 1 (20 + (96 * (1 - q) + (6 * y + k)))) (fun k hk => pr _ (by omega)) (fun k hk => pr _ (by omega)) (n := n) (by omega) (fun j hj => p1 rfl j (by omega) hj) 6 0 fu0 fu0 u v (by omega) (fu_n (by omega)) (fu_n (by omega)) hR hx hy (fun _ _ _ => rfl) (fun _ _ _ => rfl)
            have g1' : fX7_giveRim_L90 q (1 - q) fu0 n 0 u = some (true, u2) := g1
            have g2' : fX12_hand_L174 (nI q) (nI (1 - q)) (nI x) (nI y) fu0 n 0 v = some (true, v2) := g2
            refine ⟨true, u2, v2, ?_, ?_, g3⟩
            · show Option.bind (if l6 ≤ 0 then _ else _) _ = _
              rw [if_pos hl, g1', Option.bind_some]
            · show (if l6 ≤ 0 then _ else _) = _
              rw [if_pos hl, g2']
          · refine ⟨false, u, v, ?_, ?_, hR⟩
            · show Option.bind (if l6 ≤ 0 then _ else _) _ = _
              rw [if_neg hl, Option.bind_some]
            · show (if l6 ≤ 0 then _ else _) = _
              rw [if_neg hl]
    · rw [decide_eq_false hb, if_neg (show ¬ false = true by decide)]
      refine ⟨false, u, v, ?_, rfl, hR⟩
      by_cases hb1 : n < 1
      · rw [if_pos hb1]
      · rw [if_neg hb1, if_neg (by rw [i_lt] at hb1; rw [i_le]; omega)]
