def smP (f : Nat → Int32) (q k a : Nat) : Nat → Int32
  | 0 => 0
  | d + 1 => smP f q k a d + f (20 + (96 * q + (6 * (a + d) + k)))
theorem smP_r {f : Nat → Int32} {q k a : Nat} (hf : ∀ j, j < 96 → 0 ≤ (f (20 + (96 * q + j))).toInt ∧ (f (20 + (96 * q + j))).toInt ≤ 100000) (hk : k < 6) : ∀ d, a + d ≤ 16 → 0 ≤ (smP f q k a d).toInt ∧ (smP f q k a d).toInt ≤ 100000 * d := by
  intro d
  induction d with
  | zero => intro _; exact ⟨Int.le_refl _, Int.le_refl _⟩
  | succ d ih =>
    intro h
    obtain ⟨i1, i2⟩ := ih (by omega)
    have h1 := hf (6 * (a + d) + k) (by omega)
    rw [smP, i_add (by omega) (by omega)]
    omega
theorem sumX {u : Mem} {q : Nat} {f : Nat → Int32} {bk : Nat → Int64} (hst : relS u q q f bk) {k a b : Nat} (hk : k < 6) (hb : b < 16) (a3 : Int32) (K : Int32 → Option Mem) : ∀ (r d t : Nat), a + d + r = b + 1 → r < t → fX7_mix_L22 q (nI a) (nI b) a3 (nI k) u K t (smP f q k a d) (nI (a + d)) = K (smP f q k a (b + 1 - a)) := by
  intro r
  induction r with
  | zero =>
    intro d t hd ht
    obtain ⟨t, rfl⟩ : ∃ m, t = m + 1 := ⟨t - 1, by omega⟩
    rw [fX7_mix_L22, if_pos ((lt_nI (by omega) (by omega)).mpr (by omega)), show b + 1 - a = d by omega]
  | succ r ih =>
    intro d t hd ht
    obtain ⟨t, rfl⟩ : ∃ m, t = m + 1 := ⟨t - 1, by omega⟩
    rw [fX7_mix_L22, if_neg (fun h => by have := (lt_nI (by omega) (by omega)).mp h; omega), partX hst (by omega) hk, Option.bind_some, nI_1]
    exact ih (d + 1) t (by omega) (by omega)
theorem sumM {v : Mem} {q : Nat} (hq : q < 2) {k a b : Nat} (hk : k < 6) (hb : b < 16) (a3 : Int32) (K : Int32 → Option Mem) : ∀ (r d t : Nat), a + d + r = b + 1 → r < t → fX12_mixes_L23 (nI q) (nI a) (nI b) a3 (nI k) v K t (smP (v.1 1) q k a d) (nI (a + d)) = K (smP (v.1 1) q k a (b + 1 - a)) := by
  intro r
  induction r with
  | zero =>
    intro d t hd ht
    obtain ⟨t, rfl⟩ : ∃ m, t = m + 1 := ⟨t - 1, by omega⟩
    rw [fX12_mixes_L23, if_pos ((lt_nI (by omega) (by omega)).mpr (by omega)), show b + 1 - a = d by omega]
  | succ r ih =>
    intro d t hd ht
    obtain ⟨t, rfl⟩ : ∃ m, t = m + 1 := ⟨t - 1, by omega⟩
    rw [fX12_mixes_L23, if_neg (fun h => by have := (lt_nI (by omega) (by omega)).mp h; omega), partM hq (by omega) hk, Option.bind_some, nI_1]
    exact ih (d + 1) t (by omega) (by omega)
/-- the share of a mixed shell -/
theorem shr {S : Int32} {m x : Nat} (hm : 0 < m ∧ m ≤ 16) (hx : x < m) (hS : 0 ≤ S.toInt ∧ S.toInt ≤ 100000 * m) : (if S - S / nI m * nI m ≤ nI x then S / nI m else S / nI m + 1) = S / nI m + ((if S - S / nI m * nI m ≤ nI x then 0 else 1) : Int32) ∧ 0 ≤ (if S - S / nI m * nI m ≤ nI x then S / nI m else S / nI m + 1).toInt ∧ (if S - S / nI m * nI m ≤ nI x then S / nI m else S / nI m + 1).toInt ≤ 100000 := by
  have e : S / nI m = zI (S.toInt / m) := by
    conv => lhs; rw [← zI_of S, zI_nat]
    exact zI_div hS.1 (by omega) (by omega) (by omega)
  have a1 : 0 ≤ S.toInt / m := Int.ediv_nonneg hS.1 (by omega)
  have a2 : S.toInt / m ≤ 100000 := Int.ediv_le_of_le_mul (by omega) hS.2
  have a3 : S.toInt / m * m ≤ S.toInt := Int.ediv_mul_le _ (by omega)
  have er : S - S / nI m * nI m = zI (S.toInt - S.toInt / m * m) := by
    rw [e, zI_nat, zI_mul]
    conv => lhs; rw [← zI_of S, zI_sub]
    rw [zI_of]
  have hb := mul_rng a1 a2 (show 0 ≤ (m : Int) by omega) (show (m : Int) ≤ 16 by omega)
  rw [er]
  by_cases h : zI (S.toInt - S.toInt / m * m) ≤ nI x
  · rw [if_pos h, if_pos h, e, zI_n (by omega) (by omega)]
    exact ⟨by rw [show (0 : Int32) = zI 0 from rfl, zI_add]; congr 1; omega, a1, a2⟩
  · rw [if_neg h, if_neg h, e]
    rw [i_le, zI_n (by omega) (by omega), nI_n (by omega)] at h
    have a4 : S.toInt / m + 1 ≤ 100000 := by
      by_cases h9 : S.toInt / m = 100000
      · rw [h9] at h; omega
      · omega
    rw [show (1 : Int32) = zI 1 from rfl, zI_add, zI_n (by omega) (by omega)]
    exact ⟨rfl, by omega, a4⟩
theorem stsX {q s k : Nat} {u : Mem} (hs : s < 16) (hk : k < 6) (x : Int32) : fX7_setParts q (nI s) (nI k) x u = some (si u (160 + 4 * q + 1) (6 * s + k) x) := by
  unfold fX7_setParts
  have e : nI s * 6 + nI k = nI (6 * s + k) := by rw [show (6 : Int32) = nI 6 from rfl, pk_mul, nI_add, Nat.mul_comm]
  rw [e, if_pos (inB_n (by omega) (by omega)), cl_n (by omega)]
theorem nI_sb {a b : Nat} (h : a ≤ b) (hb : b < 2147483648) : nI b - nI a = nI (b - a) := by
  rw [zI_nat, zI_nat, zI_sub, zI_nat]; congr 1; omega
theorem mixS {q : Nat} {u0 v0 : Mem} (hq : q < 2) {k a b m : Nat} {S : Int32} (hk : k < 6) (hb : b < 16) (ha : a ≤ b) (hm : m = b + 1 - a) (hS : 0 ≤ S.toInt ∧ S.toInt ≤ 100000 * m) (RX RM : Int32 → Mem → Option Mem) : ∀ (r x tX tM : Nat) (u v : Mem), a ≤ x → x + r = b + 1 → r < tX → r < tM → GO q u0 v0 u v → ∃ u2 v2, fX7_mix_L67 q (nI a) (nI b) (nI m) (nI k) (S / nI m) (S - S / nI m * nI m) RX tX (nI x) u = RX (nI (k + 1)) u2 ∧ fX12_mixes_L52 (nI q) (nI a) (nI b) (nI m) (nI k) S RM tM (nI x) v = RM (nI (k + 1)) v2 ∧ GO q u0 v0 u2 v2 := by
  intro r
  induction r with
  | zero =>
    intro x tX tM u v hax hx h1 h2 hG
    obtain ⟨tX, rfl⟩ : ∃ m, tX = m + 1 := ⟨tX - 1, by omega⟩
    obtain ⟨tM, rfl⟩ : ∃ m, tM = m + 1 := ⟨tM - 1, by omega⟩
    refine ⟨u, v, ?_, ?_, hG⟩
    · rw [fX7_mix_L67, if_pos ((lt_nI (by omega) (by omega)).mpr (by omega)), nI_1]
    · rw [fX12_mixes_L52, if_pos ((lt_nI (by omega) (by omega)).mpr (by omega)), nI_1]
  | succ r ih =>
    intro x tX tM u v hax hx h1 h2 hG
    obtain ⟨tX, rfl⟩ : ∃ m, tX = m + 1 := ⟨tX - 1, by omega⟩
    obtain ⟨tM, rfl⟩ : ∃ m, tM = m + 1 := ⟨tM - 1, by omega⟩
    obtain ⟨s1, s2⟩ := shr (S := S) (m := m) (x := x - a) (by omega) (by omega) hS
    have hmz : ¬ nI m = 0 := nI_nz (by omega) (by omega)
    have hG2 := go_set hq hG (j := 6 * x + k) (by omega) s2
    obtain ⟨u2, v2, r1, r2, r3⟩ := ih (x + 1) tX tM _ _ (by omega) (by omega) (by omega) (by omega) hG2
    refine ⟨u2, v2, ?_, ?_, r3⟩
    · rw [fX7_mix_L67, if_neg (fun h => by have := (lt_nI (by omega) (by omega)).mp h; omega), nI_sb hax (by omega), stsX (by omega) hk, Option.bind_some, nI_1]; exact r1
    · rw [fX12_mixes_L52, if_neg (fun h => by have := (lt_nI (by omega) (by omega)).mp h; omega), if_neg hmz, if_neg hmz, nI_sb hax (by omega), setM hq (by omega) hk, Option.bind_some, nI_1, ← s1]; exact r2
theorem mixK {q T n : Nat} {g : Nat → Int32} {u0 v0 : Mem} (C : CX q T n g u0 v0) {a b m : Nat} (hb : b < n) (ha : a ≤ b) (hm : m = b + 1 - a) : ∀ (r k tX tM : Nat) (u v : Mem), k + r = 6 → r < tX → r < tM → GO q u0 v0 u v → ∃ u2 v2, fX7_mix_L9 q (nI a) (nI b) (nI m) tX (nI k) u = some u2 ∧ fX12_mixes_L10 (nI q) (nI a) (nI b) (nI m) tM (nI k) v = some v2 ∧ GO q u0 v0 u2 v2 := by
  have e6 : (6 : Int32).toInt = 6 := rfl
  have e0 : (0 : Int32).toInt = 0 := rfl
  obtain ⟨⟨hq, hT, hn, hO⟩, hR0, -⟩ := id C
  intro r
  induction r with
  | zero =>
    intro k tX tM u v hk h1 h2 hG
    obtain ⟨tX, rfl⟩ : ∃ m, tX = m + 1 := ⟨tX - 1, by omega⟩
    obtain ⟨tM, rfl⟩ : ∃ m, tM = m + 1 := ⟨tM - 1, by omega⟩
    have : k = 6 := by omega
    subst this
    refine ⟨u, v, ?_, ?_, hG⟩
    · rw [fX7_mix_L9, if_pos (by decide)]
    · rw [fX12_mixes_L10, if_pos (by decide)]
  | succ r ih =>
    intro k tX tM u v hk h1 h2 hG
    obtain ⟨tX, rfl⟩ : ∃ m, tX = m + 1 := ⟨tX - 1, by omega⟩
    obtain ⟨tM, rfl⟩ : ∃ m, tM = m + 1 := ⟨tM - 1, by omega⟩
    obtain ⟨-, -, -, -, -, hst, -⟩ := CX_at C hG
    have n6 : ¬ (6 : Int32) ≤ nI k := by rw [i_le, nI_n (by omega)]; omega
    have hS := smP_r (f := v.1 1) (q := q) (k := k) (a := a) (fun j hj => (hG.2.2.1 j hj).2) (by omega) m (by omega)
    obtain ⟨u2, v2, r1, r2, r3⟩ := mixS hq (k := k) (by omega) (show b < 16 by omega) ha hm hS (fX7_mix_L9 q (nI a) (nI b) (nI m) tX) (fX12_mixes_L10 (nI q) (nI a) (nI b) (nI m) tM) m a fu0 fu0 u v (by omega) (by omega) (fu_n (by omega)) (fu_n (by omega)) hG
    obtain ⟨u3, v3, s1, s2, s3⟩ := ih (k + 1) tX tM u2 v2 (by omega) (by omega) (by omega) r3
    refine ⟨u3, v3, ?_, ?_, s3⟩
    · rw [fX7_mix_L9, if_neg n6]
      have := sumX hst (k := k) (a := a) (b := b) (by omega) (by omega) (nI m) (fun v5 => ((fX11_cut v5 (nI m)).bind fun r7 => fX7_mix_L67 q (nI a) (nI b) (nI m) (nI k) r7 (v5 - (r7 * (nI m))) (fX7_mix_L9 q (nI a) (nI b) (nI m) tX) fu0 (nI a) u)) m 0 fu0 (by omega) (fu_n (by omega))
      refine Eq.trans this ?_
      rw [← hm]
      show (fX11_cut (smP (v.1 1) q k a m) (nI m)).bind _ = _
      unfold fX11_cut
      rw [if_neg (by rw [i_le, nI_n (by omega)]; omega), if_neg (nI_nz (by omega) (by omega)), Option.bind_some]
      exact r1.trans s1
    · rw [fX12_mixes_L10, if_neg n6]
      have := sumM (v := v) hq (k := k) (a := a) (b := b) (by omega) (by omega) (nI m) (fun v5 => fX12_mixes_L52 (nI q) (nI a) (nI b) (nI m) (nI k) v5 (fX12_mixes_L10 (nI q) (nI a) (nI b) (nI m) tM) fu0 (nI a) v) m 0 fu0 (by omega) (fu_n (by omega))
      refine Eq.trans this ?_
      rw [← hm]
      exact r2.trans s2
theorem mix_both {q T n : Nat} {g : Nat → Int32} {u0 v0 u v : Mem} (C : CX q T n g u0 v0) (hG : GO q u0 v0 u v) {a b : Nat} (hb : b < n) (ha : a ≤ b) : ∃ u2 v2, fX7_mix q (nI a) (nI b) u = some u2 ∧ fX12_mixes (nI q) (nI a) (nI b) v = some v2 ∧ GO q u0 v0 u2 v2 := by
  have hn := C.1.2.2.1
  have e : nI b - nI a + 1 = nI (b + 1 - a) := by rw [nI_sb ha (by omega), nI_1, show b - a + 1 = b + 1 - a by omega]
  unfold fX7_mix fX12_mixes
  rw [e]
  exact mixK C hb ha rfl 6 0 fu0 fu0 u v (by omega) (fu_n (by omega)) (fu_n (by omega)) hG
/-- a shell mixed with itself stays -/
theorem one1 {S : Int32} (h : 0 ≤ S.toInt) : S / nI 1 = S := by
  have := i_rng S
  conv => lhs; rw [← zI_of S, zI_nat]
  rw [show ((1 : Nat) : Int) = 1 from rfl, zI_div h (by omega) (by omega) (by omega), Int.ediv_one, zI_of]
theorem mix1K {v : Mem} {q : Nat} (hq : q < 2) (hv : ∀ j, j < 96 → 0 ≤ (v.1 1 (20 + (96 * q + j))).toInt ∧ (v.1 1 (20 + (96 * q + j))).toInt ≤ 100000) {s : Nat} (hs : s < 16) : ∀ (r k t : Nat), k + r = 6 → r < t → fX12_mixes_L10 (nI q) (nI s) (nI s) (nI 1) t (nI k) v = some v := by
  have e6 : (6 : Int32).toInt = 6 := rfl
  intro r
  induction r with
  | zero =>
    intro k t hk h1
    obtain ⟨t, rfl⟩ : ∃ m, t = m + 1 := ⟨t - 1, by omega⟩
    have : k = 6 := by omega
    subst this
    rw [fX12_mixes_L10, if_pos (by decide)]
  | succ r ih =>
    intro k t hk h1
    obtain ⟨t, rfl⟩ : ∃ m, t = m + 1 := ⟨t - 1, by omega⟩
    have n6 : ¬ (6 : Int32) ≤ nI k := by rw [i_le, nI_n (by omega)]; omega
    have hp := hv (6 * s + k) (by omega)
    rw [fX12_mixes_L10, if_neg n6]
    have := sumM (v := v) hq (k := k) (a := s) (b := s) (by omega) (by omega) (nI 1) (fun v5 => fX12_mixes_L52 (nI q) (nI s) (nI s) (nI 1) (nI k) v5 (fX12_mixes_L10 (nI q) (nI s) (nI s) (nI 1) t) fu0 (nI s) v) 1 0 fu0 (by omega) (fu_n (by omega))
    refine Eq.trans this ?_
    rw [show s + 1 - s = 1 by omega]
    have hsm : smP (v.1 1) q k s 1 = v.1 1 (20 + (96 * q + (6 * s + k))) := by
      show (0 : Int32) + v.1 1 (20 + (96 * q + (6 * (s + 0) + k))) = _
      rw [Nat.add_zero, Int32.zero_add]
    rw [hsm]
    generalize hP : v.1 1 (20 + (96 * q + (6 * s + k))) = P at *
    have hf : ∀ t2, fX12_mixes_L52 (nI q) (nI s) (nI s) (nI 1) (nI k) P (fX12_mixes_L10 (nI q) (nI s) (nI s) (nI 1) t) (t2 + 2) (nI s) v = some v := fun t2 => by
      rw [fX12_mixes_L52, if_neg (fun h => by have := (lt_nI (by omega) (by omega)).mp h; omega), if_neg (by decide), if_neg (by decide), setM hq hs (by omega), Option.bind_some, one1 hp.1, nI_1]
      have e1 : P - P * nI 1 = 0 := by rw [show nI 1 = 1 from rfl, Int32.mul_one, Int32.sub_self]
      rw [e1, nI_sb (Nat.le_refl s) (by omega), if_pos (by rw [Nat.sub_self]; decide), Int32.add_zero, ← hP]
      have e2 : si v 1 (20 + (96 * q + (6 * s + k))) (v.1 1 (20 + (96 * q + (6 * s + k)))) = v := mem_ext (fun a b => by
        rw [si_1]
        by_cases h : a = 1 ∧ b = 20 + (96 * q + (6 * s + k))
        · rw [if_pos h, h.1, h.2]
        · rw [if_neg h]) (fun a b => rfl)
      rw [e2, fX12_mixes_L52, if_pos ((lt_nI (by omega) (by omega)).mpr (by omega)), nI_1]
      exact ih (k + 1) t (by omega) (by omega)
    have := hf (fu0 - 2)
    rw [show fu0 - 2 + 2 = fu0 from by have := fu_n (show 2 ≤ 99999 by omega); omega] at this
    exact this
theorem mix1 {v : Mem} {q : Nat} (hq : q < 2) (hv : ∀ j, j < 96 → 0 ≤ (v.1 1 (20 + (96 * q + j))).toInt ∧ (v.1 1 (20 + (96 * q + j))).toInt ≤ 100000) {s : Nat} (hs : s < 16) : fX12_mixes (nI q) (nI s) (nI s) v = some v := by
  unfold fX12_mixes
  rw [nI_sb (Nat.le_refl s) (by omega), Nat.sub_self, nI_1]
  exact mix1K hq hv hs 6 0 fu0 (by omega) (fu_n (by omega))
/-- the runs of churned shells -/
theorem runs_both {q T n : Nat} {g : Nat → Int32} {u0 v0 : Mem} (C : CX q T n g u0 v0) (hch : ∀ s, s < n → v0.1 15 s = bz (decide (u0.1 201 s = 1))) : ∀ (m : Nat), (∀ (a x tX tM t : Nat) (u v : Mem), x + m = n → 0 < m → a ≤ x → m < tX → m < tM + 1 → m < t → GO q u0 v0 u v → u0.1 201 a = 1 → u0.1 201 x = 1 → ∃ u2 v2, fX11_mixChurned_L4 q tX (nI a) (nI x) u = some u2 ∧ fX12_goes_L152 (nI q) (nI n) (nI a) v (fun v27 => ((fX12_mixes (nI q) (nI a) v27 v).bind fun u29 => fX12_goes_L144 (nI q) (nI n) tM (v27 + 1) u29)) t (nI x) = some (si v2 1 4 (v2.1 1 4 + 1)) ∧ GO q u0 v0 u2 v2) ∧ (∀ (lw x tX tM : Nat) (u v : Mem), x + m = n → m < tX → m < tM → GO q u0 v0 u v → (x < n → lw = x ∨ ¬ u0.1 201 x = 1) → ∃ u2 v2, fX11_mixChurned_L4 q tX (nI lw) (nI x) u = some u2 ∧ fX12_goes_L144 (nI q) (nI n) tM (nI x) v = some (si v2 1 4 (v2.1 1 4 + 1)) ∧ GO q u0 v0 u2 v2) := by
  obtain ⟨⟨hq, hT, hn, hO⟩, hR0, -⟩ := id C
  intro m
  induction m with
  | zero =>
    refine ⟨fun a x tX tM t u v hx h0 => by omega, ?_⟩
    intro lw x tX tM u v hx h1 h2 hG _
    obtain ⟨tX, rfl⟩ : ∃ m, tX = m + 1 := ⟨tX - 1, by omega⟩
    obtain ⟨tM, rfl⟩ : ∃ m, tM = m + 1 := ⟨tM - 1, by omega⟩
    obtain ⟨-, -, -, -, -, -, h6, -⟩ := CX_at C hG
    have : x = n := by omega
    subst this
    refine ⟨u, v, ?_, ?_, hG⟩
    · rw [fX11_mixChurned_L4, h6, if_pos ((le_nI (by omega) (by omega)).mpr (by omega))]
    · rw [fX12_goes_L144, if_pos ((le_nI (by omega) (by omega)).mpr (by omega))]
  | succ m ih =>
    obtain ⟨ih1, ih2⟩ := ih
    have hin : ∀ (a x tX tM t : Nat) (u v : Mem), x + (m + 1) = n → a ≤ x → m + 1 < tX → m + 1 < tM + 1 → m + 1 < t → GO q u0 v0 u v → u0.1 201 a = 1 → u0.1 201 x = 1 → ∃ u2 v2, fX11_mixChurned_L4 q tX (nI a) (nI x) u = some u2 ∧ fX12_goes_L152 (nI q) (nI n) (nI a) v (fun v27 => ((fX12_mixes (nI q) (nI a) v27 v).bind fun u29 => fX12_goes_L144 (nI q) (nI n) tM (v27 + 1) u29)) t (nI x) = some (si v2 1 4 (v2.1 1 4 + 1)) ∧ GO q u0 v0 u2 v2 := by
      intro a x tX tM t u v hx ha h1 h2 h3 hG hca hcx
      obtain ⟨tX, rfl⟩ : ∃ m, tX = m + 1 := ⟨tX - 1, by omega⟩
      obtain ⟨t, rfl⟩ : ∃ m, t = m + 1 := ⟨t - 1, by omega⟩
      obtain ⟨-, -, -, -, -, -, h6, -⟩ := CX_at C hG
      have m1 : u.1 201 = u0.1 201 := hG.1.1 201 (by omega) (by omega) (by omega) (by omega) (by omega)
      have m2 : v.1 15 = v0.1 15 := hG.2.1.1 15 (by omega) (by omega)
      have bx : inB (nI x) 16 := inB_n (by omega) (by omega)
      have ba : inB (nI a) 16 := inB_n (by omega) (by omega)
      have hva : ¬ v.1 15 a = 0 := by rw [m2, hch a (by omega), hca]; decide
      rw [fX11_mixChurned_L4, h6, if_neg (fun h => by have := (le_nI (by omega) (by omega)).mp h; omega), if_pos bx, cl_n (by omega), m1, if_pos hcx, nI_1]
      rw [fX12_goes_L152, if_pos ba, cl_n (show a < 2147483648 by omega), if_neg hva, nI_1]
      by_cases hend : x + 1 = n
      · rw [if_pos (by rw [hend]), if_pos (show nI n ≤ nI (x + 1) from (le_nI (by omega) (by omega)).mpr (by omega))]
        obtain ⟨u2, v2, p1, p2, p3⟩ := mix_both C hG (show x < n by omega) ha
        obtain ⟨u3, v3, r1, r2, r3⟩ := ih2 a (x + 1) tX tM u2 v2 (by omega) (by omega) (by omega) p3 (fun h => by omega)
        refine ⟨u3, v3, ?_, ?_, r3⟩
        · rw [p1, Option.bind_some]; exact r1
        · rw [p2, Option.bind_some]; exact r2
      · rw [if_neg (fun h => hend (nI_inj (by omega) (by omega) h)), if_neg (show ¬ nI n ≤ nI (x + 1) from fun h => by have := (le_nI (by omega) (by omega)).mp h; omega)]
        have bx1 : inB (nI (x + 1)) 16 := inB_n (by omega) (by omega)
        rw [if_pos bx1, if_pos bx1, cl_n (by omega), m2, hch (x + 1) (by omega)]
        by_cases hc1 : u0.1 201 (x + 1) = 1
        · rw [if_pos hc1, if_neg (by rw [decide_eq_true hc1]; decide)]
          exact ih1 a (x + 1) tX tM t u v (by omega) (by omega) (by omega) (by omega) (by omega) (by omega) hG hca hc1
        · rw [if_neg hc1, if_pos (by rw [decide_eq_false hc1]; decide)]
          obtain ⟨u2, v2, p1, p2, p3⟩ := mix_both C hG (show x < n by omega) ha
          obtain ⟨u3, v3, r1, r2, r3⟩ := ih2 a (x + 1) tX tM u2 v2 (by omega) (by omega) (by omega) p3 (fun h => Or.inr hc1)
          refine ⟨u3, v3, ?_, ?_, r3⟩
          · rw [p1, Option.bind_some]; exact r1
          · rw [p2, Option.bind_some]; exact r2
    refine ⟨fun a x tX tM t u v hx _ => hin a x tX tM t u v hx, ?_⟩
    intro lw x tX tM u v hx h1 h2 hG hlw
    obtain ⟨tM, rfl⟩ : ∃ m, tM = m + 1 := ⟨tM - 1, by omega⟩
    by_cases hcx : u0.1 201 x = 1
    · have hl : lw = x := by
        rcases hlw (by omega) with h | h
        · exact h
        · exact absurd hcx h
      subst hl
      rw [fX12_goes_L144, if_neg (fun h => by have := (le_nI (by omega) (by omega)).mp h; omega)]
      exact hin lw lw tX tM fu0 u v hx (Nat.le_refl _) h1 (by omega) (fu_n (by omega)) hG hcx hcx
    · obtain ⟨tX, rfl⟩ : ∃ m, tX = m + 1 := ⟨tX - 1, by omega⟩
      obtain ⟨-, -, -, -, -, -, h6, -⟩ := CX_at C hG
      have m1 : u.1 201 = u0.1 201 := hG.1.1 201 (by omega) (by omega) (by omega) (by omega) (by omega)
      have m2 : v.1 15 = v0.1 15 := hG.2.1.1 15 (by omega) (by omega)
      have bx : inB (nI x) 16 := inB_n (by omega) (by omega)
      have hvx : v.1 15 x = 0 := by rw [m2, hch x (by omega), decide_eq_false hcx]; rfl
      obtain ⟨u3, v3, r1, r2, r3⟩ := ih2 (x + 1) (x + 1) tX tM u v (by omega) (by omega) (by omega) hG (fun _ => Or.inl rfl)
      refine ⟨u3, v3, ?_, ?_, r3⟩
      · rw [fX11_mixChurned_L4, h6, if_neg (fun h => by have := (le_nI (by omega) (by omega)).mp h; omega), if_pos bx, cl_n (by omega), m1, if_neg hcx, nI_1]; exact r1
      · rw [fX12_goes_L144, if_neg (fun h => by have := (le_nI (by omega) (by omega)).mp h; omega)]
        have hL : ∀ t2, fX12_goes_L152 (nI q) (nI n) (nI x) v (fun v27 => ((fX12_mixes (nI q) (nI x) v27 v).bind fun u29 => fX12_goes_L144 (nI q) (nI n) tM (v27 + 1) u29)) (t2 + 1) (nI x) = some (si v3 1 4 (v3.1 1 4 + 1)) := fun t2 => by
          rw [fX12_goes_L152, if_pos bx, cl_n (show x < 2147483648 by omega), if_pos hvx, mix1 hq (fun j hj => (hG.2.2.1 j hj).2) (by omega), Option.bind_some, nI_1]; exact r2
        have := hL (fu0 - 1)
        rw [show fu0 - 1 + 1 = fu0 from by have := fu_n (show 2 ≤ 99999 by omega); omega] at this
        exact this
