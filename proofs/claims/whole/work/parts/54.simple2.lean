theorem lt_nI {a b : Nat} (ha : a < 2147483648) (hb : b < 2147483648) : nI a < nI b ↔ a < b := by rw [i_lt, nI_n ha, nI_n hb]; omega
theorem le_nI {a b : Nat} (ha : a < 2147483648) (hb : b < 2147483648) : nI a ≤ nI b ↔ a ≤ b := by rw [i_le, nI_n ha, nI_n hb]; omega
theorem nI_inj {a b : Nat} (ha : a < 2147483648) (hb : b < 2147483648) (h : nI a = nI b) : a = b := by rw [i_eq, nI_n ha, nI_n hb] at h; omega
/-- the laws that are looked at -/
theorem lk {u v : Mem} (hR : RR u v) : ∃ T : Nat, T ≤ 30 ∧ (T : Int) ≤ (v.1 1 0).toInt ∧ v.1 1 1 = nI T ∧ fX11_lawsNow u = some T ∧ relL u T (fun k => v.1 1 (1500 + 220 * T + k)) ∧ lawOk (fun k => v.1 1 (1500 + 220 * T + k)) ∧ ∀ k, k < 220 → fX12_says (nI k) v = some (v.1 1 (1500 + 220 * T + k)) := by
  obtain ⟨r1, r2, w1, w2, c, t, f, p⟩ := id hR
  have hT := r1.2.1
  have h0 := r1.1
  have e := i_nat hT.1
  have hcl := i_cl hT.1
  refine ⟨(v.1 1 1).toInt.toNat, by omega, by omega, e, ?_, w1.2.2.1 _ (by omega), r1.2.2.2.2.2.2.2.2.2.2.2 _ (by omega), fun k hk => ?_⟩
  · unfold fX11_lawsNow
    have e2 : u.1 (176 + 2 * 0) 2 = v.1 1 1 := w1.1.2.1
    rw [e2, if_pos (show inB (v.1 1 1) 31 from ⟨hT.1, by omega⟩)]
    rfl
  · generalize hn : (v.1 1 1).toInt.toNat = T at e ⊢
    have hT30 : T ≤ 30 := by omega
    have e3 : (1500 + 220 * v.1 1 1) + nI k = nI (1500 + 220 * T + k) := by
      rw [e, show (1500 : Int32) = nI 1500 from rfl, show (220 : Int32) = nI 220 from rfl, pk_mul, nI_add, nI_add]
    unfold fX12_says
    rw [e3, if_pos (inB_n (by omega) (by omega)), cl_n (by omega)]
theorem sp_weight_ok : sp_weight RR := by
  intro u v a hR
  obtain ⟨T, hT, hT2, eT, eX, hL, hO, hS⟩ := lk hR
  unfold fX11_weight fX12_weight
  rw [kindX, in_sp2 a (L := 0) (Hh := 5) rfl rfl]
  simp only [Option.bind_some, decide_eq_true_eq]
  rcases cut_n a 6 with h | ⟨q, hq, rfl⟩
  · refine ⟨-1, by rw [if_neg (by omega)], by rw [if_neg (by omega)], hR⟩
  · have e := nI_n (show q < 2147483648 by omega)
    refine ⟨if v.1 1 (1500 + 220 * T + q) = 0 then 1 else v.1 1 (1500 + 220 * T + q), ?_, ?_, hR⟩
    · rw [if_pos (by omega), eX]
      simp only [Option.bind_some]
      rw [if_pos (inB_n hq (by omega)), cl_n (by omega), hL.1 q hq]
    · rw [if_pos (by omega)]
      unfold fX12_weightOf
      rw [hS q (by omega)]
      simp only [Option.bind_some]
      by_cases h0 : v.1 1 (1500 + 220 * T + q) = 0
      · rw [if_pos h0, if_pos h0]; rfl
      · rw [if_neg h0, if_neg h0]; rfl
theorem chainX_of {u v : Mem} {T : Nat} (hL : relL u T (fun k => v.1 1 (1500 + 220 * T + k))) {c j : Nat} (hc : c < 5) (hj : j < 5) : fX3_ofChain T (nI c) (nI j) u = some (v.1 1 (1500 + 220 * T + (6 + 6 * c + (1 + j)))) := by
  unfold fX3_ofChain
  have e : nI c * 5 + nI j = nI (5 * c + j) := by rw [show (5 : Int32) = nI 5 from rfl, pk_mul, nI_add, Nat.mul_comm]
  rw [e, if_pos (inB_n (by omega) (by omega)), cl_n (by omega), hL.2.1 c hc j hj]
theorem chOk_told {h : Nat → Int32} (hc : chOk h) : (h 0 = 1 ↔ 0 < (h 2).toInt) := by
  rcases hc with ⟨h0, h1⟩ | ⟨h0, -, h2, -⟩
  · have e := h1 1 (by omega)
    have e2 : (0 : Int32).toInt = 0 := rfl
    constructor
    · intro q; rw [h0] at q; exact absurd q (by decide)
    · intro q; rw [show h 2 = h (1 + 1) from rfl, e, e2] at q; omega
  · exact ⟨fun _ => by omega, fun _ => h0⟩
theorem toldX {u v : Mem} {T : Nat} (hL : relL u T (fun k => v.1 1 (1500 + 220 * T + k))) (hO : lawOk (fun k => v.1 1 (1500 + 220 * T + k))) {c : Nat} (hc : c < 5) : fX3_isTold T (nI c) u = some (decide (v.1 1 (1500 + 220 * T + (6 + 6 * c)) = 1)) := by
  unfold fX3_isTold
  rw [show (1 : Int32) = nI 1 from rfl, chainX_of hL hc (by omega)]
  simp only [Option.bind_some]
  congr 1
  have h := chOk_told (hO.2.1 c hc)
  have h : v.1 1 (1500 + 220 * T + (6 + 6 * c)) = 1 ↔ 0 < (v.1 1 (1500 + 220 * T + (6 + 6 * c + (1 + 1)))).toInt := h
  have e0 : (0 : Int32).toInt = 0 := rfl
  by_cases h1 : v.1 1 (1500 + 220 * T + (6 + 6 * c + (1 + 1))) ≤ 0
  · rw [if_pos h1]; rw [i_le, e0] at h1
    symm; rw [decide_eq_false_iff_not, show (nI 1) = (1 : Int32) from rfl, h]; omega
  · rw [if_neg h1]; rw [i_le, e0] at h1
    symm; rw [decide_eq_true_iff, show (nI 1) = (1 : Int32) from rfl, h]; omega
theorem toldM {v : Mem} {T : Nat} (hS : ∀ k, k < 220 → fX12_says (nI k) v = some (v.1 1 (1500 + 220 * T + k))) {c : Nat} (hc : c < 5) : fX12_isChain (nI c) v = some (decide (v.1 1 (1500 + 220 * T + (6 + 6 * c)) = 1)) := by
  unfold fX12_isChain
  have e : 6 + 6 * nI c = nI (6 + 6 * c) := by rw [show (6 : Int32) = nI 6 from rfl, pk_mul, nI_add]
  rw [e, hS _ (by omega)]
  simp only [Option.bind_some]
  by_cases h : v.1 1 (1500 + 220 * T + (6 + 6 * c)) = 1
  · rw [if_pos h, decide_eq_true h]
  · rw [if_neg h, decide_eq_false h]
theorem chainM_of {v : Mem} {T : Nat} (hS : ∀ k, k < 220 → fX12_says (nI k) v = some (v.1 1 (1500 + 220 * T + k))) {c j : Nat} (hc : c < 5) (hj : j < 5) : fX12_chainOf (nI c) (nI j) v = some (v.1 1 (1500 + 220 * T + (6 + 6 * c + (1 + j)))) := by
  unfold fX12_chainOf
  have e : ((6 + 6 * nI c) + 1) + nI j = nI (6 + 6 * c + (1 + j)) := by rw [show (6 : Int32) = nI 6 from rfl, show (1 : Int32) = nI 1 from rfl, pk_mul, nI_add, nI_add, nI_add, Nat.add_assoc (6 + 6 * c)]
  rw [e, hS _ (by omega)]
  rfl
theorem sp_chain_ok : sp_chain RR := by
  intro u v a b hR
  obtain ⟨T, hT, hT2, eT, eX, hL, hO, hS⟩ := lk hR
  have e0 : (0 : Int32).toInt = 0 := rfl
  have e5 : (5 : Int32).toInt = 5 := rfl
  unfold fX11_chain fX12_chain
  rw [chainX, in_sp2 a (L := 0) (Hh := 4) rfl rfl, in_sp2 b (L := 0) (Hh := 4) rfl rfl]
  simp only [Option.bind_some, decide_eq_true_eq]
  rcases cut_n a 5 with h | ⟨c, hc, rfl⟩
  · refine ⟨-1, by rw [if_neg (by omega)], by rw [if_neg (by omega)], hR⟩
  · have e := nI_n (show c < 2147483648 by omega)
    rcases cut_n b 5 with h | ⟨j, hj, rfl⟩
    · refine ⟨-1, ?_, by rw [if_pos (by omega), if_neg (by omega)], hR⟩
      rw [if_pos (by omega)]
      by_cases h1 : b < 0
      · rw [if_pos h1]
      · rw [if_neg h1, if_neg (by rw [i_lt] at h1 ⊢; omega)]
    · have ej := nI_n (show j < 2147483648 by omega)
      have p1 : 0 ≤ (nI c).toInt ∧ (nI c).toInt < 5 := by omega
      have p2 : 0 ≤ (nI c).toInt ∧ (nI c).toInt ≤ 4 := by omega
      have p3 : 0 ≤ (nI j).toInt ∧ (nI j).toInt ≤ 4 := by omega
      have n1 : ¬ nI j < 0 := by rw [i_lt]; omega
      have p4 : nI j < 5 := by rw [i_lt]; omega
      simp only [if_pos p1, if_pos p2, if_pos p3, if_neg n1, if_pos p4, eX, Option.bind_some]
      rw [toldX hL hO hc, toldM hS hc, chainX_of hL hc hj, chainM_of hS hc hj]
      simp only [Option.bind_some, decide_eq_true_eq]
      by_cases h1 : v.1 1 (1500 + 220 * T + (6 + 6 * c)) = 1
      · exact ⟨_, by rw [if_pos h1], by rw [if_pos h1], hR⟩
      · exact ⟨_, by rw [if_neg h1], by rw [if_neg h1], hR⟩
theorem shR {u v : Mem} (hR : RR u v) : (∀ q, q < 2 → u.1 (160 + 4 * q) 3 = v.1 1 (2 + q)) ∧ ∀ q, q < 2 → 0 ≤ (u.1 (160 + 4 * q) 3).toInt := by
  obtain ⟨r1, r2, w1, w2, c, t, f, p⟩ := id hR
  have h : ∀ q, q < 2 → u.1 (160 + 4 * q) 3 = v.1 1 (2 + q) := fun q hq => by
    have := (w1.2.1 q hq).1
    rw [show 2 * 0 + q = q by omega] at this
    exact this
  exact ⟨h, fun q hq => by rw [h q hq]; exact (r1.2.2.1 q hq).1⟩
/-- both sides' test for a shell -/
theorem shBoth {u v : Mem} (hR : RR u v) (a b : Int32) : (fX11_isShell a b u = some false ∧ fX12_isShell a b v = some false) ∨ ∃ q k : Nat, q < 2 ∧ k < 16 ∧ (k : Int) < (v.1 1 (2 + q)).toInt ∧ a = nI q ∧ b = nI k ∧ fX11_isShell a b u = some true ∧ fX12_isShell a b v = some true := by
  obtain ⟨hs, h0⟩ := shR hR
  rw [shellX a b u h0, shellM a b v hR.1]
  rcases cut_n a 2 with h | ⟨q, hq, rfl⟩
  · left
    constructor <;> (congr 1; rw [decide_eq_false_iff_not]; omega)
  · have e := nI_n (show q < 2147483648 by omega)
    have hc := cl_n (show q < 2147483648 by omega)
    have hr := hR.1.2.2.1 q hq
    rw [hc, hs q hq]
    by_cases hb : 0 ≤ b.toInt ∧ b.toInt < (v.1 1 (2 + q)).toInt
    · right
      refine ⟨q, b.toInt.toNat, hq, by omega, by omega, rfl, i_nat hb.1, ?_, ?_⟩ <;> (congr 1; rw [decide_eq_true_iff]; omega)
    · left
      constructor <;> (congr 1; rw [decide_eq_false_iff_not]; omega)
theorem partX {u : Mem} {i q : Nat} {f : Nat → Int32} {bk : Nat → Int64} (h : relS u i q f bk) {s k : Nat} (hs : s < 16) (hk : k < 6) : fX7_partsOf i (nI s) (nI k) u = some (f (20 + (96 * q + (6 * s + k)))) := by
  unfold fX7_partsOf
  have e : nI s * 6 + nI k = nI (6 * s + k) := by rw [show (6 : Int32) = nI 6 from rfl, pk_mul, nI_add, Nat.mul_comm]
  rw [e, if_pos (inB_n (by omega) (by omega)), cl_n (by omega), h.2.2.2.1 _ (by omega)]
theorem partM {v : Mem} {q s k : Nat} (hq : q < 2) (hs : s < 16) (hk : k < 6) : fX12_partsAt (nI q) (nI s) (nI k) v = some (v.1 1 (20 + (96 * q + (6 * s + k)))) := by
  unfold fX12_partsAt
  have e : ((20 + 96 * nI q) + 6 * nI s) + nI k = nI (20 + (96 * q + (6 * s + k))) := by rw [show (20 : Int32) = nI 20 from rfl, show (96 : Int32) = nI 96 from rfl, show (6 : Int32) = nI 6 from rfl, pk_mul, pk_mul, nI_add, nI_add, nI_add]; congr 1; omega
  rw [e, if_pos (inB_n (by omega) (by omega)), cl_n (by omega)]
theorem sp_parts_ok : sp_parts RR := by
  intro u v a b c hR
  obtain ⟨r1, r2, w1, w2, -, -, -, -⟩ := id hR
  unfold fX11_parts fX12_parts
  rcases shBoth hR a b with ⟨h1, h2⟩ | ⟨q, k, hq, hk, hk2, rfl, rfl, h1, h2⟩
  · exact ⟨-1, by rw [h1]; rfl, by rw [h2]; rfl, hR⟩
  · rw [h1, h2, kindX, in_sp2 c (L := 0) (Hh := 5) rfl rfl]
    simp only [Option.bind_some, decide_eq_true_eq, if_true]
    rcases cut_n c 6 with h | ⟨n, hn, rfl⟩
    · exact ⟨-1, by rw [if_neg (by omega)], by rw [if_neg (by omega)], hR⟩
    · have e := nI_n (show n < 2147483648 by omega)
      have p1 : 0 ≤ (nI n).toInt ∧ (nI n).toInt < 6 := by omega
      have p2 : 0 ≤ (nI n).toInt ∧ (nI n).toInt ≤ 5 := by omega
      have p3 : inB (nI q) 2 := inB_n hq (by omega)
      simp only [if_pos p1, if_pos p2, if_pos p3, cl_n (show q < 2147483648 by omega), partX (w1.2.1 q hq) hk hn, partM hq hk hn, Option.bind_some]
      exact ⟨_, rfl, rfl, hR⟩
theorem sp_event_ok : sp_event RR := by
  intro u v a b hR
  obtain ⟨r1, r2, w1, w2, -, -, -, -⟩ := id hR
  have e0 : (0 : Int32).toInt = 0 := rfl
  have e5 : (5 : Int32).toInt = 5 := rfl
  have e1 : (1 : Int32).toInt = 1 := rfl
  have h5 := r1.2.2.2.2.1
  have t4 : u.1 (176 + 2 * 0) 4 = v.1 1 5 := w1.1.2.2.2.1
  have e6 : (v.1 1 5 - 1).toInt = (v.1 1 5).toInt - 1 := by rw [i_sub] <;> omega
  unfold fX11_event fX12_event
  rw [in_sp, in_sp2 b (L := 0) (Hh := 4) rfl rfl, j_of, j_of, e6, l0, t4]
  simp only [Option.bind_some, decide_eq_true_eq]
  by_cases h : 0 ≤ a.toInt ∧ a.toInt < (v.1 1 5).toInt
  · rw [if_pos (show 0 ≤ a.toInt ∧ a.toInt ≤ (v.1 1 5).toInt - 1 by omega), if_neg (by rw [i_lt]; omega), if_neg (by rw [i_le]; omega)]
    rcases cut_n b 5 with hb | ⟨j, hj, rfl⟩
    · refine ⟨-1, ?_, by rw [if_neg (by omega)], hR⟩
      by_cases h1 : b < 0
      · rw [if_pos h1]
      · rw [if_neg h1, if_neg (by rw [i_lt] at h1 ⊢; omega)]
    · have ej := nI_n (show j < 2147483648 by omega)
      obtain ⟨i, hi, rfl⟩ : ∃ i : Nat, (i : Int) < (v.1 1 5).toInt ∧ a = nI i := ⟨a.toInt.toNat, by omega, i_nat h.1⟩
      have e7 : nI i * 5 + nI j = nI (5 * i + j) := by rw [show (5 : Int32) = nI 5 from rfl, pk_mul, nI_add, Nat.mul_comm]
      have e8 : (400 + 5 * nI i) + nI j = nI (400 + (5 * i + j)) := by rw [show (400 : Int32) = nI 400 from rfl, show (5 : Int32) = nI 5 from rfl, pk_mul, nI_add, nI_add, Nat.add_assoc]
      have p1 : 0 ≤ (nI j).toInt ∧ (nI j).toInt ≤ 4 := by omega
      have n1 : ¬ nI j < 0 := by rw [i_lt]; omega
      have p4 : nI j < 5 := by rw [i_lt]; omega
      have p5 : inB (nI (5 * i + j)) 1000 := inB_n (by omega) (by omega)
      have p6 : inB (nI (400 + (5 * i + j))) 8320 := inB_n (by omega) (by omega)
      simp only [if_pos p1, if_neg n1, if_pos p4, e7, e8, if_pos p5, if_pos p6, cl_n (show 5 * i + j < 2147483648 by omega), cl_n (show 400 + (5 * i + j) < 2147483648 by omega), w1.2.2.2.2.1 (5 * i + j) (by omega)]
      exact ⟨_, rfl, rfl, hR⟩
  · refine ⟨-1, ?_, by rw [if_neg (by omega)], hR⟩
    by_cases h1 : a < 0
    · rw [if_pos h1]
    · rw [if_neg h1, if_pos (by rw [i_lt] at h1; rw [i_le]; omega)]
theorem sp_light_ok : sp_light RR := by
  intro u v a b c hR
  obtain ⟨r1, r2, w1, w2, -, -, -, -⟩ := id hR
  unfold fX11_light fX12_light
  rcases shBoth hR a b with ⟨h1, h2⟩ | ⟨q, k, hq, hk, hk2, rfl, rfl, h1, h2⟩
  · exact ⟨-1, by rw [h1]; rfl, by rw [h2]; rfl, hR⟩
  · rw [h1, h2, chainX, in_sp2 c (L := 0) (Hh := 4) rfl rfl]
    simp only [Option.bind_some, decide_eq_true_eq, if_true]
    rcases cut_n c 5 with h | ⟨n, hn, rfl⟩
    · exact ⟨-1, by rw [if_neg (by omega)], by rw [if_neg (by omega)], hR⟩
    · have e := nI_n (show n < 2147483648 by omega)
      have e7 : nI k * 5 + nI n = nI (5 * k + n) := by rw [show (5 : Int32) = nI 5 from rfl, pk_mul, nI_add, Nat.mul_comm]
      have e8 : (80 * nI q + 5 * nI k) + nI n = nI (80 * q + (5 * k + n)) := by rw [show (80 : Int32) = nI 80 from rfl, show (5 : Int32) = nI 5 from rfl, pk_mul, pk_mul, nI_add, nI_add, Nat.add_assoc]
      have p1 : 0 ≤ (nI n).toInt ∧ (nI n).toInt < 5 := by omega
      have p2 : 0 ≤ (nI n).toInt ∧ (nI n).toInt ≤ 4 := by omega
      have p3 : inB (nI q) 2 := inB_n hq (by omega)
      have p5 : inB (nI (5 * k + n)) 80 := inB_n (by omega) (by omega)
      have p6 : inB (nI (80 * q + (5 * k + n))) 160 := inB_n (by omega) (by omega)
      have eb := (w1.2.1 q hq).2.2.2.2.1 (5 * k + n) (by omega)
      simp only [if_pos p1, if_pos p2, if_pos p3, e7, e8, if_pos p5, if_pos p6, cl_n (show q < 2147483648 by omega), cl_n (show 5 * k + n < 2147483648 by omega), cl_n (show 80 * q + (5 * k + n) < 2147483648 by omega), eb]
      exact ⟨_, rfl, rfl, hR⟩
theorem sp_about_ok : sp_about RR := by
  intro u v a hR
  obtain ⟨r1, r2, w1, w2, c, t, f, p⟩ := id hR
  obtain ⟨a1, a2, a3, a4, a5⟩ := w1.1
  have s0 := w1.2.1 0 (by omega)
  have s1 := w1.2.1 1 (by omega)
  have h0 := r1.1
  have e7 := w1.2.2.2.1 (v.1 1 0).toInt.toNat (by omega)
  have hcl := i_cl h0.1
  unfold fX11_about fX12_about
  rw [a1, a2, a3, a4, a5, t.1]
  by_cases z0 : a = 0
  · subst z0; exact ⟨_, rfl, rfl, hR⟩
  by_cases z1 : a = 1
  · subst z1; exact ⟨_, rfl, rfl, hR⟩
  by_cases z2 : a = 2
  · subst z2; exact ⟨v.1 1 2, congrArg some s0.1, rfl, hR⟩
  by_cases z3 : a = 3
  · subst z3; exact ⟨v.1 1 3, congrArg some s1.1, rfl, hR⟩
  by_cases z4 : a = 4
  · subst z4; exact ⟨_, rfl, rfl, hR⟩
  by_cases z5 : a = 5
  · subst z5; exact ⟨_, rfl, rfl, hR⟩
  by_cases z6 : a = 6
  · subst z6; exact ⟨_, rfl, rfl, hR⟩
  by_cases z7 : a = 7
  · subst z7; exact ⟨_, rfl, rfl, hR⟩
  by_cases z8 : a = 8
  · subst z8
    refine ⟨v.1 1 7, ?_, rfl, hR⟩
    show (if inB (v.1 1 0) 31 then some (u.1 (5 * (v.1 1 0).toNatClampNeg) 4) else none) = some (v.1 1 7)
    rw [if_pos (show inB (v.1 1 0) 31 from ⟨h0.1, by omega⟩), show (v.1 1 0).toNatClampNeg = (v.1 1 0).toInt.toNat by omega, e7]
  by_cases z10 : a = 10
  · subst z10; exact ⟨v.1 1 8, congrArg some s0.2.1, rfl, hR⟩
  by_cases z11 : a = 11
  · subst z11; exact ⟨v.1 1 9, congrArg some s1.2.1, rfl, hR⟩
  by_cases z20 : a = 20
  · subst z20; exact ⟨v.1 1 10, congrArg some s0.2.2.1, rfl, hR⟩
  by_cases z21 : a = 21
  · subst z21; exact ⟨v.1 1 11, congrArg some s1.2.2.1, rfl, hR⟩
  simp only [if_neg z0, if_neg z1, if_neg z2, if_neg z3, if_neg z4, if_neg z5, if_neg z6, if_neg z7, if_neg z8, if_neg z10, if_neg z11, if_neg z20, if_neg z21]
  exact ⟨-1, rfl, rfl, hR⟩
