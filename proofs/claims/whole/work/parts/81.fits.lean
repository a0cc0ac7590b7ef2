theorem SI_fr {q T : Nat} {g : Nat → Int32} {u v u2 v2 : Mem} (hT : T ≤ 30) (h : SI q T g u v) (hu : frX u u2) (hv : frN v v2) (hd : dnF g 7000 v2) : SI q T g u2 v2 := by
  obtain ⟨hR, hL, hS, h1, eX, -⟩ := h
  have e1 : v2.1 1 = v.1 1 := hv.1 1 (by omega)
  exact ⟨RR_frX hu (RR_frM (frN_M hv) hR), relL_fr (u := u) (fun r hr => (hu _ (by omega)).1) hL, Sy_fr e1 hS, by rw [e1]; exact h1, by rw [lawsNow_fr (hu 176 (by omega)).1]; exact eX, hd⟩
theorem agr_both {q n i : Nat} {g : Nat → Int32} {unit : Int32} {v v7 w : Mem} {heard : Bool} (hq : q < 2) (hn : n ≤ 16) (hn0 : 0 < n) (hO : lawOk g) (hf : v.1 1 (2 + q) = nI n) (y1 : Sy v7 g) (y2 : v7.1 1 = v.1 1) (y3 : dnF g 7000 v7) (y4 : ∀ s, s < n → SM g (v.1 1) q n unit v7 s) (hi : i < 20) (w0 : w.1 190 i = v.1 1 (1401 + 4 * i) ∧ w.1 191 i = v.1 1 (1402 + 4 * i) ∧ w.1 192 i = v.1 1 (1403 + 4 * i)) (w9 : w.1 195 9 = nI n) (hsh : v.1 1 (1401 + 4 * i) = -1 → ∀ j, j < n → w.2 202 j = thr g (v.1 1) q n unit false (j + 1) ∧ w.2 203 j = thr g (v.1 1) q n unit true (j + 1)) (hrd : heard = decide (n ≤ 7)) (hh : n ≤ 7 → w.1 207 1 = nI n ∧ ∀ j, j < n → w.1 208 j = nI (loB g (v.1 1) q n unit j / 10)) (hr : (-1 ≤ (v.1 1 (1401 + 4 * i)).toInt ∧ (v.1 1 (1401 + 4 * i)).toInt ≤ 6) ∧ (0 ≤ (v.1 1 (1402 + 4 * i)).toInt ∧ (v.1 1 (1402 + 4 * i)).toInt ≤ 1000000000) ∧ (0 ≤ (v.1 1 (1403 + 4 * i)).toInt ∧ (v.1 1 (1403 + 4 * i)).toInt ≤ 1000000000)) : ∃ b : Bool, fX11_agrees (nI i) heard w = some b ∧ fX12_agrees (nI q) (nI (1400 + 4 * i)) v7 = some b := by
  have e0 : (0 : Int32).toInt = 0 := rfl
  have em : (-1 : Int32).toInt = -1 := rfl
  have b20 : inB (nI i) 20 := inB_n hi (by omega)
  have j1 : nI (1400 + 4 * i) + 1 = nI (1401 + 4 * i) := by rw [show (1 : Int32) = nI 1 from rfl, nI_add]; congr 1; omega
  have j2 : nI (1400 + 4 * i) + 2 = nI (1402 + 4 * i) := by rw [show (2 : Int32) = nI 2 from rfl, nI_add]; congr 1; omega
  have j3 : nI (1400 + 4 * i) + 3 = nI (1403 + 4 * i) := by rw [show (3 : Int32) = nI 3 from rfl, nI_add]; congr 1; omega
  have B1 : inB (nI (1401 + 4 * i)) 8320 := inB_n (by omega) (by omega)
  have B2 : inB (nI (1402 + 4 * i)) 8320 := inB_n (by omega) (by omega)
  have B3 : inB (nI (1403 + 4 * i)) 8320 := inB_n (by omega) (by omega)
  have e2 : (2 : Int32) + nI q = nI (2 + q) := nI_add 2 q
  have Bq : inB (nI (2 + q)) 8320 := inB_n (by omega) (by omega)
  unfold fX11_agrees fX12_agrees
  rw [if_pos b20, if_pos b20, if_pos b20, cl_n (show i < 2147483648 by omega), w0.1, w0.2.1, w0.2.2, w9, nI_s1 hn0 (by omega)]
  rw [j1, j2, j3, e2, if_pos B1, if_pos Bq, if_pos Bq, cl_n (show 1401 + 4 * i < 2147483648 by omega), cl_n (show 2 + q < 2147483648 by omega), y2, hf, nI_s1 hn0 (by omega)]
  generalize htn : v.1 1 (1401 + 4 * i) = tn at *
  generalize hfr : v.1 1 (1402 + 4 * i) = fr at *
  generalize hto : v.1 1 (1403 + 4 * i) = to at *
  by_cases hm : tn = -1
  · have hL := hsh hm (n - 1) (by omega)
    have bn : inB (nI (n - 1)) 16 := inB_n (by omega) (by omega)
    rw [if_pos hm, if_pos hm, if_neg (show ¬ nI (n - 1) < 0 by rw [i_lt, nI_n (by omega)]; omega), if_pos bn, if_pos bn, cl_n (show n - 1 < 2147483648 by omega), hL.1, hL.2]
    rw [thrM hO y1 y3 y2 hq hn (show n - 1 < n by omega) y4 false, Option.bind_some, thrM hO y1 y3 y2 hq hn (show n - 1 < n by omega) y4 true, Option.bind_some, if_pos B3, if_pos B2, cl_n (show 1403 + 4 * i < 2147483648 by omega), cl_n (show 1402 + 4 * i < 2147483648 by omega), hto, hfr]
    by_cases h1 : to.toInt64 < thr g (v.1 1) q n unit false (n - 1 + 1)
    · rw [if_pos h1]; exact ⟨false, rfl, rfl⟩
    · rw [if_neg h1]; exact ⟨_, rfl, rfl⟩
  · rw [if_neg hm, if_neg hm, sungM (v := v7) hq hn (by rw [y2]; exact hf), Option.bind_some, hrd]
    rw [i_eq] at hm
    have hk := i_nat (x := tn) (by omega)
    generalize hK : tn.toInt.toNat = k at hk
    by_cases h7 : n ≤ 7
    · have hlo : ∀ j, j < n → loB g (v.1 1) q n unit j ≤ 999 := fun j hj => by have := lh_ g (v.1 1) q n unit j; omega
      have hv12 : ∀ j, j < n → v7.1 12 j = nI (loB g (v.1 1) q n unit j) := fun j hj => (y4 j hj).2.2.1
      obtain ⟨h207, h208⟩ := hh h7
      rw [decide_eq_true h7, if_pos rfl, if_pos rfl, hk]
      by_cases hkn : k < n
      · obtain ⟨N, t1, t2, t3⟩ := toneM (v := v7) hq h7 (by rw [y2]; exact hf) hv12 hlo (k := k) (by omega) 400 0 fu0 (by omega) (fu_n (by omega)) (fun j j1 j2 => by omega)
        have t2 : fX12_toneOf (nI q) (nI k) v7 = some (nI N) := t2
        rw [boxOfX (kk := fun j => loB g (v.1 1) q n unit j / 10) h7 h207 h208 (fun j hj => by have := hlo j hj; show loB g (v.1 1) q n unit j / 10 ≤ 99; omega) hkn t1 t3, Option.bind_some]
        rw [if_neg (show ¬ nI n ≤ nI k from fun h9 => by have := (le_nI (by omega) (by omega)).mp h9; omega), t2, Option.bind_some, if_pos B2, if_pos B3, cl_n (show 1402 + 4 * i < 2147483648 by omega), cl_n (show 1403 + 4 * i < 2147483648 by omega), hfr, hto, in_sp, Option.bind_some]
        refine ⟨_, rfl, ?_⟩
        congr 1
        rw [j_of, j_of, j_of]
        by_cases h1 : nI N < fr
        · rw [if_pos h1]; rw [i_lt] at h1
          rw [decide_eq_false (by omega), if_neg (by decide)]
        · rw [if_neg h1]; rw [i_lt] at h1
          by_cases h2 : to < nI N
          · rw [if_pos h2]; rw [i_lt] at h2
            rw [decide_eq_false (by omega), if_neg (by decide)]
          · rw [if_neg h2]; rw [i_lt] at h2
            rw [decide_eq_true (by omega), if_pos rfl]
      · rw [boxOf_no h7 h207 (by rw [nI_n (by omega)]; omega), Option.bind_some, if_pos (show (-1 : Int32) < fr by rw [i_lt]; omega), if_pos (show nI n ≤ nI k from (le_nI (by omega) (by omega)).mpr (by omega))]
        exact ⟨false, rfl, rfl⟩
    · rw [decide_eq_false h7, if_neg (show ¬ false = true by decide), if_pos (show (-1 : Int32) < fr by rw [i_lt]; omega), if_neg (show ¬ false = true by decide)]
      exact ⟨false, rfl, rfl⟩
/-- all sights of a star, on both sides -/
theorem sgt_loop {q S : Nat} {v7 w : Mem} {heard : Bool} (hS : S ≤ 20) (w5 : w.1 176 5 = nI S) (v6 : v7.1 1 6 = nI S) (w1 : ∀ i, i < S → w.1 189 i = v7.1 1 (1400 + 4 * i)) (hag : ∀ i, i < S → v7.1 1 (1400 + 4 * i) = nI q → ∃ b : Bool, fX11_agrees (nI i) heard w = some b ∧ fX12_agrees (nI q) (nI (1400 + 4 * i)) v7 = some b) : ∀ (d i tX tM : Nat), i + d = S → d < tX → d < tM → ∃ b : Bool, fX11_fitsWith_L73 (nI q) heard w tX (nI i) = some (b, w) ∧ fX12_fit_L10 (nI q) v7 tM true (nI i) = some (b, v7) := by
  have e20 : (20 : Int32).toInt = 20 := rfl
  intro d
  induction d with
  | zero =>
    intro i tX tM hi t1 t2
    obtain ⟨tX, rfl⟩ : ∃ m, tX = m + 1 := ⟨tX - 1, by omega⟩
    obtain ⟨tM, rfl⟩ : ∃ m, tM = m + 1 := ⟨tM - 1, by omega⟩
    refine ⟨true, ?_, ?_⟩
    · rw [fX11_fitsWith_L73, show 176 + 2 * 0 = 176 from rfl, w5, if_pos ((le_nI (by omega) (by omega)).mpr (by omega))]
    · rw [fX12_fit_L10, v6]
      by_cases h : (20 : Int32) ≤ nI i
      · rw [if_pos h]
      · rw [if_neg h, if_pos rfl, if_pos ((le_nI (by omega) (by omega)).mpr (by omega))]
  | succ d ih =>
    intro i tX tM hi t1 t2
    obtain ⟨tX, rfl⟩ : ∃ m, tX = m + 1 := ⟨tX - 1, by omega⟩
    obtain ⟨tM, rfl⟩ : ∃ m, tM = m + 1 := ⟨tM - 1, by omega⟩
    have i4 : (1400 : Int32) + 4 * nI i = nI (1400 + 4 * i) := by rw [show (4 : Int32) = nI 4 from rfl, pk_mul, show (1400 : Int32) = nI 1400 from rfl, nI_add]
    have hi2 : i < S := by omega
    rw [fX11_fitsWith_L73, show 176 + 2 * 0 = 176 from rfl, w5, if_neg (fun h => by have := (le_nI (by omega) (by omega)).mp h; omega), if_pos (inB_n (i := i) (n := 20) (by omega) (by omega)), cl_n (by omega), w1 i hi2, nI_1]
    rw [fX12_fit_L10, if_neg (show ¬ (20 : Int32) ≤ nI i by rw [i_le, nI_n (by omega)]; omega), if_pos rfl, v6, if_neg (show ¬ nI S ≤ nI i from fun h => by have := (le_nI (by omega) (by omega)).mp h; omega), i4, if_pos (inB_n (i := 1400 + 4 * i) (n := 8320) (by omega) (by omega)), cl_n (by omega), nI_1]
    obtain ⟨b, p1, p2⟩ := ih (i + 1) tX tM (by omega) (by omega) (by omega)
    by_cases hs : v7.1 1 (1400 + 4 * i) = nI q
    · obtain ⟨b2, a1, a2⟩ := hag i hi2 hs
      rw [if_pos hs, if_pos hs, a1, Option.bind_some, a2, Option.bind_some]
      cases b2
      · refine ⟨false, by rw [if_neg (by decide)], ?_⟩
        rw [if_neg (show ¬ false = true by decide)]
        obtain ⟨tM, rfl⟩ : ∃ m, tM = m + 1 := ⟨tM - 1, by omega⟩
        rw [fX12_fit_L10, if_neg (show ¬ false = true by decide)]
        by_cases h : (20 : Int32) ≤ nI (i + 1)
        · rw [if_pos h]
        · rw [if_neg h]
      · refine ⟨b, ?_, ?_⟩
        · rw [if_pos rfl]; exact p1
        · rw [if_pos rfl]; exact p2
    · rw [if_neg hs, if_neg hs]
      exact ⟨b, p1, p2⟩
theorem saw_loop {q S : Nat} {u v : Mem} (hS : S ≤ 20) (w5 : u.1 176 5 = nI S) (w1 : ∀ i, i < S → u.1 189 i = v.1 1 (1400 + 4 * i) ∧ u.1 190 i = v.1 1 (1401 + 4 * i)) : ∀ (d i t : Nat), i + d = S → d < t → ∃ b : Bool, fX11_sawLight_L2 (nI q) u t (nI i) = some b ∧ (b = false → ∀ j, i ≤ j → j < S → v.1 1 (1400 + 4 * j) = nI q → ¬ v.1 1 (1401 + 4 * j) = -1) := by
  intro d
  induction d with
  | zero =>
    intro i t hi t1
    obtain ⟨t, rfl⟩ : ∃ m, t = m + 1 := ⟨t - 1, by omega⟩
    exact ⟨false, by rw [fX11_sawLight_L2, show 176 + 2 * 0 = 176 from rfl, w5, if_pos ((le_nI (by omega) (by omega)).mpr (by omega))], fun _ j j1 j2 => by omega⟩
  | succ d ih =>
    intro i t hi t1
    obtain ⟨t, rfl⟩ : ∃ m, t = m + 1 := ⟨t - 1, by omega⟩
    have b20 := inB_n (i := i) (n := 20) (by omega) (by omega)
    obtain ⟨b, p1, p2⟩ := ih (i + 1) t (by omega) (by omega)
    obtain ⟨x1, x2⟩ := w1 i (by omega)
    rw [fX11_sawLight_L2, show 176 + 2 * 0 = 176 from rfl, w5, if_neg (fun h => by have := (le_nI (by omega) (by omega)).mp h; omega), if_pos b20, if_pos b20, cl_n (by omega), x1, x2, nI_1]
    by_cases hs : v.1 1 (1400 + 4 * i) = nI q
    · rw [if_pos hs]
      by_cases hm : v.1 1 (1401 + 4 * i) = -1
      · rw [if_pos hm]
        exact ⟨true, rfl, fun h => absurd h (by decide)⟩
      · rw [if_neg hm]
        refine ⟨b, p1, fun hb j j1 j2 j3 => ?_⟩
        by_cases h : j = i
        · rw [h]; exact hm
        · exact p2 hb j (by omega) j2 j3
    · rw [if_neg hs]
      refine ⟨b, p1, fun hb j j1 j2 j3 => ?_⟩
      by_cases h : j = i
      · rw [h] at j3; exact absurd j3 hs
      · exact p2 hb j (by omega) j2 j3
theorem fit_both {q T S a : Nat} {g : Nat → Int32} {u v : Mem} {saw : Bool} (hq : q < 2) (hT : T ≤ 30) (hO : lawOk g) (hI : SI q T g u v) (ha : 0 < a ∧ a ≤ 200) (hS20 : S ≤ 20) (hS : v.1 1 6 = nI S) (hsaw : saw = false → ∀ j, j < S → v.1 1 (1400 + 4 * j) = nI q → ¬ v.1 1 (1401 + 4 * j) = -1) : ∃ (b : Bool) (u2 v2 : Mem), fX11_fitsWith (nI q) (nI a) saw u = some (b, u2) ∧ fX12_fit (nI q) (nI a) v = some (b, v2) ∧ SI q T g u2 v2 ∧ v2.1 1 = v.1 1 := by
  obtain ⟨hR, hL, hSy, h1, eX, hd⟩ := id hI
  have hr := hR.1
  have hsh := hr.2.2.1 q hq
  have hn : v.1 1 (2 + q) = nI (v.1 1 (2 + q)).toInt.toNat := i_nat hsh.1
  generalize hN : (v.1 1 (2 + q)).toInt.toNat = n at hn
  have hn16 : n ≤ 16 := by omega
  have hst : relS u q q (v.1 1) (v.2 3) := by
    have := hR.2.2.1.2.1 q hq
    rw [show 2 * 0 + q = q by omega] at this; exact this
  have hua : 0 < (nI a).toInt := by rw [nI_n (by omega)]; omega
  obtain ⟨u5, a1, a2, a3, a4, a5⟩ := settleX (T := T) (i := q) (unit := nI a) hT (by omega) hO hn16 hua hL hst hn
  obtain ⟨v7, c1, c2, c3, c4, c5⟩ := settleM (v := v) (unit := nI a) hO hq hn16 rfl hn hua hSy hd
  have e7 : v7.1 1 = v.1 1 := c2.1 1 (by omega)
  have hI5 : SI q T g u5 v7 := SI_fr hT hI (frI_X a2) c2 c3
  have z0 := cmv_0 (bxC g (v.1 1) q n (nI a)) n n (Nat.le_refl _)
  have zl := cmv_le (bxC g (v.1 1) q n (nI a)) n n
  have zk := okv_iff (bxC g (v.1 1) q n (nI a)) n n
  rw [Nat.sub_self] at z0
  unfold fX11_fitsWith fX12_fit
  rw [if_pos (inB_n hq (by omega)), eX, Option.bind_some, cl_n (by omega), show 2 * 0 + q = q by omega, a1, Option.bind_some, a4, c1, Option.bind_some]
  by_cases ho : okv (bxC g (v.1 1) q n (nI a)) (decide (0 < n)) n = true
  · obtain ⟨o1, o2⟩ := zk.mp ho
    have o3 := z0.mpr ⟨o1, fun s _ hs => o2 s hs⟩
    rw [if_neg (nI_nz (by omega) (by omega)), if_pos (inB_n hq (by omega)), hI5.2.2.2.2.1, Option.bind_some, ho]
    -- the light, if it is asked
    have hlit : ∃ us, (saw = true → fX2_shine q T u5 = some us ∧ ∀ j, j < n → SH g (v.1 1) q n (nI a) us j) ∧ (saw = false → us = u5) ∧ frX u5 us ∧ us.1 195 = u5.1 195 ∧ us.1 199 = u5.1 199 := by
      cases saw
      · exact ⟨u5, fun h => absurd h (by decide), fun _ => rfl, frX_rfl _, rfl, rfl⟩
      · obtain ⟨us, s1, s2, s3⟩ := shineX (u := u5) (unit := nI a) hT (show q < 4 by omega) hO hn16 hI5.2.1 (relS_fr (u := u) (fun r hr => a2 _ (by omega)) hst) a3 a5
        exact ⟨us, fun _ => ⟨s1, s3⟩, fun h => absurd h (by decide), frH_X s2, (s2 195).1 (by omega), (s2 199).1 (by omega)⟩
    obtain ⟨us, l1, l2, l3, l4, l5⟩ := hlit
    have hlo : ∀ j, j < n → us.1 199 j = nI (loB g (v.1 1) q n (nI a) j) ∧ loB g (v.1 1) q n (nI a) j ≤ 999 := fun j hj => by
      obtain ⟨-, -, -, s4, -⟩ := a5 j hj
      have := o2 j hj
      have hlh := lh_ g (v.1 1) q n (nI a) j
      unfold bxC at this
      refine ⟨?_, by omega⟩
      rw [l5, s4, if_neg (by omega)]; rfl
    obtain ⟨w, w1, w2, w3⟩ := listenX (u := us) (lo := loB g (v.1 1) q n (nI a)) hn16 (by rw [l4]; exact a3) (fun _ j hj => hlo j hj)
    have hIw : SI q T g w v7 := SI_fr hT hI5 (frX_tr l3 (frT_X w2)) (frN_rfl _) c3
    have hsr := hr.2.2.2.2.2.2.2.2.2.2.1
    have hsg := hIw.1.2.2.1.2.2.2.2.2
    have hw5 : w.1 176 5 = nI S := by
      have := hIw.1.2.2.1.1.2.2.2.2
      rw [show 176 + 2 * 0 = 176 from rfl] at this
      rw [this, e7]; exact hS
    have hSi : (v.1 1 6).toInt = (S : Int) := by rw [hS, nI_n (by omega)]
    have hSi7 : (v7.1 1 6).toInt = (S : Int) := by rw [e7]; exact hSi
    obtain ⟨b, p1, p2⟩ := sgt_loop (q := q) (heard := decide (n ≤ 7)) hS20 hw5 (by rw [e7]; exact hS) (fun i hi => (hsg i (by omega)).1) (fun i hi hsq => by
      have hq2 := hsr i (by omega)
      have hg2 := hsg i (by omega)
      rw [e7] at hg2 hsq
      exact agr_both (unit := nI a) hq hn16 o1 hO hn (Sy_fr e7 hSy) e7 c3 c4 (by omega) hg2.2 (by rw [w2.1 195 (by omega) (by omega), l4]; exact a3) (fun hm j hj => by
        have hst2 : saw = true := by
          cases hsw : saw
          · exact absurd hm (hsaw hsw i hi hsq)
          · rfl
        obtain ⟨-, sh⟩ := l1 hst2
        obtain ⟨z1, z2, -⟩ := sh j hj
        rw [w2.2]; exact ⟨z1, z2⟩) rfl w3 hq2.2) S 0 fu0 fu0 (by omega) (fu_n (by omega)) (fu_n (by omega))
    have hJ : fX11_fitsWith_J57 (nI q) us = some (b, w) := by
      unfold fX11_fitsWith_J57
      rw [w1, Option.bind_some]
      have hd7 : (if n ≤ 7 ∧ 0 < n then true else false) = decide (n ≤ 7) := by
        by_cases h7 : n ≤ 7
        · rw [if_pos ⟨h7, o1⟩, decide_eq_true h7]
        · rw [if_neg (fun h => h7 h.1), decide_eq_false h7]
      show fX11_fitsWith_L73 (nI q) (if n ≤ 7 ∧ 0 < n then true else false) w fu0 0 = _
      rw [hd7]; exact p1
    refine ⟨b, w, v7, ?_, p2, hIw, e7⟩
    cases hsw : saw
    · rw [if_neg (by decide), ← l2 hsw]; exact hJ
    · rw [if_pos rfl, (l1 hsw).1, Option.bind_some]; exact hJ
  · have hz : cmv (bxC g (v.1 1) q n (nI a)) n n = 0 := by
      by_cases h : 0 < cmv (bxC g (v.1 1) q n (nI a)) n n
      · obtain ⟨o1, o2⟩ := z0.mp h
        exact absurd (zk.mpr ⟨o1, fun s hs => o2 s (by omega) hs⟩) ho
      · omega
    rw [hz, if_pos (show nI 0 = 0 from rfl)]
    refine ⟨false, u5, v7, rfl, ?_, hI5, e7⟩
    have hob : okv (bxC g (v.1 1) q n (nI a)) (decide (0 < n)) n = false := by
      cases h : okv (bxC g (v.1 1) q n (nI a)) (decide (0 < n)) n
      · rfl
      · exact absurd h ho
    rw [hob]
    have hL0 : ∀ t, fX12_fit_L10 (nI q) v7 (t + 1) false 0 = some (false, v7) := fun t => by
      rw [fX12_fit_L10, if_neg (by decide), if_neg (by decide)]
    have := hL0 (fu0 - 1)
    rw [show fu0 - 1 + 1 = fu0 from by have := fu_n (show 2 ≤ 99999 by omega); omega] at this
    exact this
theorem fits_loop {q T S : Nat} {g : Nat → Int32} {saw : Bool} {f : Nat → Int32} (hq : q < 2) (hT : T ≤ 30) (hO : lawOk g) (hS20 : S ≤ 20) (hS : f 6 = nI S) (hsaw : saw = false → ∀ j, j < S → f (1400 + 4 * j) = nI q → ¬ f (1401 + 4 * j) = -1) (a2 : Int32) : ∀ (d a tX tM : Nat) (c : Int32) (u v : Mem), a + d = 201 → 0 < a → d < tX → d < tM → SI q T g u v → v.1 1 = f → ∃ (r : Int32) (u2 v2 : Mem), fX11_fits_L26 (nI q) a2 saw tX c (nI a) u = some (r, u2) ∧ fX12_fits_L23 (nI q) a2 tM c (nI a) v = some (r, v2) ∧ RR u2 v2 := by
  have e200 : (200 : Int32).toInt = 200 := rfl
  intro d
  induction d with
  | zero =>
    intro a tX tM c u v ha ha0 t1 t2 hI hv
    obtain ⟨tX, rfl⟩ : ∃ m, tX = m + 1 := ⟨tX - 1, by omega⟩
    obtain ⟨tM, rfl⟩ : ∃ m, tM = m + 1 := ⟨tM - 1, by omega⟩
    have n200 : (200 : Int32) < nI a := by rw [i_lt, nI_n (by omega)]; omega
    refine ⟨_, u, v, by rw [fX11_fits_L26, if_pos n200], by rw [fX12_fits_L23, if_pos n200], hI.1⟩
  | succ d ih =>
    intro a tX tM c u v ha ha0 t1 t2 hI hv
    obtain ⟨tX, rfl⟩ : ∃ m, tX = m + 1 := ⟨tX - 1, by omega⟩
    obtain ⟨tM, rfl⟩ : ∃ m, tM = m + 1 := ⟨tM - 1, by omega⟩
    have n200 : ¬ (200 : Int32) < nI a := by rw [i_lt, nI_n (by omega)]; omega
    obtain ⟨b, u2, v2, p1, p2, p3, p4⟩ := fit_both (S := S) (saw := saw) hq hT hO hI (show 0 < a ∧ a ≤ 200 by omega) hS20 (by rw [hv]; exact hS) (by rw [hv]; exact hsaw)
    rw [fX11_fits_L26, if_neg n200, p1, Option.bind_some, fX12_fits_L23, if_neg n200, p2, Option.bind_some, nI_1]
    cases b
    · rw [if_neg (show ¬ ((false, u2) : Bool × Mem).1 = true from Bool.false_ne_true), if_neg (show ¬ ((false, v2) : Bool × Mem).1 = true from Bool.false_ne_true)]
      exact ih (a + 1) tX tM c u2 v2 (by omega) (by omega) (by omega) (by omega) p3 (p4.trans hv)
    · rw [if_pos rfl, if_pos rfl]
      by_cases h : c = a2
      · rw [if_pos h, if_pos h]
        exact ⟨_, u2, v2, rfl, rfl, p3.1⟩
      · rw [if_neg h, if_neg h]
        exact ih (a + 1) tX tM (c + 1) u2 v2 (by omega) (by omega) (by omega) (by omega) p3 (p4.trans hv)
theorem sp_fits_ok : sp_fits RR := by
  intro u v a b hR
  unfold fX11_fits fX12_fits
  rw [starX, starM, Option.bind_some, Option.bind_some]
  rcases cut_n a 2 with h | ⟨q, hq, rfl⟩
  · have h : ¬ (0 ≤ a.toInt ∧ a.toInt < 2) := h
    rw [decide_eq_false h]
    exact ⟨-1, u, v, rfl, rfl, hR⟩
  · have e := nI_n (show q < 2147483648 by omega)
    rw [decide_eq_true (show 0 ≤ (nI q).toInt ∧ (nI q).toInt < 2 by omega), if_pos rfl, if_pos rfl]
    by_cases hb : (-1 : Int32) ≤ b
    · obtain ⟨T, hT, hT2, eT, eX, hL, hO, hS⟩ := lk hR
      obtain ⟨v5, b1, b2, b3⟩ := spansM hO hS
      have e5 : v5.1 1 = v.1 1 := b3.1 1 (by omega)
      have hI : SI q T _ u v5 := ⟨RR_frM (frN_M b3) hR, hL, Sy_fr e5 hS, by rw [e5]; exact eT, eX, b2⟩
      have h6 := hR.1.2.2.2.2.2.1
      have hS6 := i_nat h6.1
      generalize hSS : (v.1 1 6).toInt.toNat = S at hS6
      have hsg := hR.2.2.1.2.2.2.2.2
      have hw5 : u.1 176 5 = nI S := by
        have := hR.2.2.1.1.2.2.2.2
        rw [show 176 + 2 * 0 = 176 from rfl] at this
        rw [this]; exact hS6
      obtain ⟨saw, s1, s2⟩ := saw_loop (q := q) (u := u) (v := v) (S := S) (by omega) hw5 (fun i hi => ⟨(hsg i (by omega)).1, (hsg i (by omega)).2.1⟩) S 0 fu0 (by omega) (fu_n (by omega))
      have s1 : fX11_sawLight (nI q) u = some saw := s1
      rw [if_pos hb, if_pos hb, s1, Option.bind_some, b1, Option.bind_some]
      exact fits_loop (S := S) (f := v.1 1) hq hT hO (by omega) hS6 (fun h j hj => s2 h j (by omega) hj) b 200 1 fu0 fu0 0 u v5 (by omega) (by omega) (fu_n (by omega)) (fu_n (by omega)) hI e5
    · rw [if_neg hb, if_neg hb]
      exact ⟨-1, u, v, rfl, rfl, hR⟩
