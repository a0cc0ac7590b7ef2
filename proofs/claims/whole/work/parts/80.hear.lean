theorem frT_X {u w : Mem} (h : frT u w) : frX u w := fun k hk => ⟨h.1 k (by omega) (by omega), by rw [h.2]⟩
theorem listenX {u : Mem} {n : Nat} {lo : Nat → Nat} (hn : n ≤ 16) (h9 : u.1 195 9 = nI n) (hl : n ≤ 7 → ∀ j, j < n → u.1 199 j = nI (lo j) ∧ lo j ≤ 999) : ∃ w, fX9_listen u = some ((if n ≤ 7 ∧ 0 < n then true else false), w) ∧ frT u w ∧ (n ≤ 7 → w.1 207 1 = nI n ∧ ∀ j, j < n → w.1 208 j = nI (lo j / 10)) := by
  have e0 : (0 : Int32).toInt = 0 := rfl
  have e7 : (7 : Int32).toInt = 7 := rfl
  unfold fX9_listen
  rw [Option.bind_some, h9]
  by_cases h : n ≤ 7
  · rw [if_neg (by rw [i_lt, nI_n (by omega)]; omega)]
    obtain ⟨w, r1, r2, r3, r4⟩ := lsn_loop (lo := lo) h (fun j hj => (hl h j hj).2) n 0 fu0 (si u 207 1 (nI n)) (by omega) (fu_n (by omega)) (by rw [si_1, if_pos ⟨rfl, rfl⟩]) (fun j hj => by rw [si_ro _ _ (by omega)]; exact (hl h j hj).1) (fun j hj => by omega)
    refine ⟨w, ?_, ⟨fun k a b => by rw [r2.1 k a b, si_ro _ _ a], r2.2⟩, fun _ => ⟨r3, r4⟩⟩
    refine Eq.trans r1 ?_
    by_cases h0 : 0 < n
    · rw [if_neg (by rw [i_le, nI_n (by omega)]; omega), if_pos ⟨h, h0⟩]
    · rw [if_pos (by rw [i_le, nI_n (by omega)]; omega), if_neg (by omega)]
  · rw [if_pos (by rw [i_lt, nI_n (by omega)]; omega)]
    obtain ⟨w, r1, r2, r3, r4⟩ := lsn_loop (n := 0) (lo := lo) (by omega) (fun j hj => by omega) 0 0 fu0 (si u 207 1 0) (by omega) (fu_n (by omega)) (by rw [si_1, if_pos ⟨rfl, rfl⟩]; rfl) (fun j hj => by omega) (fun j hj => by omega)
    refine ⟨w, ?_, ⟨fun k a b => by rw [r2.1 k a b, si_ro _ _ a], r2.2⟩, fun h8 => absurd h8 h⟩
    refine Eq.trans r1 ?_
    rw [if_pos (show nI 0 ≤ 0 by decide), if_neg (by omega)]
/-- what both sides hear -/
theorem hearX {u v : Mem} (hR : RR u v) {q : Nat} (hq : q < 2) : ∃ (n : Nat) (ok : Bool) (lo : Nat → Nat) (u6 v5 v7 : Mem), n ≤ 16 ∧ v.1 1 (2 + q) = nI n ∧ fX12_spans v = some v5 ∧ v5.1 1 = v.1 1 ∧ fX12_settles (nI q) (v.1 1 (8 + q)) v5 = some (ok, v7) ∧ v7.1 1 = v.1 1 ∧ RR u6 v7 ∧ RR u6 v ∧ ((ok = true ∧ n ≤ 7 ∧ 0 < n ∧ fX11_hear (nI q) u = some (true, u6) ∧ u6.1 207 1 = nI n ∧ (∀ j, j < n → u6.1 208 j = nI (lo j / 10)) ∧ (∀ j, j < n → v7.1 12 j = nI (lo j)) ∧ ∀ j, j < n → lo j ≤ 999) ∨ (¬ (ok = true ∧ n ≤ 7) ∧ fX11_hear (nI q) u = some (false, u6))) := by
  have e0 : (0 : Int32).toInt = 0 := rfl
  have e := nI_n (show q < 2147483648 by omega)
  obtain ⟨T, n, g, u5, v5, v7, ⟨⟨hT, hn, hf, hO⟩, ⟨x1, x2, x3, x4⟩, ⟨y1, y2, y3, y4⟩, fI, fN⟩, k1, k2, k3, k4, k5, k6, k7⟩ := ent hR hq
  have hRu : RR u5 v := RR_frX (frI_X fI) hR
  have z0 := cmv_0 (bxC g (v.1 1) q n (v.1 1 (8 + q))) n n (Nat.le_refl _)
  have zl := cmv_le (bxC g (v.1 1) q n (v.1 1 (8 + q))) n n
  have zk := okv_iff (bxC g (v.1 1) q n (v.1 1 (8 + q))) n n
  rw [Nat.sub_self] at z0
  have hh : fX11_hear (nI q) u = (if nI (cmv (bxC g (v.1 1) q n (v.1 1 (8 + q))) n n) ≤ 0 then some (false, u5) else ((fX9_listen u5).bind fun q8 => (some ((if q8.1 = true then true else false), q8.2)))) := by
    unfold fX11_hear
    rw [starX, Option.bind_some, decide_eq_true (show 0 ≤ (nI q).toInt ∧ (nI q).toInt < 2 by omega), if_pos rfl, k2, Option.bind_some, k3]
  by_cases ho : okv (bxC g (v.1 1) q n (v.1 1 (8 + q))) (decide (0 < n)) n = true
  · obtain ⟨o1, o2⟩ := zk.mp ho
    have o3 := z0.mpr ⟨o1, fun s _ hs => o2 s hs⟩
    rw [if_neg (by rw [i_le, nI_n (by omega)]; omega)] at hh
    have hlo : ∀ j, j < n → u5.1 199 j = nI (loB g (v.1 1) q n (v.1 1 (8 + q)) j) ∧ loB g (v.1 1) q n (v.1 1 (8 + q)) j ≤ 999 := fun j hj => by
      obtain ⟨-, -, -, s4, -⟩ := x4 j hj
      have := o2 j hj
      have hlh := lh_ g (v.1 1) q n (v.1 1 (8 + q)) j
      unfold bxC at this
      refine ⟨?_, by omega⟩
      rw [s4, if_neg (by omega)]; rfl
    obtain ⟨w, w1, w2, w3⟩ := listenX (lo := loB g (v.1 1) q n (v.1 1 (8 + q))) hn x3 (fun _ j hj => hlo j hj)
    rw [w1, Option.bind_some] at hh
    have hh : fX11_hear (nI q) u = some ((if (if n ≤ 7 ∧ 0 < n then true else false) = true then true else false), w) := hh
    have R1 : RR w v7 := RR_frX (frT_X w2) k7
    have R2 : RR w v := RR_frX (frT_X w2) hRu
    refine ⟨n, _, loB g (v.1 1) q n (v.1 1 (8 + q)), w, v5, v7, hn, hf, k4, k5, k6, y2, R1, R2, ?_⟩
    by_cases h7 : n ≤ 7
    · left
      rw [if_pos (show n ≤ 7 ∧ 0 < n from ⟨h7, o1⟩), if_pos rfl] at hh
      exact ⟨ho, h7, o1, hh, (w3 h7).1, (w3 h7).2, fun j hj => (y4 j hj).2.2.1, fun j hj => (hlo j hj).2⟩
    · right
      rw [if_neg (show ¬ (n ≤ 7 ∧ 0 < n) from fun h => h7 h.1), if_neg (by decide)] at hh
      exact ⟨fun h => h7 h.2, hh⟩
  · have hz : cmv (bxC g (v.1 1) q n (v.1 1 (8 + q))) n n = 0 := by
      by_cases h : 0 < cmv (bxC g (v.1 1) q n (v.1 1 (8 + q))) n n
      · obtain ⟨o1, o2⟩ := z0.mp h
        exact absurd (zk.mpr ⟨o1, fun s hs => o2 s (by omega) hs⟩) ho
      · omega
    rw [hz, if_pos (by decide)] at hh
    exact ⟨n, _, fun _ => 0, u5, v5, v7, hn, hf, k4, k5, k6, y2, k7, hRu, Or.inr ⟨fun h => ho h.1, hh⟩⟩
theorem sungM {v : Mem} {q n : Nat} (hq : q < 2) (hn : n ≤ 16) (hv : v.1 1 (2 + q) = nI n) : fX12_isSung (nI q) v = some (decide (n ≤ 7)) := by
  have e2 : (2 : Int32) + nI q = nI (2 + q) := nI_add 2 q
  have e7 : (7 : Int32).toInt = 7 := rfl
  unfold fX12_isSung
  rw [e2, if_pos (inB_n (by omega) (by omega)), cl_n (by omega), hv]
  by_cases h : n ≤ 7
  · rw [decide_eq_true h, if_neg (by rw [i_lt, nI_n (by omega)]; omega)]
  · rw [decide_eq_false h, if_pos (by rw [i_lt, nI_n (by omega)]; omega)]
theorem hear_no {a : Int32} (h : ¬ (0 ≤ a.toInt ∧ a.toInt < 2)) (u : Mem) : fX11_hear a u = some (false, u) := by
  unfold fX11_hear
  rw [starX, Option.bind_some, decide_eq_false h, if_neg (by decide)]
theorem sp_below_ok : sp_below RR := by
  intro u v a x hR
  have e0 : (0 : Int32).toInt = 0 := rfl
  have e400 : (400 : Int32).toInt = 400 := rfl
  unfold fX11_below fX12_below
  rw [starM, Option.bind_some, in_sp2 x (L := 0) (Hh := 400) rfl rfl, Option.bind_some]
  rcases cut_n a 2 with h | ⟨q, hq, rfl⟩
  · have h : ¬ (0 ≤ a.toInt ∧ a.toInt < 2) := h
    rw [decide_eq_false h, hear_no h, Option.bind_some, if_neg (show ¬ false = true by decide), if_neg (show ¬ false = true by decide)]
    refine ⟨-1, u, v, ?_, rfl, hR⟩
    by_cases h1 : x < 0
    · rw [if_pos h1]
    · rw [if_neg h1]
      by_cases h2 : 400 < x
      · rw [if_pos h2]
      · rw [if_neg h2]
  · have e := nI_n (show q < 2147483648 by omega)
    rw [decide_eq_true (show 0 ≤ (nI q).toInt ∧ (nI q).toInt < 2 by omega), if_pos rfl]
    by_cases hx : 0 ≤ x.toInt ∧ x.toInt ≤ 400
    · have hxn := i_nat hx.1
      generalize hX : x.toInt.toNat = X at hxn
      rw [if_neg (show ¬ x < 0 by rw [i_lt]; omega), if_neg (show ¬ 400 < x by rw [i_lt]; omega), decide_eq_true hx, if_pos rfl]
      obtain ⟨n, ok, lo, u6, v5, v7, hn, hf, k4, k5, k6, y2, R1, R2, hc⟩ := hearX hR hq
      have e8 : (8 : Int32) + nI q = nI (8 + q) := nI_add 8 q
      rw [sungM hq hn hf, Option.bind_some, k4, Option.bind_some, e8, if_pos (inB_n (i := 8 + q) (n := 8320) (by omega) (by omega)), cl_n (by omega), k5, k6, Option.bind_some]
      rcases hc with ⟨c1, c2, c3, c4, c5, c6, c7, c8⟩ | ⟨c1, c2⟩
      · rw [c4, Option.bind_some, if_pos rfl, decide_eq_true c2, if_pos rfl, c1, if_pos rfl, hxn, cntX (kk := fun j => lo j / 10) c2 (by omega) c5 c6 (fun j hj => by have := c8 j hj; show lo j / 10 ≤ 99; omega), Option.bind_some, cntM hq c2 (by omega) (by rw [y2]; exact hf) c7 c8, Option.bind_some]
        exact ⟨_, u6, v7, rfl, rfl, R1⟩
      · rw [c2, Option.bind_some, if_neg (show ¬ false = true by decide)]
        by_cases h7 : n ≤ 7
        · rw [decide_eq_true h7, if_pos rfl, if_neg (fun h => c1 ⟨h, h7⟩)]
          exact ⟨-1, u6, v7, rfl, rfl, R1⟩
        · rw [decide_eq_false h7, if_neg (show ¬ false = true by decide)]
          exact ⟨-1, u6, v, rfl, rfl, R2⟩
    · rw [decide_eq_false hx, if_neg (show ¬ false = true by decide)]
      refine ⟨-1, u, v, ?_, rfl, hR⟩
      by_cases h1 : x < 0
      · rw [if_pos h1]
      · rw [if_neg h1, if_pos (by rw [i_lt] at h1; rw [i_lt]; omega)]
theorem boxOfX {u : Mem} {n : Nat} {kk : Nat → Nat} (hn : n ≤ 7) (h1 : u.1 207 1 = nI n) (h2 : ∀ j, j < n → u.1 208 j = nI (kk j)) (hk : ∀ j, j < n → kk j ≤ 99) {k N : Nat} (hkn : k < n) (hN : N ≤ 400) (hNk : ∀ j : Nat, 1 ≤ j → j ≤ 400 → ((tnS (tnK n kk) j n).1 ≤ k ↔ j ≤ N)) : fX9_boxOf (nI k) u = some (nI N) := by
  have e0 : (0 : Int32).toInt = 0 := rfl
  unfold fX9_boxOf
  rw [if_neg (by rw [i_lt, nI_n (by omega)]; omega), h1, if_pos ((lt_nI (by omega) (by omega)).mpr hkn)]
  exact boxX hn h1 h2 hk (by omega) hN hNk 9 256 0 fu0 rfl (fu_n (by omega)) (by omega) (by have : (2 : Nat) ^ 9 = 512 := rfl; omega) (by omega)
theorem boxOf_no {u : Mem} {n : Nat} (hn : n ≤ 7) (h1 : u.1 207 1 = nI n) {k : Int32} (hk : ¬ (0 ≤ k.toInt ∧ k.toInt < n)) : fX9_boxOf k u = some (-1) := by
  have e0 : (0 : Int32).toInt = 0 := rfl
  unfold fX9_boxOf
  by_cases h : k < 0
  · rw [if_pos h]
  · rw [if_neg h, h1, if_neg (by rw [i_lt] at h; rw [i_lt, nI_n (by omega)]; omega)]
theorem sp_tone_ok : sp_tone RR := by
  intro u v a k hR
  have e0 : (0 : Int32).toInt = 0 := rfl
  have e1 : (1 : Int32).toInt = 1 := rfl
  unfold fX11_tone fX12_tone
  rw [starM, Option.bind_some]
  rcases cut_n a 2 with h | ⟨q, hq, rfl⟩
  · have h : ¬ (0 ≤ a.toInt ∧ a.toInt < 2) := h
    rw [decide_eq_false h, hear_no h, Option.bind_some, if_neg (show ¬ false = true by decide), if_neg (show ¬ false = true by decide)]
    exact ⟨-1, u, v, rfl, rfl, hR⟩
  · have e := nI_n (show q < 2147483648 by omega)
    have e8 : (8 : Int32) + nI q = nI (8 + q) := nI_add 8 q
    have e2 : (2 : Int32) + nI q = nI (2 + q) := nI_add 2 q
    rw [decide_eq_true (show 0 ≤ (nI q).toInt ∧ (nI q).toInt < 2 by omega), if_pos rfl]
    obtain ⟨n, ok, lo, u6, v5, v7, hn, hf, k4, k5, k6, y2, R1, R2, hc⟩ := hearX hR hq
    have hh : (nI n - 1).toInt = (n : Int) - 1 := by rw [i_sub (by rw [nI_n (by omega)]; omega) (by rw [nI_n (by omega)]; omega), nI_n (by omega)]; omega
    rw [e2, if_pos (inB_n (i := 2 + q) (n := 8320) (by omega) (by omega)), cl_n (show 2 + q < 2147483648 by omega), hf, in_sp2 k (L := 0) (Hh := (n : Int) - 1) rfl (by rw [j_of, hh]), Option.bind_some, sungM hq hn hf, Option.bind_some, k4, Option.bind_some, e8, if_pos (inB_n (i := 8 + q) (n := 8320) (by omega) (by omega)), cl_n (by omega), k5, k6, Option.bind_some]
    rcases hc with ⟨c1, c2, c3, c4, c5, c6, c7, c8⟩ | ⟨c1, c2⟩
    · rw [c4, Option.bind_some, if_pos rfl, decide_eq_true c2, if_pos rfl, c1, if_pos rfl]
      by_cases hk : 0 ≤ k.toInt ∧ k.toInt ≤ (n : Int) - 1
      · have hkn := i_nat hk.1
        generalize hX : k.toInt.toNat = X at hkn
        obtain ⟨N, t1, t2, t3⟩ := toneM hq c2 (by rw [y2]; exact hf) c7 c8 (k := X) (by omega) 400 0 fu0 (by omega) (fu_n (by omega)) (fun j j1 j2 => by omega)
        have t2 : fX12_toneOf (nI q) (nI X) v7 = some (nI N) := t2
        rw [decide_eq_true hk, if_pos rfl, hkn, t2, Option.bind_some, boxOfX (kk := fun j => lo j / 10) c2 c5 c6 (fun j hj => by have := c8 j hj; show lo j / 10 ≤ 99; omega) (by omega) t1 t3, Option.bind_some]
        exact ⟨_, u6, v7, rfl, rfl, R1⟩
      · rw [decide_eq_false hk, if_neg (show ¬ false = true by decide), boxOf_no c2 c5 (by omega), Option.bind_some]
        exact ⟨-1, u6, v, rfl, rfl, R2⟩
    · rw [c2, Option.bind_some, if_neg (show ¬ false = true by decide)]
      by_cases hk : 0 ≤ k.toInt ∧ k.toInt ≤ (n : Int) - 1
      · rw [decide_eq_true hk, if_pos rfl]
        by_cases h7 : n ≤ 7
        · rw [decide_eq_true h7, if_pos rfl, if_neg (fun h => c1 ⟨h, h7⟩)]
          exact ⟨-1, u6, v7, rfl, rfl, R1⟩
        · rw [decide_eq_false h7, if_neg (show ¬ false = true by decide)]
          exact ⟨-1, u6, v, rfl, rfl, R2⟩
      · rw [decide_eq_false hk, if_neg (show ¬ false = true by decide)]
        exact ⟨-1, u6, v, rfl, rfl, R2⟩
