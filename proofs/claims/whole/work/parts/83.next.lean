def dX (u w : Mem) : Prop := (∀ k, k ≠ 184 → w.1 k = u.1 k) ∧ (∀ j, j < 3 ∨ 6 < j → w.1 184 j = u.1 184 j) ∧ w.2 = u.2
def dM (v w : Mem) : Prop := (∀ k, k ≠ 0 → w.1 k = v.1 k) ∧ (∀ j, j < 11 ∨ 14 < j → w.1 0 j = v.1 0 j) ∧ w.2 = v.2
theorem dX_tr {a b c : Mem} (h1 : dX a b) (h2 : dX b c) : dX a c := ⟨fun k hk => (h2.1 k hk).trans (h1.1 k hk), fun j hj => (h2.2.1 j hj).trans (h1.2.1 j hj), h2.2.2.trans h1.2.2⟩
theorem dM_tr {a b c : Mem} (h1 : dM a b) (h2 : dM b c) : dM a c := ⟨fun k hk => (h2.1 k hk).trans (h1.1 k hk), fun j hj => (h2.2.1 j hj).trans (h1.2.1 j hj), h2.2.2.trans h1.2.2⟩
theorem dX_si (u : Mem) {j : Nat} (x : Int32) (hj : 3 ≤ j ∧ j ≤ 6) : dX u (si u 184 j x) := ⟨fun k hk => si_ro _ _ hk, fun i hi => by rw [si_1, if_neg (by omega)], rfl⟩
theorem dM_si (v : Mem) {j : Nat} (x : Int32) (hj : 11 ≤ j ∧ j ≤ 14) : dM v (si v 0 j x) := ⟨fun k hk => si_ro _ _ hk, fun i hi => by rw [si_1, if_neg (by omega)], rfl⟩
theorem dX_rfl (u : Mem) : dX u u := ⟨fun _ _ => rfl, fun _ _ => rfl, rfl⟩
theorem dM_rfl (u : Mem) : dM u u := ⟨fun _ _ => rfl, fun _ _ => rfl, rfl⟩
def TP (B : Nat → Int) (L : Nat) (u v : Mem) : Prop := u.1 182 1 = nI L ∧ v.1 0 10 = nI L ∧ L ≤ 400 ∧ ∀ k, k < L → (-128 ≤ B k ∧ B k ≤ 127) ∧ u.1 183 k = zI (ub (B k)) ∧ v.1 6 k = zI (B k)
theorem TP_d {B : Nat → Int} {L : Nat} {u v u2 v2 : Mem} (h : TP B L u v) (hu : dX u u2) (hv : dM v v2) : TP B L u2 v2 := by
  obtain ⟨h1, h2, h3, h4⟩ := h
  exact ⟨by rw [hu.1 182 (by omega)]; exact h1, by rw [hv.2.1 10 (by omega)]; exact h2, h3, fun k hk => by rw [hu.1 183 (by omega), hv.1 6 (by omega)]; exact h4 k hk⟩
theorem blk_loop {B : Nat → Int} {L : Nat} (KX KM : Mem → Option Mem) : ∀ (d p tX tM : Nat) (u v : Mem), p + d = L → d < tX → d < tM → TP B L u v → u.1 184 4 = nI p → v.1 0 11 = nI p → ∃ (s : Nat) (u2 v2 : Mem), s ≤ L ∧ fX4_next_L8 KX tX u = KX u2 ∧ fX12_next_L0 KM tM v = KM v2 ∧ dX u u2 ∧ dM v v2 ∧ u2.1 184 4 = nI s ∧ v2.1 0 11 = nI s := by
  have e32 : (32 : Int32).toInt = 32 := rfl
  have e10 : (10 : Int32).toInt = 10 := rfl
  intro d
  induction d with
  | zero =>
    intro p tX tM u v hp t1 t2 hT hx hm
    obtain ⟨tX, rfl⟩ : ∃ m, tX = m + 1 := ⟨tX - 1, by omega⟩
    obtain ⟨tM, rfl⟩ : ∃ m, tM = m + 1 := ⟨tM - 1, by omega⟩
    obtain ⟨h1, h2, h3, h4⟩ := hT
    refine ⟨p, u, v, by omega, ?_, ?_, dX_rfl u, dM_rfl v, hx, hm⟩
    · rw [fX4_next_L8, h1, hx, if_pos ((le_nI (by omega) (by omega)).mpr (by omega))]
    · rw [fX12_next_L0, h2, hm, if_pos ((le_nI (by omega) (by omega)).mpr (by omega))]
  | succ d ih =>
    intro p tX tM u v hp t1 t2 hT hx hm
    obtain ⟨tX, rfl⟩ : ∃ m, tX = m + 1 := ⟨tX - 1, by omega⟩
    obtain ⟨tM, rfl⟩ : ∃ m, tM = m + 1 := ⟨tM - 1, by omega⟩
    obtain ⟨h1, h2, h3, h4⟩ := id hT
    obtain ⟨⟨b1, b2⟩, b3, b4⟩ := h4 p (by omega)
    have bp : inB (nI p) 400 := inB_n (by omega) (by omega)
    have zz := zI_n (z := B p) (by omega) (by omega)
    rw [fX4_next_L8, h1, hx, if_neg (fun h => by have := (le_nI (by omega) (by omega)).mp h; omega), if_pos bp, cl_n (by omega), b3, cB b1 b2, Option.bind_some]
    rw [fX12_next_L0, h2, hm, if_neg (show ¬ nI L ≤ nI p from fun h => by have := (le_nI (by omega) (by omega)).mp h; omega), if_pos bp, if_pos bp, cl_n (by omega), b4, nI_1]
    by_cases hb : B p = 32 ∨ B p = 10
    · have hbb : isB (B p) = true := by unfold isB; exact decide_eq_true hb
      have du : dX u (si u 184 4 (nI (p + 1))) := dX_si u _ (by omega)
      have dv : dM v (si v 0 11 (nI (p + 1))) := dM_si v _ (by omega)
      obtain ⟨s, u2, v2, r1, r2, r3, r4, r5, r6, r7⟩ := ih (p + 1) tX tM (si u 184 4 (nI (p + 1))) (si v 0 11 (nI (p + 1))) (by omega) (by omega) (by omega) (TP_d hT du dv) (by rw [si_1, if_pos ⟨rfl, rfl⟩]) (by rw [si_1, if_pos ⟨rfl, rfl⟩])
      refine ⟨s, u2, v2, r1, ?_, ?_, dX_tr du r4, dM_tr dv r5, r6, r7⟩
      · rw [hbb, if_pos rfl]; exact r2
      · by_cases h9 : zI (B p) = 32
        · rw [if_pos h9]; exact r3
        · rw [if_neg h9, if_pos (by rw [i_eq] at h9; rw [i_eq]; omega)]; exact r3
    · have hbb : isB (B p) = false := by unfold isB; exact decide_eq_false hb
      refine ⟨p, u, v, by omega, ?_, ?_, dX_rfl u, dM_rfl v, hx, hm⟩
      · rw [hbb, if_neg (by decide)]
      · rw [if_neg (by rw [i_eq]; omega), if_neg (by rw [i_eq]; omega)]
theorem ltr_loop {B : Nat → Int} {L s : Nat} (a1 : Int32) (KM : Int64 → Int32 → Mem → Option Mem) : ∀ (d p m tX tM : Nat) (ac : Int64) (u v : Mem), p + d = L → d < tX → d < tM → s + m = p → TP B L u v → u.1 184 5 = nI p → v.1 0 11 = nI p → (∀ j, j < m → isL (B (s + j)) = true) → (m ≤ 8 → ac = zL (pkz B s m)) → ∃ (e : Nat) (ac2 : Int64) (u2 v2 : Mem), p ≤ e ∧ e ≤ L ∧ fX4_next_L111 tX u = some u2 ∧ fX12_next_L99 a1 KM tM ac (nI m) v = KM ac2 (nI (e - s)) v2 ∧ (∀ j, j < e - s → isL (B (s + j)) = true) ∧ (e - s ≤ 8 → ac2 = zL (pkz B s (e - s))) ∧ (dX u u2 ∧ u2.1 184 5 = nI e ∧ ∀ j, j ≠ 5 → u2.1 184 j = u.1 184 j) ∧ (dM v v2 ∧ v2.1 0 11 = nI e ∧ ∀ j, j ≠ 11 → v2.1 0 j = v.1 0 j) ∧ (p < L → ((97 ≤ B p ∧ B p ≤ 122) ∨ (65 ≤ B p ∧ B p ≤ 90)) → p < e) := by
  have e8 : (8 : Int32).toInt = 8 := rfl
  intro d
  induction d with
  | zero =>
    intro p m tX tM ac u v hp t1 t2 hm hT hx hv hl ha
    obtain ⟨tX, rfl⟩ : ∃ m, tX = m + 1 := ⟨tX - 1, by omega⟩
    obtain ⟨tM, rfl⟩ : ∃ m, tM = m + 1 := ⟨tM - 1, by omega⟩
    obtain ⟨h1, h2, h3, h4⟩ := hT
    have em : p - s = m := by omega
    refine ⟨p, ac, u, v, by omega, by omega, ?_, ?_, by rw [em]; exact hl, by rw [em]; exact ha, ⟨dX_rfl u, hx, fun _ _ => rfl⟩, ⟨dM_rfl v, hv, fun _ _ => rfl⟩, fun h => by omega⟩
    · rw [fX4_next_L111, h1, hx, if_pos ((le_nI (by omega) (by omega)).mpr (by omega))]
    · rw [fX12_next_L99, h2, hv, if_pos ((le_nI (by omega) (by omega)).mpr (by omega)), em]
  | succ d ih =>
    intro p m tX tM ac u v hp t1 t2 hm hT hx hv hl ha
    obtain ⟨tX, rfl⟩ : ∃ m, tX = m + 1 := ⟨tX - 1, by omega⟩
    obtain ⟨tM, rfl⟩ : ∃ m, tM = m + 1 := ⟨tM - 1, by omega⟩
    obtain ⟨h1, h2, h3, h4⟩ := id hT
    obtain ⟨⟨b1, b2⟩, b3, b4⟩ := h4 p (by omega)
    have bp : inB (nI p) 400 := inB_n (by omega) (by omega)
    have em : p - s = m := by omega
    rw [fX4_next_L111, h1, hx, if_neg (fun h => by have := (le_nI (by omega) (by omega)).mp h; omega), if_pos bp, cl_n (by omega), b3, cL b1 b2, Option.bind_some]
    rw [fX12_next_L99, h2, hv, if_neg (show ¬ nI L ≤ nI p from fun h => by have := (le_nI (by omega) (by omega)).mp h; omega), if_pos bp, if_pos bp, cl_n (by omega), b4, mL b1 b2, Option.bind_some, nI_1, nI_1]
    by_cases hb : isL (B p) = true
    · have du : dX u (si u 184 5 (nI (p + 1))) := dX_si u _ (by omega)
      have dv : dM v (si v 0 11 (nI (p + 1))) := dM_si v _ (by omega)
      have hl2 : ∀ j, j < m + 1 → isL (B (s + j)) = true := fun j hj => by
        by_cases h : j = m
        · rw [h, hm]; exact hb
        · exact hl j (by omega)
      rw [hb, if_pos rfl, if_pos rfl]
      have go : ∀ ac9 : Int64, (m + 1 ≤ 8 → ac9 = zL (pkz B s (m + 1))) → ∃ (e : Nat) (ac2 : Int64) (u2 v2 : Mem), p ≤ e ∧ e ≤ L ∧ fX4_next_L111 tX (si u 184 5 (nI (p + 1))) = some u2 ∧ fX12_next_L99 a1 KM tM ac9 (nI (m + 1)) (si v 0 11 (nI (p + 1))) = KM ac2 (nI (e - s)) v2 ∧ (∀ j, j < e - s → isL (B (s + j)) = true) ∧ (e - s ≤ 8 → ac2 = zL (pkz B s (e - s))) ∧ (dX u u2 ∧ u2.1 184 5 = nI e ∧ ∀ j, j ≠ 5 → u2.1 184 j = u.1 184 j) ∧ (dM v v2 ∧ v2.1 0 11 = nI e ∧ ∀ j, j ≠ 11 → v2.1 0 j = v.1 0 j) ∧ (p < L → ((97 ≤ B p ∧ B p ≤ 122) ∨ (65 ≤ B p ∧ B p ≤ 90)) → p < e) := fun ac9 h9 => by
        obtain ⟨e, ac2, u2, v2, r1, r2, r3, r4, r5, r6, r7, r8, -⟩ := ih (p + 1) (m + 1) tX tM ac9 (si u 184 5 (nI (p + 1))) (si v 0 11 (nI (p + 1))) (by omega) (by omega) (by omega) (by omega) (TP_d hT du dv) (by rw [si_1, if_pos ⟨rfl, rfl⟩]) (by rw [si_1, if_pos ⟨rfl, rfl⟩]) hl2 h9
        exact ⟨e, ac2, u2, v2, by omega, r2, r3, r4, r5, r6, ⟨dX_tr du r7.1, r7.2.1, fun j hj => by rw [r7.2.2 j hj, si_1, if_neg (by omega)]⟩, ⟨dM_tr dv r8.1, r8.2.1, fun j hj => by rw [r8.2.2 j hj, si_1, if_neg (by omega)]⟩, fun _ _ => by omega⟩
      by_cases h8 : 8 ≤ m
      · rw [if_pos (by rw [i_le, nI_n (by omega)]; omega)]
        exact go ac (fun h => by omega)
      · rw [if_neg (by rw [i_le, nI_n (by omega)]; omega)]
        refine go _ (fun h => ?_)
        rw [ha (by omega), zIL (by omega) (by omega), show (64 : Int64) = zL 64 from rfl, zL_mul, zL_add, zL_sub, pkz, hm]
    · have hb : isL (B p) = false := by cases h : isL (B p) <;> simp_all
      rw [hb, if_neg (by decide), if_neg (by decide)]
      exact ⟨p, ac, u, v, by omega, by omega, rfl, by rw [em], by rw [em]; exact hl, by rw [em]; exact ha, ⟨dX_rfl u, hx, fun _ _ => rfl⟩, ⟨dM_rfl v, hv, fun _ _ => rfl⟩, fun _ h => by unfold isL at hb; rw [decide_eq_false_iff_not] at hb; exact absurd h hb⟩
def NR (x y : Int32) : Prop := 0 ≤ y.toInt ∧ y.toInt ≤ 999999 ∧ x.toInt = min y.toInt 100000
theorem dgt_loop {B : Nat → Int} {L : Nat} : ∀ (d p tX tM : Nat) (u v : Mem), p + d = L → d < tX → d < tM → TP B L u v → u.1 184 5 = nI p → v.1 0 11 = nI p → NR (u.1 184 6) (v.1 0 14) → ∃ (e : Nat) (u2 v2 : Mem), p ≤ e ∧ e ≤ L ∧ fX4_next_L179 tX u = some u2 ∧ fX12_next_L270 tM v = some v2 ∧ (dX u u2 ∧ u2.1 184 5 = nI e ∧ ∀ j, j ≠ 5 → j ≠ 6 → u2.1 184 j = u.1 184 j) ∧ (dM v v2 ∧ v2.1 0 11 = nI e ∧ ∀ j, j ≠ 11 → j ≠ 14 → v2.1 0 j = v.1 0 j) ∧ NR (u2.1 184 6) (v2.1 0 14) := by
  have e9 : (99999 : Int32).toInt = 99999 := rfl
  have eM : (100000 : Int32).toInt = 100000 := rfl
  intro d
  induction d with
  | zero =>
    intro p tX tM u v hp t1 t2 hT hx hv hn
    obtain ⟨tX, rfl⟩ : ∃ m, tX = m + 1 := ⟨tX - 1, by omega⟩
    obtain ⟨tM, rfl⟩ : ∃ m, tM = m + 1 := ⟨tM - 1, by omega⟩
    obtain ⟨h1, h2, h3, h4⟩ := hT
    refine ⟨p, u, v, by omega, by omega, ?_, ?_, ⟨dX_rfl u, hx, fun _ _ _ => rfl⟩, ⟨dM_rfl v, hv, fun _ _ _ => rfl⟩, hn⟩
    · rw [fX4_next_L179, h1, hx, if_pos ((le_nI (by omega) (by omega)).mpr (by omega))]
    · rw [fX12_next_L270, h2, hv, if_pos ((le_nI (by omega) (by omega)).mpr (by omega))]
  | succ d ih =>
    intro p tX tM u v hp t1 t2 hT hx hv hn
    obtain ⟨tX, rfl⟩ : ∃ m, tX = m + 1 := ⟨tX - 1, by omega⟩
    obtain ⟨tM, rfl⟩ : ∃ m, tM = m + 1 := ⟨tM - 1, by omega⟩
    obtain ⟨h1, h2, h3, h4⟩ := id hT
    obtain ⟨⟨b1, b2⟩, b3, b4⟩ := h4 p (by omega)
    have bp : inB (nI p) 400 := inB_n (by omega) (by omega)
    obtain ⟨n1, n2, n3⟩ := id hn
    rw [fX4_next_L179, h1, hx, if_neg (fun h => by have := (le_nI (by omega) (by omega)).mp h; omega), if_pos bp, if_pos bp, cl_n (by omega), b3, cD b1 b2, Option.bind_some, Option.bind_some, Option.bind_some]
    rw [fX12_next_L270, h2, hv, if_neg (show ¬ nI L ≤ nI p from fun h => by have := (le_nI (by omega) (by omega)).mp h; omega), if_pos bp, if_pos bp, cl_n (by omega), b4, mD b1 b2, Option.bind_some, Option.bind_some, Option.bind_some]
    by_cases hb : isD (B p) = true
    · rw [hb, if_pos rfl, if_pos rfl]
      unfold isD at hb
      rw [decide_eq_true_iff] at hb
      have ubz : ub (B p) = B p := (ub_r b1 b2).2.2.2.1 (by omega)
      rw [ubz]
      have hX0 : u.1 184 6 = zI (u.1 184 6).toInt := (zI_of _).symm
      have hY0 : v.1 0 14 = zI (v.1 0 14).toInt := (zI_of _).symm
      have x1 : ((u.1 184 6 * 10) + zI (B p)) - 48 = zI ((u.1 184 6).toInt * 10 + B p - 48) := by
        conv => lhs; rw [hX0]
        rw [show (10 : Int32) = zI 10 from rfl, show (48 : Int32) = zI 48 from rfl, zI_mul, zI_add, zI_sub]
      have y1 : ((10 * v.1 0 14) + zI (B p)) - 48 = zI (10 * (v.1 0 14).toInt + B p - 48) := by
        conv => lhs; rw [hY0]
        rw [show (10 : Int32) = zI 10 from rfl, show (48 : Int32) = zI 48 from rfl, zI_mul, zI_add, zI_sub]
      rw [x1, y1]
      have fin : ∀ (x y : Int32), NR x y → ∃ (e : Nat) (u2 v2 : Mem), p ≤ e ∧ e ≤ L ∧ fX4_next_L179 tX (si (si u 184 6 x) 184 5 (nI (p + 1))) = some u2 ∧ fX12_next_L270 tM (si (si v 0 14 y) 0 11 (nI (p + 1))) = some v2 ∧ (dX u u2 ∧ u2.1 184 5 = nI e ∧ ∀ j, j ≠ 5 → j ≠ 6 → u2.1 184 j = u.1 184 j) ∧ (dM v v2 ∧ v2.1 0 11 = nI e ∧ ∀ j, j ≠ 11 → j ≠ 14 → v2.1 0 j = v.1 0 j) ∧ NR (u2.1 184 6) (v2.1 0 14) := fun x y hxy => by
        have du : dX u (si (si u 184 6 x) 184 5 (nI (p + 1))) := dX_tr (dX_si u x (by omega)) (dX_si _ _ (by omega))
        have dv : dM v (si (si v 0 14 y) 0 11 (nI (p + 1))) := dM_tr (dM_si v y (by omega)) (dM_si _ _ (by omega))
        obtain ⟨e, u2, v2, r1, r2, r3, r4, r5, r6, r7⟩ := ih (p + 1) tX tM _ _ (by omega) (by omega) (by omega) (TP_d hT du dv) (by rw [si_1, if_pos ⟨rfl, rfl⟩]) (by rw [si_1, if_pos ⟨rfl, rfl⟩]) (by rw [si_1, if_neg (by omega), si_1, if_pos ⟨rfl, rfl⟩, si_1, if_neg (by omega), si_1, if_pos ⟨rfl, rfl⟩]; exact hxy)
        exact ⟨e, u2, v2, by omega, r2, r3, r4, ⟨dX_tr du r5.1, r5.2.1, fun j a b => by rw [r5.2.2 j a b, si_1, if_neg (by omega), si_1, if_neg (by omega)]⟩, ⟨dM_tr dv r6.1, r6.2.1, fun j a b => by rw [r6.2.2 j a b, si_1, if_neg (by omega), si_1, if_neg (by omega)]⟩, r7⟩
      have su : ∀ x, (si u 184 6 x).1 184 5 = nI p := fun x => by rw [si_1, if_neg (by omega)]; exact hx
      have sv : ∀ y, (si v 0 14 y).1 0 11 = nI p := fun y => by rw [si_1, if_neg (by omega)]; exact hv
      rw [su, sv, sv, nI_1]
      by_cases hy : (v.1 0 14).toInt ≤ 99999
      · rw [if_pos (show v.1 0 14 ≤ 99999 by rw [i_le]; omega)]
        refine fin _ _ ⟨by rw [zI_n (by omega) (by omega)]; omega, by rw [zI_n (by omega) (by omega)]; omega, ?_⟩
        rw [zI_n (z := 10 * (v.1 0 14).toInt + B p - 48) (by omega) (by omega)]
        by_cases hh : (100000 : Int32) < zI ((u.1 184 6).toInt * 10 + B p - 48)
        · rw [if_pos hh]
          rw [i_lt, zI_n (by omega) (by omega)] at hh
          omega
        · rw [if_neg hh]
          rw [i_lt, zI_n (by omega) (by omega)] at hh
          rw [zI_n (by omega) (by omega)]; omega
      · rw [if_neg (show ¬ v.1 0 14 ≤ 99999 by rw [i_le]; omega)]
        refine fin _ _ ⟨n1, n2, ?_⟩
        rw [if_pos (by rw [i_lt, zI_n (by omega) (by omega)]; omega)]
        omega
    · have hb : isD (B p) = false := by cases h : isD (B p) <;> simp_all
      rw [hb, if_neg (show ¬ false = true by decide), if_neg (show ¬ false = true by decide)]
      exact ⟨p, u, v, by omega, by omega, rfl, rfl, ⟨dX_rfl u, hx, fun _ _ _ => rfl⟩, ⟨dM_rfl v, hv, fun _ _ _ => rfl⟩, hn⟩
