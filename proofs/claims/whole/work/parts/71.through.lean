theorem scan_0 (p : Nat → Bool) : ∀ x, (scan p x).1 = 0 → (scan p x).2.1 = 0 ∧ (scan p x).2.2 = 0 := by
  intro x
  induction x with
  | zero => exact fun _ => ⟨rfl, rfl⟩
  | succ x ih =>
    rw [scan]
    split
    · rename_i hp
      split
      · rename_i hq
        intro h
        have h : (scan p x).1 = 0 := h
        obtain ⟨i1, i2⟩ := ih h
        show (scan p x).2.1 = 0 ∧ (if (scan p x).1 = 1 then x else (scan p x).2.2) = 0
        rw [if_neg (by omega)]; exact ⟨i1, i2⟩
      · intro h
        have h : (scan p x).1 + 1 = 0 := h
        omega
    · exact ih
theorem bxs_0 {g : Nat → Int32} {z : Int} (h : (bxs g z).1 = 0) : (bxs g z).2.1 = 0 ∧ (bxs g z).2.2 = 0 := scan_0 _ _ h
def loB (g f : Nat → Int32) (q n : Nat) (unit : Int32) (s : Nat) : Nat := (bxs g (ndI g f q n unit s).toInt).2.1
def hiB (g f : Nat → Int32) (q n : Nat) (unit : Int32) (s : Nat) : Nat := (bxs g (ndI g f q n unit s).toInt).2.2
theorem lh_ (g f : Nat → Int32) (q n : Nat) (unit : Int32) (s : Nat) : loB g f q n unit s ≤ hiB g f q n unit s ∧ hiB g f q n unit s ≤ 999 := bxs_lh _ _
theorem spnX {g f : Nat → Int32} {q n s : Nat} {unit : Int32} {u : Mem} (hs : s < 16) (h : SX g f q n unit u s) : fX2_spanFrom (nI s) u = some (nI (loB g f q n unit s)) ∧ fX2_spanTo (nI s) u = some (nI (hiB g f q n unit s)) := by
  have hb := inB_n (i := s) (n := 16) hs (by omega)
  obtain ⟨-, -, -, h4, h5⟩ := h
  obtain ⟨l1, l2⟩ := lh_ g f q n unit s
  unfold fX2_spanFrom fX2_spanTo
  rw [if_pos hb, if_pos hb, if_pos hb, if_pos hb, cl_n (by omega), h4, h5]
  unfold loB hiB at *
  by_cases h0 : (bxs g (ndI g f q n unit s).toInt).1 = 0
  · obtain ⟨z1, z2⟩ := bxs_0 h0
    rw [if_pos h0, if_pos h0, if_pos rfl, z1, z2]
    exact ⟨rfl, rfl⟩
  · have ne : ∀ m : Nat, m ≤ 999 → ¬ nI m = -1 := fun m hm h9 => by
      rw [i_eq, nI_n (by omega)] at h9
      have : ((-1 : Int32)).toInt = -1 := rfl
      omega
    rw [if_neg h0, if_neg h0, if_neg (ne _ (by omega)), if_neg (ne _ l2)]
    exact ⟨rfl, rfl⟩
/-- how often a chain burns at most, by a rate -/
def tmR (g f : Nat → Int32) (q s c : Nat) (r : Int32) : Int32 := if r < f (20 + (96 * q + (6 * s + (g (6 + 6 * c + 1)).toInt.toNat))) / g (6 + 6 * c + 2) then r else f (20 + (96 * q + (6 * s + (g (6 + 6 * c + 1)).toInt.toNat))) / g (6 + 6 * c + 2)
def mkS (g f : Nat → Int32) (q s : Nat) (b : Bool) (lo hi : Nat) : Nat → Int64
  | 0 => 0
  | c + 1 => if g (6 + 6 * c) = 1 then mkS g f q s b lo hi c + (tmR g f q s c (zI (exV g (2 + c) b lo hi))).toInt64 * (g (6 + 6 * c + 5)).toInt64 else mkS g f q s b lo hi c
def thr (g f : Nat → Int32) (q n : Nat) (unit : Int32) (b : Bool) : Nat → Int64
  | 0 => 0
  | s + 1 => thr g f q n unit b s + mkS g f q s b (loB g f q n unit s) (hiB g f q n unit s) 5
/-- a told chain's numbers -/
theorem chR {g : Nat → Int32} (hO : lawOk g) {c : Nat} (hc : c < 5) (h : g (6 + 6 * c) = 1) : (0 ≤ (g (6 + 6 * c + 1)).toInt ∧ (g (6 + 6 * c + 1)).toInt < 6) ∧ (1 ≤ (g (6 + 6 * c + 2)).toInt ∧ (g (6 + 6 * c + 2)).toInt ≤ 9) ∧ (0 ≤ (g (6 + 6 * c + 3)).toInt ∧ (g (6 + 6 * c + 3)).toInt < 6) ∧ (1 ≤ (g (6 + 6 * c + 4)).toInt ∧ (g (6 + 6 * c + 4)).toInt ≤ 9) ∧ (0 ≤ (g (6 + 6 * c + 5)).toInt ∧ (g (6 + 6 * c + 5)).toInt ≤ 999) := by
  rcases hO.2.1 c hc with h1 | h1
  · have h2 : g (6 + 6 * c) = 0 := h1.1
    rw [h] at h2; exact absurd h2 (by decide)
  · exact h1.2
theorem ofcX {u : Mem} {T : Nat} {g : Nat → Int32} (hL : relL u T g) {c j : Nat} (hc : c < 5) (hj : j < 5) : fX3_ofChain T (nI c) (nI j) u = some (g (6 + 6 * c + (1 + j))) := by
  unfold fX3_ofChain
  have e : nI c * 5 + nI j = nI (5 * c + j) := by rw [show (5 : Int32) = nI 5 from rfl, pk_mul, nI_add]; congr 1; omega
  rw [e, if_pos (inB_n (by omega) (by omega)), cl_n (by omega), hL.2.1 c hc j hj]
theorem tldX {u : Mem} {T : Nat} {g : Nat → Int32} (hL : relL u T g) (hO : lawOk g) {c : Nat} (hc : c < 5) : fX3_isTold T (nI c) u = some (decide (g (6 + 6 * c) = 1)) := by
  have h2 := ofcX hL hc (j := 1) (by omega)
  have e1 := chOk_told (hO.2.1 c hc)
  have h2 : fX3_ofChain T (nI c) 1 u = some (g (6 + 6 * c + 2)) := h2
  have e1 : g (6 + 6 * c) = 1 ↔ 0 < (g (6 + 6 * c + 2)).toInt := e1
  unfold fX3_isTold
  rw [h2, Option.bind_some]
  have e0 : (0 : Int32).toInt = 0 := rfl
  by_cases h : g (6 + 6 * c) = 1
  · rw [decide_eq_true h, if_neg (by rw [i_le]; have := e1.mp h; omega)]
  · rw [decide_eq_false h, if_pos (by
      rw [i_le]
      have : ¬ 0 < (g (6 + 6 * c + 2)).toInt := fun h3 => h (e1.mpr h3)
      omega)]
theorem ofcM {v : Mem} {g : Nat → Int32} (hS : Sy v g) {c j : Nat} (hc : c < 5) (hj : j < 5) : fX12_chainOf (nI c) (nI j) v = some (g (6 + 6 * c + (1 + j))) := by
  unfold fX12_chainOf
  have e : (6 : Int32) + 6 * nI c + 1 + nI j = nI (6 + 6 * c + (1 + j)) := by rw [show (6 : Int32) = nI 6 from rfl, pk_mul, nI_add, show (1 : Int32) = nI 1 from rfl, nI_add, nI_add]; congr 1; omega
  rw [e, hS _ (by omega), Option.bind_some]
theorem tldM {v : Mem} {g : Nat → Int32} (hS : Sy v g) {c : Nat} (hc : c < 5) : fX12_isChain (nI c) v = some (decide (g (6 + 6 * c) = 1)) := by
  unfold fX12_isChain
  have e : (6 : Int32) + 6 * nI c = nI (6 + 6 * c) := by rw [show (6 : Int32) = nI 6 from rfl, pk_mul, nI_add]
  rw [e, hS _ (by omega), Option.bind_some]
  by_cases h : g (6 + 6 * c) = 1
  · rw [decide_eq_true h, if_pos h]
  · rw [decide_eq_false h, if_neg h]
theorem timX {u : Mem} {T i q : Nat} {g f : Nat → Int32} {bk : Nat → Int64} (hO : lawOk g) (hL : relL u T g) (hS : relS u i q f bk) {s c : Nat} (hs : s < 16) (hc : c < 5) (ht : g (6 + 6 * c) = 1) (r : Int32) : fX7_timesOf i (nI s) (nI c) T r u = some (tmR g f q s c r) := by
  obtain ⟨c1, c2, -⟩ := chR hO hc ht
  have h0 : fX3_ofChain T (nI c) 0 u = some (g (6 + 6 * c + 1)) := ofcX hL hc (j := 0) (by omega)
  have h1 : fX3_ofChain T (nI c) 1 u = some (g (6 + 6 * c + 2)) := ofcX hL hc (j := 1) (by omega)
  have e0 : (0 : Int32).toInt = 0 := rfl
  have hk := i_nat c1.1
  have hp := partX hS hs (k := (g (6 + 6 * c + 1)).toInt.toNat) (by omega)
  rw [← hk] at hp
  unfold fX7_timesOf
  rw [h0, Option.bind_some, hp, Option.bind_some, h1, Option.bind_some]
  unfold fX11_cut
  rw [if_neg (by rw [i_le]; omega), if_neg (by rw [i_eq]; omega), Option.bind_some]
  rfl
theorem madX {u : Mem} {T i q n : Nat} {g f : Nat → Int32} {bk : Nat → Int64} {unit : Int32} (hO : lawOk g) (hL : relL u T g) (hS : relS u i q f bk) {s : Nat} (hs : s < 16) (hX : SX g f q n unit u s) (b : Bool) : ∀ (d c t : Nat), c + d = 5 → d < t → fX2_made_L6 i (nI s) T b u t (mkS g f q s b (loB g f q n unit s) (hiB g f q n unit s) c) (nI c) = some (mkS g f q s b (loB g f q n unit s) (hiB g f q n unit s) 5) := by
  obtain ⟨l1, l2⟩ := lh_ g f q n unit s
  obtain ⟨s1, s2⟩ := spnX hs hX
  have e5 : (5 : Int32).toInt = 5 := rfl
  intro d
  induction d with
  | zero =>
    intro c t hc ht
    obtain ⟨t, rfl⟩ : ∃ m, t = m + 1 := ⟨t - 1, by omega⟩
    have : c = 5 := by omega
    subst this
    rw [fX2_made_L6, if_pos (by decide)]
  | succ d ih =>
    intro c t hc ht
    obtain ⟨t, rfl⟩ : ∃ m, t = m + 1 := ⟨t - 1, by omega⟩
    have hi := ih (c + 1) t (by omega) (by omega)
    rw [fX2_made_L6, if_neg (by rw [i_le, nI_n (by omega)]; omega), tldX hL hO (by omega), Option.bind_some, nI_1]
    by_cases h : g (6 + 6 * c) = 1
    · have h4 : fX3_ofChain T (nI c) 4 u = some (g (6 + 6 * c + 5)) := ofcX hL (by omega) (j := 4) (by omega)
      rw [decide_eq_true h, if_pos rfl, s1, Option.bind_some, s2, Option.bind_some, show (2 : Int32) = nI 2 from rfl, nI_add, exX hL hO (by omega) l1 l2 b, Option.bind_some, timX hO hL hS hs (by omega) h, Option.bind_some, h4, Option.bind_some]
      rw [mkS, if_pos h] at hi
      exact hi
    · rw [decide_eq_false h, if_neg (by decide)]
      rw [mkS, if_neg h] at hi
      exact hi
/-- the mood of a shell -/
def moodI (g f : Nat → Int32) (q n : Nat) (unit : Int32) (s : Nat) : Int32 :=
  if (f (10 + q)).toInt64 < thr g f q n unit true (s + 1) * (zI (exV g 1 true (loB g f q n unit s) (hiB g f q n unit s))).toInt64 / 1000 then (if thr g f q n unit false (s + 1) * (zI (exV g 1 false (loB g f q n unit s) (hiB g f q n unit s))).toInt64 / 1000 ≤ (f (10 + q)).toInt64 then 2 else 1) else 0
def SH (g f : Nat → Int32) (q n : Nat) (unit : Int32) (u : Mem) (s : Nat) : Prop := u.2 202 s = thr g f q n unit false (s + 1) ∧ u.2 203 s = thr g f q n unit true (s + 1) ∧ u.1 201 s = moodI g f q n unit s
def frH (u w : Mem) : Prop := ∀ k, (k ≠ 201 → w.1 k = u.1 k) ∧ (k ≠ 202 → k ≠ 203 → w.2 k = u.2 k)
theorem frH_tr {a b c : Mem} (h1 : frH a b) (h2 : frH b c) : frH a c := fun k => ⟨fun x => ((h2 k).1 x).trans ((h1 k).1 x), fun x y => ((h2 k).2 x y).trans ((h1 k).2 x y)⟩
theorem frH_X {u w : Mem} (h : frH u w) : frX u w := fun k hk => ⟨(h k).1 (by omega), (h k).2 (by omega) (by omega)⟩
theorem SX_H {g f : Nat → Int32} {q n : Nat} {unit : Int32} {u w : Mem} {s : Nat} (h : frH u w) (hx : SX g f q n unit u s) : SX g f q n unit w s := SX_fr hx (fun k h1 h2 => by rw [(h k).1 (by omega)])
theorem shnX {T i q n : Nat} {g f : Nat → Int32} {bk : Nat → Int64} {unit : Int32} (hT : T ≤ 30) (hi : i < 4) (hO : lawOk g) (hn : n ≤ 16) : ∀ (d s t : Nat) (u : Mem), s + d = n → d < t → relL u T g → relS u i q f bk → u.1 195 9 = nI n → (∀ j, j < n → SX g f q n unit u j) → (∀ j, j < s → SH g f q n unit u j) → ∃ w, fX2_shine_L8 i T t (thr g f q n unit false s) (thr g f q n unit true s) (nI s) u = some w ∧ frH u w ∧ ∀ j, j < n → SH g f q n unit w j := by
  intro d
  induction d with
  | zero =>
    intro s t u hs ht hL hS h9 hX hH
    obtain ⟨t, rfl⟩ : ∃ m, t = m + 1 := ⟨t - 1, by omega⟩
    have : s = n := by omega
    subst this
    rw [fX2_shine_L8, h9, if_pos ((le_nI (by omega) (by omega)).mpr (by omega))]
    exact ⟨u, rfl, fun k => ⟨fun _ => rfl, fun _ _ => rfl⟩, hH⟩
  | succ d ih =>
    intro s t u hs ht hL hS h9 hX hH
    obtain ⟨t, rfl⟩ : ∃ m, t = m + 1 := ⟨t - 1, by omega⟩
    have hb := inB_n (i := s) (n := 16) (by omega) (by omega)
    have hx := hX s (by omega)
    obtain ⟨l1, l2⟩ := lh_ g f q n unit s
    have m1 : fX2_made i (nI s) T false u = some _ := madX hO hL hS (by omega) hx false 5 0 fu0 (by omega) (fu_n (by omega))
    have m2 : fX2_made i (nI s) T true u = some _ := madX hO hL hS (by omega) hx true 5 0 fu0 (by omega) (fu_n (by omega))
    rw [fX2_shine_L8, h9, if_neg (fun h => by have := (le_nI (by omega) (by omega)).mp h; omega), m1, Option.bind_some, m2, Option.bind_some, if_pos hb, if_pos hb, Option.bind_some, cl_n (by omega), nI_1]
    have t1 : thr g f q n unit false s + mkS g f q s false (loB g f q n unit s) (hiB g f q n unit s) 5 = thr g f q n unit false (s + 1) := rfl
    have t2 : thr g f q n unit true s + mkS g f q s true (loB g f q n unit s) (hiB g f q n unit s) 5 = thr g f q n unit true (s + 1) := rfl
    rw [t1, t2]
    generalize hu6 : sl (sl u 202 s (thr g f q n unit false (s + 1))) 203 s (thr g f q n unit true (s + 1)) = u6
    have a1 : u6.1 = u.1 := by rw [← hu6]; rfl
    have a2 : ∀ k, k ≠ 202 → k ≠ 203 → u6.2 k = u.2 k := fun k x y => by rw [← hu6, sl_ro _ _ y, sl_ro _ _ x]
    have a3 : u6.2 202 s = thr g f q n unit false (s + 1) := by rw [← hu6, sl_2, if_neg (by omega), sl_2, if_pos ⟨rfl, rfl⟩]
    have a4 : u6.2 203 s = thr g f q n unit true (s + 1) := by rw [← hu6, sl_2, if_pos ⟨rfl, rfl⟩]
    have a5 : ∀ k j, j ≠ s → u6.2 k j = u.2 k j := fun k j hj => by rw [← hu6, sl_2, if_neg (by omega), sl_2, if_neg (by omega)]
    have f6 : frH u u6 := fun k => ⟨fun _ => by rw [a1], a2 k⟩
    have hL6 : relL u6 T g := relL_fr (u := u) (fun r hr => by rw [a1]) hL
    have hS6 : relS u6 i q f bk := relS_fr (u := u) (fun r hr => ⟨by rw [a1], a2 _ (by omega) (by omega)⟩) hS
    have hx6 : SX g f q n unit u6 s := SX_H f6 hx
    obtain ⟨s1, s2⟩ := spnX (by omega) hx6
    have hz : ∀ b, fX2_haze (nI s) T b u6 = some (zI (exV g 1 b (loB g f q n unit s) (hiB g f q n unit s))) := fun b => by
      unfold fX2_haze
      rw [s1, Option.bind_some, s2, Option.bind_some, show (1 : Int32) = nI 1 from rfl, exX hL6 hO (by omega) l1 l2 b, Option.bind_some]
    have hlim : u6.1 (160 + 4 * i) 5 = f (10 + q) := hS6.2.2.1
    rw [hz true, Option.bind_some, hlim]
    have fin : ∀ x : Int32, x = moodI g f q n unit s → ∃ w, fX2_shine_L8 i T t (thr g f q n unit false (s + 1)) (thr g f q n unit true (s + 1)) (nI (s + 1)) (si u6 201 s x) = some w ∧ frH u w ∧ ∀ j, j < n → SH g f q n unit w j := fun x hxm => by
      have f7 : frH u6 (si u6 201 s x) := fun k => ⟨fun h => si_ro _ _ h, fun _ _ => rfl⟩
      have f8 := frH_tr f6 f7
      obtain ⟨w, w1, w2, w3⟩ := ih (s + 1) t (si u6 201 s x) (by omega) (by omega) (relL_fr (u := u) (fun r hr => (f8 _).1 (by omega)) hL) (relS_fr (u := u) (fun r hr => ⟨(f8 _).1 (by omega), (f8 _).2 (by omega) (by omega)⟩) hS) (by rw [(f8 195).1 (by omega)]; exact h9) (fun j hj => SX_H f8 (hX j hj)) (fun j hj => by
        by_cases hj2 : j = s
        · rw [hj2]
          exact ⟨a3, a4, by rw [si_1, if_pos ⟨rfl, rfl⟩]; exact hxm⟩
        · obtain ⟨p1, p2, p3⟩ := hH j (by omega)
          exact ⟨by rw [si_2, a5 _ _ hj2]; exact p1, by rw [si_2, a5 _ _ hj2]; exact p2, by rw [si_1, if_neg (by omega), a1]; exact p3⟩)
      exact ⟨w, w1, frH_tr f8 w2, w3⟩
    by_cases hm : (f (10 + q)).toInt64 < thr g f q n unit true (s + 1) * (zI (exV g 1 true (loB g f q n unit s) (hiB g f q n unit s))).toInt64 / 1000
    · rw [if_pos hm, hz false, Option.bind_some, Option.bind_some, if_pos hb]
      exact fin _ (by unfold moodI; rw [if_pos hm])
    · rw [if_neg hm, if_pos hb]
      exact fin _ (by unfold moodI; rw [if_neg hm])
theorem shineX {T i q n : Nat} {g f : Nat → Int32} {bk : Nat → Int64} {unit : Int32} {u : Mem} (hT : T ≤ 30) (hi : i < 4) (hO : lawOk g) (hn : n ≤ 16) (hL : relL u T g) (hS : relS u i q f bk) (h9 : u.1 195 9 = nI n) (hX : ∀ j, j < n → SX g f q n unit u j) : ∃ w, fX2_shine i T u = some w ∧ frH u w ∧ ∀ j, j < n → SH g f q n unit w j := shnX hT hi hO hn n 0 fu0 u (by omega) (fu_n (by omega)) hL hS h9 hX (fun j hj => by omega)
/-- the reference's sum through the shells -/
theorem thM1 {v : Mem} {g f : Nat → Int32} (hO : lawOk g) (hS : Sy v g) (hd : dnF g 7000 v) (hf : v.1 1 = f) {q s n : Nat} {unit : Int32} (hq : q < 2) (hs : s < 16) (hM : SM g f q n unit v s) (b : Bool) (a2 : Int32) (B : Int64) (Rc : Int64 → Int32 → Option Int64) : ∀ (d c t : Nat), c + d = 5 → d < t → fX12_throughOf_L15 (nI q) a2 b (nI s) v Rc t (B + mkS g f q s b (loB g f q n unit s) (hiB g f q n unit s) c) (nI c) = Rc (B + mkS g f q s b (loB g f q n unit s) (hiB g f q n unit s) 5) (nI (s + 1)) := by
  obtain ⟨l1, l2⟩ := lh_ g f q n unit s
  have hb := inB_n (i := s) (n := 16) hs (by omega)
  have e5 : (5 : Int32).toInt = 5 := rfl
  have e0 : (0 : Int32).toInt = 0 := rfl
  have m12 : v.1 12 s = nI (loB g f q n unit s) := hM.2.2.1
  have m13 : v.1 13 s = nI (hiB g f q n unit s) := hM.2.2.2
  intro d
  induction d with
  | zero =>
    intro c t hc ht
    obtain ⟨t, rfl⟩ : ∃ m, t = m + 1 := ⟨t - 1, by omega⟩
    have : c = 5 := by omega
    subst this
    rw [fX12_throughOf_L15, if_pos (by decide), nI_1]
  | succ d ih =>
    intro c t hc ht
    obtain ⟨t, rfl⟩ : ∃ m, t = m + 1 := ⟨t - 1, by omega⟩
    have hi := ih (c + 1) t (by omega) (by omega)
    rw [fX12_throughOf_L15, if_neg (by rw [i_le, nI_n (by omega)]; omega), tldM hS (by omega), Option.bind_some]
    by_cases h : g (6 + 6 * c) = 1
    · have h0 : fX12_chainOf (nI c) 0 v = some (g (6 + 6 * c + 1)) := ofcM hS (by omega) (j := 0) (by omega)
      have h1 : fX12_chainOf (nI c) 1 v = some (g (6 + 6 * c + 2)) := ofcM hS (by omega) (j := 1) (by omega)
      have h4 : fX12_chainOf (nI c) 4 v = some (g (6 + 6 * c + 5)) := ofcM hS (by omega) (j := 4) (by omega)
      obtain ⟨c1, c2, -⟩ := chR hO (by omega) h
      have hk := i_nat c1.1
      have hp := partM (v := v) hq hs (k := (g (6 + 6 * c + 1)).toInt.toNat) (by omega)
      rw [← hk, hf] at hp
      have ei : ∀ x : Nat, x ≤ 999 → (1000 : Int32) * (2 + nI c) + nI x = nI (1000 * (2 + c) + x) := fun x hx => by
        rw [show (1000 : Int32) = nI 1000 from rfl, show (2 : Int32) = nI 2 from rfl, nI_add, pk_mul, nI_add]
      have hfin : ∀ r : Int32, r = zI (exV g (2 + c) b (loB g f q n unit s) (hiB g f q n unit s)) → fX12_throughOf_J119 (fX12_throughOf_L15 (nI q) a2 b (nI s) v Rc t) (nI q) a2 b (B + mkS g f q s b (loB g f q n unit s) (hiB g f q n unit s) c) (nI s) (nI c) (f (20 + (96 * q + (6 * s + (g (6 + 6 * c + 1)).toInt.toNat))) / g (6 + 6 * c + 2)) r v = Rc (B + mkS g f q s b (loB g f q n unit s) (hiB g f q n unit s) 5) (nI (s + 1)) := fun r hr => by
        unfold fX12_throughOf_J119
        rw [h4, Option.bind_some, nI_1, ← hi]
        congr 1
        rw [mkS, if_pos h, ← hr, Int64.add_assoc]
        congr 2
        unfold tmR
        generalize f (20 + (96 * q + (6 * s + (g (6 + 6 * c + 1)).toInt.toNat))) / g (6 + 6 * c + 2) = p
        by_cases hrp : r < p
        · rw [if_pos hrp, if_pos (by rw [i_lt] at hrp; rw [i_le]; omega)]
        · by_cases hr2 : r ≤ p
          · rw [if_pos hr2, if_neg hrp]
            have : r = p := by rw [i_lt] at hrp; rw [i_le] at hr2; rw [i_eq]; omega
            rw [this]
          · rw [if_neg hr2, if_neg hrp]
      rw [decide_eq_true h, if_pos rfl, h0, Option.bind_some, hp, Option.bind_some, h1, Option.bind_some, if_neg (by rw [i_eq]; omega), if_pos hb, if_pos hb, cl_n (by omega), m12, m13, ei _ (by omega), ei _ l2]
      cases b with
      | true => rw [if_pos rfl, mostV hO hd (by omega) l1 (by omega), Option.bind_some]; exact hfin _ rfl
      | false => rw [if_neg (by decide), leastV hO hd (by omega) l1 (by omega), Option.bind_some]; exact hfin _ rfl
    · rw [decide_eq_false h, if_neg (by decide), nI_1]
      rw [mkS, if_neg h] at hi
      exact hi
theorem thM2 {v : Mem} {g f : Nat → Int32} (hO : lawOk g) (hS : Sy v g) (hd : dnF g 7000 v) (hf : v.1 1 = f) {q n m : Nat} {unit : Int32} (hq : q < 2) (hn : n ≤ 16) (hm : m < n) (hM : ∀ s, s < n → SM g f q n unit v s) (b : Bool) : ∀ (d s t : Nat), s + d = m + 1 → d < t → fX12_throughOf_L6 (nI q) (nI m) b v t (thr g f q n unit b s) (nI s) = some (thr g f q n unit b (m + 1)) := by
  intro d
  induction d with
  | zero =>
    intro s t hs ht
    obtain ⟨t, rfl⟩ : ∃ m, t = m + 1 := ⟨t - 1, by omega⟩
    have : s = m + 1 := by omega
    subst this
    rw [fX12_throughOf_L6, if_pos ((lt_nI (by omega) (by omega)).mpr (by omega))]
  | succ d ih =>
    intro s t hs ht
    obtain ⟨t, rfl⟩ : ∃ m, t = m + 1 := ⟨t - 1, by omega⟩
    rw [fX12_throughOf_L6, if_neg (fun h => by have := (lt_nI (by omega) (by omega)).mp h; omega)]
    have h1 := thM1 hO hS hd hf hq (show s < 16 by omega) (hM s (by omega)) b (nI m) (thr g f q n unit b s) (fX12_throughOf_L6 (nI q) (nI m) b v t) 5 0 fu0 (by omega) (fu_n (by omega))
    rw [mkS, Int64.add_zero] at h1
    have h1 : fX12_throughOf_L15 (nI q) (nI m) b (nI s) v (fX12_throughOf_L6 (nI q) (nI m) b v t) fu0 (thr g f q n unit b s) 0 = _ := h1
    rw [h1]
    exact ih (s + 1) t (by omega) (by omega)
theorem thrM {v : Mem} {g f : Nat → Int32} (hO : lawOk g) (hS : Sy v g) (hd : dnF g 7000 v) (hf : v.1 1 = f) {q n m : Nat} {unit : Int32} (hq : q < 2) (hn : n ≤ 16) (hm : m < n) (hM : ∀ s, s < n → SM g f q n unit v s) (b : Bool) : fX12_throughOf (nI q) (nI m) b v = some (thr g f q n unit b (m + 1)) := thM2 hO hS hd hf hq hn hm hM b (m + 1) 0 fu0 (by omega) (fu_n (by omega))
theorem moodM {v : Mem} {g f : Nat → Int32} (hO : lawOk g) (hS : Sy v g) (hd : dnF g 7000 v) (hf : v.1 1 = f) {q n m : Nat} {unit : Int32} (hq : q < 2) (hn : n ≤ 16) (hm : m < n) (hM : ∀ s, s < n → SM g f q n unit v s) : fX12_churns (nI q) (nI m) v = some (moodI g f q n unit m) := by
  obtain ⟨l1, l2⟩ := lh_ g f q n unit m
  have hb := inB_n (i := m) (n := 16) (by omega) (by omega)
  have m12 : v.1 12 m = nI (loB g f q n unit m) := (hM m hm).2.2.1
  have m13 : v.1 13 m = nI (hiB g f q n unit m) := (hM m hm).2.2.2
  have ei : ∀ x : Nat, x ≤ 999 → (1000 : Int32) + nI x = nI (1000 * 1 + x) := fun x hx => by
    rw [show (1000 : Int32) = nI 1000 from rfl, nI_add]
  have e10 : (10 : Int32) + nI q = nI (10 + q) := nI_add 10 q
  unfold fX12_churns
  rw [if_pos hb, if_pos hb, cl_n (by omega), m12, m13, ei _ (by omega), ei _ l2, thrM hO hS hd hf hq hn hm hM true, Option.bind_some, mostV hO hd (by omega) l1 (by omega), Option.bind_some, thrM hO hS hd hf hq hn hm hM false, Option.bind_some, leastV hO hd (by omega) l1 (by omega), Option.bind_some, e10, if_pos (inB_n (by omega) (by omega)), cl_n (by omega), hf]
  unfold moodI
  by_cases h : (f (10 + q)).toInt64 < thr g f q n unit true (m + 1) * (zI (exV g 1 true (loB g f q n unit m) (hiB g f q n unit m))).toInt64 / 1000
  · rw [if_pos h, if_pos (inB_n (by omega) (by omega)), if_pos h]
  · rw [if_neg h, if_neg h]
theorem sp_through_ok : sp_through RR := by
  intro u v a b top hR
  unfold fX11_through fX12_through
  rcases shBoth hR a b with ⟨h1, h2⟩ | ⟨q, s, hq, hs, hsn, rfl, rfl, h1, h2⟩
  · rw [h1, h2]
    exact ⟨-1, u, v, rfl, rfl, hR⟩
  · rw [h1, h2, Option.bind_some, Option.bind_some, if_pos rfl, if_pos rfl]
    obtain ⟨T, n, g, u5, v5, v7, ⟨⟨hT, hn, hf, hO⟩, ⟨x1, x2, x3, x4⟩, ⟨y1, y2, y3, y4⟩, -, -⟩, k1, k2, k3, k4, k5, k6, k7⟩ := ent hR hq
    have hsn2 : s < n := by rw [hf, nI_n (by omega)] at hsn; omega
    have hb := inB_n (i := s) (n := 16) hs (by omega)
    have e8 : (8 : Int32) + nI q = nI (8 + q) := nI_add 8 q
    obtain ⟨w, w1, w2, w3⟩ := shineX hT (by omega) hO hn x1 x2 x3 x4
    rw [k2, Option.bind_some, if_pos (inB_n hq (by omega)), k1, Option.bind_some, cl_n (by omega), show 2 * 0 + q = q by omega, w1, Option.bind_some, cl_n (by omega)]
    rw [k4, Option.bind_some, e8, if_pos (inB_n (i := 8 + q) (n := 8320) (by omega) (by omega)), cl_n (by omega), k5, k6, Option.bind_some, thrM hO y1 y3 y2 hq hn hsn2 y4 top, Option.bind_some]
    refine ⟨_, w, v7, ?_, rfl, RR_frX (frH_X w2) k7⟩
    rw [if_pos hb, (w3 s hsn2).1, (w3 s hsn2).2.1]
    cases top
    · rw [if_neg (by decide), if_pos hb]
    · rw [if_pos rfl]
theorem sp_of_ok : sp_of RR := by
  intro u v a b c hR
  have e0 : (0 : Int32).toInt = 0 := rfl
  unfold fX11_of fX12_of
  rcases shBoth hR a b with ⟨h1, h2⟩ | ⟨q, s, hq, hs, hsn, rfl, rfl, h1, h2⟩
  · rw [h1, h2]
    exact ⟨-1, u, v, rfl, rfl, hR⟩
  · rw [h1, h2, Option.bind_some, Option.bind_some, if_pos rfl, if_pos rfl, in_sp2 c (L := 0) (Hh := 5) rfl rfl, Option.bind_some]
    obtain ⟨T, n, g, u5, v5, v7, ⟨⟨hT, hn, hf, hO⟩, ⟨x1, x2, x3, x4⟩, ⟨y1, y2, y3, y4⟩, fI, fN⟩, k1, k2, k3, k4, k5, k6, k7⟩ := ent hR hq
    have hsn2 : s < n := by rw [hf, nI_n (by omega)] at hsn; omega
    have hb := inB_n (i := s) (n := 16) hs (by omega)
    have e8 : (8 : Int32) + nI q = nI (8 + q) := nI_add 8 q
    have hRu : RR u5 v := RR_frX (frI_X fI) hR
    have hSv : Sy v g := Sy_fr y2.symm y1
    obtain ⟨s1, s2, s3, s4, s5⟩ := x4 s hsn2
    obtain ⟨m1, m2, m3, m4⟩ := y4 s hsn2
    have cb := bxs_le g (ndI g (v.1 1) q n (v.1 1 (8 + q)) s).toInt
    rw [k2, Option.bind_some, cl_n (by omega), if_pos hb, if_pos hb, if_pos hb, if_pos hb, if_pos hb]
    have hw := wM (v := v) hSv hq hs
    by_cases c0 : c = 0
    · subst c0
      refine ⟨_, u5, v, by rw [if_pos rfl], ?_, hRu⟩
      rw [decide_eq_true (by decide), if_pos rfl, if_pos rfl, hw, Option.bind_some, s1]
    rw [if_neg c0, if_neg c0]
    by_cases c1 : c = 1
    · subst c1
      refine ⟨_, u5, v7, by rw [if_pos rfl], ?_, k7⟩
      rw [decide_eq_true (by decide), if_pos rfl, k4, Option.bind_some, e8, if_pos (inB_n (by omega) (by omega)), cl_n (by omega), k5, k6, Option.bind_some, if_pos rfl, if_pos hb, m1, s2]
    rw [if_neg c1]
    by_cases c2 : c = 2
    · subst c2
      refine ⟨_, u5, v7, by rw [if_pos rfl], ?_, k7⟩
      rw [decide_eq_true (by decide), if_pos rfl, k4, Option.bind_some, e8, if_pos (inB_n (by omega) (by omega)), cl_n (by omega), k5, k6, Option.bind_some, if_neg (by decide), if_pos rfl, if_pos hb, m2, s3]
    rw [if_neg c2]
    by_cases c3 : c = 3
    · subst c3
      refine ⟨_, u5, v7, by rw [if_pos rfl], ?_, k7⟩
      rw [decide_eq_true (by decide), if_pos rfl, k4, Option.bind_some, e8, if_pos (inB_n (by omega) (by omega)), cl_n (by omega), k5, k6, Option.bind_some, if_neg (by decide), if_neg (by decide), if_pos rfl, if_pos hb, m2, m3, s4]
      by_cases hz : (bxs g (ndI g (v.1 1) q n (v.1 1 (8 + q)) s).toInt).1 = 0
      · rw [hz, if_pos (show nI 0 = 0 from rfl), if_pos rfl]
      · rw [if_neg (nI_nz hz (by omega)), if_pos hb, if_neg hz]
    rw [if_neg c3]
    by_cases c4 : c = 4
    · subst c4
      refine ⟨_, u5, v7, by rw [if_pos rfl], ?_, k7⟩
      rw [decide_eq_true (by decide), if_pos rfl, k4, Option.bind_some, e8, if_pos (inB_n (by omega) (by omega)), cl_n (by omega), k5, k6, Option.bind_some, if_neg (by decide), if_neg (by decide), if_neg (by decide), if_pos rfl, if_pos hb, m2, m4, s5]
      by_cases hz : (bxs g (ndI g (v.1 1) q n (v.1 1 (8 + q)) s).toInt).1 = 0
      · rw [hz, if_pos (show nI 0 = 0 from rfl), if_pos rfl]
      · rw [if_neg (nI_nz hz (by omega)), if_pos hb, if_neg hz]
    rw [if_neg c4]
    by_cases c5 : c = 5
    · subst c5
      obtain ⟨w, w1, w2, w3⟩ := shineX hT (by omega) hO hn x1 x2 x3 x4
      refine ⟨moodI g (v.1 1) q n (v.1 1 (8 + q)) s, w, v7, ?_, ?_, RR_frX (frH_X w2) k7⟩
      · rw [if_pos rfl, if_pos (inB_n hq (by omega)), k1, Option.bind_some, cl_n (by omega), show 2 * 0 + q = q by omega, w1, Option.bind_some, if_pos hb, (w3 s hsn2).2.2]
      · rw [decide_eq_true (by decide), if_pos rfl, k4, Option.bind_some, e8, if_pos (inB_n (by omega) (by omega)), cl_n (by omega), k5, k6, Option.bind_some, if_neg (by decide), if_neg (by decide), if_neg (by decide), if_neg (by decide), moodM hO y1 y3 y2 hq hn hsn2 y4, Option.bind_some]
    · refine ⟨-1, u5, v, by rw [if_neg c5], ?_, hRu⟩
      have l1 : (1 : Int32).toInt = 1 := rfl
      have l2 : (2 : Int32).toInt = 2 := rfl
      have l3 : (3 : Int32).toInt = 3 := rfl
      have l4 : (4 : Int32).toInt = 4 := rfl
      have l5 : (5 : Int32).toInt = 5 := rfl
      rw [i_eq] at c0 c1 c2 c3 c4 c5
      rw [decide_eq_false (by omega), if_neg (by decide)]
