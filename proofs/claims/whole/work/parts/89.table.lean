def tHe (t p : Nat) (v : Mem) : Int := (v.1 8 (36 + 25 * t + (1 + 3 * p))).toInt
/-- in the midst of a table -/
def MT (T1 t n : Nat) (ah : Int) (us vs u v : Mem) : Prop := (∀ k, 5 * T1 ≤ k → k < 5 * T1 + 5 → k ≠ 5 * T1 + 3 → k ≠ 5 * T1 + 4 → u.1 k = us.1 k) ∧ (∀ i, i ≠ t → u.1 (5 * T1 + 3) i = us.1 (5 * T1 + 3) i) ∧ u.1 (5 * T1 + 3) t = nI n ∧ (∀ i, i < 24 * t ∨ 24 * t + 24 ≤ i → u.1 (5 * T1 + 4) i = us.1 (5 * T1 + 4) i) ∧ (∀ j, j < 36 + 25 * t ∨ 36 + 25 * t + 25 ≤ j → v.1 8 j = vs.1 8 j) ∧ (0 < n → v.1 8 (36 + 25 * t) = nI n) ∧ (∀ p, p < n → ∀ j, j < 3 → u.1 (5 * T1 + 4) (24 * t + 3 * p + j) = v.1 8 (36 + 25 * t + (1 + 3 * p + j))) ∧ (∀ p, p < n → (0 ≤ tHe t p v ∧ tHe t p v ≤ 999) ∧ 0 ≤ (v.1 8 (36 + 25 * t + (2 + 3 * p))).toInt ∧ (v.1 8 (36 + 25 * t + (2 + 3 * p))).toInt ≤ (v.1 8 (36 + 25 * t + (3 + 3 * p))).toInt ∧ (v.1 8 (36 + 25 * t + (3 + 3 * p))).toInt ≤ 9999 ∧ (p + 1 < n → tHe t p v < tHe t (p + 1) v)) ∧ (if n = 0 then ah = -1 else tHe t (n - 1) v = ah)
theorem MT_K {T1 t n : Nat} {ah : Int} {us vs u v u2 v2 : Mem} (h : MT T1 t n ah us vs u v) (k : KP T1 u v u2 v2) : MT T1 t n ah us vs u2 v2 := by
  obtain ⟨a1, a2, a3, a4, a5, a6, a7, a8, a9⟩ := h
  have r3 := k.1 (5 * T1 + 3) (by omega) (by omega)
  have r4 := k.1 (5 * T1 + 4) (by omega) (by omega)
  unfold MT tHe at *
  rw [r3, r4, k.2]
  exact ⟨fun j a b c d => by rw [k.1 j a b]; exact a1 j a b c d, a2, a3, a4, a5, a6, a7, a8, a9⟩
theorem MT_DRF {T1 t n : Nat} {ah : Int} {us vs u v : Mem} (ht : t < 7) (hn : 0 < n ∧ n ≤ 8) (hd : DRF T1 us vs) (h : MT T1 t n ah us vs u v) : DRF T1 u v := by
  obtain ⟨⟨l1, l2, l3, l4⟩, o1, o2, o3⟩ := hd
  obtain ⟨a1, a2, a3, a4, a5, a6, a7, a8, a9⟩ := h
  have g0 := a6 hn.1
  have r1 := a1 (5 * T1 + 1) (by omega) (by omega) (by omega) (by omega)
  have r2 := a1 (5 * T1 + 2) (by omega) (by omega) (by omega) (by omega)
  refine ⟨⟨fun j hj => ?_, fun c hc j hj => ?_, fun i hi => ?_, fun i hi p hp j hj => ?_⟩, fun j hj => ?_, fun c hc => ?_, fun i hi => ?_⟩
  · rw [a5 j (by omega), r1]; exact l1 j hj
  · rw [a5 _ (by omega), r2]; exact l2 c hc j hj
  · by_cases h9 : i = t
    · rw [h9, a3, g0]
    · rw [a5 _ (by omega), a2 i h9]; exact l3 i hi
  · by_cases h9 : i = t
    · subst h9
      rw [g0, nI_n (by omega)] at hp
      have := a7 p (by omega) j hj
      rw [show 24 * i + 3 * p + j = (i * 8 + p) * 3 + j by omega] at this
      exact this
    · have e0 := a5 (36 + 25 * i) (by omega)
      rw [e0] at hp
      have hb := o3 i hi
      have hb2 : (vs.1 8 (36 + 25 * i)).toInt ≤ 8 := hb.2.1
      rw [a5 _ (by omega), a4 _ (by omega)]; exact l4 i hi p hp j hj
  · rw [a5 j (by omega)]; exact o1 j hj
  · exact chOk_fr (fun k hk => a5 _ (by omega)) (o2 c hc)
  · by_cases h9 : i = t
    · subst h9
      have e0 : v.1 8 (36 + 25 * i + 0) = nI n := g0
      refine ⟨?_, ?_, fun p hp => ?_⟩
      · show 0 ≤ (v.1 8 (36 + 25 * i + 0)).toInt
        rw [e0, nI_n (by omega)]; omega
      · show (v.1 8 (36 + 25 * i + 0)).toInt ≤ 8
        rw [e0, nI_n (by omega)]; omega
      · have hp : (p : Int) < (v.1 8 (36 + 25 * i + 0)).toInt := hp
        rw [e0, nI_n (by omega)] at hp
        obtain ⟨b1, b2, b3, b4, b5⟩ := a8 p (by omega)
        refine ⟨b1.1, b1.2, b2, b3, b4, fun h8 => ?_⟩
        have h8 : (p : Int) + 1 < (v.1 8 (36 + 25 * i + 0)).toInt := h8
        rw [e0, nI_n (by omega)] at h8
        exact b5 (by omega)
    · have hb := o3 i hi
      have hb2 : (vs.1 8 (36 + 25 * i)).toInt ≤ 8 := hb.2.1
      have e : ∀ k, k < 25 → v.1 8 (36 + 25 * i + k) = vs.1 8 (36 + 25 * i + k) := fun k hk => a5 _ (by omega)
      obtain ⟨t1, t2, t3⟩ := hb
      have t1 : 0 ≤ (vs.1 8 (36 + 25 * i + 0)).toInt := t1
      have t2 : (vs.1 8 (36 + 25 * i + 0)).toInt ≤ 8 := t2
      refine ⟨?_, ?_, fun p hp => ?_⟩
      · show 0 ≤ (v.1 8 (36 + 25 * i + 0)).toInt
        rw [e 0 (by omega)]; exact t1
      · show (v.1 8 (36 + 25 * i + 0)).toInt ≤ 8
        rw [e 0 (by omega)]; exact t2
      · have hp : (p : Int) < (v.1 8 (36 + 25 * i + 0)).toInt := hp
        rw [e 0 (by omega)] at hp
        have q := t3 p hp
        have q : 0 ≤ (vs.1 8 (36 + 25 * i + (1 + 3 * p))).toInt ∧ (vs.1 8 (36 + 25 * i + (1 + 3 * p))).toInt ≤ 999 ∧ 0 ≤ (vs.1 8 (36 + 25 * i + (2 + 3 * p))).toInt ∧ (vs.1 8 (36 + 25 * i + (2 + 3 * p))).toInt ≤ (vs.1 8 (36 + 25 * i + (3 + 3 * p))).toInt ∧ (vs.1 8 (36 + 25 * i + (3 + 3 * p))).toInt ≤ 9999 ∧ ((p : Int) + 1 < (vs.1 8 (36 + 25 * i + 0)).toInt → (vs.1 8 (36 + 25 * i + (1 + 3 * p))).toInt < (vs.1 8 (36 + 25 * i + (1 + 3 * (p + 1)))).toInt) := q
        show 0 ≤ (v.1 8 (36 + 25 * i + (1 + 3 * p))).toInt ∧ (v.1 8 (36 + 25 * i + (1 + 3 * p))).toInt ≤ 999 ∧ 0 ≤ (v.1 8 (36 + 25 * i + (2 + 3 * p))).toInt ∧ (v.1 8 (36 + 25 * i + (2 + 3 * p))).toInt ≤ (v.1 8 (36 + 25 * i + (3 + 3 * p))).toInt ∧ (v.1 8 (36 + 25 * i + (3 + 3 * p))).toInt ≤ 9999 ∧ ((p : Int) + 1 < (v.1 8 (36 + 25 * i + 0)).toInt → (v.1 8 (36 + 25 * i + (1 + 3 * p))).toInt < (v.1 8 (36 + 25 * i + (1 + 3 * (p + 1)))).toInt)
        rw [e 0 (by omega), e (1 + 3 * p) (by omega), e (2 + 3 * p) (by omega), e (3 + 3 * p) (by omega)]
        refine ⟨q.1, q.2.1, q.2.2.1, q.2.2.2.1, q.2.2.2.2.1, fun h8 => ?_⟩
        rw [e (1 + 3 * (p + 1)) (by omega)]
        exact q.2.2.2.2.2 h8
/-- a point is written on both sides -/
theorem addP {T1 t n : Nat} {u : Mem} (ht : t < 7) (hn : n < 8) (h3 : u.1 (5 * T1 + 3) t = nI n) (x y z : Int32) : fX3_addPoint T1 (nI t) x y z u = some (si (si (si (si u (5 * T1 + 4) (24 * t + 3 * n + 0) x) (5 * T1 + 4) (24 * t + 3 * n + 1) y) (5 * T1 + 4) (24 * t + 3 * n + 2) z) (5 * T1 + 3) t (nI (n + 1))) := by
  have e8 : (8 : Int32).toInt = 8 := rfl
  have b7 : inB (nI t) 7 := inB_n ht (by omega)
  have i0 : ∀ j, (nI t * 8 + nI n) * 3 + nI j = nI (24 * t + 3 * n + j) := fun j => by rw [show (8 : Int32) = nI 8 from rfl, pk_mul, nI_add, show (3 : Int32) = nI 3 from rfl, pk_mul, nI_add]; congr 1; omega
  have j0 : (nI t * 8 + nI n) * 3 + 0 = nI (24 * t + 3 * n + 0) := i0 0
  have j1 : (nI t * 8 + nI n) * 3 + 1 = nI (24 * t + 3 * n + 1) := i0 1
  have j2 : (nI t * 8 + nI n) * 3 + 2 = nI (24 * t + 3 * n + 2) := i0 2
  have bb := fun (m : Nat) (hm : m < 168) => inB_n (i := m) (n := 168) hm (by omega)
  unfold fX3_addPoint
  rw [if_pos b7, cl_n (show t < 2147483648 by omega), h3, if_pos (by rw [i_lt, nI_n (by omega)]; omega), if_pos b7, j0, j1, j2, if_pos (bb _ (by omega)), Option.bind_some, if_pos (bb _ (by omega)), Option.bind_some, if_pos (bb _ (by omega)), Option.bind_some, if_pos b7, if_pos b7, cl_n (show 24 * t + 3 * n + 0 < 2147483648 by omega), cl_n (show 24 * t + 3 * n + 1 < 2147483648 by omega), cl_n (show 24 * t + 3 * n + 2 < 2147483648 by omega)]
  have q : (si (si (si u (5 * T1 + 4) (24 * t + 3 * n + 0) x) (5 * T1 + 4) (24 * t + 3 * n + 1) y) (5 * T1 + 4) (24 * t + 3 * n + 2) z).1 (5 * T1 + 3) t = nI n := by rw [si_ro _ _ (by omega), si_ro _ _ (by omega), si_ro _ _ (by omega)]; exact h3
  rw [q, nI_1]
theorem MT_add {T1 t n : Nat} {ah : Int} {us vs u v : Mem} (ht : t < 7) (hn : n < 8) (h : MT T1 t n ah us vs u v) {x y z : Nat} (hx : x ≤ 999 ∧ ah < x) (hy : y ≤ z) (hz : z ≤ 9999) : MT T1 t (n + 1) x us vs (si (si (si (si u (5 * T1 + 4) (24 * t + 3 * n + 0) (nI x)) (5 * T1 + 4) (24 * t + 3 * n + 1) (nI y)) (5 * T1 + 4) (24 * t + 3 * n + 2) (nI z)) (5 * T1 + 3) t (nI (n + 1))) (si (si (si (si v 8 (36 + 25 * t + (1 + 3 * n)) (nI x)) 8 (36 + 25 * t + (2 + 3 * n)) (nI y)) 8 (36 + 25 * t + (3 + 3 * n)) (nI z)) 8 (36 + 25 * t) (nI (n + 1))) := by
  obtain ⟨a1, a2, a3, a4, a5, a6, a7, a8, a9⟩ := h
  generalize hu2 : si (si (si (si u (5 * T1 + 4) (24 * t + 3 * n + 0) (nI x)) (5 * T1 + 4) (24 * t + 3 * n + 1) (nI y)) (5 * T1 + 4) (24 * t + 3 * n + 2) (nI z)) (5 * T1 + 3) t (nI (n + 1)) = u2
  generalize hv2 : si (si (si (si v 8 (36 + 25 * t + (1 + 3 * n)) (nI x)) 8 (36 + 25 * t + (2 + 3 * n)) (nI y)) 8 (36 + 25 * t + (3 + 3 * n)) (nI z)) 8 (36 + 25 * t) (nI (n + 1)) = v2
  have p1 : ∀ k, k ≠ 5 * T1 + 3 → k ≠ 5 * T1 + 4 → u2.1 k = u.1 k := fun k a b => by rw [← hu2, si_ro _ _ a, si_ro _ _ b, si_ro _ _ b, si_ro _ _ b]
  have p2 : ∀ i, i ≠ t → u2.1 (5 * T1 + 3) i = u.1 (5 * T1 + 3) i := fun i hi => by rw [← hu2, si_1, if_neg (by omega), si_ro _ _ (by omega), si_ro _ _ (by omega), si_ro _ _ (by omega)]
  have p3 : u2.1 (5 * T1 + 3) t = nI (n + 1) := by rw [← hu2, si_1, if_pos ⟨rfl, rfl⟩]
  have p4 : ∀ i, i < 24 * t + 3 * n ∨ 24 * t + 3 * n + 3 ≤ i → u2.1 (5 * T1 + 4) i = u.1 (5 * T1 + 4) i := fun i hi => by rw [← hu2, si_1, if_neg (by omega), si_1, if_neg (by omega), si_1, if_neg (by omega), si_1, if_neg (by omega)]
  have p5 : u2.1 (5 * T1 + 4) (24 * t + 3 * n + 0) = nI x := by rw [← hu2, si_1, if_neg (by omega), si_1, if_neg (by omega), si_1, if_neg (by omega), si_1, if_pos ⟨rfl, rfl⟩]
  have p6 : u2.1 (5 * T1 + 4) (24 * t + 3 * n + 1) = nI y := by rw [← hu2, si_1, if_neg (by omega), si_1, if_neg (by omega), si_1, if_pos ⟨rfl, rfl⟩]
  have p7 : u2.1 (5 * T1 + 4) (24 * t + 3 * n + 2) = nI z := by rw [← hu2, si_1, if_neg (by omega), si_1, if_pos ⟨rfl, rfl⟩]
  have q1 : ∀ j, j ≠ 36 + 25 * t → (j < 36 + 25 * t + (1 + 3 * n) ∨ 36 + 25 * t + (1 + 3 * n) + 3 ≤ j) → v2.1 8 j = v.1 8 j := fun j a b => by rw [← hv2, si_1, if_neg (by omega), si_1, if_neg (by omega), si_1, if_neg (by omega), si_1, if_neg (by omega)]
  have q2 : v2.1 8 (36 + 25 * t) = nI (n + 1) := by rw [← hv2, si_1, if_pos ⟨rfl, rfl⟩]
  have q3 : v2.1 8 (36 + 25 * t + (1 + 3 * n)) = nI x := by rw [← hv2, si_1, if_neg (by omega), si_1, if_neg (by omega), si_1, if_neg (by omega), si_1, if_pos ⟨rfl, rfl⟩]
  have q4 : v2.1 8 (36 + 25 * t + (2 + 3 * n)) = nI y := by rw [← hv2, si_1, if_neg (by omega), si_1, if_neg (by omega), si_1, if_pos ⟨rfl, rfl⟩]
  have q5 : v2.1 8 (36 + 25 * t + (3 + 3 * n)) = nI z := by rw [← hv2, si_1, if_neg (by omega), si_1, if_pos ⟨rfl, rfl⟩]
  have tn : tHe t n v2 = x := by unfold tHe; rw [q3, nI_n (by omega)]
  have tp : ∀ p, p < n → tHe t p v2 = tHe t p v := fun p hp => by unfold tHe; rw [q1 _ (by omega) (by omega)]
  refine ⟨fun k a b c d => by rw [p1 k c d]; exact a1 k a b c d, fun i hi => by rw [p2 i hi]; exact a2 i hi, p3, fun i hi => by rw [p4 i (by omega)]; exact a4 i hi, fun j hj => by rw [q1 j (by omega) (by omega)]; exact a5 j hj, fun _ => q2, fun p hp j hj => ?_, fun p hp => ?_, ?_⟩
  · by_cases h9 : p = n
    · subst h9
      rcases (show j = 0 ∨ j = 1 ∨ j = 2 by omega) with rfl | rfl | rfl
      · rw [p5, show 36 + 25 * t + (1 + 3 * p + 0) = 36 + 25 * t + (1 + 3 * p) by omega, q3]
      · rw [p6, show 36 + 25 * t + (1 + 3 * p + 1) = 36 + 25 * t + (2 + 3 * p) by omega, q4]
      · rw [p7, show 36 + 25 * t + (1 + 3 * p + 2) = 36 + 25 * t + (3 + 3 * p) by omega, q5]
    · rw [p4 _ (by omega), q1 _ (by omega) (by omega)]; exact a7 p (by omega) j hj
  · by_cases h9 : p = n
    · subst h9
      rw [tn, q4, q5, nI_n (by omega), nI_n (by omega)]
      refine ⟨by omega, by omega, by omega, by omega, fun h8 => by omega⟩
    · obtain ⟨b1, b2, b3, b4, b5⟩ := a8 p (by omega)
      rw [tp p (by omega), q1 (36 + 25 * t + (2 + 3 * p)) (by omega) (by omega), q1 (36 + 25 * t + (3 + 3 * p)) (by omega) (by omega)]
      refine ⟨b1, b2, b3, b4, fun h8 => ?_⟩
      by_cases h7 : p + 1 = n
      · rw [h7, tn]
        rw [if_neg (by omega), show n - 1 = p by omega] at a9
        omega
      · rw [tp (p + 1) (by omega)]; exact b5 (by omega)
  · rw [if_neg (by omega), show n + 1 - 1 = n by omega]; exact tn
