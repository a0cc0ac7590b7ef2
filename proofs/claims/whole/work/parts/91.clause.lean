theorem tabC {B : Nat → Int} {L T1 t : Nat} {u0 v0 u v : Mem} (C : CT B L T1 u0 v0) (ht : t < 7) (h : OKs B L T1 u0 v0 u v) {us vs : Mem} (hd : DRF T1 us vs) (hk : KP T1 us vs u v) {v1 : Mem} (hv1 : fX12_next v = some v1) : RES B L T1 u0 v0 us (fX4_tableClause (nI t) u) ((fX12_tableClause_J60 (nI t) v1).bind fun w2 => fX12_takes 4 59 w2) := by
  have hT := C.1
  obtain ⟨u1, w1, n1, n2, h1, k1, -⟩ := nx C h
  have hw : w1 = v1 := Option.some.inj (n2.symm.trans hv1)
  subst hw
  have t5 : (u1.1 184 2).toNatClampNeg = T1 := by rw [h1.1.2.2.2.2.2.1.1, cl_n (by omega)]
  have e36 : (36 : Int32) + 25 * nI t = nI (36 + 25 * t) := by rw [show (25 : Int32) = nI 25 from rfl, pk_mul, show (36 : Int32) = nI 36 from rfl, nI_add]
  have hkp := KP_tr hk k1
  unfold fX4_tableClause fX12_tableClause_J60
  rw [n1, Option.bind_some, t5, if_pos (show T1 < 32 by omega), if_pos (inB_n (i := t) (n := 7) ht (by omega)), cl_n (by omega), Option.bind_some, if_pos h1.2.1, e36]
  have ok2 : OKs B L T1 u0 v0 (si u1 (5 * T1 + 3) t 0) w1 := OK_D hT h1 (fun j hj => si_ro _ _ (by omega)) rfl (fun j hj => rfl) rfl
  have hm : MT T1 t 0 (-1) us vs (si u1 (5 * T1 + 3) t 0) w1 := by
    refine ⟨fun k a b c d => by rw [si_ro _ _ c]; exact hkp.1 k a b, fun i hi => by rw [si_1, if_neg (by omega), hkp.1 _ (by omega) (by omega)], by rw [si_1, if_pos ⟨rfl, rfl⟩]; rfl, fun i hi => by rw [si_ro _ _ (by omega), hkp.1 _ (by omega) (by omega)], fun j hj => by rw [hkp.2], fun h9 => by omega, fun p hp => by omega, fun p hp => by omega, rfl⟩
  have hF : 10 < fu0 := fu_n (by omega)
  generalize fu0 = F at hF ⊢
  have := tab_loop C ht hd 8 0 F F (-1) _ w1 (by omega) (by omega) (by omega) ok2 hm (by omega) (fun h9 => by omega)
  rw [show ((-1 : Int) + 1).toNat = 0 from rfl] at this
  exact this
theorem RES_w {B : Nat → Int} {L T1 : Nat} {u0 v0 us : Mem} {cX : Option (Bool × Mem)} {cM : Option Mem} (h : RES B L T1 u0 v0 us cX cM) : RES B L T1 u0 v0 us (cX.bind fun q => (some ((if q.1 = true then true else false), q.2))) cM := by
  rcases h with ⟨u2, v2, h1, h2, h3, h4, h5⟩ | ⟨u2, v2, h1, h2, h3⟩
  · exact Or.inl ⟨u2, v2, by rw [h1, Option.bind_some]; rfl, h2, h3, h4, h5⟩
  · exact Or.inr ⟨u2, v2, by rw [h1, Option.bind_some]; rfl, h2, h3⟩
theorem RES_u {B : Nat → Int} {L T1 : Nat} {u0 v0 us ut : Mem} {cX : Option (Bool × Mem)} {cM : Option Mem} (h : RES B L T1 u0 v0 us cX cM) (e : us.1 (5 * T1) = ut.1 (5 * T1)) : RES B L T1 u0 v0 ut cX cM := by
  rcases h with ⟨u2, v2, h1, h2, h3, h4, h5⟩ | h
  · exact Or.inl ⟨u2, v2, h1, h2, h3, h4, h5.trans e⟩
  · exact Or.inr h
theorem t60_no {v : Mem} (h : 0 < (v.1 0 15).toInt) (a : Int32) : fX12_tableClause_J60 a v = some v := by
  unfold fX12_tableClause_J60
  rw [if_neg (wr_1 h)]
  have := l88_f (36 + 25 * a) (fu0 - 1) 0 (-1) v
  rw [show fu0 - 1 + 1 = fu0 from by have := fu_n (show 2 ≤ 99999 by omega); omega] at this
  exact this
theorem rateC {B : Nat → Int} {L T1 : Nat} {u0 v0 u v : Mem} (C : CT B L T1 u0 v0) (h : OKs B L T1 u0 v0 u v) (hd : DRF T1 u v) : RES B L T1 u0 v0 u ((fX4_rateNumber u).bind fun q26 => (if q26.1 = true then ((fX4_tableClause (2 + (q26.2.1 184 6)) q26.2).bind fun q29 => (some ((if q29.1 = true then true else false), q29.2))) else (some (false, q26.2)))) ((fX12_next v).bind fun w => (fX12_tableClause 6 w).bind fun w2 => fX12_takes 4 59 w2) := by
  have hT := C.1
  obtain ⟨u1, v1, n1, n2, h1, k1, -⟩ := nx C h
  unfold fX4_rateNumber fX12_tableClause
  rw [n1, Option.bind_some, n2, Option.bind_some, if_pos rfl]
  rcases atN h1 (lo := 0) (hi := 4) (by omega) (by omega) with ⟨c, x1, x2, x3, x4, x5, x6⟩ | ⟨u2, v2, x1, x2, x3, x4⟩
  · have x3 : fX4_atNumber 0 4 u1 = some (true, u1) := x3
    have e13 : (13 : Int32) + nI c = nI (13 + c) := nI_add 13 c
    rw [x3, Option.bind_some, if_pos rfl, if_pos x4, x5, in_sp2 (nI c) (L := 0) (Hh := 4) rfl rfl, Option.bind_some, nI_n (by omega), decide_eq_true (by omega), if_pos rfl, e13]
    show RES B L T1 u0 v0 u (((fX4_once (13 + (u1.1 184 6)) u1).bind _).bind _) _
    rw [x6, e13]
    rcases onc C h1 (j := 13 + c) (by omega) with ⟨o1, o2, o3, -⟩ | ⟨u3, v3, o1, o2, o3, -⟩
    · rw [o1, Option.bind_some, Option.bind_some, o2, Option.bind_some]
      have kp2 : KP T1 u1 v1 (si u1 185 (13 + c) 1) (si v1 7 (13 + c) 1) := ⟨fun j a b => si_ro _ _ (by omega), si_ro _ _ (by omega)⟩
      have hv6 : (si u1 185 (13 + c) 1).1 184 6 = nI c := by rw [si_ro _ _ (by omega)]; exact x6
      have hv3 : (si v1 7 (13 + c) 1).1 0 13 = 3 := by rw [si_ro _ _ (by omega)]; exact x4
      have hv4 : (si v1 7 (13 + c) 1).1 0 14 = nI c := by rw [si_ro _ _ (by omega)]; exact x5
      generalize si u1 185 (13 + c) 1 = u3 at *
      generalize si v1 7 (13 + c) 1 = v3 at *
      obtain ⟨u4, v4, m1, m2, m3, m4, -⟩ := nx C o3
      have hn : fX12_number 0 4 v3 = some (nI c, v4) := num_ok (lo := 0) (hi := 4) o3.2.1 hv3 hv4 x1 x2 (by omega) m2
      unfold fX12_tableClause_J51
      have e2 : (2 : Int32) + nI c = nI (2 + c) := nI_add 2 c
      rw [hn, Option.bind_some, e2]
      show RES B L T1 u0 v0 u ((fX4_tableClause (2 + (u3.1 184 6)) u3).bind fun q29 => (some ((if q29.1 = true then true else false), q29.2))) _
      rw [hv6, e2]
      exact RES_w (tabC C (by omega) o3 hd (KP_tr k1 kp2) m2)
    · right
      refine ⟨u3, v3, by rw [o1, Option.bind_some, Option.bind_some]; rfl, ?_, o3⟩
      rw [o2, Option.bind_some]
      unfold fX12_tableClause_J51
      rw [num_no o3.2, Option.bind_some]
      show (fX12_tableClause_J60 _ v3).bind _ = _
      rw [t60_no o3.2, Option.bind_some, tak_no o3.2]
  · have x1 : fX4_atNumber 0 4 u1 = some (false, u2) := x1
    have x2 : fX12_number 0 4 v1 = some (nI 0, v2) := x2
    have hJ : (fX12_tableClause_J51 v1).bind (fun w2 => fX12_takes 4 59 w2) = some v2 := by
      unfold fX12_tableClause_J51
      rw [x2, Option.bind_some]
      show (fX12_tableClause_J60 _ v2).bind _ = _
      rw [t60_no x3.2, Option.bind_some, tak_no x3.2]
    right
    refine ⟨u2, v2, by rw [x1, Option.bind_some]; rfl, ?_, x3⟩
    by_cases h3 : v1.1 0 13 = 3
    · rw [if_pos h3, in_sp2 (v1.1 0 14) (L := 0) (Hh := 4) rfl rfl, Option.bind_some, decide_eq_false (show ¬ (0 ≤ (v1.1 0 14).toInt ∧ (v1.1 0 14).toInt ≤ 4) from x4 h3), if_neg (by decide)]
      exact hJ
    · rw [if_neg h3]; exact hJ
theorem bsome (x : Option Mem) : (x.bind fun a => some a) = x := by cases x <;> rfl
/-- what the reference does with a clause, its count told -/
def rB (n : Nat) (v : Mem) : Option Mem := if n = 20 ∧ v.1 0 13 = 1 ∧ ¬ v.1 0 14 = 2 ∧ ¬ v.1 0 14 = 3 ∧ ¬ (v.1 0 14 = 4 ∧ ¬ v.1 7 11 = 0) ∧ ¬ (v.1 0 14 = 5 ∧ ¬ v.1 7 12 = 0) then fX12_errs 5 v else fX12_clause v
theorem room {B : Nat → Int} {L T1 n : Nat} {u0 v0 u v : Mem} (C : CT B L T1 u0 v0) (h : OKs B L T1 u0 v0 u v) (hn : u.1 (5 * T1) 4 = nI n) (hn20 : n ≤ 20) : (n < 20 ∧ fX4_hasRoom u = some (true, u)) ∨ (n = 20 ∧ ∃ u2 v2, fX4_hasRoom u = some (false, u2) ∧ fX12_errs 5 v = some v2 ∧ FLs T1 u0 v0 u2 v2) := by
  have hT := C.1
  have e20 : (20 : Int32).toInt = 20 := rfl
  have t5 : (u.1 184 2).toNatClampNeg = T1 := by rw [h.1.2.2.2.2.2.1.1, cl_n (by omega)]
  unfold fX4_hasRoom
  rw [t5, if_pos (show T1 < 32 by omega), hn]
  by_cases h2 : n = 20
  · right
    obtain ⟨u2, v2, b1, b2, b3⟩ := bl h (f := 5) (by decide)
    refine ⟨h2, u2, v2, ?_, b2, b3⟩
    rw [if_neg (by rw [i_lt, nI_n (by omega)]; omega), b1, Option.bind_some]; rfl
  · left
    exact ⟨by omega, by rw [if_pos (by rw [i_lt, nI_n (by omega)]; omega)]⟩
theorem clauseC {B : Nat → Int} {L T1 n : Nat} {u0 v0 u v : Mem} (C : CT B L T1 u0 v0) (h : OKs B L T1 u0 v0 u v) (hd : DRF T1 u v) (hn : u.1 (5 * T1) 4 = nI n) (hn20 : n ≤ 20) : RES B L T1 u0 v0 u (fX4_clause u) (rB n v) := by
  have hT := C.1
  have hw0 := h.2.1
  obtain ⟨c0, p0, q0⟩ := isW2 C h (i := 0) (by omega)
  obtain ⟨c1, p1, q1⟩ := isW2 C h (i := 1) (by omega)
  obtain ⟨c2, p2, q2⟩ := isW2 C h (i := 2) (by omega)
  obtain ⟨c3, p3, q3⟩ := isW2 C h (i := 3) (by omega)
  obtain ⟨c4, p4, q4⟩ := isW2 C h (i := 4) (by omega)
  have q0 : c0 = true ↔ v.1 0 13 = 1 ∧ v.1 0 14 = 0 := q0
  have q1 : c1 = true ↔ v.1 0 13 = 1 ∧ v.1 0 14 = 1 := q1
  have q2 : c2 = true ↔ v.1 0 13 = 1 ∧ v.1 0 14 = 6 := q2
  have q3 : c3 = true ↔ v.1 0 13 = 1 ∧ v.1 0 14 = 4 := q3
  have q4 : c4 = true ↔ v.1 0 13 = 1 ∧ v.1 0 14 = 5 := q4
  -- the reference's way into a clause that has begun
  have into : ∀ (a : Int32) (w : Mem) (G : Mem → Option Mem), w.1 0 15 = 0 → (∀ z : Mem, z.1 0 15 = 0 → fX12_clause_J72 a z = (G z).bind fun w2 => fX12_takes 4 59 w2) → (∀ z, fX12_next w = some z → z.1 0 15 = 0) → fX12_clause_J61 a w = (fX12_next w).bind fun z => (G z).bind fun w2 => fX12_takes 4 59 w2 := fun a w G h1 h2 h3 => by
    unfold fX12_clause_J61
    rw [if_pos h1]
    cases hz : fX12_next w with
    | none => rfl
    | some z => rw [Option.bind_some, Option.bind_some]; exact h2 z (h3 z hz)
  have nxw : ∀ z, fX12_next v = some z → z.1 0 15 = 0 := fun z hz => by
    obtain ⟨u1, v1, n1, n2, h1, -⟩ := nx C h
    rw [← Option.some.inj (n2.symm.trans hz)]; exact h1.2.1
  unfold fX4_clause
  rw [p0, Option.bind_some]
  cases c0 with
  | true =>
    obtain ⟨s1, s0⟩ := q0.mp rfl
    rw [if_pos rfl]
    rcases room C h hn hn20 with ⟨r1, r2⟩ | ⟨r1, u2, v2, r2, r3, r4⟩
    · rw [r2, Option.bind_some, if_pos rfl]
      have e : rB n v = (fX12_next v).bind fun w => (fX12_kindClause w).bind fun w2 => fX12_takes 4 59 w2 := by
        unfold rB
        rw [if_neg (fun h9 => by omega)]
        unfold fX12_clause
        rw [if_pos s1, s0, if_neg (by decide), if_neg (by decide), if_neg (by decide), if_neg (by decide)]
        refine into 0 v fX12_kindClause hw0 (fun z hz => ?_) nxw
        unfold fX12_clause_J72
        rw [if_pos (by rw [hz]; decide), if_pos rfl]
        congr 1; funext w; exact bsome _
      rw [e]
      exact RES_w (kindC C h hd)
    · rw [r2, Option.bind_some]
      right
      refine ⟨u2, v2, rfl, ?_, r4⟩
      unfold rB
      rw [if_pos ⟨r1, s1, by rw [s0]; decide, by rw [s0]; decide, by rw [s0]; exact fun h9 => absurd h9.1 (by decide), by rw [s0]; exact fun h9 => absurd h9.1 (by decide)⟩, r3]
  | false =>
  rw [if_neg (by decide), p1, Option.bind_some]
  cases c1 with
  | true =>
    obtain ⟨s1, s0⟩ := q1.mp rfl
    rw [if_pos rfl]
    rcases room C h hn hn20 with ⟨r1, r2⟩ | ⟨r1, u2, v2, r2, r3, r4⟩
    · rw [r2, Option.bind_some, if_pos rfl]
      have e : rB n v = (fX12_next v).bind fun w => (fX12_chainClause w).bind fun w2 => fX12_takes 4 59 w2 := by
        unfold rB
        rw [if_neg (fun h9 => by omega)]
        unfold fX12_clause
        rw [if_pos s1, s0, if_neg (by decide), if_neg (by decide), if_neg (by decide), if_neg (by decide)]
        refine into 1 v fX12_chainClause hw0 (fun z hz => ?_) nxw
        unfold fX12_clause_J72
        rw [if_pos (by rw [hz]; decide), if_neg (by decide), if_pos rfl]
        congr 1; funext w; exact bsome _
      rw [e]
      exact RES_w (chainC C h hd)
    · rw [r2, Option.bind_some]
      right
      refine ⟨u2, v2, rfl, ?_, r4⟩
      unfold rB
      rw [if_pos ⟨r1, s1, by rw [s0]; decide, by rw [s0]; decide, by rw [s0]; exact fun h9 => absurd h9.1 (by decide), by rw [s0]; exact fun h9 => absurd h9.1 (by decide)⟩, r3]
  | false =>
  rw [if_neg (by decide), p2, Option.bind_some]
  cases c2 with
  | true =>
    obtain ⟨s1, s0⟩ := q2.mp rfl
    rw [if_pos rfl]
    rcases room C h hn hn20 with ⟨r1, r2⟩ | ⟨r1, u2, v2, r2, r3, r4⟩
    · rw [r2, Option.bind_some, if_pos rfl]
      have e : rB n v = (fX12_next v).bind fun w => (fX12_tableClause 6 w).bind fun w2 => fX12_takes 4 59 w2 := by
        unfold rB
        rw [if_neg (fun h9 => by omega)]
        unfold fX12_clause
        rw [if_pos s1, s0, if_neg (by decide), if_neg (by decide), if_neg (by decide), if_neg (by decide)]
        refine into 6 v (fX12_tableClause 6) hw0 (fun z hz => ?_) nxw
        unfold fX12_clause_J72
        rw [if_pos (by rw [hz]; decide), if_neg (by decide), if_neg (by decide)]
        congr 1; funext w; exact bsome _
      rw [e]
      exact rateC C h hd
    · rw [r2, Option.bind_some]
      right
      refine ⟨u2, v2, rfl, ?_, r4⟩
      unfold rB
      rw [if_pos ⟨r1, s1, by rw [s0]; decide, by rw [s0]; decide, by rw [s0]; exact fun h9 => absurd h9.1 (by decide), by rw [s0]; exact fun h9 => absurd h9.1 (by decide)⟩, r3]
  | false =>
  rw [if_neg (by decide), p3, Option.bind_some]
  -- push and haze
  have ph : ∀ (t j : Nat) (a : Int32), (t = 0 ∧ j = 11 ∧ a = 4) ∨ (t = 1 ∧ j = 12 ∧ a = 5) → v.1 0 13 = 1 → v.1 0 14 = a → RES B L T1 u0 v0 u ((fX4_once (nI j) u).bind fun q35 => (if q35.1 = true then ((fX4_hasRoom q35.2).bind fun q38 => (if q38.1 = true then ((fX4_tableClause (nI t) q38.2).bind fun q41 => (some ((if q41.1 = true then true else false), q41.2))) else (some (false, q38.2)))) else (some (false, q35.2)))) (rB n v) := fun t j a hcase s1 s0 => by
    have hcl : fX12_clause v = (fX12_once (nI j) v).bind fun u13 => fX12_clause_J61 a u13 := by
      unfold fX12_clause
      rcases hcase with ⟨rfl, rfl, rfl⟩ | ⟨rfl, rfl, rfl⟩
      · rw [if_pos s1, s0, if_neg (by decide), if_neg (by decide), if_pos rfl]
        unfold fX12_clause_J45
        rw [if_pos rfl]; rfl
      · rw [if_pos s1, s0, if_neg (by decide), if_neg (by decide), if_neg (by decide), if_pos rfl]
        unfold fX12_clause_J45
        rw [if_neg (by decide)]; rfl
    rcases onc C h (j := j) (by omega) with ⟨o1, o2, o3, o4⟩ | ⟨u3, v3, o1, o2, o3, o4⟩
    · rw [o1, Option.bind_some, if_pos rfl]
      have hn3 : (si u 185 j 1).1 (5 * T1) 4 = nI n := by rw [si_ro _ _ (by omega)]; exact hn
      have kp2 : KP T1 u v (si u 185 j 1) (si v 7 j 1) := ⟨fun k a b => si_ro _ _ (by omega), si_ro _ _ (by omega)⟩
      show RES B L T1 u0 v0 u ((fX4_hasRoom (si u 185 j 1)).bind _) _
      rcases room C o3 hn3 hn20 with ⟨r1, r2⟩ | ⟨r1, u2, v2, r2, r3, r4⟩
      · rw [r2, Option.bind_some, if_pos rfl]
        obtain ⟨u4, v4, m1, m2, m3, -⟩ := nx C o3
        have e : rB n v = (fX12_tableClause_J60 (nI t) v4).bind fun w2 => fX12_takes 4 59 w2 := by
          unfold rB
          rw [if_neg (fun h9 => by omega), hcl, o2, Option.bind_some]
          unfold fX12_clause_J61
          rw [if_pos o3.2.1, m2, Option.bind_some]
          unfold fX12_clause_J72 fX12_tableClause
          rcases hcase with ⟨rfl, rfl, rfl⟩ | ⟨rfl, rfl, rfl⟩
          · rw [if_pos (by rw [m3.2.1]; decide), if_neg (by decide), if_neg (by decide), if_neg (by decide), if_pos rfl]
            show (fX12_tableClause_J60 (nI 0) v4).bind _ = _
            congr 1; funext w; exact bsome _
          · rw [if_pos (by rw [m3.2.1]; decide), if_neg (by decide), if_neg (by decide), if_neg (by decide), if_neg (by decide)]
            show (fX12_tableClause_J60 (nI 1) v4).bind _ = _
            congr 1; funext w; exact bsome _
        rw [e]
        exact RES_w (tabC C (by omega) o3 hd kp2 m2)
      · obtain ⟨u9, v9, g1, g2, g3⟩ := bl o3 (f := 5) (by decide)
        rw [r2, Option.bind_some]
        right
        obtain ⟨w9, z9, k1, k2, k3⟩ := bl h (f := 5) (by decide)
        have hfin : FLs T1 u0 v0 u2 z9 := by
          obtain ⟨⟨f1, f2, f3, f4, f5, f6, f7⟩, f8⟩ := r4
          obtain ⟨⟨e1, e2, e3, e4, e5, e6, e7⟩, e8⟩ := k3
          have hz : z9.1 0 15 = v2.1 0 15 ∧ z9.1 0 16 = v2.1 0 16 := by
            unfold fX12_errs at k2 r3
            rw [if_pos hw0] at k2
            rw [if_pos o3.2.1] at r3
            have k2 := Option.some.inj k2
            have r3 := Option.some.inj r3
            have c12 : (si v 7 j 1).1 0 = v.1 0 := si_ro _ _ (by omega)
            rw [← k2, ← r3]
            refine ⟨by rw [si_1, if_neg (by omega), si_1, if_pos ⟨rfl, rfl⟩, si_1, if_neg (by omega), si_1, if_pos ⟨rfl, rfl⟩], ?_⟩
            rw [si_1, if_pos ⟨rfl, rfl⟩, si_1, if_neg (by omega), si_1, if_pos ⟨rfl, rfl⟩, si_1, if_neg (by omega), c12]
          exact ⟨⟨f1, f2, e3, e4, e5, f6, by rw [hz.1, hz.2]; exact f7⟩, e8⟩
        refine ⟨u2, z9, rfl, ?_, hfin⟩
        unfold rB
        rcases hcase with ⟨rfl, rfl, rfl⟩ | ⟨rfl, rfl, rfl⟩
        · rw [if_pos ⟨r1, s1, by rw [s0]; decide, by rw [s0]; decide, fun h9 => h9.2 o4, by rw [s0]; exact fun h9 => absurd h9.1 (by decide)⟩, k2]
        · rw [if_pos ⟨r1, s1, by rw [s0]; decide, by rw [s0]; decide, by rw [s0]; exact fun h9 => absurd h9.1 (by decide), fun h9 => h9.2 o4⟩, k2]
    · right
      refine ⟨u3, v3, by rw [o1, Option.bind_some]; rfl, ?_, o3⟩
      have e : rB n v = fX12_clause v := by
        unfold rB
        rw [if_neg (fun h9 => ?_)]
        rcases hcase with ⟨rfl, rfl, rfl⟩ | ⟨rfl, rfl, rfl⟩
        · exact h9.2.2.2.2.1 ⟨s0, o4⟩
        · exact h9.2.2.2.2.2 ⟨s0, o4⟩
      rw [e, hcl, o2, Option.bind_some]
      unfold fX12_clause_J61
      rw [if_neg (wr_1 o3.2)]
      unfold fX12_clause_J72
      rw [if_neg (wr_3 o3.2)]
  cases c3 with
  | true =>
    obtain ⟨s1, s0⟩ := q3.mp rfl
    rw [if_pos rfl]
    exact ph 0 11 4 (Or.inl ⟨rfl, rfl, rfl⟩) s1 s0
  | false =>
  rw [if_neg (by decide), p4, Option.bind_some]
  cases c4 with
  | true =>
    obtain ⟨s1, s0⟩ := q4.mp rfl
    rw [if_pos rfl]
    exact ph 1 12 5 (Or.inr ⟨rfl, rfl, rfl⟩) s1 s0
  | false =>
    rw [if_neg (by decide)]
    right
    obtain ⟨u2, v2, b1, b2, b3⟩ := bl h (f := 1) (by decide)
    refine ⟨u2, v2, by rw [b1, Option.bind_some], ?_, b3⟩
    have f0 : ¬ (v.1 0 13 = 1 ∧ v.1 0 14 = 0) := fun h9 => absurd (q0.mpr h9) (by decide)
    have f1 : ¬ (v.1 0 13 = 1 ∧ v.1 0 14 = 1) := fun h9 => absurd (q1.mpr h9) (by decide)
    have f2 : ¬ (v.1 0 13 = 1 ∧ v.1 0 14 = 6) := fun h9 => absurd (q2.mpr h9) (by decide)
    have f3 : ¬ (v.1 0 13 = 1 ∧ v.1 0 14 = 4) := fun h9 => absurd (q3.mpr h9) (by decide)
    have f4 : ¬ (v.1 0 13 = 1 ∧ v.1 0 14 = 5) := fun h9 => absurd (q4.mpr h9) (by decide)
    have hto : v.1 0 13 = 1 → v.1 0 14 = 2 ∨ v.1 0 14 = 3 := fun s1 => by
      obtain ⟨-, -, -, s, e, -, -, -, -, -, -, -, -, w8⟩ := h
      obtain ⟨i, hi, hv⟩ := w8 s1
      rcases (show i = 0 ∨ i = 1 ∨ i = 2 ∨ i = 3 ∨ i = 4 ∨ i = 5 ∨ i = 6 by omega) with rfl | rfl | rfl | rfl | rfl | rfl | rfl
      · exact absurd ⟨s1, hv⟩ f0
      · exact absurd ⟨s1, hv⟩ f1
      · exact absurd ⟨s1, hv⟩ f2
      · exact absurd ⟨s1, hv⟩ f3
      · exact absurd ⟨s1, hv⟩ f4
      · exact Or.inl hv
      · exact Or.inr hv
    unfold rB
    rw [if_neg (fun h9 => by
      rcases hto h9.2.1 with h8 | h8
      · exact h9.2.2.1 h8
      · exact h9.2.2.2.1 h8)]
    unfold fX12_clause
    by_cases s1 : v.1 0 13 = 1
    · rw [if_pos s1]
      rcases hto s1 with h8 | h8
      · rw [if_pos h8, b2, Option.bind_some]
      · rw [h8, if_neg (by decide), if_pos rfl, b2, Option.bind_some]
    · rw [if_neg s1, b2, Option.bind_some]
