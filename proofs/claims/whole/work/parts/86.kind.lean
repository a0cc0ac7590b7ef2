def DRF (T1 : Nat) (u v : Mem) : Prop := relL u T1 (v.1 8) ∧ lawOk (v.1 8)
theorem DRF_K {T1 : Nat} {u v u2 v2 : Mem} (h : DRF T1 u v) (k : KP T1 u v u2 v2) : DRF T1 u2 v2 := by
  unfold DRF at *
  rw [k.2]
  exact ⟨relL_fr (u := u) (fun r hr => k.1 _ (by omega) (by omega)) h.1, h.2⟩
theorem DRF_w {T1 : Nat} {u v : Mem} (h : DRF T1 u v) {k X : Nat} (hk : k < 6) (hX : 1 ≤ X ∧ X ≤ 99) : DRF T1 (si u (5 * T1 + 1) k (nI X)) (si v 8 k (nI X)) := by
  obtain ⟨⟨l1, l2, l3, l4⟩, o1, o2, o3⟩ := h
  have vo : ∀ j, j ≠ k → (si v 8 k (nI X)).1 8 j = v.1 8 j := fun j hj => by rw [si_1, if_neg (by omega)]
  have vk : (si v 8 k (nI X)).1 8 k = nI X := by rw [si_1, if_pos ⟨rfl, rfl⟩]
  have nz : ¬ nI X = 0 := nI_nz (by omega) (by omega)
  refine ⟨⟨fun j hj => ?_, fun c hc j hj => ?_, fun n hn => ?_, fun n hn p hp j hj => ?_⟩, fun j hj => ?_, fun c hc => ?_, fun t ht => ?_⟩
  · by_cases h9 : j = k
    · rw [h9, vk, if_neg nz, si_1, if_pos ⟨rfl, rfl⟩]
    · rw [vo j h9, si_1, if_neg (by omega)]; exact l1 j hj
  · rw [vo _ (by omega), si_ro _ _ (by omega)]; exact l2 c hc j hj
  · rw [vo _ (by omega), si_ro _ _ (by omega)]; exact l3 n hn
  · rw [vo _ (by omega)] at hp
    rw [vo _ (by omega), si_ro _ _ (by omega)]; exact l4 n hn p hp j hj
  · by_cases h9 : j = k
    · rw [h9, vk, nI_n (by omega)]; omega
    · rw [vo j h9]; exact o1 j hj
  · have e : (fun k2 => (si v 8 k (nI X)).1 8 (6 + 6 * c + k2)) = fun k2 => v.1 8 (6 + 6 * c + k2) := funext fun k2 => vo _ (by omega)
    rw [e]; exact o2 c hc
  · have e : (fun k2 => (si v 8 k (nI X)).1 8 (36 + 25 * t + k2)) = fun k2 => v.1 8 (36 + 25 * t + k2) := funext fun k2 => vo _ (by omega)
    rw [e]; exact o3 t ht
/-- what a clause comes to -/
def RES (B : Nat → Int) (L T1 : Nat) (u0 v0 u : Mem) (cX : Option (Bool × Mem)) (cM : Option Mem) : Prop := (∃ u2 v2, cX = some (true, u2) ∧ cM = some v2 ∧ OKs B L T1 u0 v0 u2 v2 ∧ DRF T1 u2 v2 ∧ u2.1 (5 * T1) = u.1 (5 * T1)) ∨ (∃ u2 v2, cX = some (false, u2) ∧ cM = some v2 ∧ FLs T1 u0 v0 u2 v2)
theorem FL_8 {T1 : Nat} {u0 v0 u v : Mem} (h : FLs T1 u0 v0 u v) (j : Nat) (x : Int32) : FLs T1 u0 v0 u (si v 8 j x) := by
  obtain ⟨⟨g1, g2, g3, g4, g5, g6, g7⟩, g8⟩ := h
  exact ⟨⟨g1, g2, fun k a b c => by rw [si_ro _ _ c]; exact g3 k a b c, g4, fun i hi => by rw [si_ro _ _ (by omega)]; exact g5 i hi, g6, by rw [si_ro _ _ (by omega)]; exact g7⟩, by rw [si_ro _ _ (by omega)]; exact g8⟩
/-- the last sign of a clause -/
theorem endC {B : Nat → Int} {L T1 : Nat} {u0 v0 us u v : Mem} (C : CT B L T1 u0 v0) (h : OKs B L T1 u0 v0 u v) (hd : DRF T1 u v) (he : u.1 (5 * T1) = us.1 (5 * T1)) : RES B L T1 u0 v0 us ((fX4_takeSign 59 u).bind fun q => (some (q.1, q.2))) (fX12_takes 4 59 v) := by
  rcases tkS C h (c := 59) (Or.inr (Or.inr rfl)) with ⟨u2, v2, x1, x2, x3, x4, x5⟩ | ⟨u2, v2, x1, x2, x3⟩
  · left
    exact ⟨u2, v2, by rw [x1, Option.bind_some], x2, x3, DRF_K hd x4, by rw [x4.1 _ (by omega) (by omega)]; exact he⟩
  · right
    exact ⟨u2, v2, by rw [x1, Option.bind_some], x2, x3⟩
theorem kindC {B : Nat → Int} {L T1 : Nat} {u0 v0 u v : Mem} (C : CT B L T1 u0 v0) (h : OKs B L T1 u0 v0 u v) (hd : DRF T1 u v) : RES B L T1 u0 v0 u (fX4_kindClause u) ((fX12_next v).bind fun w => (fX12_kindClause w).bind fun w2 => fX12_takes 4 59 w2) := by
  have hT := C.1
  obtain ⟨u1, v1, n1, n2, h1, k1, -⟩ := nx C h
  unfold fX4_kindClause fX12_kindClause
  rw [n1, Option.bind_some, n2, Option.bind_some]
  rcases atK C h1 with ⟨k, k6, a1, a2, a3⟩ | ⟨u2, v2, a1, a2, a3⟩
  · rw [a1, Option.bind_some, a2, Option.bind_some, if_pos rfl, if_pos h1.2.1]
    have s6 : (si u1 184 6 (nI k)).1 184 6 = nI k := by rw [si_1, if_pos ⟨rfl, rfl⟩]
    show RES B L T1 u0 v0 u ((fX4_once ((si u1 184 6 (nI k)).1 184 6) (si u1 184 6 (nI k))).bind _) (((fX12_once (nI k) v1).bind _).bind _)
    rw [s6]
    rcases onc C a3 (j := k) (by omega) with ⟨o1, o2, o3, -⟩ | ⟨u3, v3, o1, o2, o3, -⟩
    · rw [o1, Option.bind_some, o2, Option.bind_some, if_pos rfl]
      have hk7 : (si (si u1 184 6 (nI k)) 185 k 1).1 184 6 = nI k := by rw [si_ro _ _ (by omega)]; exact s6
      unfold fX12_kindClause_J17
      rw [if_pos o3.2.1]
      have kp2 : KP T1 u1 v1 (si (si u1 184 6 (nI k)) 185 k 1) (si v1 7 k 1) := ⟨fun j a b => by rw [si_ro _ _ (by omega), si_ro _ _ (by omega)], si_ro _ _ (by omega)⟩
      generalize si (si u1 184 6 (nI k)) 185 k 1 = u3 at *
      generalize si v1 7 k 1 = v3 at *
      obtain ⟨u4, v4, m1, m2, m3, m4, -⟩ := nx C o3
      show RES B L T1 u0 v0 u ((fX4_next u3).bind _) (((fX12_next v3).bind _).bind _)
      rw [m1, Option.bind_some, m2, Option.bind_some]
      have b220 : inB (nI k) 220 := inB_n (by omega) (by omega)
      rcases tkN C m3 (lo := 1) (hi := 99) (by omega) (by omega) with ⟨X, u5, v5, x1, x2, x3, x4, x5, x6, x7⟩ | ⟨u5, v5, x1, x2, x3⟩
      · have x3 : fX4_takeNumber 1 99 u4 = some (true, u5) := x3
        have x4 : fX12_number 1 99 v4 = some (nI X, v5) := x4
        rw [x3, Option.bind_some, if_pos rfl, x4, Option.bind_some]
        show RES B L T1 u0 v0 u (if (u5.1 184 2).toNatClampNeg < 32 then (if inB (u3.1 184 6) 6 then ((some (si u5 (5 * ((u5.1 184 2).toNatClampNeg) + 1) (u3.1 184 6).toNatClampNeg (u5.1 184 7))).bind fun u15 => ((fX4_takeSign 59 u15).bind fun q17 => (some (q17.1, q17.2)))) else none) else none) ((if inB (nI k) 220 then some (si v5 8 (nI k).toNatClampNeg (nI X)) else none).bind fun w2 => fX12_takes 4 59 w2)
        rw [x5.1.2.2.2.2.2.1.1, cl_n (show T1 < 2147483648 by omega), if_pos (show T1 < 32 by omega), hk7, if_pos (inB_n (i := k) (n := 6) k6 (by omega)), if_pos b220, cl_n (show k < 2147483648 by omega), x7, Option.bind_some, Option.bind_some]
        have hkp := KP_tr (KP_tr (KP_tr k1 kp2) m4) x6
        refine endC C (OK_D hT x5 (fun j hj => si_ro _ _ (by omega)) rfl (fun j hj => si_ro _ _ hj) rfl) (DRF_w (DRF_K hd hkp) k6 ⟨x1, x2⟩) ?_
        rw [si_ro _ _ (by omega)]; exact hkp.1 _ (by omega) (by omega)
      · have x1 : fX4_takeNumber 1 99 u4 = some (false, u5) := x1
        have x2 : fX12_number 1 99 v4 = some (nI 1, v5) := x2
        rw [x1, Option.bind_some, x2, Option.bind_some]
        right
        have f8 := FL_8 x3 k (nI 1)
        refine ⟨u5, si v5 8 k (nI 1), rfl, ?_, f8⟩
        show (if inB (nI k) 220 then some (si v5 8 (nI k).toNatClampNeg (nI 1)) else none).bind (fun w2 => fX12_takes 4 59 w2) = _
        rw [if_pos b220, cl_n (show k < 2147483648 by omega), Option.bind_some, tak_no f8.2]
    · rw [o1, Option.bind_some, o2, Option.bind_some]
      right
      refine ⟨u3, v3, rfl, ?_, o3⟩
      unfold fX12_kindClause_J17
      rw [if_neg (wr_1 o3.2), Option.bind_some, tak_no o3.2]
  · rw [a1, Option.bind_some, a2, Option.bind_some]
    right
    refine ⟨u2, v2, rfl, ?_, a3⟩
    rw [if_neg (wr_1 a3.2)]
    unfold fX12_kindClause_J17
    rw [if_neg (wr_1 a3.2), Option.bind_some, tak_no a3.2]
theorem tkK {B : Nat → Int} {L T1 : Nat} {u0 v0 u v : Mem} (C : CT B L T1 u0 v0) (h : OKs B L T1 u0 v0 u v) (o : Int32) : (∃ (k : Nat) (u2 v2 : Mem), k < 6 ∧ ¬ nI k = o ∧ fX4_takeKind o u = some (true, u2) ∧ fX12_kindOf v = some (nI k, v) ∧ fX12_next v = some v2 ∧ OKs B L T1 u0 v0 u2 v2 ∧ KP T1 u v u2 v2 ∧ u2.1 184 7 = nI k) ∨ (∃ (k : Nat) (u2 v2 : Mem), k < 6 ∧ nI k = o ∧ fX4_takeKind o u = some (false, u2) ∧ fX12_kindOf v = some (nI k, v) ∧ fX12_errs 3 v = some v2 ∧ FLs T1 u0 v0 u2 v2) ∨ (∃ u2 v2, fX4_takeKind o u = some (false, u2) ∧ fX12_kindOf v = some (0, v2) ∧ FLs T1 u0 v0 u2 v2) := by
  have hT := C.1
  unfold fX4_takeKind
  rcases atK C h with ⟨k, k6, a1, a2, a3⟩ | ⟨u2, v2, a1, a2, a3⟩
  · have s6 : (si u 184 6 (nI k)).1 184 6 = nI k := by rw [si_1, if_pos ⟨rfl, rfl⟩]
    rw [a1, Option.bind_some, if_pos rfl]
    by_cases ho : nI k = o
    · right; left
      obtain ⟨u2, v2, c1, c2, c3⟩ := bl a3 (f := 3) (by decide)
      refine ⟨k, u2, v2, k6, ho, ?_, a2, c2, c3⟩
      show (if (si u 184 6 (nI k)).1 184 6 = o then ((fX4_blame 3 (si u 184 6 (nI k))).bind fun q7 => (some (q7.1, q7.2))) else _) = _
      rw [s6, if_pos ho, c1, Option.bind_some]
    · left
      obtain ⟨u2, v2, n1, n2, n3, n4, n5⟩ := nx C (OK_7 a3 (nI k))
      refine ⟨k, u2, v2, k6, ho, ?_, a2, n2, n3, KP_tr ⟨fun j a b => by rw [si_ro _ _ (by omega), si_ro _ _ (by omega)], rfl⟩ n4, by rw [n5, si_1, if_pos ⟨rfl, rfl⟩]⟩
      show (if (si u 184 6 (nI k)).1 184 6 = o then _ else ((fX4_next (si (si u 184 6 (nI k)) 184 7 ((si u 184 6 (nI k)).1 184 6))).bind fun u9 => (some (true, u9)))) = _
      rw [s6, if_neg ho, n1, Option.bind_some]
  · right; right
    exact ⟨u2, v2, by rw [a1, Option.bind_some]; rfl, a2, a3⟩
