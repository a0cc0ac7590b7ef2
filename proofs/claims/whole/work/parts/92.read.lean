theorem rStep {v : Mem} {n : Nat} (hn : n ≤ 20) (h0 : v.1 0 15 = 0) (hs : ¬ v.1 0 13 = 0) (K : Int32 → Mem → Option (Int32 × Mem)) (t : Nat) : fX12_text_L110 K (t + 1) (nI n) v = (rB n v).bind fun w => fX12_text_L110 K t (nI (n + 1)) w := by
  have e20 : nI n = 20 ↔ n = 20 := ⟨fun h => nI_inj (b := 20) (by omega) (by omega) h, fun h => by rw [h]; rfl⟩
  rw [fX12_text_L110, if_neg hs, if_pos h0, Option.bind_some]
  generalize fX12_text_L110 K t = Rc
  have j199 : ∀ (a2 : Int32) (b : Bool), fX12_text_J199 Rc (nI n) a2 b v = ((if n = 20 ∧ ¬ a2 = 0 ∧ b = false then fX12_errs 5 v else fX12_clause v).bind fun w => Rc (nI (n + 1)) w) := fun a2 b => by
    unfold fX12_text_J199
    rw [nI_1]
    by_cases h1 : n = 20
    · rw [if_pos (e20.mpr h1)]
      by_cases h2 : a2 = 0
      · rw [if_pos h2, if_neg (fun h9 => h9.2.1 h2)]
      · rw [if_neg h2]
        cases b
        · rw [if_neg (by decide), if_pos ⟨h1, h2, rfl⟩]
        · rw [if_pos rfl, if_neg (fun h9 => absurd h9.2.2 (by decide))]
    · rw [if_neg (fun h9 => h1 (e20.mp h9)), if_neg (fun h9 => h1 h9.1)]
  unfold rB
  by_cases s1 : v.1 0 13 = 1
  · rw [if_pos s1]
    by_cases t2 : v.1 0 14 = 2
    · rw [if_pos t2, if_pos rfl]
      unfold fX12_text_J198
      rw [j199, if_neg (fun h9 => h9.2.1 rfl), if_neg (fun h9 => h9.2.2.1 t2)]
    · rw [if_neg t2]
      by_cases t3 : v.1 0 14 = 3
      · rw [if_pos t3, if_pos rfl]
        unfold fX12_text_J198
        rw [j199, if_neg (fun h9 => h9.2.1 rfl), if_neg (fun h9 => h9.2.2.2.1 t3)]
      · rw [if_neg t3, if_neg (show ¬ (1 : Int32) = 0 by decide)]
        by_cases t4 : v.1 0 14 = 4
        · rw [if_pos t4]
          have n5 : ¬ v.1 0 14 = 5 := by rw [t4]; decide
          by_cases z : v.1 7 11 = 0
          · rw [if_pos z]
            unfold fX12_text_J176 fX12_text_J198
            rw [if_neg n5, j199]
            by_cases h1 : n = 20
            · rw [if_pos ⟨h1, by decide, rfl⟩, if_pos ⟨h1, s1, t2, t3, fun h9 => h9.2 z, fun h9 => n5 h9.1⟩]
            · rw [if_neg (fun h9 => h1 h9.1), if_neg (fun h9 => h1 h9.1)]
          · rw [if_neg z]
            unfold fX12_text_J194
            rw [j199, if_neg (fun h9 => absurd h9.2.2 (by decide)), if_neg (fun h9 => h9.2.2.2.2.1 ⟨t4, z⟩)]
        · rw [if_neg t4]
          unfold fX12_text_J176
          by_cases t5 : v.1 0 14 = 5
          · rw [if_pos t5, nI_1]
            by_cases h1 : n = 20
            · rw [if_pos (e20.mpr h1), if_neg (show ¬ (1 : Int32) = 0 by decide)]
              by_cases z : v.1 7 12 = 0
              · rw [if_pos z, if_neg (by decide), if_pos ⟨h1, s1, t2, t3, fun h9 => t4 h9.1, fun h9 => h9.2 z⟩]
              · rw [if_neg z, if_pos rfl, if_neg (fun h9 => h9.2.2.2.2.2 ⟨t5, z⟩)]
            · rw [if_neg (fun h9 => h1 (e20.mp h9)), if_neg (fun h9 => h1 h9.1)]
          · rw [if_neg t5]
            unfold fX12_text_J198
            rw [j199]
            by_cases h1 : n = 20
            · rw [if_pos ⟨h1, by decide, rfl⟩, if_pos ⟨h1, s1, t2, t3, fun h9 => t4 h9.1, fun h9 => t5 h9.1⟩]
            · rw [if_neg (fun h9 => h1 h9.1), if_neg (fun h9 => h1 h9.1)]
  · rw [if_neg s1, if_pos rfl]
    unfold fX12_text_J198
    rw [j199, if_neg (fun h9 => h9.2.1 rfl), if_neg (fun h9 => s1 h9.2.1)]
theorem clause_20 {B : Nat → Int} {L T1 : Nat} {u0 v0 u v : Mem} (C : CT B L T1 u0 v0) (h : OKs B L T1 u0 v0 u v) (hn : u.1 (5 * T1) 4 = nI 20) : ∃ u2, fX4_clause u = some (false, u2) := by
  have hT := C.1
  obtain ⟨c0, p0, -⟩ := isW2 C h (i := 0) (by omega)
  obtain ⟨c1, p1, -⟩ := isW2 C h (i := 1) (by omega)
  obtain ⟨c2, p2, -⟩ := isW2 C h (i := 2) (by omega)
  obtain ⟨c3, p3, -⟩ := isW2 C h (i := 3) (by omega)
  obtain ⟨c4, p4, -⟩ := isW2 C h (i := 4) (by omega)
  have full : ∀ {ua va : Mem}, OKs B L T1 u0 v0 ua va → ua.1 (5 * T1) 4 = nI 20 → ∃ u2, fX4_hasRoom ua = some (false, u2) := fun {ua va} ho hna => by
    rcases room C ho hna (by omega) with ⟨r1, -⟩ | ⟨-, u2, -, r2, -⟩
    · omega
    · exact ⟨u2, r2⟩
  obtain ⟨uf, hf⟩ := full h hn
  obtain ⟨ub, vb, b1, -⟩ := bl h (f := 1) (by decide)
  have onb : ∀ (j : Nat) (K : Bool × Mem → Option (Bool × Mem)), j < 18 → ∃ u2, ((fX4_once (nI j) u).bind fun q35 => (if q35.1 = true then ((fX4_hasRoom q35.2).bind fun q38 => (if q38.1 = true then K q38 else (some (false, q38.2)))) else (some (false, q35.2)))) = some (false, u2) := fun j K hj => by
    rcases onc C h (j := j) hj with ⟨o1, -, o3, -⟩ | ⟨u3, -, o1, -⟩
    · obtain ⟨ug, hg⟩ := full o3 (by rw [si_ro _ _ (by omega)]; exact hn)
      exact ⟨ug, by
        rw [o1, Option.bind_some, if_pos rfl]
        show (fX4_hasRoom (si u 185 j 1)).bind _ = _
        rw [hg, Option.bind_some]; rfl⟩
    · exact ⟨u3, by rw [o1, Option.bind_some]; rfl⟩
  unfold fX4_clause
  rw [p0, Option.bind_some]
  cases c0
  · rw [if_neg (by decide), p1, Option.bind_some]
    cases c1
    · rw [if_neg (by decide), p2, Option.bind_some]
      cases c2
      · rw [if_neg (by decide), p3, Option.bind_some]
        cases c3
        · rw [if_neg (by decide), p4, Option.bind_some]
          cases c4
          · rw [if_neg (by decide), b1, Option.bind_some]
            exact ⟨ub, rfl⟩
          · rw [if_pos rfl]
            exact onb 12 _ (by omega)
        · rw [if_pos rfl]
          exact onb 11 _ (by omega)
      · rw [if_pos rfl, hf, Option.bind_some]
        exact ⟨uf, rfl⟩
    · rw [if_pos rfl, hf, Option.bind_some]
      exact ⟨uf, rfl⟩
  · rw [if_pos rfl, hf, Option.bind_some]
    exact ⟨uf, rfl⟩
theorem rd_loop {B : Nat → Int} {L T1 : Nat} {u0 v0 : Mem} (C : CT B L T1 u0 v0) (KX : Mem → Option (Bool × Mem)) (KM : Int32 → Mem → Option (Int32 × Mem)) : ∀ (d n tX tM : Nat) (u v : Mem), n + d = 20 → d < tX → d + 1 < tM → OKs B L T1 u0 v0 u v → DRF T1 u v → u.1 (5 * T1) 4 = nI n → (∃ (n2 : Nat) (u2 v2 : Mem), n2 ≤ 20 ∧ fX4_read_L61 KX tX u = KX u2 ∧ fX12_text_L110 KM tM (nI n) v = KM (nI n2) v2 ∧ OKs B L T1 u0 v0 u2 v2 ∧ DRF T1 u2 v2 ∧ u2.1 (5 * T1) 4 = nI n2) ∨ (∃ (a : Int32) (u2 v2 : Mem), fX4_read_L61 KX tX u = some (false, u2) ∧ fX12_text_L110 KM tM (nI n) v = KM a v2 ∧ FLs T1 u0 v0 u2 v2) := by
  have hT := C.1
  have e20 : (20 : Int32).toInt = 20 := rfl
  intro d
  induction d with
  | zero =>
    intro n tX tM u v hnd t1 t2 h hd hn
    obtain ⟨tX, rfl⟩ : ∃ m, tX = m + 1 := ⟨tX - 1, by omega⟩
    obtain ⟨tM, rfl⟩ : ∃ m, tM = m + 2 := ⟨tM - 2, by omega⟩
    have hn20 : n = 20 := by omega
    subst hn20
    have t5 : (u.1 184 2).toNatClampNeg = T1 := by rw [h.1.2.2.2.2.2.1.1, cl_n (by omega)]
    have hend : u.1 184 3 = 0 ↔ v.1 0 13 = 0 := by
      obtain ⟨-, -, -, s, e, -, w1, -⟩ := h
      exact w1
    by_cases h0 : u.1 184 3 = 0
    · left
      exact ⟨20, u, v, by omega, by rw [fX4_read_L61, if_pos h0], by rw [fX12_text_L110, if_pos (hend.mp h0)], h, hd, hn⟩
    · right
      obtain ⟨u9, h9⟩ := clause_20 C h hn
      rcases clauseC C h hd hn (by omega) with ⟨u2, v2, r1, r2, r3, r4, r5⟩ | ⟨u2, v2, r1, r2, r3⟩
      · rw [h9] at r1
        have := Option.some.inj r1
        injection this with h1 h2
        exact absurd h1 (by decide)
      · refine ⟨nI 21, u2, v2, ?_, ?_, r3⟩
        · rw [fX4_read_L61, if_neg h0, t5, if_pos (show T1 < 32 by omega), hn, if_neg (by decide), r1, Option.bind_some]; rfl
        · rw [rStep (by omega) h.2.1 (fun h8 => h0 (hend.mpr h8)), r2, Option.bind_some, fX12_text_L110]
          by_cases h8 : v2.1 0 13 = 0
          · rw [if_pos h8]
          · rw [if_neg h8, if_neg (wr_1 r3.2)]
  | succ d ih =>
    intro n tX tM u v hnd t1 t2 h hd hn
    obtain ⟨tX, rfl⟩ : ∃ m, tX = m + 1 := ⟨tX - 1, by omega⟩
    obtain ⟨tM, rfl⟩ : ∃ m, tM = m + 2 := ⟨tM - 2, by omega⟩
    have t5 : (u.1 184 2).toNatClampNeg = T1 := by rw [h.1.2.2.2.2.2.1.1, cl_n (by omega)]
    have hend : u.1 184 3 = 0 ↔ v.1 0 13 = 0 := by
      obtain ⟨-, -, -, s, e, -, w1, -⟩ := h
      exact w1
    by_cases h0 : u.1 184 3 = 0
    · left
      exact ⟨n, u, v, by omega, by rw [fX4_read_L61, if_pos h0], by rw [fX12_text_L110, if_pos (hend.mp h0)], h, hd, hn⟩
    · have hX : fX4_read_L61 KX (tX + 1) u = ((fX4_clause u).bind fun q12 => (if q12.1 = true then (if (q12.2.1 184 2).toNatClampNeg < 32 then ((some (si q12.2 (5 * ((q12.2.1 184 2).toNatClampNeg)) 4 ((q12.2.1 (5 * ((q12.2.1 184 2).toNatClampNeg)) 4) + 1))).bind fun u15 => fX4_read_L61 KX tX u15) else none) else (some (false, q12.2)))) := by
        rw [fX4_read_L61, if_neg h0, t5, if_pos (show T1 < 32 by omega), hn, if_neg (by rw [i_lt, nI_n (by omega)]; omega)]
      rw [hX, rStep (by omega) h.2.1 (fun h8 => h0 (hend.mpr h8))]
      rcases clauseC C h hd hn (by omega) with ⟨u2, v2, r1, r2, r3, r4, r5⟩ | ⟨u2, v2, r1, r2, r3⟩
      · have t6 : (u2.1 184 2).toNatClampNeg = T1 := by rw [r3.1.2.2.2.2.2.1.1, cl_n (by omega)]
        have hn2 : u2.1 (5 * T1) 4 = nI n := by rw [r5]; exact hn
        have ok3 : OKs B L T1 u0 v0 (si u2 (5 * T1) 4 (nI (n + 1))) v2 := OK_D hT r3 (fun j hj => si_ro _ _ (by omega)) rfl (fun j hj => rfl) rfl
        have hd3 : DRF T1 (si u2 (5 * T1) 4 (nI (n + 1))) v2 := by
          obtain ⟨⟨l1, l2, l3, l4⟩, o⟩ := r4
          exact ⟨⟨fun k hk => by rw [si_ro _ _ (by omega)]; exact l1 k hk, fun c hc j hj => by rw [si_ro _ _ (by omega)]; exact l2 c hc j hj, fun i hi => by rw [si_ro _ _ (by omega)]; exact l3 i hi, fun i hi p hp j hj => by rw [si_ro _ _ (by omega)]; exact l4 i hi p hp j hj⟩, o⟩
        have := ih (n + 1) tX (tM + 1) _ v2 (by omega) (by omega) (by omega) ok3 hd3 (by rw [si_1, if_pos ⟨rfl, rfl⟩])
        have hc : ((fX4_clause u).bind fun q12 => (if q12.1 = true then (if (q12.2.1 184 2).toNatClampNeg < 32 then ((some (si q12.2 (5 * ((q12.2.1 184 2).toNatClampNeg)) 4 ((q12.2.1 (5 * ((q12.2.1 184 2).toNatClampNeg)) 4) + 1))).bind fun u15 => fX4_read_L61 KX tX u15) else none) else (some (false, q12.2)))) = fX4_read_L61 KX tX (si u2 (5 * T1) 4 (nI (n + 1))) := by
          rw [r1, Option.bind_some, if_pos rfl]
          show (if (u2.1 184 2).toNatClampNeg < 32 then ((some (si u2 (5 * ((u2.1 184 2).toNatClampNeg)) 4 ((u2.1 (5 * ((u2.1 184 2).toNatClampNeg)) 4) + 1))).bind fun u15 => fX4_read_L61 KX tX u15) else none) = _
          rw [t6, if_pos (show T1 < 32 by omega), hn2, nI_1, Option.bind_some]
        rw [hc, r2, Option.bind_some]
        exact this
      · right
        refine ⟨nI (n + 1), u2, v2, by rw [r1, Option.bind_some]; rfl, ?_, r3⟩
        rw [r2, Option.bind_some, fX12_text_L110]
        by_cases h8 : v2.1 0 13 = 0
        · rw [if_pos h8]
        · rw [if_neg h8, if_neg (wr_1 r3.2)]
theorem bal_loop {T1 : Nat} {u v : Mem} (h : DRF T1 u v) : ∀ (d c tX tM : Nat), c + d = 5 → d < tX → d < tM → ∃ b : Bool, fX3_isBalanced_L2 T1 u tX (nI c) = some b ∧ ∀ a : Bool, fX12_isEven_L4 v tM a (nI c) = some (a && b) := by
  have e5 : (5 : Int32).toInt = 5 := rfl
  obtain ⟨hL, hO⟩ := h
  intro d
  induction d with
  | zero =>
    intro c tX tM hc t1 t2
    obtain ⟨tX, rfl⟩ : ∃ m, tX = m + 1 := ⟨tX - 1, by omega⟩
    obtain ⟨tM, rfl⟩ : ∃ m, tM = m + 1 := ⟨tM - 1, by omega⟩
    have : c = 5 := by omega
    subst this
    exact ⟨true, by rw [fX3_isBalanced_L2, if_pos (by decide)], fun a => by rw [fX12_isEven_L4, if_pos (by decide), Bool.and_true]⟩
  | succ d ih =>
    intro c tX tM hc t1 t2
    obtain ⟨tX, rfl⟩ : ∃ m, tX = m + 1 := ⟨tX - 1, by omega⟩
    obtain ⟨tM, rfl⟩ : ∃ m, tM = m + 1 := ⟨tM - 1, by omega⟩
    obtain ⟨b, p1, p2⟩ := ih (c + 1) tX tM (by omega) (by omega) (by omega)
    have n5 : ¬ (5 : Int32) ≤ nI c := by rw [i_le, nI_n (by omega)]; omega
    have o0 : fX3_ofChain T1 (nI c) 0 u = some (v.1 8 (6 + 6 * c + 1)) := ofcX hL (by omega) (j := 0) (by omega)
    have o1 : fX3_ofChain T1 (nI c) 1 u = some (v.1 8 (6 + 6 * c + 2)) := ofcX hL (by omega) (j := 1) (by omega)
    have o2 : fX3_ofChain T1 (nI c) 2 u = some (v.1 8 (6 + 6 * c + 3)) := ofcX hL (by omega) (j := 2) (by omega)
    have o3 : fX3_ofChain T1 (nI c) 3 u = some (v.1 8 (6 + 6 * c + 4)) := ofcX hL (by omega) (j := 3) (by omega)
    have hk : ∃ k1 k2 : Nat, k1 < 6 ∧ k2 < 6 ∧ v.1 8 (6 + 6 * c + 1) = nI k1 ∧ v.1 8 (6 + 6 * c + 3) = nI k2 ∧ (v.1 8 (6 + 6 * c) = 0 → v.1 8 (6 + 6 * c + 2) = 0 ∧ v.1 8 (6 + 6 * c + 4) = 0 ∧ k1 = 0 ∧ k2 = 0) := by
      rcases hO.2.1 c (by omega) with h1 | h1
      · have z : ∀ j, j < 5 → v.1 8 (6 + 6 * c + (1 + j)) = 0 := h1.2
        exact ⟨0, 0, by omega, by omega, z 0 (by omega), z 2 (by omega), fun _ => ⟨z 1 (by omega), z 3 (by omega), rfl, rfl⟩⟩
      · have h2 : v.1 8 (6 + 6 * c) = 1 := h1.1
        obtain ⟨r1, r2, r3, -⟩ := chR hO (by omega) h2
        exact ⟨_, _, by omega, by omega, i_nat r1.1, i_nat r3.1, fun h9 => by rw [h2] at h9; exact absurd h9 (by decide)⟩
    obtain ⟨k1, k2, l1, l2, g1, g2, gz⟩ := hk
    have bb := fun (m : Nat) (hm : m < 220) => inB_n (i := m) (n := 220) hm (by omega)
    have e0 : (6 : Int32) + 6 * nI c = nI (6 + 6 * c) := by rw [show (6 : Int32) = nI 6 from rfl, pk_mul, nI_add]
    have j1 : nI (6 + 6 * c) + 1 = nI (6 + 6 * c + 1) := nI_add _ 1
    have j2 : nI (6 + 6 * c) + 2 = nI (6 + 6 * c + 2) := nI_add _ 2
    have j3 : nI (6 + 6 * c) + 3 = nI (6 + 6 * c + 3) := nI_add _ 3
    have j4 : nI (6 + 6 * c) + 4 = nI (6 + 6 * c + 4) := nI_add _ 4
    have hX : fX3_isBalanced_L2 T1 u (tX + 1) (nI c) = if v.1 8 (6 + 6 * c + 2) * (if v.1 8 k1 = 0 then 1 else v.1 8 k1) = v.1 8 (6 + 6 * c + 4) * (if v.1 8 k2 = 0 then 1 else v.1 8 k2) then fX3_isBalanced_L2 T1 u tX (nI (c + 1)) else some false := by
      rw [fX3_isBalanced_L2, if_neg n5, o1, Option.bind_some, o0, Option.bind_some, g1, if_pos (inB_n (i := k1) (n := 6) l1 (by omega)), o3, Option.bind_some, o2, Option.bind_some, g2, if_pos (inB_n (i := k2) (n := 6) l2 (by omega)), cl_n (by omega), cl_n (by omega), hL.1 k1 l1, hL.1 k2 l2, nI_1]
    have hM : ∀ a : Bool, fX12_isEven_L4 v (tM + 1) a (nI c) = if a = true then (if v.1 8 (6 + 6 * c) = 0 then fX12_isEven_L4 v tM true (nI (c + 1)) else fX12_isEven_L4 v tM (if v.1 8 (6 + 6 * c + 2) * (if v.1 8 k1 = 0 then 1 else v.1 8 k1) = v.1 8 (6 + 6 * c + 4) * (if v.1 8 k2 = 0 then 1 else v.1 8 k2) then true else false) (nI (c + 1))) else fX12_isEven_L4 v tM false (nI (c + 1)) := fun a => by
      rw [fX12_isEven_L4, if_neg n5, e0, j1, j2, j3, j4, if_pos (bb (6 + 6 * c + 1) (by omega)), cl_n (show 6 + 6 * c + 1 < 2147483648 by omega), g1, if_pos (bb k1 (by omega)), if_pos (bb (6 + 6 * c + 3) (by omega)), cl_n (show 6 + 6 * c + 3 < 2147483648 by omega), g2, if_pos (bb k2 (by omega)), if_pos (bb (6 + 6 * c) (by omega)), if_pos (bb (6 + 6 * c + 2) (by omega)), Option.bind_some, if_pos (bb (6 + 6 * c + 4) (by omega)), Option.bind_some, cl_n (show 6 + 6 * c < 2147483648 by omega), cl_n (show 6 + 6 * c + 2 < 2147483648 by omega), cl_n (show 6 + 6 * c + 4 < 2147483648 by omega), cl_n (show k1 < 2147483648 by omega), cl_n (show k2 < 2147483648 by omega), nI_1]
    by_cases he : v.1 8 (6 + 6 * c + 2) * (if v.1 8 k1 = 0 then 1 else v.1 8 k1) = v.1 8 (6 + 6 * c + 4) * (if v.1 8 k2 = 0 then 1 else v.1 8 k2)
    · refine ⟨b, by rw [hX, if_pos he]; exact p1, fun a => ?_⟩
      rw [hM]
      cases a
      · rw [if_neg (by decide)]; exact p2 false
      · rw [if_pos rfl, if_pos he]
        by_cases hz : v.1 8 (6 + 6 * c) = 0
        · rw [if_pos hz]; exact p2 true
        · rw [if_neg hz]; exact p2 true
    · refine ⟨false, by rw [hX, if_neg he], fun a => ?_⟩
      rw [hM, Bool.and_false]
      cases a
      · rw [if_neg (by decide), p2 false, Bool.false_and]
      · rw [if_pos rfl, if_neg he]
        by_cases hz : v.1 8 (6 + 6 * c) = 0
        · obtain ⟨y1, y2, y3, y4⟩ := gz hz
          rw [y1, y2, y3, y4] at he
          exact absurd rfl he
        · rw [if_neg hz, p2 false, Bool.false_and]
theorem bal {T1 : Nat} {u v : Mem} (h : DRF T1 u v) : ∃ b : Bool, fX3_isBalanced T1 u = some b ∧ fX12_isEven v = some b := by
  obtain ⟨b, p1, p2⟩ := bal_loop h 5 0 fu0 fu0 (by omega) (fu_n (by omega)) (fu_n (by omega))
  exact ⟨b, p1, p2 true⟩
