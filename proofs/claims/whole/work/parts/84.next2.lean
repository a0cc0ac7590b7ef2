theorem blk_use {B : Nat → Int} {L p : Nat} {u v : Mem} {Q : Mem → Mem → Prop} (KX KM : Mem → Option Mem) (hp : p ≤ L) (hT : TP B L u v) (hx : u.1 184 4 = nI p) (hm : v.1 0 11 = nI p) (h : ∀ (s : Nat) (u5 v5 : Mem), s ≤ L → dX u u5 → dM v v5 → u5.1 184 4 = nI s → v5.1 0 11 = nI s → ∃ u2 v2, KX u5 = some u2 ∧ KM v5 = some v2 ∧ Q u2 v2) : ∃ u2 v2, fX4_next_L8 KX fu0 u = some u2 ∧ fX12_next_L0 KM fu0 v = some v2 ∧ Q u2 v2 := by
  have hL := hT.2.2.1
  obtain ⟨s, u5, v5, r1, r2, r3, r4, r5, r6, r7⟩ := blk_loop KX KM (L - p) p fu0 fu0 u v (by omega) (fu_n (by omega)) (fu_n (by omega)) hT hx hm
  rw [r2, r3]
  exact h s u5 v5 r1 r4 r5 r6 r7
theorem ltr_use {B : Nat → Int} {L s : Nat} {u v : Mem} {Q : Mem → Mem → Prop} (a1 : Int32) (KM : Int64 → Int32 → Mem → Option Mem) (hs : s < L) (hl : isL (B s) = true) (hT : TP B L u v) (hx : u.1 184 5 = nI s) (hv : v.1 0 11 = nI s) (h : ∀ (m : Nat) (ac : Int64) (u2 v2 : Mem), 1 ≤ m → s + m ≤ L → (∀ j, j < m → isL (B (s + j)) = true) → (m ≤ 8 → ac = zL (pkz B s m)) → (dX u u2 ∧ u2.1 184 5 = nI (s + m) ∧ ∀ j, j ≠ 5 → u2.1 184 j = u.1 184 j) → (dM v v2 ∧ v2.1 0 11 = nI (s + m) ∧ ∀ j, j ≠ 11 → v2.1 0 j = v.1 0 j) → ∃ v3, KM ac (nI m) v2 = some v3 ∧ Q u2 v3) : ∃ u2 v2, fX4_next_L111 fu0 u = some u2 ∧ fX12_next_L99 a1 KM fu0 0 0 v = some v2 ∧ Q u2 v2 := by
  have hL := hT.2.2.1
  obtain ⟨e, ac2, u2, v2, r1, r2, r3, r4, r5, r6, r7, r8, r9⟩ := ltr_loop (B := B) (s := s) a1 KM (L - s) s 0 fu0 fu0 0 u v (by omega) (fu_n (by omega)) (fu_n (by omega)) (by omega) hT hx hv (fun j hj => by omega) (fun _ => rfl)
  have r10 := r9 hs (by unfold isL at hl; exact decide_eq_true_iff.mp hl)
  have es : s + (e - s) = e := by omega
  obtain ⟨v3, q1, q2⟩ := h (e - s) ac2 u2 v2 (by omega) (by omega) r5 r6 (by rw [es]; exact r7) (by rw [es]; exact r8)
  have r4 : fX12_next_L99 a1 KM fu0 0 0 v = KM ac2 (nI (e - s)) v2 := r4
  exact ⟨u2, v3, r3, by rw [r4]; exact q1, q2⟩
theorem dgt_use {B : Nat → Int} {L s : Nat} {u v : Mem} {Q : Mem → Mem → Prop} (hs : s ≤ L) (hT : TP B L u v) (hx : u.1 184 5 = nI s) (hv : v.1 0 11 = nI s) (hn : NR (u.1 184 6) (v.1 0 14)) (h : ∀ (e : Nat) (u2 v2 : Mem), s ≤ e → e ≤ L → (dX u u2 ∧ u2.1 184 5 = nI e ∧ ∀ j, j ≠ 5 → j ≠ 6 → u2.1 184 j = u.1 184 j) → (dM v v2 ∧ v2.1 0 11 = nI e ∧ ∀ j, j ≠ 11 → j ≠ 14 → v2.1 0 j = v.1 0 j) → NR (u2.1 184 6) (v2.1 0 14) → Q u2 v2) : ∃ u2 v2, fX4_next_L179 fu0 u = some u2 ∧ fX12_next_L270 fu0 v = some v2 ∧ Q u2 v2 := by
  have hL := hT.2.2.1
  obtain ⟨e, u2, v2, r1, r2, r3, r4, r5, r6, r7⟩ := dgt_loop (B := B) (L - s) s fu0 fu0 u v (by omega) (fu_n (by omega)) (fu_n (by omega)) hT hx hv hn
  exact ⟨u2, v2, r3, r4, h e u2 v2 r1 r2 r5 r6 r7⟩
/-- a token of both readers -/
def TW (B : Nat → Int) (s e : Nat) (t x so to : Int32) : Prop := (t = 0 ↔ so = 0) ∧ (t = 2 ↔ so = 3) ∧ (so = 3 → NR x to) ∧ (∀ c : Int32, c = 61 ∨ c = 44 ∨ c = 59 → (t = c ↔ so = 4 ∧ to = c)) ∧ (∀ i, i < 7 → ((t = 1 ∧ wdM B s e i) ↔ (so = 1 ∧ to = nI (wdm i)))) ∧ ((t = 1 ∧ e = s + 1 ∧ 65 ≤ B s ∧ B s ≤ 70) ↔ so = 2) ∧ (so = 2 → to = zI (B s - 65)) ∧ (so = 1 → ∃ i, i < 7 ∧ to = nI (wdm i))
def TK (B : Nat → Int) (L : Nat) (u v : Mem) : Prop := ∃ s e : Nat, (u.1 184 4 = nI s ∧ u.1 184 5 = nI e ∧ v.1 0 12 = nI s ∧ v.1 0 11 = nI e ∧ s ≤ e ∧ e ≤ L) ∧ TW B s e (u.1 184 3) (u.1 184 6) (v.1 0 13) (v.1 0 14)
theorem cst_inj : ∀ i, i < 7 → ∀ j, j < 7 → cst i = cst j → i = j := by decide
theorem wdm_inj : ∀ i, i < 7 → ∀ j, j < 7 → nI (wdm i) = nI (wdm j) → i = j := by decide
theorem TW_end (B : Nat → Int) (s e : Nat) (x to : Int32) : TW B s e 0 x 0 to := by
  refine ⟨by decide, by decide, fun h => absurd h (by decide), fun c hc => ⟨fun h => ?_, fun h => absurd h.1 (by decide)⟩, fun i hi => ⟨fun h => absurd h.1 (by decide), fun h => absurd h.1 (by decide)⟩, ⟨fun h => absurd h.1 (by decide), fun h => absurd h (by decide)⟩, fun h => absurd h (by decide), fun h => absurd h (by decide)⟩
  rcases hc with rfl | rfl | rfl <;> exact absurd h (by decide)
theorem TW_num (B : Nat → Int) (s e : Nat) {x to : Int32} (h : NR x to) : TW B s e 2 x 3 to := by
  refine ⟨by decide, by decide, fun _ => h, fun c hc => ⟨fun h => ?_, fun h => absurd h.1 (by decide)⟩, fun i hi => ⟨fun h => absurd h.1 (by decide), fun h => absurd h.1 (by decide)⟩, ⟨fun h => absurd h.1 (by decide), fun h => absurd h (by decide)⟩, fun h => absurd h (by decide), fun h => absurd h (by decide)⟩
  rcases hc with rfl | rfl | rfl <;> exact absurd h (by decide)
theorem TW_bad (B : Nat → Int) (s e : Nat) (x to : Int32) : TW B s e 3 x 5 to := by
  refine ⟨by decide, by decide, fun h => absurd h (by decide), fun c hc => ⟨fun h => ?_, fun h => absurd h.1 (by decide)⟩, fun i hi => ⟨fun h => absurd h.1 (by decide), fun h => absurd h.1 (by decide)⟩, ⟨fun h => absurd h.1 (by decide), fun h => absurd h (by decide)⟩, fun h => absurd h (by decide), fun h => absurd h (by decide)⟩
  rcases hc with rfl | rfl | rfl <;> exact absurd h (by decide)
theorem TW_sgn (B : Nat → Int) (s e : Nat) (x : Int32) {t : Int32} (ht : t = 61 ∨ t = 44 ∨ t = 59) : TW B s e t x 4 t := by
  have n1 : ¬ t = 1 := by rcases ht with rfl | rfl | rfl <;> decide
  refine ⟨⟨fun h => ?_, fun h => absurd h (by decide)⟩, ⟨fun h => ?_, fun h => absurd h (by decide)⟩, fun h => absurd h (by decide), fun c hc => ⟨fun h => ⟨rfl, h⟩, fun h => h.2⟩, fun i hi => ⟨fun h => absurd h.1 n1, fun h => absurd h.1 (by decide)⟩, ⟨fun h => absurd h.1 n1, fun h => absurd h (by decide)⟩, fun h => absurd h (by decide), fun h => absurd h (by decide)⟩
  · rcases ht with rfl | rfl | rfl <;> exact absurd h (by decide)
  · rcases ht with rfl | rfl | rfl <;> exact absurd h (by decide)
theorem sg1 (c : Int32) (hc : c = 61 ∨ c = 44 ∨ c = 59) : ¬ (1 : Int32) = c := by rcases hc with rfl | rfl | rfl <;> decide
theorem TW_let {B : Nat → Int} {s : Nat} (x : Int32) (h : 65 ≤ B s ∧ B s ≤ 70) : TW B s (s + 1) 1 x 2 (zI (B s - 65)) := by
  refine ⟨by decide, by decide, fun h => absurd h (by decide), fun c hc => ⟨fun h => absurd h (sg1 c hc), fun h => absurd h.1 (by decide)⟩, fun i hi => ⟨fun h2 => ?_, fun h => absurd h.1 (by decide)⟩, ⟨fun _ => rfl, fun _ => ⟨rfl, rfl, h⟩⟩, fun _ => rfl, fun h => absurd h (by decide)⟩
  have := h2.2.1
  have := wdl_le i hi
  omega
theorem TW_wrd {B : Nat → Int} {s m : Nat} (x : Int32) {i0 : Nat} (h0 : i0 < 7) (hm : 1 ≤ m ∧ m ≤ 5) (hB : ∀ j, j < m → isL (B (s + j)) = true) (hc : pkz B s m = cst i0) : TW B s (s + m) 1 x 1 (nI (wdm i0)) := by
  have hw := (pk_w hm hB h0).mp hc
  have hl := wdl_le i0 h0
  have := hw.1
  refine ⟨by decide, by decide, fun h => absurd h (by decide), fun c hc => ⟨fun h => absurd h (sg1 c hc), fun h => absurd h.1 (by decide)⟩, fun i hi => ⟨fun h2 => ⟨rfl, ?_⟩, fun h2 => ⟨rfl, ?_⟩⟩, ⟨fun h => by omega, fun h => absurd h (by decide)⟩, fun h => absurd h (by decide), fun _ => ⟨i0, h0, rfl⟩⟩
  · have := (pk_w hm hB hi).mpr h2.2
    rw [cst_inj i hi i0 h0 (by rw [← this, hc])]
  · have := wdm_inj i0 h0 i hi h2.2
    rw [← this]; exact hw
theorem TW_bdw {B : Nat → Int} {s e : Nat} (x to : Int32) (h1 : ¬ (e = s + 1 ∧ 65 ≤ B s ∧ B s ≤ 70)) (h2 : ∀ i, i < 7 → ¬ wdM B s e i) : TW B s e 1 x 5 to := by
  exact ⟨by decide, by decide, fun h => absurd h (by decide), fun c hc => ⟨fun h => absurd h (sg1 c hc), fun h => absurd h.1 (by decide)⟩, fun i hi => ⟨fun h => absurd h.2 (h2 i hi), fun h => absurd h.1 (by decide)⟩, ⟨fun h => absurd h.2 h1, fun h => absurd h (by decide)⟩, fun h => absurd h (by decide), fun h => absurd h (by decide)⟩
theorem pk_r {B : Nat → Int} {s m : Nat} (hm : m ≤ 5) (hB : ∀ j, j < m → isL (B (s + j)) = true) : 0 ≤ pkz B s m ∧ pkz B s m ≤ 1073741824 := by
  have hd : ∀ j, j < m → 65 ≤ B (s + j) ∧ B (s + j) ≤ 122 := fun j hj => by
    have := hB j hj
    unfold isL at this
    rw [decide_eq_true_iff] at this
    omega
  rcases (show m = 0 ∨ m = 1 ∨ m = 2 ∨ m = 3 ∨ m = 4 ∨ m = 5 by omega) with rfl | rfl | rfl | rfl | rfl | rfl
  · simp only [pkz]; omega
  · have h0 := hd 0 (by omega); simp only [pkz]; omega
  · have h0 := hd 0 (by omega); have h1 := hd 1 (by omega); simp only [pkz]; omega
  · have h0 := hd 0 (by omega); have h1 := hd 1 (by omega); have h2 := hd 2 (by omega); simp only [pkz]; omega
  · have h0 := hd 0 (by omega); have h1 := hd 1 (by omega); have h2 := hd 2 (by omega); have h3 := hd 3 (by omega); simp only [pkz]; omega
  · have h0 := hd 0 (by omega); have h1 := hd 1 (by omega); have h2 := hd 2 (by omega); have h3 := hd 3 (by omega); have h4 := hd 4 (by omega); simp only [pkz]; omega
theorem wdO {z : Int} (h1 : 0 ≤ z) (h2 : z ≤ 1073741824) : ∃ r : Int32, fX12_wordOf (zL z) = some r ∧ ((∃ i, i < 7 ∧ z = cst i ∧ r = nI (wdm i)) ∨ (r = -1 ∧ ∀ i, i < 7 → ¬ z = cst i)) := by
  have hz : (zL z).toInt = z := zL_n (by omega) (by omega)
  unfold fX12_wordOf
  by_cases a0 : z = 11443108
  · rw [a0, if_pos (by decide)]; exact ⟨0, rfl, Or.inl ⟨0, by omega, rfl, rfl⟩⟩
  rw [if_neg (by rw [j_eq, hz]; exact a0)]
  by_cases a1 : z = 597826158
  · rw [a1, if_pos (by decide)]; exact ⟨1, rfl, Or.inl ⟨1, by omega, rfl, rfl⟩⟩
  rw [if_neg (by rw [j_eq, hz]; exact a1)]
  by_cases a2 : z = 3375
  · rw [a2, if_pos (by decide)]; exact ⟨2, rfl, Or.inl ⟨5, by omega, rfl, rfl⟩⟩
  rw [if_neg (by rw [j_eq, hz]; exact a2)]
  by_cases a3 : z = 749107764
  · rw [a3, if_pos (by decide)]; exact ⟨3, rfl, Or.inl ⟨6, by omega, rfl, rfl⟩⟩
  rw [if_neg (by rw [j_eq, hz]; exact a3)]
  by_cases a4 : z = 12803304
  · rw [a4, if_pos (by decide)]; exact ⟨4, rfl, Or.inl ⟨3, by omega, rfl, rfl⟩⟩
  rw [if_neg (by rw [j_eq, hz]; exact a4)]
  by_cases a5 : z = 10624677
  · rw [a5, if_pos (by decide)]; exact ⟨5, rfl, Or.inl ⟨4, by omega, rfl, rfl⟩⟩
  rw [if_neg (by rw [j_eq, hz]; exact a5)]
  by_cases a6 : z = 13245733
  · rw [a6, if_pos (by decide)]; exact ⟨6, rfl, Or.inl ⟨2, by omega, rfl, rfl⟩⟩
  rw [if_neg (by rw [j_eq, hz]; exact a6)]
  refine ⟨-1, rfl, Or.inr ⟨rfl, fun i hi => ?_⟩⟩
  rcases (show i = 0 ∨ i = 1 ∨ i = 2 ∨ i = 3 ∨ i = 4 ∨ i = 5 ∨ i = 6 by omega) with rfl | rfl | rfl | rfl | rfl | rfl | rfl
  · exact a0
  · exact a1
  · exact a6
  · exact a4
  · exact a5
  · exact a2
  · exact a3
theorem wcod : ∀ i, i < 7 → (0 : Int32) ≤ nI (wdm i) := by decide
/-- NEXT, on both sides -/
theorem next_both {B : Nat → Int} {L p : Nat} {u v : Mem} (hp : p ≤ L) (hT : TP B L u v) (hx : u.1 184 5 = nI p) (hm : v.1 0 11 = nI p) : ∃ u2 v2, fX4_next u = some u2 ∧ fX12_next v = some v2 ∧ (dX u u2 ∧ dM v v2 ∧ TK B L u2 v2) := by
  have hL := hT.2.2.1
  unfold fX4_next fX12_next
  have du0 : dX u (si u 184 4 (u.1 184 5)) := dX_si u _ (by omega)
  refine blk_use (Q := fun u2 v2 => dX u u2 ∧ dM v v2 ∧ TK B L u2 v2) _ _ hp (TP_d hT du0 (dM_rfl v)) (by rw [si_1, if_pos ⟨rfl, rfl⟩]; exact hx) hm (fun s u5 v5 hs d5 e5 x5 m5 => ?_)
  have hT5 : TP B L u5 v5 := TP_d hT (dX_tr du0 d5) e5
  have d6 : dX u5 (si (si u5 184 5 (u5.1 184 4)) 184 6 0) := dX_tr (dX_si _ _ (by omega)) (dX_si _ _ (by omega))
  have e6 : dM v5 (si v5 0 12 (v5.1 0 11)) := dM_si _ _ (by omega)
  have a4 : (si (si u5 184 5 (u5.1 184 4)) 184 6 0).1 184 4 = nI s := by rw [si_1, if_neg (by omega), si_1, if_neg (by omega)]; exact x5
  have a5 : (si (si u5 184 5 (u5.1 184 4)) 184 6 0).1 184 5 = nI s := by rw [si_1, if_neg (by omega), si_1, if_pos ⟨rfl, rfl⟩]; exact x5
  have a6 : (si (si u5 184 5 (u5.1 184 4)) 184 6 0).1 184 6 = 0 := by rw [si_1, if_pos ⟨rfl, rfl⟩]
  have c11 : (si v5 0 12 (v5.1 0 11)).1 0 11 = nI s := by rw [si_1, if_neg (by omega)]; exact m5
  have c12 : (si v5 0 12 (v5.1 0 11)).1 0 12 = nI s := by rw [si_1, if_pos ⟨rfl, rfl⟩]; exact m5
  generalize si (si u5 184 5 (u5.1 184 4)) 184 6 0 = u6 at *
  generalize si v5 0 12 (v5.1 0 11) = v6 at *
  have D6 : dX u u6 := dX_tr (dX_tr du0 d5) d6
  have E6 : dM v v6 := dM_tr e5 e6
  have hT6 : TP B L u6 v6 := TP_d hT D6 E6
  obtain ⟨t1, t2, -, t4⟩ := id hT6
  rw [a4, c11, t1, t2]
  by_cases hend : s = L
  · subst hend
    rw [if_neg (fun h => by have := (lt_nI (by omega) (by omega)).mp h; omega), if_pos rfl, Option.bind_some]
    refine ⟨_, _, rfl, rfl, dX_tr D6 (dX_si _ _ (by omega)), dM_tr E6 (dM_si _ _ (by omega)), s, s, ⟨?_, ?_, ?_, ?_, by omega, by omega⟩, ?_⟩
    · rw [si_1, if_neg (by omega)]; exact a4
    · rw [si_1, if_neg (by omega)]; exact a5
    · rw [si_1, if_neg (by omega)]; exact c12
    · rw [si_1, if_neg (by omega)]; exact c11
    · rw [si_1, if_pos ⟨rfl, rfl⟩, si_1, if_neg (by omega), si_1, if_pos ⟨rfl, rfl⟩]
      exact TW_end B s s _ _
  have hsL : s < L := by omega
  obtain ⟨⟨b1, b2⟩, b3, b4⟩ := t4 s hsL
  have bs : inB (nI s) 400 := inB_n (by omega) (by omega)
  have zz := zI_n (z := B s) (by omega) (by omega)
  rw [if_pos ((lt_nI (by omega) (by omega)).mpr hsL), if_neg (show ¬ nI s = nI L from fun h => hend (nI_inj (by omega) (by omega) h)), if_pos bs, if_pos bs, if_pos bs, if_pos bs, cl_n (by omega), b3, b4, Option.bind_some, cL b1 b2, Option.bind_some, mL b1 b2, Option.bind_some]
  by_cases hlet : isL (B s) = true
  · rw [hlet, if_pos rfl, Option.bind_some, if_pos rfl]
    have d7 : dX u6 (si u6 184 3 1) := dX_si _ _ (by omega)
    refine ltr_use (B := B) (L := L) (s := s) (Q := fun u2 v2 => dX u u2 ∧ dM v v2 ∧ TK B L u2 v2) _ _ hsL hlet (TP_d hT6 d7 (dM_rfl _)) (by rw [si_1, if_neg (by omega)]; exact a5) c11 (fun m ac u2 v2 m1 m2 m3 m4 fu fv => ?_)
    have DU : dX u u2 := dX_tr (dX_tr D6 d7) fu.1
    have EV : dM v v2 := dM_tr E6 fv.1
    have u23 : u2.1 184 3 = 1 := by rw [fu.2.2 3 (by omega), si_1, if_pos ⟨rfl, rfl⟩]
    have u24 : u2.1 184 4 = nI s := by rw [fu.2.2 4 (by omega), si_1, if_neg (by omega)]; exact a4
    have v22 : v2.1 0 12 = nI s := by rw [fv.2.2 12 (by omega)]; exact c12
    -- the word is no single kind
    have other : ¬ (s + m = s + 1 ∧ 65 ≤ B s ∧ B s ≤ 70) → ∃ v3, fX12_next_J209 ac (nI m) v2 = some v3 ∧ dX u u2 ∧ dM v v3 ∧ TK B L u2 v3 := fun hno => by
      have e5' : (5 : Int32).toInt = 5 := rfl
      unfold fX12_next_J209
      have mk : ∀ (r q : Int32), TW B s (s + m) 1 (u2.1 184 6) q r → dX u u2 ∧ dM v (si (si v2 0 14 r) 0 13 q) ∧ TK B L u2 (si (si v2 0 14 r) 0 13 q) := fun r q hw => by
        refine ⟨DU, dM_tr EV (dM_tr (dM_si _ _ (by omega)) (dM_si _ _ (by omega))), s, s + m, ⟨u24, fu.2.1, ?_, ?_, by omega, m2⟩, ?_⟩
        · rw [si_1, if_neg (by omega), si_1, if_neg (by omega)]; exact v22
        · rw [si_1, if_neg (by omega), si_1, if_neg (by omega)]; exact fv.2.1
        · rw [u23, si_1, if_pos ⟨rfl, rfl⟩, si_1, if_neg (by omega), si_1, if_pos ⟨rfl, rfl⟩]; exact hw
      have s14 : ∀ r : Int32, (si v2 0 14 r).1 0 14 = r := fun r => by rw [si_1, if_pos ⟨rfl, rfl⟩]
      by_cases h5 : m ≤ 5
      · rw [if_pos (by rw [i_le, nI_n (by omega)]; omega), m4 (by omega)]
        obtain ⟨p1, p2⟩ := pk_r h5 m3
        obtain ⟨r, w1, w2⟩ := wdO p1 p2
        rw [w1, Option.bind_some, s14, Option.bind_some]
        rcases w2 with ⟨i, i1, i2, i3⟩ | ⟨i1, i2⟩
        · rw [i3, if_pos (wcod i i1)]
          exact ⟨_, rfl, mk _ _ (TW_wrd _ i1 ⟨m1, h5⟩ m3 i2)⟩
        · rw [i1, if_neg (by decide)]
          exact ⟨_, rfl, mk _ _ (TW_bdw _ _ hno (fun i hi hw => i2 i hi ((pk_w ⟨m1, h5⟩ m3 hi).mpr hw)))⟩
      · have hm9 : m ≤ 400 := by omega
        rw [if_neg (by rw [i_le, nI_n (by omega)]; omega), s14, Option.bind_some, if_neg (by decide)]
        exact ⟨_, rfl, mk _ _ (TW_bdw _ _ hno (fun i hi hw => by have := hw.1; have := wdl_le i hi; omega))⟩
    by_cases hm1 : m = 1
    · subst hm1
      rw [if_pos (show nI 1 = 1 from rfl), in_sp2 (zI (B s)) (L := 65) (Hh := 70) rfl rfl, Option.bind_some, zz]
      by_cases hk : 65 ≤ B s ∧ B s ≤ 70
      · rw [decide_eq_true hk, if_pos rfl, Option.bind_some]
        refine ⟨_, rfl, DU, dM_tr EV (dM_tr (dM_si _ _ (by omega)) (dM_si _ _ (by omega))), s, s + 1, ⟨u24, fu.2.1, ?_, ?_, by omega, m2⟩, ?_⟩
        · rw [si_1, if_neg (by omega), si_1, if_neg (by omega)]; exact v22
        · rw [si_1, if_neg (by omega), si_1, if_neg (by omega)]; exact fv.2.1
        · rw [u23, si_1, if_neg (by omega), si_1, if_pos ⟨rfl, rfl⟩, si_1, if_pos ⟨rfl, rfl⟩, show (65 : Int32) = zI 65 from rfl, zI_sub]
          exact TW_let _ hk
      · rw [decide_eq_false hk, if_neg (by decide)]
        exact other (fun h => hk h.2)
    · rw [if_neg (nI_n1 hm1 (by omega))]
      exact other (fun h => by omega)
  · have hlet : isL (B s) = false := by cases h : isL (B s) <;> simp_all
    rw [hlet, if_neg (show ¬ false = true by decide), Option.bind_some, cD b1 b2, Option.bind_some, Option.bind_some, Option.bind_some, Option.bind_some, Option.bind_some, if_neg (show ¬ false = true by decide), mD b1 b2, Option.bind_some, Option.bind_some, Option.bind_some, Option.bind_some, Option.bind_some]
    by_cases hdig : isD (B s) = true
    · rw [hdig, if_pos rfl, if_pos rfl]
      have d7 : dX u6 (si u6 184 3 2) := dX_si _ _ (by omega)
      have e7 : dM v6 (si (si v6 0 13 3) 0 14 0) := dM_tr (dM_si _ _ (by omega)) (dM_si _ _ (by omega))
      refine dgt_use (B := B) (L := L) (s := s) (Q := fun u2 v2 => dX u u2 ∧ dM v v2 ∧ TK B L u2 v2) hs (TP_d hT6 d7 e7) (by rw [si_1, if_neg (by omega)]; exact a5) (by rw [si_1, if_neg (by omega), si_1, if_neg (by omega)]; exact c11) (by rw [si_1, if_neg (by omega), a6, si_1, if_pos ⟨rfl, rfl⟩]; exact ⟨by decide, by decide, by decide⟩) (fun e u2 v2 s1 s2 fu fv hn => ?_)
      refine ⟨dX_tr (dX_tr D6 d7) fu.1, dM_tr (dM_tr E6 e7) fv.1, s, e, ⟨?_, fu.2.1, ?_, fv.2.1, s1, s2⟩, ?_⟩
      · rw [fu.2.2 4 (by omega) (by omega), si_1, if_neg (by omega)]; exact a4
      · rw [fv.2.2 12 (by omega) (by omega), si_1, if_neg (by omega), si_1, if_neg (by omega)]; exact c12
      · rw [fu.2.2 3 (by omega) (by omega), si_1, if_pos ⟨rfl, rfl⟩, fv.2.2 13 (by omega) (by omega), si_1, if_neg (by omega), si_1, if_pos ⟨rfl, rfl⟩]
        exact TW_num B s e hn
    · have hdig : isD (B s) = false := by cases h : isD (B s) <;> simp_all
      rw [hdig, if_neg (show ¬ false = true by decide), if_neg (show ¬ false = true by decide)]
      obtain ⟨r1, r2, r3, r4, r5⟩ := ub_r b1 b2
      have e61 : (61 : Int32).toInt = 61 := rfl
      have e44 : (44 : Int32).toInt = 44 := rfl
      have e59 : (59 : Int32).toInt = 59 := rfl
      have seq : ∀ c : Int32, 0 ≤ c.toInt → c.toInt < 128 → (zI (ub (B s)) = c ↔ zI (B s) = c) := fun c h1 h2 => by
        rw [i_eq, i_eq, r1, zz]
        omega
      have q5 : ∀ x : Int32, (si u6 184 3 x).1 184 5 = nI s := fun x => by rw [si_1, if_neg (by omega)]; exact a5
      rw [q5, nI_1]
      have mk : ∀ (t q : Int32), TW B s (s + 1) t 0 q (zI (B s)) → ∃ u2 v2, some (si (si u6 184 3 t) 184 5 (nI (s + 1))) = some u2 ∧ some (si (si (si v6 0 11 (nI (s + 1))) 0 14 (zI (B s))) 0 13 q) = some v2 ∧ (dX u u2 ∧ dM v v2 ∧ TK B L u2 v2) := fun t q hw => by
        refine ⟨_, _, rfl, rfl, dX_tr D6 (dX_tr (dX_si _ _ (by omega)) (dX_si _ _ (by omega))), dM_tr E6 (dM_tr (dM_tr (dM_si _ _ (by omega)) (dM_si _ _ (by omega))) (dM_si _ _ (by omega))), s, s + 1, ⟨?_, ?_, ?_, ?_, by omega, by omega⟩, ?_⟩
        · rw [si_1, if_neg (by omega), si_1, if_neg (by omega)]; exact a4
        · rw [si_1, if_pos ⟨rfl, rfl⟩]
        · rw [si_1, if_neg (by omega), si_1, if_neg (by omega), si_1, if_neg (by omega)]; exact c12
        · rw [si_1, if_neg (by omega), si_1, if_neg (by omega), si_1, if_pos ⟨rfl, rfl⟩]
        · have z1 : (si (si u6 184 3 t) 184 5 (nI (s + 1))).1 184 3 = t := by rw [si_1, if_neg (by omega), si_1, if_pos ⟨rfl, rfl⟩]
          have z2 : (si (si u6 184 3 t) 184 5 (nI (s + 1))).1 184 6 = 0 := by rw [si_1, if_neg (by omega), si_1, if_neg (by omega)]; exact a6
          have z3 : (si (si (si v6 0 11 (nI (s + 1))) 0 14 (zI (B s))) 0 13 q).1 0 13 = q := by rw [si_1, if_pos ⟨rfl, rfl⟩]
          have z4 : (si (si (si v6 0 11 (nI (s + 1))) 0 14 (zI (B s))) 0 13 q).1 0 14 = zI (B s) := by rw [si_1, if_neg (by omega), si_1, if_pos ⟨rfl, rfl⟩]
          rw [z1, z2, z3, z4]; exact hw
      by_cases s1 : zI (B s) = 61
      · rw [if_pos ((seq 61 (by omega) (by omega)).mpr s1), if_pos s1, (seq 61 (by omega) (by omega)).mpr s1]
        exact mk _ _ (by rw [s1]; exact TW_sgn B s _ _ (Or.inl rfl))
      rw [if_neg (fun h => s1 ((seq 61 (by omega) (by omega)).mp h)), if_neg s1]
      by_cases s2 : zI (B s) = 44
      · rw [if_pos ((seq 44 (by omega) (by omega)).mpr s2), if_pos s2, (seq 44 (by omega) (by omega)).mpr s2]
        exact mk _ _ (by rw [s2]; exact TW_sgn B s _ _ (Or.inr (Or.inl rfl)))
      rw [if_neg (fun h => s2 ((seq 44 (by omega) (by omega)).mp h)), if_neg s2]
      by_cases s3 : zI (B s) = 59
      · rw [if_pos ((seq 59 (by omega) (by omega)).mpr s3), if_pos s3, (seq 59 (by omega) (by omega)).mpr s3]
        exact mk _ _ (by rw [s3]; exact TW_sgn B s _ _ (Or.inr (Or.inr rfl)))
      rw [if_neg (fun h => s3 ((seq 59 (by omega) (by omega)).mp h)), if_neg s3]
      exact mk _ _ (TW_bad B s _ _ _)
