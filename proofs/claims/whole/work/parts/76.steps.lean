theorem RR_tick {u v : Mem} (hR : RR u v) {x : Int32} (hx : 0 ≤ x.toInt ∧ x.toInt ≤ 300) : RR (si u 176 3 x) (si v 1 4 x) := by
  obtain ⟨r1, r2, w1, w2, c, t, f, p⟩ := hR
  have vo : ∀ k, k ≠ 4 → (si v 1 4 x).1 1 k = v.1 1 k := fun k hk => by rw [si_1, if_neg (by omega)]
  have v4 : (si v 1 4 x).1 1 4 = x := by rw [si_1, if_pos ⟨rfl, rfl⟩]
  have vr : ∀ k, k ≠ 1 → (si v 1 4 x).1 k = v.1 k := fun k hk => si_ro _ _ hk
  have ur : ∀ k, k ≠ 176 → (si u 176 3 x).1 k = u.1 k := fun k hk => si_ro _ _ hk
  obtain ⟨a0, a1, a2, a3, a4, a5, a6, a7, a8, a9, a10, a11⟩ := r1
  refine ⟨⟨?_, ?_, ?_, ?_, ?_, ?_, ?_, ?_, ?_, ?_, ?_, ?_⟩, by rw [vr 2 (by omega)]; exact r2, ?_, ?_, ?_, ?_, ?_, ?_⟩
  · rw [vo 0 (by omega)]; exact a0
  · rw [vo 0 (by omega), vo 1 (by omega)]; exact a1
  · intro i hi; rw [vo _ (by omega)]; exact a2 i hi
  · rw [v4]; exact hx
  · rw [vo 5 (by omega)]; exact a4
  · rw [vo 6 (by omega)]; exact a5
  · intro i hi; rw [vo _ (by omega)]; exact a6 i hi
  · intro i hi; rw [vo _ (by omega)]; exact a7 i hi
  · intro i hi; rw [vo _ (by omega)]; exact a8 i hi
  · intro i hi; rw [vo _ (by omega)]; exact a9 i hi
  · intro i hi
    rw [vo 6 (by omega)] at hi
    rw [vo _ (by omega), vo _ (by omega), vo _ (by omega), vo _ (by omega)]; exact a10 i hi
  · intro t2 ht2
    rw [vo 0 (by omega)] at ht2
    have e : (fun k => (si v 1 4 x).1 1 (1500 + 220 * t2 + k)) = fun k => v.1 1 (1500 + 220 * t2 + k) := funext fun k => vo _ (by omega)
    rw [e]; exact a11 t2 ht2
  · rw [si_2]
    refine relW_rows a0.2 w1 (fun k hk => vo k (by omega)) (fun k hk => ur k (by omega)) ?_ (fun q2 hq2 => ?_)
    · rw [show 176 + 2 * 0 = 176 from rfl, v4, vo 0 (by omega), vo 1 (by omega), vo 5 (by omega), vo 6 (by omega), si_1, si_1, si_1, si_1, si_1, if_neg (by omega), if_neg (by omega), if_pos ⟨rfl, rfl⟩, if_neg (by omega), if_neg (by omega)]
      exact ⟨w1.1.1, w1.1.2.1, rfl, w1.1.2.2.2.1, w1.1.2.2.2.2⟩
    · have h9 := relS_fr (w := si u 176 3 x) (fun r hr => ⟨ur _ (by omega), rfl⟩) (w1.2.1 q2 hq2)
      obtain ⟨s1, s2, s3, s4, s5, s6⟩ := h9
      exact ⟨by rw [s1, vo _ (by omega)], by rw [s2, vo _ (by omega)], by rw [s3, vo _ (by omega)], fun k hk => by rw [s4 k hk, vo _ (by omega)], s5, fun k hk => by rw [s6 k hk, vo _ (by omega)]⟩
  · rw [si_2, vr 2 (by omega)]
    refine relW_rows r2.1.2 w2 (fun _ _ => rfl) (fun k hk => ur k (by omega)) ?_ (fun q2 hq2 => relS_fr (fun r hr => ⟨ur _ (by omega), rfl⟩) (w2.2.1 q2 hq2))
    rw [ur (176 + 2 * 1) (by omega)]; exact w2.1
  · rw [vr 2 (by omega), vo 0 (by omega), vo 5 (by omega), vo 6 (by omega)]; exact c
  · unfold relT at t ⊢; rw [vr 0 (by omega), vr 6 (by omega), ur 182 (by omega), ur 183 (by omega)]; exact t
  · unfold relF at f ⊢; rw [vr 0 (by omega), ur 184 (by omega)]; exact f
  · unfold relP at p ⊢; rw [vr 0 (by omega), si_2, si_2, ur 193 (by omega)]; exact p
/-- what the steps keep -/
def SI (q T : Nat) (g : Nat → Int32) (u v : Mem) : Prop := RR u v ∧ relL u T g ∧ Sy v g ∧ v.1 1 1 = nI T ∧ fX11_lawsNow u = some T ∧ dnF g 7000 v
theorem ent2 {u v : Mem} {q T : Nat} {g : Nat → Int32} (hq : q < 2) (hT : T ≤ 30) (hO : lawOk g) (hI : SI q T g u v) : ∃ (n : Nat) (u5 v7 : Mem), EN u v q T n g (v.1 1 (8 + q)) u5 v7 ∧ fX11_lawsNow u5 = some T ∧ fX11_enter (nI q) u = some u5 ∧ u5.1 195 10 = nI (cmv (bxC g (v.1 1) q n (v.1 1 (8 + q))) n n) ∧ fX12_settles (nI q) (v.1 1 (8 + q)) v = some (okv (bxC g (v.1 1) q n (v.1 1 (8 + q))) (decide (0 < n)) n, v7) ∧ RR u5 v7 := by
  obtain ⟨hR, hL, hS, h1, eX, hd⟩ := hI
  have hr := hR.1
  have hsh := hr.2.2.1 q hq
  have hun := hr.2.2.2.2.2.2.1 q hq
  have hn : v.1 1 (2 + q) = nI (v.1 1 (2 + q)).toInt.toNat := i_nat hsh.1
  generalize hN : (v.1 1 (2 + q)).toInt.toNat = n at hn
  have hn16 : n ≤ 16 := by omega
  have hst : relS u q q (v.1 1) (v.2 3) := by
    have := hR.2.2.1.2.1 q hq
    rw [show 2 * 0 + q = q by omega] at this; exact this
  obtain ⟨u5, a1, a2, a3, a4, a5⟩ := settleX (T := T) (i := q) hT (by omega) hO hn16 (show 0 < (v.1 1 (8 + q)).toInt by omega) hL hst hn
  obtain ⟨v7, c1, c2, c3, c4, c5⟩ := settleM (v := v) hO hq hn16 rfl hn (show 0 < (v.1 1 (8 + q)).toInt by omega) hS hd
  have e7 : v7.1 1 = v.1 1 := c2.1 1 (by omega)
  refine ⟨n, u5, v7, ⟨⟨hT, hn16, hn, hO⟩, ⟨relL_fr (u := u) (fun r hr => (a2 _ (by omega)).1) hL, relS_fr (u := u) (fun r hr => a2 _ (by omega)) hst, a3, a5⟩, ⟨Sy_fr e7 hS, e7, c3, c4⟩, a2, c2⟩, ?_, ?_, a4, c1, RR_frX (frI_X a2) (RR_frM (frN_M c2) hR)⟩
  · rw [lawsNow_fr (a2 176 (by omega)).1]; exact eX
  · unfold fX11_enter
    rw [if_pos (inB_n hq (by omega)), eX, Option.bind_some, if_pos (inB_n hq (by omega)), cl_n (by omega), show 2 * 0 + q = q by omega, hst.2.1, a1, Option.bind_some]
theorem chn_loop {v7 : Mem} {g f : Nat → Int32} (hO : lawOk g) (hS : Sy v7 g) (hd : dnF g 7000 v7) (hf : v7.1 1 = f) {q n : Nat} {unit : Int32} (hq : q < 2) (hn : n ≤ 16) (hM : ∀ s, s < n → SM g f q n unit v7 s) (K : Mem → Option Mem) : ∀ (d s t : Nat) (w : Mem), s + d = n → d < t → (∀ k, k ≠ 15 → w.1 k = v7.1 k) → w.2 = v7.2 → (∀ j, j < s → w.1 15 j = bz (decide (moodI g f q n unit j = 1))) → ∃ w2, fX12_goes_L11 (nI q) (nI n) K t (nI s) w = K w2 ∧ (∀ k, k ≠ 15 → w2.1 k = v7.1 k) ∧ w2.2 = v7.2 ∧ ∀ j, j < n → w2.1 15 j = bz (decide (moodI g f q n unit j = 1)) := by
  intro d
  induction d with
  | zero =>
    intro s t w hs ht h1 h2 h3
    obtain ⟨t, rfl⟩ : ∃ m, t = m + 1 := ⟨t - 1, by omega⟩
    have : s = n := by omega
    subst this
    exact ⟨w, by rw [fX12_goes_L11, if_pos ((le_nI (by omega) (by omega)).mpr (by omega))], h1, h2, h3⟩
  | succ d ih =>
    intro s t w hs ht h1 h2 h3
    obtain ⟨t, rfl⟩ : ∃ m, t = m + 1 := ⟨t - 1, by omega⟩
    have e1 := h1 1 (by omega)
    have hm := moodM (v := w) hO (Sy_fr e1 hS) (by unfold dnF at hd ⊢; rw [h1 9 (by omega), h1 10 (by omega)]; exact hd) (e1.trans hf) hq hn (show s < n by omega) (fun j hj => SM_fr (hM j hj) (fun k a b => by rw [h1 k (by omega)]))
    have eb : bz (if moodI g f q n unit s = 1 then true else false) = bz (decide (moodI g f q n unit s = 1)) := by
      by_cases h : moodI g f q n unit s = 1
      · rw [if_pos h, decide_eq_true h]
      · rw [if_neg h, decide_eq_false h]
    obtain ⟨w2, r1, r2, r3, r4⟩ := ih (s + 1) t (si w 15 s (bz (decide (moodI g f q n unit s = 1)))) (by omega) (by omega) (fun k hk => by rw [si_ro _ _ hk]; exact h1 k hk) h2 (fun j hj => by
      rw [si_1]
      by_cases h : j = s
      · rw [if_pos ⟨rfl, h⟩, h]
      · rw [if_neg (by omega)]; exact h3 j (by omega))
    refine ⟨w2, ?_, r2, r3, r4⟩
    rw [fX12_goes_L11, if_neg (fun h => by have := (le_nI (by omega) (by omega)).mp h; omega), hm, Option.bind_some, if_pos (inB_n (by omega) (by omega)), Option.bind_some, cl_n (by omega), nI_1, eb]
    exact r1
theorem step_both {u v : Mem} {q T : Nat} {g : Nat → Int32} (hq : q < 2) (hT : T ≤ 30) (hO : lawOk g) (hI : SI q T g u v) {a2 a3 : Int32} (ha : ¬ a2 ≤ a3) (t : Nat) : (∃ u2 v2, fX11_makeStep (nI q) u = some (false, u2) ∧ fX12_steps_L27 (nI q) a2 (t + 1) a3 v = some (a3, v2) ∧ RR u2 v2) ∨ ∃ u2 v2, fX11_makeStep (nI q) u = some (true, u2) ∧ fX12_steps_L27 (nI q) a2 (t + 1) a3 v = fX12_steps_L27 (nI q) a2 t (a3 + 1) v2 ∧ SI q T g u2 v2 := by
  have e300 : (300 : Int32).toInt = 300 := rfl
  have hR := hI.1
  have hw4 : u.1 176 3 = v.1 1 4 := hR.2.2.1.1.2.2.1
  have hr4 := hR.1.2.2.2.1
  unfold fX11_makeStep
  rw [fX12_steps_L27, if_neg ha, show 176 + 2 * 0 = 176 from rfl, hw4]
  by_cases h4 : (v.1 1 4).toInt < 300
  · have e8 : (8 : Int32) + nI q = nI (8 + q) := nI_add 8 q
    have e2 : (2 : Int32) + nI q = nI (2 + q) := nI_add 2 q
    obtain ⟨n, u5, v7, ⟨⟨-, hn, hf, -⟩, ⟨x1, x2, x3, x4⟩, ⟨y1, y2, y3, y4⟩, fI, fN⟩, k1, k2, k3, k6, k7⟩ := ent2 hq hT hO hI
    rw [if_pos (show v.1 1 4 < 300 by rw [i_lt]; omega), if_neg (show ¬ 300 ≤ v.1 1 4 by rw [i_le]; omega), k2, Option.bind_some, e8, if_pos (inB_n (i := 8 + q) (n := 8320) (by omega) (by omega)), cl_n (show 8 + q < 2147483648 by omega), k6, Option.bind_some, k3]
    have z0 := cmv_0 (bxC g (v.1 1) q n (v.1 1 (8 + q))) n n (Nat.le_refl _)
    have zl := cmv_le (bxC g (v.1 1) q n (v.1 1 (8 + q))) n n
    have zk := okv_iff (bxC g (v.1 1) q n (v.1 1 (8 + q))) n n
    rw [Nat.sub_self] at z0
    by_cases ho : okv (bxC g (v.1 1) q n (v.1 1 (8 + q))) (decide (0 < n)) n = true
    · right
      obtain ⟨o1, o2⟩ := zk.mp ho
      have o3 := z0.mpr ⟨o1, fun s _ hs => o2 s hs⟩
      obtain ⟨u9, w1, w2, w3⟩ := shineX hT (by omega) hO hn x1 x2 x3 x4
      have hf7 : v7.1 1 (2 + q) = nI n := by rw [y2]; exact hf
      obtain ⟨v9, c1, c2, c3, c4⟩ := chn_loop hO y1 y3 y2 hq hn y4 (fun u6 => fX12_goes_L45 (nI q) (nI n) (fun u22 => fX12_goes_L144 (nI q) (nI n) fu0 0 u22) fu0 0 u6) n 0 fu0 v7 (by omega) (fu_n (by omega)) (fun _ _ => rfl) rfl (fun j hj => by omega)
      have hR9 : RR u9 v9 := RR_frX (frH_X w2) (RR_frM (v := v7) ⟨fun k a b => ⟨c2 k (by omega), by rw [c3]⟩, by rw [c2 0 (by omega)], by rw [c2 0 (by omega)], by rw [c2 0 (by omega)], by rw [c2 0 (by omega)]⟩ k7)
      have e91 : v9.1 1 = v.1 1 := (c2 1 (by omega)).trans y2
      have C : CX q T n g u9 v9 := ⟨⟨hq, hT, hn, hO⟩, hR9, by rw [e91]; exact hf, relL_fr (u := u5) (fun r hr => (w2 _).1 (by omega)) x1, Sy_fr (c2 1 (by omega)) y1, by rw [e91]; exact hI.2.2.2.1, by rw [lawsNow_fr ((w2 176).1 (by omega))]; exact k1, by unfold dnF at y3 ⊢; rw [c2 9 (by omega), c2 10 (by omega)]; exact y3, fun s hs => by
        obtain ⟨-, -, -, s4, -⟩ := x4 s hs
        obtain ⟨-, -, m3, -⟩ := y4 s hs
        have := o2 s hs
        have hlh := bxs_lh g (ndI g (v.1 1) q n (v.1 1 (8 + q)) s).toInt
        unfold bxC at this
        refine ⟨(bxs g (ndI g (v.1 1) q n (v.1 1 (8 + q)) s).toInt).2.1, by omega, ?_, ?_⟩
        · rw [(w2 199).1 (by omega), s4, if_neg (by omega)]
        · rw [c2 12 (by omega), m3]⟩
      have hG0 := go_start hq hR9
      obtain ⟨u10, v10, p1, p2, p3⟩ := shell_loop C (fun u15 => ((fX11_mixChurned q u15).bind fun u17 => ((some (si u17 176 3 ((u17.1 176 3) + 1))).bind fun u18 => (some (true, u18))))) (fun u22 => fX12_goes_L144 (nI q) (nI n) fu0 0 u22) n 0 fu0 fu0 u9 v9 (by omega) (fu_n (by omega)) (fu_n (by omega)) hG0
      obtain ⟨u11, v11, r1, r2, r3⟩ := (runs_both C (fun s hs => by rw [c4 s hs, (w3 s hs).2.2]) n).2 0 0 fu0 fu0 u10 v10 (by omega) (fu_n (by omega)) (fu_n (by omega)) p3 (fun _ => Or.inl rfl)
      obtain ⟨q1, q2, q3, q4, q5, -⟩ := CX_at C r3
      have g4 := r3.2.2.2.2.2.1
      have e1 : (1 : Int32).toInt = 1 := rfl
      have h94 : (v9.1 1 4).toInt < 300 := by rw [e91]; exact h4
      have ht1 : (v11.1 1 4 + 1).toInt = (v11.1 1 4).toInt + 1 := i_add (by omega) (by omega)
      have hRf := RR_tick q1 (x := v11.1 1 4 + 1) (by omega)
      refine ⟨si u11 176 3 (v11.1 1 4 + 1), si v11 1 4 (v11.1 1 4 + 1), ?_, ?_, hRf, relL_fr (u := u11) (fun r hr => si_ro _ _ (by omega)) q2, ?_, ?_, ?_, ?_⟩
      · rw [if_neg (nI_nz (by omega) (by omega)), if_pos (inB_n hq (by omega)), k1, Option.bind_some, cl_n (by omega), show 2 * 0 + q = q by omega, w1, Option.bind_some]
        refine Eq.trans p1 ?_
        have r1 : fX11_mixChurned q u10 = some u11 := r1
        show (fX11_mixChurned q u10).bind _ = _
        rw [r1, Option.bind_some, Option.bind_some, g4.1]
      · rw [ho, if_pos rfl]
        have hgo : fX12_goes (nI q) v7 = some (si v11 1 4 (v11.1 1 4 + 1)) := by
          unfold fX12_goes
          rw [e2, if_pos (inB_n (by omega) (by omega)), cl_n (by omega), hf7]
          exact c1.trans (p2.trans r2)
        rw [hgo, Option.bind_some]
      · exact Sy_at hT (by have := r3.2.1.2.2.1 1 (by omega); rw [this, e91]; exact hI.2.2.2.1) (fun k hk => by rw [si_1, if_neg (by omega)]) q3
      · rw [si_1, if_neg (by omega)]
        have := r3.2.1.2.2.1 1 (by omega)
        rw [this, e91]; exact hI.2.2.2.1
      · unfold fX11_lawsNow at q4 ⊢
        rw [show 176 + 2 * 0 = 176 from rfl] at q4 ⊢
        have e176 : (si u11 176 3 (v11.1 1 4 + 1)).1 176 2 = u11.1 176 2 := by rw [si_1, if_neg (by omega)]
        rw [e176]; exact q4
      · unfold dnF at q5 ⊢
        rw [si_ro _ _ (by omega), si_ro _ _ (by omega)]; exact q5
    · left
      have hz : cmv (bxC g (v.1 1) q n (v.1 1 (8 + q))) n n = 0 := by
        by_cases h : 0 < cmv (bxC g (v.1 1) q n (v.1 1 (8 + q))) n n
        · obtain ⟨o1, o2⟩ := z0.mp h
          exact absurd (zk.mpr ⟨o1, fun s hs => o2 s (by omega) hs⟩) ho
        · omega
      rw [hz, if_pos (show nI 0 = 0 from rfl), if_neg ho]
      exact ⟨u5, v7, rfl, rfl, k7⟩
  · left
    rw [if_neg (show ¬ v.1 1 4 < 300 by rw [i_lt]; omega), if_pos (show 300 ≤ v.1 1 4 by rw [i_le]; omega)]
    exact ⟨u, v, rfl, rfl, hR⟩
theorem steps_loop {q T : Nat} {g : Nat → Int32} (hq : q < 2) (hT : T ≤ 30) (hO : lawOk g) {N : Nat} (hN : N ≤ 50) : ∀ (d k tX tM : Nat) (u v : Mem), k + d = N → d < tX → d < tM → SI q T g u v → ∃ (r : Int32) (u2 v2 : Mem), fX11_steps_L22 (nI q) (nI N) tX (nI k) u = some (r, u2) ∧ fX12_steps_L27 (nI q) (nI N) tM (nI k) v = some (r, v2) ∧ RR u2 v2 := by
  intro d
  induction d with
  | zero =>
    intro k tX tM u v hk h1 h2 hI
    obtain ⟨tX, rfl⟩ : ∃ m, tX = m + 1 := ⟨tX - 1, by omega⟩
    obtain ⟨tM, rfl⟩ : ∃ m, tM = m + 1 := ⟨tM - 1, by omega⟩
    refine ⟨nI k, u, v, ?_, ?_, hI.1⟩
    · rw [fX11_steps_L22, if_pos ((le_nI (by omega) (by omega)).mpr (by omega))]
    · rw [fX12_steps_L27, if_pos ((le_nI (by omega) (by omega)).mpr (by omega))]
  | succ d ih =>
    intro k tX tM u v hk h1 h2 hI
    obtain ⟨tX, rfl⟩ : ∃ m, tX = m + 1 := ⟨tX - 1, by omega⟩
    obtain ⟨tM, rfl⟩ : ∃ m, tM = m + 1 := ⟨tM - 1, by omega⟩
    have hk2 : ¬ nI N ≤ nI k := fun h => by have := (le_nI (by omega) (by omega)).mp h; omega
    rw [fX11_steps_L22, if_neg hk2]
    rcases step_both hq hT hO hI hk2 tM with ⟨u2, v2, p1, p2, p3⟩ | ⟨u2, v2, p1, p2, p3⟩
    · rw [p1, p2, Option.bind_some]
      exact ⟨_, u2, v2, rfl, rfl, p3⟩
    · rw [p1, p2, Option.bind_some, nI_1]
      exact ih (k + 1) tX tM u2 v2 (by omega) (by omega) (by omega) p3
theorem sp_steps_ok : sp_steps RR := by
  intro u v a b hR
  have e1 : (1 : Int32).toInt = 1 := rfl
  have e50 : (50 : Int32).toInt = 50 := rfl
  unfold fX11_steps fX12_steps
  rw [starX, starM, Option.bind_some, Option.bind_some, in_sp2 b (L := 1) (Hh := 50) rfl rfl, Option.bind_some]
  rcases cut_n a 2 with h | ⟨q, hq, rfl⟩
  · have h : ¬ (0 ≤ a.toInt ∧ a.toInt < 2) := h
    rw [decide_eq_false h]
    exact ⟨-1, u, v, rfl, rfl, hR⟩
  · have e := nI_n (show q < 2147483648 by omega)
    rw [decide_eq_true (show 0 ≤ (nI q).toInt ∧ (nI q).toInt < 2 by omega), if_pos rfl, if_pos rfl]
    by_cases hb : 1 ≤ b.toInt ∧ b.toInt ≤ 50
    · obtain ⟨T, hT, hT2, eT, eX, hL, hO, hS⟩ := lk hR
      obtain ⟨v5, b1, b2, b3⟩ := spansM hO hS
      have e5 : v5.1 1 = v.1 1 := b3.1 1 (by omega)
      have hbn := i_nat (x := b) (by omega)
      generalize hN : b.toInt.toNat = N at hbn
      have hI : SI q T _ u v5 := ⟨RR_frM (frN_M b3) hR, hL, Sy_fr e5 hS, by rw [e5]; exact eT, eX, b2⟩
      rw [if_neg (show ¬ b < 1 by rw [i_lt]; omega), if_pos (show b ≤ 50 by rw [i_le]; omega), decide_eq_true hb, if_pos rfl, b1, Option.bind_some, hbn]
      exact steps_loop hq hT hO (show N ≤ 50 by omega) N 0 fu0 fu0 u v5 (by omega) (fu_n (by omega)) (fu_n (by omega)) hI
    · rw [decide_eq_false hb, if_neg (show ¬ false = true by decide)]
      refine ⟨-1, u, v, ?_, rfl, hR⟩
      by_cases hb1 : b < 1
      · rw [if_pos hb1]
      · rw [if_neg hb1, if_neg (by rw [i_lt] at hb1; rw [i_le]; omega)]
