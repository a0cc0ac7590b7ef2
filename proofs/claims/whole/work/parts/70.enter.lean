/-- both sides have entered star q: what stands there -/
def EN (u v : Mem) (q T n : Nat) (g : Nat → Int32) (unit : Int32) (u5 v7 : Mem) : Prop :=
  (T ≤ 30 ∧ n ≤ 16 ∧ v.1 1 (2 + q) = nI n ∧ lawOk g) ∧ (relL u5 T g ∧ relS u5 q q (v.1 1) (v.2 3) ∧ u5.1 195 9 = nI n ∧ (∀ s, s < n → SX g (v.1 1) q n unit u5 s)) ∧ (Sy v7 g ∧ v7.1 1 = v.1 1 ∧ dnF g 7000 v7 ∧ (∀ s, s < n → SM g (v.1 1) q n unit v7 s)) ∧ frI u u5 ∧ frN v v7
theorem lawsNow_fr {u w : Mem} (h : w.1 176 = u.1 176) : fX11_lawsNow w = fX11_lawsNow u := by
  unfold fX11_lawsNow
  rw [show 176 + 2 * 0 = 176 from rfl, h]
theorem ent {u v : Mem} (hR : RR u v) {q : Nat} (hq : q < 2) : ∃ (T n : Nat) (g : Nat → Int32) (u5 v5 v7 : Mem), EN u v q T n g (v.1 1 (8 + q)) u5 v7 ∧ fX11_lawsNow u5 = some T ∧ fX11_enter (nI q) u = some u5 ∧ u5.1 195 10 = nI (cmv (bxC g (v.1 1) q n (v.1 1 (8 + q))) n n) ∧ fX12_spans v = some v5 ∧ v5.1 1 = v.1 1 ∧ fX12_settles (nI q) (v.1 1 (8 + q)) v5 = some (okv (bxC g (v.1 1) q n (v.1 1 (8 + q))) (decide (0 < n)) n, v7) ∧ RR u5 v7 := by
  obtain ⟨T, hT, hT2, eT, eX, hL, hO, hS⟩ := lk hR
  have hr := hR.1
  have hsh := hr.2.2.1 q hq
  have hun := hr.2.2.2.2.2.2.1 q hq
  have hn : v.1 1 (2 + q) = nI (v.1 1 (2 + q)).toInt.toNat := i_nat hsh.1
  generalize hN : (v.1 1 (2 + q)).toInt.toNat = n at hn
  have hn16 : n ≤ 16 := by omega
  have hst : relS u q q (v.1 1) (v.2 3) := by
    have := hR.2.2.1.2.1 q hq
    rw [show 2 * 0 + q = q by omega] at this; exact this
  obtain ⟨u5, a1, a2, a3, a4, a5⟩ := settleX (T := T) (i := q) hT (by omega) hO hn16 (show 0 < (v.1 1 (8 + q)).toInt by omega) hL hst hn
  obtain ⟨v5, b1, b2, b3⟩ := spansM hO hS
  have e5 : v5.1 1 = v.1 1 := b3.1 1 (by omega)
  obtain ⟨v7, c1, c2, c3, c4, c5⟩ := settleM (v := v5) hO hq hn16 e5 hn (show 0 < (v.1 1 (8 + q)).toInt by omega) (Sy_fr e5 hS) b2
  have e7 : v7.1 1 = v.1 1 := (c2.1 1 (by omega)).trans e5
  refine ⟨T, n, _, u5, v5, v7, ⟨⟨hT, hn16, hn, hO⟩, ⟨relL_fr (u := u) (fun r hr => (a2 _ (by omega)).1) hL, relS_fr (u := u) (fun r hr => a2 _ (by omega)) hst, a3, a5⟩, ⟨Sy_fr e7 hS, e7, c3, c4⟩, a2, frN_tr b3 c2⟩, ?_, ?_, a4, b1, e5, c1, RR_frX (frI_X a2) (RR_frM (frN_M (frN_tr b3 c2)) hR)⟩
  · rw [lawsNow_fr (a2 176 (by omega)).1]; exact eX
  · unfold fX11_enter
    rw [if_pos (inB_n hq (by omega)), eX, Option.bind_some, if_pos (inB_n hq (by omega)), cl_n (by omega), show 2 * 0 + q = q by omega, hst.2.1, a1, Option.bind_some]
theorem stl_loop {w : Mem} {q n : Nat} (hq : q < 2) (hn : n ≤ 16) (hw : w.1 1 (2 + q) = nI n) {c : Nat → Nat} (hc : ∀ s, s < n → w.1 11 s = nI (c s) ∧ c s ≤ 1000) : ∀ (d k t : Nat) (b : Bool), k + d = n → d < t → (b = true ↔ ∀ s, s < k → c s = 1) → ∃ b2 : Bool, fX12_settled_L36 (nI q) w t b (nI k) = some (((if b2 = true then 2 else 1) : Int32), w) ∧ (b2 = true ↔ ∀ s, s < n → c s = 1) := by
  have e2 : (2 : Int32) + nI q = nI (2 + q) := nI_add 2 q
  intro d
  induction d with
  | zero =>
    intro k t b hk ht hb
    obtain ⟨t, rfl⟩ : ∃ m, t = m + 1 := ⟨t - 1, by omega⟩
    have : k = n := by omega
    subst this
    refine ⟨b, ?_, hb⟩
    rw [fX12_settled_L36, e2, if_pos (inB_n (by omega) (by omega)), cl_n (by omega), hw, if_pos ((le_nI (by omega) (by omega)).mpr (by omega))]
  | succ d ih =>
    intro k t b hk ht hb
    obtain ⟨t, rfl⟩ : ∃ m, t = m + 1 := ⟨t - 1, by omega⟩
    rw [fX12_settled_L36, e2, if_pos (inB_n (by omega) (by omega)), cl_n (by omega), hw, if_neg (fun h => by have := (le_nI (by omega) (by omega)).mp h; omega), nI_1]
    obtain ⟨h1, h2⟩ := hc k (by omega)
    cases b with
    | false =>
      rw [if_neg (by decide)]
      refine ih (k + 1) t false (by omega) (by omega) ⟨fun h => absurd h (by decide), fun h => hb.mpr (fun s hs => h s (by omega))⟩
    | true =>
      rw [if_pos rfl, if_pos (inB_n (by omega) (by omega)), cl_n (by omega), h1]
      by_cases h3 : c k = 1
      · rw [h3, if_pos (show nI 1 = 1 from rfl)]
        refine ih (k + 1) t true (by omega) (by omega) ⟨fun _ s hs => ?_, fun _ => rfl⟩
        by_cases h4 : s = k
        · rw [h4]; exact h3
        · exact hb.mp rfl s (by omega)
      · rw [if_neg (nI_n1 h3 (by omega))]
        refine ih (k + 1) t false (by omega) (by omega) ⟨fun h => absurd h (by decide), fun h => absurd (h k (by omega)) h3⟩
theorem sp_settled_ok : sp_settled RR := by
  intro u v a hR
  unfold fX11_settled fX12_settled
  rw [starX, starM, Option.bind_some, Option.bind_some]
  rcases cut_n a 2 with h | ⟨q, hq, rfl⟩
  · have h : ¬ (0 ≤ a.toInt ∧ a.toInt < 2) := h
    rw [decide_eq_false h]
    exact ⟨-1, u, v, rfl, rfl, hR⟩
  · have e := nI_n (show q < 2147483648 by omega)
    rw [decide_eq_true (show 0 ≤ (nI q).toInt ∧ (nI q).toInt < 2 by omega), if_pos rfl, if_pos rfl]
    obtain ⟨T, n, g, u5, v5, v7, ⟨⟨hT, hn, hf, hO⟩, x1, ⟨y1, y2, y3, y4⟩, -, -⟩, k1, k2, k3, k4, k5, k6, k7⟩ := ent hR hq
    have e8 : (8 : Int32) + nI q = nI (8 + q) := nI_add 8 q
    rw [k2, Option.bind_some, k4, Option.bind_some, e8, if_pos (inB_n (by omega) (by omega)), cl_n (by omega), k5, k6, Option.bind_some, k3]
    have z0 := cmv_0 (bxC g (v.1 1) q n (v.1 1 (8 + q))) n n (Nat.le_refl _)
    have z2 := cmv_2 (bxC g (v.1 1) q n (v.1 1 (8 + q))) n n (Nat.le_refl _)
    have zl := cmv_le (bxC g (v.1 1) q n (v.1 1 (8 + q))) n n
    have zk := okv_iff (bxC g (v.1 1) q n (v.1 1 (8 + q))) n n
    have zb : ∀ s, s < n → v7.1 11 s = nI (bxC g (v.1 1) q n (v.1 1 (8 + q)) s) ∧ bxC g (v.1 1) q n (v.1 1 (8 + q)) s ≤ 1000 := fun s hs => ⟨(y4 s hs).2.1, (bxs_le _ _).1⟩
    generalize bxC g (v.1 1) q n (v.1 1 (8 + q)) = c at z0 z2 zl zk zb ⊢
    refine ⟨_, u5, v7, rfl, ?_, k7⟩
    rw [Nat.sub_self] at z0 z2
    by_cases ho : okv c (decide (0 < n)) n = true
    · obtain ⟨b2, p1, p2⟩ := stl_loop hq hn (by rw [y2]; exact hf) zb n 0 fu0 true (by omega) (fu_n (by omega)) ⟨fun _ s hs => by omega, fun _ => rfl⟩
      rw [ho, if_pos rfl]
      have p1 : fX12_settled_L36 (nI q) v7 fu0 true 0 = some (((if b2 = true then 2 else 1) : Int32), v7) := p1
      rw [p1]
      obtain ⟨o1, o2⟩ := zk.mp ho
      have o3 := z0.mpr ⟨o1, fun s _ hs => o2 s hs⟩
      by_cases hb : b2 = true
      · have := z2.mpr ⟨o1, fun s _ hs => p2.mp hb s hs⟩
        rw [if_pos hb, this]; rfl
      · have : ¬ cmv c n n = 2 := fun h => hb (p2.mpr (fun s hs => (z2.mp h).2 s (by omega) hs))
        have : cmv c n n = 1 := by omega
        rw [if_neg hb, this]; rfl
    · have : cmv c n n = 0 := by
        by_cases h : 0 < cmv c n n
        · obtain ⟨o1, o2⟩ := z0.mp h
          exact absurd (zk.mpr ⟨o1, fun s hs => o2 s (by omega) hs⟩) ho
        · omega
      rw [if_neg ho, this]; rfl
/-- the reference's walk for box k -/
def fbx (k : Nat) (top : Bool) (l h : Nat → Int) (m x : Nat) : Int32 := if k < m then zI (if top = true then min (h k) ((x : Int) - 1) else l k) else -1
theorem fbx_st {P : Int → Prop} {c : Nat} {l h : Nat → Int} (hr : Runs P 1000 c l h) {k : Nat} {top : Bool} {m x : Nat} (hm : m ≤ c) (h2 : k < m → h k ≤ (x : Int) - 1) : fbx k top l h m (x + 1) = fbx k top l h m x := by
  unfold fbx
  by_cases hk : k < m
  · rw [if_pos hk, if_pos hk]
    cases top
    · rfl
    · rw [if_pos rfl, if_pos rfl]
      have := h2 hk
      rw [show min (h k) (((x + 1 : Nat) : Int) - 1) = h k by omega, show min (h k) ((x : Int) - 1) = h k by omega]
  · rw [if_neg hk, if_neg hk]
theorem box_loop {g : Nat → Int32} {w : Mem} (hO : lawOk g) (hd : dnF g 7000 w) {s : Nat} (hs : s < 16) {c : Nat} {l h : Nat → Int} (hr : Runs (Pn g (w.1 14 s).toInt) 1000 c l h) (hc : c ≤ 9) {k : Nat} (hk : k < 2147483648) (top : Bool) : ∀ (d x f m : Nat), x + d = 1000 → d < f → Inb c l x m → fX12_box_L44 (nI s) (nI k) top w f (zI ((m : Int) - 1)) (fbx k top l h m x) (nI x) = some (fbx k top l h c 1000, w) := by
  have eN : (1000 : Int32).toInt = 1000 := rfl
  have e0 : (0 : Int32).toInt = 0 := rfl
  intro d
  induction d with
  | zero =>
    intro x f m hx hf hi
    obtain ⟨f, rfl⟩ : ∃ j, f = j + 1 := ⟨f - 1, by omega⟩
    have hx : x = 1000 := by omega
    subst hx
    have hm : m = c := by
      have h1 := hi.1
      have h2 := hi.2.2
      by_cases h3 : m < c
      · have := h2 h3; have := hr.a m h3; omega
      · omega
    rw [fX12_box_L44, if_pos (by rw [i_le, nI_n (by omega)]; omega), hm]
  | succ d ih =>
    intro x f m hx hf hi
    obtain ⟨f, rfl⟩ : ∃ j, f = j + 1 := ⟨f - 1, by omega⟩
    have hp : ∀ y, y < 1000 → fX12_canBe (nI s) (nI y) w = some (decide (pb g (w.1 14 s).toInt y = true)) := fun y hy => by
      rw [canM hO hd hs hy]; congr 1; cases pb g (w.1 14 s).toInt y <;> rfl
    have hq : ∀ y : Nat, pb g (w.1 14 s).toInt y = true ↔ Pn g (w.1 14 s).toInt y := pb_P g _
    rw [fX12_box_L44, if_neg (by rw [i_le, nI_n (by omega)]; omega), hp x (by omega), Option.bind_some]
    have hm := hi.1
    have hmk : ∀ z : Nat, z ≤ 10 → (zI z = nI k ↔ z = k) := fun z hz => by
      rw [← zI_nat]; exact ⟨fun h => nI_inj (by omega) hk h, fun h => by rw [h]⟩
    rcases Inb_step hr (by omega) hi with ⟨p1, p2, p3, p4, p5⟩ | ⟨p1, p2, p3, p4, p5, p6⟩ | ⟨p1, p2, p3⟩
    · have hP : pb g (w.1 14 s).toInt x = true := (hq x).mpr p1
      have hs1 : zI ((m : Int) - 1) + 1 = zI ((m + 1 : Nat) - 1 : Int) := by
        rw [show (1 : Int32) = zI 1 from rfl, zI_add]; congr 1; omega
      have hnew : (if zI ((m + 1 : Nat) - 1 : Int) = nI k then (if top = true then nI x else (if 0 ≤ fbx k top l h m x then fbx k top l h m x else nI x)) else fbx k top l h m x) = fbx k top l h (m + 1) (x + 1) := by
        rw [show ((m + 1 : Nat) : Int) - 1 = ((m : Nat) : Int) by omega]
        have ra := hr.a m p3
        by_cases h1 : m = k
        · subst h1
          rw [if_pos ((hmk m (by omega)).mpr rfl)]
          have f1 : fbx m top l h m x = -1 := by unfold fbx; rw [if_neg (by omega)]
          rw [f1, if_neg (show ¬ (0 : Int32) ≤ -1 by decide)]
          unfold fbx
          rw [if_pos (show m < m + 1 by omega), zI_nat]
          cases top
          · rw [if_neg (by decide), if_neg (by decide), p4]
          · rw [if_pos rfl, if_pos rfl]; congr 1; omega
        · rw [if_neg (fun h => h1 ((hmk m (by omega)).mp h))]
          have f2 : fbx k top l h (m + 1) (x + 1) = fbx k top l h m (x + 1) := by
            unfold fbx
            by_cases h2 : k < m
            · rw [if_pos h2, if_pos (by omega)]
            · rw [if_neg h2, if_neg (by omega)]
          rw [f2]
          exact (fbx_st hr hm (fun h2 => by have := runs_so hr h2 p3; omega)).symm
      rw [hP, if_pos (by decide)]
      by_cases hx0 : x = 0
      · have e : nI x = 0 := by rw [hx0]; rfl
        rw [if_pos e, fX12_box_J81, fX12_box_J86, hs1, hnew, nI_1]
        exact ih (x + 1) f (m + 1) (by omega) (by omega) p5
      · have hN : ¬ pb g (w.1 14 s).toInt (x - 1) = true := fun h4 => p2 ⟨hx0, by
          have := (hq (x - 1)).mp h4
          rw [show ((x - 1 : Nat) : Int) = (x : Int) - 1 by omega] at this; exact this⟩
        rw [if_neg (nI_nz hx0 (by omega)), nI_s1 (by omega) (by omega), hp (x - 1) (by omega), Option.bind_some, decide_eq_false hN, Option.bind_some, if_neg (show ¬ false = true by decide), hs1, hnew, nI_1]
        exact ih (x + 1) f (m + 1) (by omega) (by omega) p5
    · have hP : pb g (w.1 14 s).toInt x = true := (hq x).mpr p1
      have hQ : pb g (w.1 14 s).toInt (x - 1) = true := (hq (x - 1)).mpr (by rw [show ((x - 1 : Nat) : Int) = (x : Int) - 1 by omega]; exact p3)
      have hs1 : zI ((m : Int) - 1) + 0 = zI ((m : Int) - 1) := by
        rw [show (0 : Int32) = zI 0 from rfl, zI_add]; congr 1; omega
      have hnew : (if zI ((m : Int) - 1) = nI k then (if top = true then nI x else (if 0 ≤ fbx k top l h m x then fbx k top l h m x else nI x)) else fbx k top l h m x) = fbx k top l h m (x + 1) := by
        rw [show ((m : Nat) : Int) - 1 = ((m - 1 : Nat) : Int) by omega]
        have ra := hr.a (m - 1) (by omega)
        by_cases h1 : m - 1 = k
        · subst h1
          rw [if_pos ((hmk (m - 1) (by omega)).mpr rfl)]
          unfold fbx
          cases top
          · simp only [Bool.false_eq_true, if_false]
            rw [if_pos (show m - 1 < m by omega), if_pos (show (0 : Int32) ≤ zI (l (m - 1)) by rw [i_le, zI_n (by omega) (by omega)]; omega)]
          · simp only [if_true]
            rw [if_pos (show m - 1 < m by omega), zI_nat]; congr 1; omega
        · rw [if_neg (fun h => h1 ((hmk (m - 1) (by omega)).mp h))]
          exact (fbx_st hr hm (fun h2 => by have := runs_so hr (show k < m - 1 by omega) (by omega); have := hi.2.1 (m - 1) (by omega); omega)).symm
      rw [hP, if_pos (by decide), if_neg (nI_nz p2 (by omega)), nI_s1 (by omega) (by omega), hp (x - 1) (by omega), Option.bind_some, hQ, decide_eq_true rfl, Option.bind_some, if_pos rfl, hs1, hnew, nI_1]
      exact ih (x + 1) f m (by omega) (by omega) p6
    · have hP : ¬ pb g (w.1 14 s).toInt x = true := fun h4 => p1 ((hq x).mp h4)
      rw [decide_eq_false hP, if_neg (by decide), nI_1]
      have hnew : fbx k top l h m (x + 1) = fbx k top l h m x := fbx_st hr hm (fun h2 => by
        have h3 := p2 (by omega)
        by_cases h4 : k = m - 1
        · rw [h4]; omega
        · have := runs_so hr (show k < m - 1 by omega) (by omega); have := hr.a (m - 1) (by omega); omega)
      rw [← hnew]
      exact ih (x + 1) f m (by omega) (by omega) p3
theorem sp_box_ok : sp_box RR := by
  have e0 : (0 : Int32).toInt = 0 := rfl
  intro u v a b k top hR
  unfold fX11_box fX12_box
  rcases shBoth hR a b with ⟨h1, h2⟩ | ⟨q, s, hq, hs, hsn, rfl, rfl, h1, h2⟩
  · rw [h1, h2]
    exact ⟨-1, u, v, rfl, rfl, hR⟩
  · rw [h1, h2, Option.bind_some, Option.bind_some, if_pos rfl, if_pos rfl]
    obtain ⟨T, n, g, u5, v5, v7, ⟨⟨hT, hn, hf, hO⟩, ⟨x1, x2, x3, x4⟩, ⟨y1, y2, y3, y4⟩, -, -⟩, k1, k2, k3, k4, k5, k6, k7⟩ := ent hR hq
    have hsn2 : s < n := by rw [hf, nI_n (by omega)] at hsn; omega
    have hb := inB_n (i := s) (n := 16) hs (by omega)
    have e8 : (8 : Int32) + nI q = nI (8 + q) := nI_add 8 q
    obtain ⟨w, c, l, h, f1, f2, f3, f4, f5⟩ := findX hT x1 hO (u5.1 197 s)
    have hRw : frX u5 w := fun j hj => f5 j (by omega) (by omega) (by omega)
    rw [k2, Option.bind_some, k1, Option.bind_some, if_pos hb, cl_n (by omega), f1, Option.bind_some]
    by_cases hk : k < 0
    · rw [if_pos hk, if_neg (by rw [i_lt] at hk; rw [i_le]; omega)]
      exact ⟨-1, w, v, rfl, rfl, RR_frX (frX_tr (frI_X (fun j hj => (by
        obtain ⟨T2, n2, g2, u52, v52, v72, ⟨-, -, -, z, -⟩, -, z2, -⟩ := ent hR hq
        have : u52 = u5 := by have := z2.symm.trans k2; exact Option.some.inj this
        rw [this] at z; exact z j hj))) hRw) hR⟩
    · have hk0 : 0 ≤ k.toInt := by rw [i_lt] at hk; omega
      rw [if_neg hk, if_pos (show 0 ≤ k by rw [i_le]; omega), k4, Option.bind_some, e8, if_pos (inB_n (by omega) (by omega)), cl_n (by omega), k5, k6, Option.bind_some]
      have hk2 := i_nat hk0
      have hkr := i_rng k
      generalize hK : k.toInt.toNat = K at hk2
      have hK2 : K < 2147483648 := by omega
      have hnd : u5.1 197 s = v7.1 14 s := by rw [(x4 s hsn2).2.1, (y4 s hsn2).1]
      rw [hnd] at f4
      have hl := box_loop hO y3 hs f4 f2 hK2 top 1000 0 fu0 0 (by omega) (fu_n (by omega)) ⟨by omega, fun j hj => by omega, fun h5 => (f4.a 0 h5).1⟩
      have hl : fX12_box_L44 (nI s) (nI K) top v7 fu0 (-1) (-1) 0 = some (fbx K top l h c 1000, v7) := hl
      rw [hk2, hl]
      refine ⟨fbx K top l h c 1000, w, v7, ?_, rfl, RR_frX hRw k7⟩
      rw [f3.1]
      unfold fbx
      by_cases hKc : K < c
      · have ra := f4.a K hKc
        have hb9 := inB_n (i := K) (n := 9) (by omega) (by omega)
        rw [if_pos ((lt_nI (by omega) (by omega)).mpr hKc), if_pos hb9, if_pos hb9, cl_n (by omega), if_pos hKc, (f3.2 K hKc).1, (f3.2 K hKc).2]
        cases top
        · rfl
        · rw [if_pos rfl, if_pos rfl, show min (h K) (((1000 : Nat) : Int) - 1) = h K by omega]
      · rw [if_neg (fun h6 => hKc ((lt_nI (by omega) (by omega)).mp h6)), if_neg hKc]
