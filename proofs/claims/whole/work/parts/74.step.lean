theorem RR_set {u v : Mem} (hR : RR u v) {q j : Nat} (hq : q < 2) (hj : j < 96) {x : Int32} (hx : 0 ≤ x.toInt ∧ x.toInt ≤ 100000) : RR (si u (160 + 4 * q + 1) j x) (si v 1 (20 + (96 * q + j)) x) := go_RR hq hR (go_set hq (go_start hq hR) hj hx)
/-- the parts at the beginning of a shell's burning -/
theorem beg_loop {q T n : Nat} {g : Nat → Int32} {u0 v0 : Mem} (C : CX q T n g u0 v0) {s : Nat} (hs : s < n) (a2 : Int32) (KX KM : Mem → Option Mem) : ∀ (d k tX tM : Nat) (u v : Mem), k + d = 6 → d < tX → d < tM → GO q u0 v0 u v → (∀ j, j < k → u.1 209 j = v.1 16 j) → ∃ u2 v2, fX11_burnShell_L8 q (nI s) T KX tX (nI k) u = KX u2 ∧ fX12_goes_L53 (nI q) a2 (nI s) KM tM (nI k) v = KM v2 ∧ GO q u0 v0 u2 v2 ∧ ∀ j, j < 6 → u2.1 209 j = v2.1 16 j := by
  have e6 : (6 : Int32).toInt = 6 := rfl
  obtain ⟨⟨hq, hT, hn, hO⟩, -⟩ := id C
  intro d
  induction d with
  | zero =>
    intro k tX tM u v hk h1 h2 hG hA
    obtain ⟨tX, rfl⟩ : ∃ m, tX = m + 1 := ⟨tX - 1, by omega⟩
    obtain ⟨tM, rfl⟩ : ∃ m, tM = m + 1 := ⟨tM - 1, by omega⟩
    have : k = 6 := by omega
    subst this
    refine ⟨u, v, ?_, ?_, hG, hA⟩
    · rw [fX11_burnShell_L8, if_pos (by decide)]
    · rw [fX12_goes_L53, if_pos (by decide)]
  | succ d ih =>
    intro k tX tM u v hk h1 h2 hG hA
    obtain ⟨tX, rfl⟩ : ∃ m, tX = m + 1 := ⟨tX - 1, by omega⟩
    obtain ⟨tM, rfl⟩ : ∃ m, tM = m + 1 := ⟨tM - 1, by omega⟩
    obtain ⟨hRR, hL, hS, hX, hd, hst, -⟩ := CX_at C hG
    have b6 : inB (nI k) 6 := inB_n (by omega) (by omega)
    have hG2 : GO q u0 v0 (si u 209 k (v.1 1 (20 + (96 * q + (6 * s + k))))) (si v 16 k (v.1 1 (20 + (96 * q + (6 * s + k))))) := go_auxM (go_auxX hq hG (fun j hj => ⟨si_ro _ _ (by omega), rfl⟩)) (fun j hj => si_ro _ _ (by omega)) rfl
    obtain ⟨u2, v2, r1, r2, r3⟩ := ih (k + 1) tX tM _ _ (by omega) (by omega) (by omega) hG2 (fun j hj => by
      rw [si_1, si_1]
      by_cases h : j = k
      · rw [if_pos ⟨rfl, h⟩, if_pos ⟨rfl, h⟩]
      · rw [if_neg (by omega), if_neg (by omega)]; exact hA j (by omega))
    refine ⟨u2, v2, ?_, ?_, r3⟩
    · rw [fX11_burnShell_L8, if_neg (by rw [i_le, nI_n (by omega)]; omega), partX hst (by omega) (by omega), Option.bind_some, if_pos b6, cl_n (by omega), nI_1]; exact r1
    · rw [fX12_goes_L53, if_neg (by rw [i_le, nI_n (by omega)]; omega), partM hq (by omega) (by omega), Option.bind_some, if_pos b6, cl_n (by omega), nI_1]; exact r2
def GL (g : Nat → Int32) (c : Nat) (u v : Mem) : Prop := ∀ j, j < c → (g (6 + 6 * j) = 1 → (v.1 17 j = 0 ↔ u.2 210 j ≤ 0)) ∧ (¬ g (6 + 6 * j) = 1 → u.2 210 j = 0)
theorem brn_loop {q T n : Nat} {g : Nat → Int32} {u0 v0 : Mem} (C : CX q T n g u0 v0) {s : Nat} (hs : s < n) (a2 : Int32) (KM : Mem → Option Mem) : ∀ (d c tX tM : Nat) (u v : Mem), c + d = 5 → d < tX → d < tM → GO q u0 v0 u v → (∀ j, j < 6 → u.1 209 j = v.1 16 j) → GL g c u v → ∃ u2 v2, fX11_burnShell_L38 q (nI s) T tX (nI c) u = some u2 ∧ fX12_goes_L84 (nI q) a2 (nI s) KM tM (nI c) v = KM v2 ∧ GO q u0 v0 u2 v2 ∧ (∀ j, j < 6 → u2.1 209 j = v2.1 16 j) ∧ GL g 5 u2 v2 := by
  have e5 : (5 : Int32).toInt = 5 := rfl
  obtain ⟨⟨hq, hT, hn, hO⟩, -⟩ := id C
  intro d
  induction d with
  | zero =>
    intro c tX tM u v hk h1 h2 hG hA hL
    obtain ⟨tX, rfl⟩ : ∃ m, tX = m + 1 := ⟨tX - 1, by omega⟩
    obtain ⟨tM, rfl⟩ : ∃ m, tM = m + 1 := ⟨tM - 1, by omega⟩
    have : c = 5 := by omega
    subst this
    refine ⟨u, v, ?_, ?_, hG, hA, hL⟩
    · rw [fX11_burnShell_L38, if_pos (by decide)]
    · rw [fX12_goes_L84, if_pos (by decide)]
  | succ d ih =>
    intro c tX tM u v hk h1 h2 hG hA hGL
    obtain ⟨tX, rfl⟩ : ∃ m, tX = m + 1 := ⟨tX - 1, by omega⟩
    obtain ⟨tM, rfl⟩ : ∃ m, tM = m + 1 := ⟨tM - 1, by omega⟩
    have b5 : inB (nI c) 5 := inB_n (by omega) (by omega)
    have b16 : inB (nI s) 16 := inB_n (by omega) (by omega)
    have hG1 : GO q u0 v0 (sl u 210 c 0) v := go_auxX hq hG (fun j hj => ⟨rfl, sl_ro _ _ (by omega)⟩)
    obtain ⟨hRR, hL, hS, hX, hd, hst, -, -, hlo⟩ := CX_at C hG1
    obtain ⟨lo, lo1, lo2, lo3⟩ := hlo s hs
    have n5 : ¬ (5 : Int32) ≤ nI c := by rw [i_le, nI_n (by omega)]; omega
    rw [fX11_burnShell_L38, if_neg n5, if_pos b5, cl_n (by omega), tldX hL hO (by omega), Option.bind_some]
    rw [fX12_goes_L84, if_neg n5, tldM hS (by omega), Option.bind_some]
    by_cases ht : g (6 + 6 * c) = 1
    · obtain ⟨u2, v2, L, p1, p2, p3, p4, p5, p6, p7⟩ := burn_both C hG1 hs (show c < 5 by omega) ht lo1 lo3
      have hG2 : GO q u0 v0 (sl u2 210 c L) v2 := go_auxX hq p3 (fun j hj => ⟨rfl, sl_ro _ _ (by omega)⟩)
      obtain ⟨u3, v3, r1, r2, r3⟩ := ih (c + 1) tX tM _ _ (by omega) (by omega) (by omega) hG2 (fun j hj => by
        rw [sl_1, p4.1, p5]; exact hA j hj) (fun j hj => by
        by_cases h : j = c
        · rw [h]
          exact ⟨fun _ => by rw [sl_2, if_pos ⟨rfl, rfl⟩]; exact p7, fun h9 => absurd ht h9⟩
        · rw [sl_2, if_neg (by omega), p4.2, sl_2, if_neg (by omega), p6 j h]; exact hGL j (by omega))
      refine ⟨u3, v3, ?_, ?_, r3⟩
      · rw [decide_eq_true ht, if_pos rfl, if_pos b16, cl_n (by omega), lo2, show (2 : Int32) = nI 2 from rfl, nI_add, spX hL hO (by omega) lo1, Option.bind_some, p1, Option.bind_some, if_pos b5, nI_1]; exact r1
      · rw [decide_eq_true ht, if_pos rfl, p2, Option.bind_some, nI_1]; exact r2
    · obtain ⟨u3, v3, r1, r2, r3⟩ := ih (c + 1) tX tM _ _ (by omega) (by omega) (by omega) hG1 hA (fun j hj => by
        by_cases h : j = c
        · rw [h]
          exact ⟨fun h9 => absurd h9 ht, fun _ => by rw [sl_2, if_pos ⟨rfl, rfl⟩]⟩
        · rw [sl_2, if_neg (by omega)]; exact hGL j (by omega))
      refine ⟨u3, v3, ?_, ?_, r3⟩
      · rw [decide_eq_false ht, if_neg (by decide), nI_1]; exact r1
      · rw [decide_eq_false ht, if_neg (by decide), nI_1]; exact r2
def KR (u v u2 v2 : Mem) : Prop := u2.1 209 = u.1 209 ∧ u2.2 210 = u.2 210 ∧ v2.1 16 = v.1 16 ∧ v2.1 17 = v.1 17
theorem look_J {q T n : Nat} {g : Nat → Int32} {u0 v0 u v : Mem} (C : CX q T n g u0 v0) (hG : GO q u0 v0 u v) {s c : Nat} (hs : s < n) (hc : c < 5) {b : Bool} (hb : (if u.2 210 c ≤ 0 then false else true) = b) (Rc : Int32 → Mem → Option Mem) : ∃ u2 v2, fX11_tellEvents_J96 Rc (nI q) (nI s) q T (nI c) (nI (5 * s + c)) u = Rc (nI (c + 1)) u2 ∧ fX12_looksAt_J97 (nI q) (nI s) (nI c) (nI (220 + (80 * q + (5 * s + c)))) b v = some v2 ∧ GO q u0 v0 u2 v2 ∧ KR u v u2 v2 := by
  obtain ⟨⟨hq, hT, hn, hO⟩, hR0, -⟩ := id C
  have b5 : inB (nI c) 5 := inB_n (by omega) (by omega)
  have b80 : inB (nI (5 * s + c)) 80 := inB_n (by omega) (by omega)
  have bb : inB (nI (220 + (80 * q + (5 * s + c)))) 8320 := inB_n (by omega) (by omega)
  obtain ⟨g3, g3'⟩ := hG.2.2.2.2.1 (5 * s + c) (by omega)
  have hbz : bz b = 0 ∨ bz b = 1 := by cases b <;> simp [bz]
  have hbq : ((if b = true then 1 else 0) : Int32) = bz b := by cases b <;> rfl
  unfold fX11_tellEvents_J96 fX12_looksAt_J97
  rw [if_pos b5, cl_n (show c < 2147483648 by omega), hb, if_pos b80, if_pos b80, cl_n (show 5 * s + c < 2147483648 by omega), g3, if_pos bb, if_pos bb, cl_n (show 220 + (80 * q + (5 * s + c)) < 2147483648 by omega), hbq, nI_1, Option.bind_some]
  cases b with
  | false =>
    rw [if_neg (by decide), if_neg (by decide)]
    exact ⟨_, _, rfl, rfl, go_shone hq hG (by omega) hbz, si_ro _ _ (by omega), rfl, si_ro _ _ (by omega), si_ro _ _ (by omega)⟩
  | true =>
    rw [if_pos rfl, if_pos rfl]
    by_cases h0 : v.1 1 (220 + (80 * q + (5 * s + c))) = 0
    · obtain ⟨u2, v2, p1, p2, p3, p4, p5, p6, p7⟩ := go_tell hq hR0.1.2.2.2.2.1.1 hG (nI q) (nI s) (nI c) 1
      rw [if_pos h0, if_pos h0, p1, Option.bind_some, if_pos b80, Option.bind_some, p2, Option.bind_some, if_pos bb]
      refine ⟨_, _, rfl, rfl, go_shone hq p3 (by omega) hbz, ?_, ?_, ?_, ?_⟩
      · rw [si_ro _ _ (by omega)]; exact p4 _ (by omega) (by omega)
      · rw [si_2, p5]
      · rw [si_ro _ _ (by omega)]; exact p6 _ (by omega)
      · rw [si_ro _ _ (by omega)]; exact p6 _ (by omega)
    · rw [if_neg h0, if_neg h0]
      exact ⟨_, _, rfl, rfl, go_shone hq hG (by omega) hbz, si_ro _ _ (by omega), rfl, si_ro _ _ (by omega), si_ro _ _ (by omega)⟩
theorem look_both {q T n : Nat} {g : Nat → Int32} {u0 v0 u v : Mem} (C : CX q T n g u0 v0) (hG : GO q u0 v0 u v) {s c : Nat} (hs : s < n) (hc : c < 5) (hA : ∀ j, j < 6 → u.1 209 j = v.1 16 j) (hGL : GL g 5 u v) (t : Nat) : ∃ u2 v2, fX11_tellEvents_L19 (nI q) (nI s) q T (t + 1) (nI c) u = fX11_tellEvents_L19 (nI q) (nI s) q T t (nI (c + 1)) u2 ∧ fX12_looksAt (nI q) (nI s) (nI c) v = some v2 ∧ GO q u0 v0 u2 v2 ∧ KR u v u2 v2 := by
  obtain ⟨⟨hq, hT, hn, hO⟩, hR0, -⟩ := id C
  obtain ⟨hRR, hL, hS, hX, hd, hst, -, -, hlo⟩ := CX_at C hG
  have e5 : (5 : Int32).toInt = 5 := rfl
  have b5 : inB (nI c) 5 := inB_n (by omega) (by omega)
  have i3 : nI s * 5 + nI c = nI (5 * s + c) := by rw [show (5 : Int32) = nI 5 from rfl, pk_mul, nI_add, Nat.mul_comm]
  have i4 : (((220 : Int32) + 80 * nI q) + 5 * nI s) + nI c = nI (220 + (80 * q + (5 * s + c))) := by rw [show (5 : Int32) = nI 5 from rfl, show (80 : Int32) = nI 80 from rfl, show (220 : Int32) = nI 220 from rfl, pk_mul, pk_mul, nI_add, nI_add, nI_add]; congr 1; omega
  obtain ⟨gl1, gl2⟩ := hGL c hc
  rw [fX11_tellEvents_L19, if_neg (by rw [i_le, nI_n (by omega)]; omega), tldX hL hO hc, Option.bind_some, i3]
  unfold fX12_looksAt
  rw [tldM hS hc, Option.bind_some, i4]
  by_cases ht : g (6 + 6 * c) = 1
  · obtain ⟨c1, c2, -⟩ := chR hO hc ht
    have o0 : fX3_ofChain T (nI c) 0 u = some (g (6 + 6 * c + 1)) := ofcX hL hc (j := 0) (by omega)
    have o1 : fX3_ofChain T (nI c) 1 u = some (g (6 + 6 * c + 2)) := ofcX hL hc (j := 1) (by omega)
    have n0 : fX12_chainOf (nI c) 0 v = some (g (6 + 6 * c + 1)) := ofcM hS hc (j := 0) (by omega)
    have n1 : fX12_chainOf (nI c) 1 v = some (g (6 + 6 * c + 2)) := ofcM hS hc (j := 1) (by omega)
    have hk1 := i_nat c1.1
    generalize hK1 : (g (6 + 6 * c + 1)).toInt.toNat = k1 at *
    have l1 : k1 < 6 := by omega
    have b6 : inB (nI k1) 6 := inB_n l1 (by omega)
    have hbb : (if u.2 210 c ≤ 0 then false else true) = (if v.1 17 c = 0 then false else true) := by
      by_cases h : u.2 210 c ≤ 0
      · rw [if_pos h, if_pos ((gl1 ht).mpr h)]
      · rw [if_neg h, if_neg (fun h2 => h ((gl1 ht).mp h2))]
    rw [decide_eq_true ht, if_pos rfl, if_pos rfl, if_pos b5, Option.bind_some, if_pos rfl, o0, Option.bind_some, o1, Option.bind_some, n0, Option.bind_some, n1, hk1, partX hst (by omega) l1, Option.bind_some, partM hq (by omega) l1, Option.bind_some, Option.bind_some, cl_n (show c < 2147483648 by omega)]
    by_cases h1 : g (6 + 6 * c + 2) ≤ v.1 1 (20 + (96 * q + (6 * s + k1)))
    · rw [if_pos h1, if_pos h1]
      exact look_J C hG hs hc hbb _
    · rw [if_neg h1, if_neg h1, if_pos b6, Option.bind_some, if_pos b6, Option.bind_some, cl_n (show k1 < 2147483648 by omega), hA k1 l1]
      by_cases h2 : v.1 16 k1 < g (6 + 6 * c + 2)
      · rw [if_pos h2, if_pos h2]
        exact look_J C hG hs hc hbb _
      · rw [if_neg h2, if_neg h2]
        obtain ⟨u2, v2, p1, p2, p3, p4, p5, p6, p7⟩ := go_tell hq hR0.1.2.2.2.2.1.1 hG (nI q) (nI s) (nI c) 0
        rw [p1, Option.bind_some, p2, Option.bind_some]
        obtain ⟨u3, v3, r1, r2, r3, r4, r5, r6, r7⟩ := look_J C p3 hs hc (b := (if v.1 17 c = 0 then false else true)) (by rw [p5]; exact hbb) (fX11_tellEvents_L19 (nI q) (nI s) q T t)
        exact ⟨u3, v3, r1, r2, r3, r4.trans (p4 _ (by omega) (by omega)), by rw [r5, p5], r6.trans (p6 _ (by omega)), r7.trans (p6 _ (by omega))⟩
  · rw [decide_eq_false ht, if_neg (by decide), if_neg (by decide)]
    unfold fX12_looksAt_J37 fX12_looksAt_J38
    rw [tldM hS hc, Option.bind_some, decide_eq_false ht, if_neg (by decide)]
    exact look_J C hG hs hc (by rw [gl2 ht]; decide) _
theorem look_loop {q T n : Nat} {g : Nat → Int32} {u0 v0 : Mem} (C : CX q T n g u0 v0) {s : Nat} (hs : s < n) (a2 : Int32) (Rc : Int32 → Mem → Option Mem) : ∀ (d c tX tM : Nat) (u v : Mem), c + d = 5 → d < tX → d < tM → GO q u0 v0 u v → (∀ j, j < 6 → u.1 209 j = v.1 16 j) → GL g 5 u v → ∃ u2 v2, fX11_tellEvents_L19 (nI q) (nI s) q T tX (nI c) u = some u2 ∧ fX12_goes_L116 (nI q) a2 (nI s) Rc tM (nI c) v = Rc (nI (s + 1)) v2 ∧ GO q u0 v0 u2 v2 := by
  have e5 : (5 : Int32).toInt = 5 := rfl
  intro d
  induction d with
  | zero =>
    intro c tX tM u v hk h1 h2 hG hA hL
    obtain ⟨tX, rfl⟩ : ∃ m, tX = m + 1 := ⟨tX - 1, by omega⟩
    obtain ⟨tM, rfl⟩ : ∃ m, tM = m + 1 := ⟨tM - 1, by omega⟩
    have : c = 5 := by omega
    subst this
    refine ⟨u, v, ?_, ?_, hG⟩
    · rw [fX11_tellEvents_L19, if_pos (by decide)]
    · rw [fX12_goes_L116, if_pos (by decide), nI_1]
  | succ d ih =>
    intro c tX tM u v hk h1 h2 hG hA hGL
    obtain ⟨tX, rfl⟩ : ∃ m, tX = m + 1 := ⟨tX - 1, by omega⟩
    obtain ⟨tM, rfl⟩ : ∃ m, tM = m + 1 := ⟨tM - 1, by omega⟩
    obtain ⟨u2, v2, p1, p2, p3, p4, p5, p6, p7⟩ := look_both C hG hs (show c < 5 by omega) hA hGL tX
    obtain ⟨u3, v3, r1, r2, r3⟩ := ih (c + 1) tX tM u2 v2 (by omega) (by omega) (by omega) p3 (by rw [p4, p6]; exact hA) (by unfold GL at hGL ⊢; rw [p5, p7]; exact hGL)
    refine ⟨u3, v3, ?_, ?_, r3⟩
    · rw [p1]; exact r1
    · rw [fX12_goes_L116, if_neg (by rw [i_le, nI_n (by omega)]; omega), p2, Option.bind_some, nI_1]; exact r2
/-- all shells -/
theorem shell_loop {q T n : Nat} {g : Nat → Int32} {u0 v0 : Mem} (C : CX q T n g u0 v0) (KX : Mem → Option (Bool × Mem)) (KM : Mem → Option Mem) : ∀ (d s tX tM : Nat) (u v : Mem), s + d = n → d < tX → d < tM → GO q u0 v0 u v → ∃ u2 v2, fX11_makeStep_L56 (nI q) q KX tX (nI s) u = KX u2 ∧ fX12_goes_L45 (nI q) (nI n) KM tM (nI s) v = KM v2 ∧ GO q u0 v0 u2 v2 := by
  obtain ⟨⟨hq, hT, hn, hO⟩, hR0, -⟩ := id C
  intro d
  induction d with
  | zero =>
    intro s tX tM u v hk h1 h2 hG
    obtain ⟨tX, rfl⟩ : ∃ m, tX = m + 1 := ⟨tX - 1, by omega⟩
    obtain ⟨tM, rfl⟩ : ∃ m, tM = m + 1 := ⟨tM - 1, by omega⟩
    have : s = n := by omega
    subst this
    obtain ⟨-, -, -, -, -, -, h6, -⟩ := CX_at C hG
    refine ⟨u, v, ?_, ?_, hG⟩
    · rw [fX11_makeStep_L56, h6, if_pos ((le_nI (by omega) (by omega)).mpr (by omega))]
    · rw [fX12_goes_L45, if_pos ((le_nI (by omega) (by omega)).mpr (by omega))]
  | succ d ih =>
    intro s tX tM u v hk h1 h2 hG
    obtain ⟨tX, rfl⟩ : ∃ m, tX = m + 1 := ⟨tX - 1, by omega⟩
    obtain ⟨tM, rfl⟩ : ∃ m, tM = m + 1 := ⟨tM - 1, by omega⟩
    obtain ⟨-, -, -, hX, -, -, h6, -⟩ := CX_at C hG
    have hs : s < n := by omega
    obtain ⟨u2, v2, p1, p2, p3, p4⟩ := beg_loop C hs (nI n) (fun u6 => fX11_burnShell_L38 q (nI s) T fu0 0 u6) (fun u11 => fX12_goes_L84 (nI q) (nI n) (nI s) (fun u18 => fX12_goes_L116 (nI q) (nI n) (nI s) (fX12_goes_L45 (nI q) (nI n) KM tM) fu0 0 u18) fu0 0 u11) 6 0 fu0 fu0 u v (by omega) (fu_n (by omega)) (fu_n (by omega)) hG (fun j hj => by omega)
    obtain ⟨u3, v3, r1, r2, r3, r4, r5⟩ := brn_loop C hs (nI n) (fun u18 => fX12_goes_L116 (nI q) (nI n) (nI s) (fX12_goes_L45 (nI q) (nI n) KM tM) fu0 0 u18) 5 0 fu0 fu0 u2 v2 (by omega) (fu_n (by omega)) (fu_n (by omega)) p3 p4 (fun j hj => by omega)
    obtain ⟨u4, v4, s1, s2, s3⟩ := look_loop C hs (nI n) (fX12_goes_L45 (nI q) (nI n) KM tM) 5 0 fu0 fu0 u3 v3 (by omega) (fu_n (by omega)) (fu_n (by omega)) r3 r4 r5
    obtain ⟨u5, v5, z1, z2, z3⟩ := ih (s + 1) tX tM u4 v4 (by omega) (by omega) (by omega) s3
    obtain ⟨-, -, -, hX3, -⟩ := CX_at C r3
    refine ⟨u5, v5, ?_, ?_, z3⟩
    · have q1 : fX11_burnShell q (nI s) u = some u3 := by
        unfold fX11_burnShell
        rw [hX, Option.bind_some]
        exact p1.trans r1
      have q2 : fX11_tellEvents (nI q) (nI s) u3 = some u4 := by
        unfold fX11_tellEvents
        rw [if_pos (inB_n hq (by omega)), hX3, Option.bind_some, cl_n (by omega), show 2 * 0 + q = q by omega]
        exact s1
      rw [fX11_makeStep_L56, h6, if_neg (fun h => by have := (le_nI (by omega) (by omega)).mp h; omega), q1, Option.bind_some, q2, Option.bind_some, nI_1]
      exact z1
    · rw [fX12_goes_L45, if_neg (fun h => by have := (le_nI (by omega) (by omega)).mp h; omega)]
      exact (p2.trans (r2.trans s2)).trans z2
