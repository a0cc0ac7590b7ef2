theorem nI_n1 {a : Nat} (h : a ≠ 1) (h2 : a < 2147483648) : ¬ nI a = 1 := fun h3 => h (nI_inj (b := 1) h2 (by omega) h3)
theorem says_fr {v w : Mem} (h : w.1 1 = v.1 1) (a : Int32) : fX12_says a w = fX12_says a v := by unfold fX12_says; rw [h]
def Sy (v : Mem) (g : Nat → Int32) : Prop := ∀ k, k < 220 → fX12_says (nI k) v = some (g k)
theorem Sy_fr {v w : Mem} {g : Nat → Int32} (h : w.1 1 = v.1 1) (hS : Sy v g) : Sy w g := fun k hk => by rw [says_fr h]; exact hS k hk
def frN (v w : Mem) : Prop := (∀ k, k < 9 → w.1 k = v.1 k) ∧ w.2 = v.2
theorem frN_rfl (v : Mem) : frN v v := ⟨fun _ _ => rfl, rfl⟩
theorem frN_tr {a b c : Mem} (h1 : frN a b) (h2 : frN b c) : frN a c := ⟨fun k hk => (h2.1 k hk).trans (h1.1 k hk), h2.2.trans h1.2⟩
theorem frN_M {v w : Mem} (h : frN v w) : frM v w := ⟨fun k h0 hk => ⟨h.1 k (by omega), by rw [h.2]⟩, by rw [h.1 0 (by omega)], by rw [h.1 0 (by omega)], by rw [h.1 0 (by omega)], by rw [h.1 0 (by omega)]⟩
def spF (g : Nat → Int32) (b : Bool) (j : Nat) : Int := spZ g (j / 1000) b ((j % 1000 : Nat) : Int)
def dnF (g : Nat → Int32) (N : Nat) (v : Mem) : Prop := ∀ j, j < N → v.1 9 j = zI (spF g false j) ∧ v.1 10 j = zI (spF g true j)
theorem spans1 {g : Nat → Int32} (hO : lawOk g) {t : Nat} (ht : t < 7) (Rc : Int32 → Mem → Option Mem) : ∀ (d x f : Nat) (v : Mem), x + d = 1000 → d < f → Sy v g → dnF g (1000 * t + x) v → ∃ w, fX12_spans_L10 (nI t) Rc f (nI x) v = Rc (nI (t + 1)) w ∧ dnF g (1000 * (t + 1)) w ∧ frN v w := by
  intro d
  induction d with
  | zero =>
    intro x f v hx hf hS hd
    obtain ⟨f, rfl⟩ : ∃ k, f = k + 1 := ⟨f - 1, by omega⟩
    have hx : x = 1000 := by omega
    subst hx
    rw [fX12_spans_L10, if_pos (by decide), nI_1]
    exact ⟨v, rfl, hd, frN_rfl v⟩
  | succ d ih =>
    intro x f v hx hf hS hd
    obtain ⟨f, rfl⟩ : ∃ k, f = k + 1 := ⟨f - 1, by omega⟩
    have e1000 : (1000 : Int32).toInt = 1000 := rfl
    have ei : 1000 * nI t + nI x = nI (1000 * t + x) := by rw [show (1000 : Int32) = nI 1000 from rfl, pk_mul, nI_add]
    have hb : inB (nI (1000 * t + x)) 7000 := inB_n (by omega) (by omega)
    rw [fX12_spans_L10, if_neg (by rw [i_le, nI_n (by omega)]; omega), spM hS hO ht (by omega), Option.bind_some, ei, if_pos hb, cl_n (by omega)]
    have hS2 : Sy (si v 9 (1000 * t + x) (zI (spZ g t false x))) g := Sy_fr (si_ro _ _ (by omega)) hS
    rw [spM hS2 hO ht (by omega), Option.bind_some, if_pos hb, Option.bind_some, nI_1]
    have e1 : (1000 * t + x) / 1000 = t := by omega
    have e2 : (1000 * t + x) % 1000 = x := by omega
    obtain ⟨w, y1, y2, y3⟩ := ih (x + 1) f (si (si v 9 (1000 * t + x) (zI (spZ g t false x))) 10 (1000 * t + x) (zI (spZ g t true x))) (by omega) (by omega) (Sy_fr (si_ro _ _ (by omega)) hS2) (fun j hj => by
      by_cases h : j = 1000 * t + x
      · subst h
        unfold spF
        rw [e1, e2, si_1, if_neg (by omega), si_1, if_pos ⟨rfl, rfl⟩, si_1, if_pos ⟨rfl, rfl⟩]
        exact ⟨rfl, rfl⟩
      · rw [si_1, if_neg (by omega), si_1, if_neg (by omega), si_1, if_neg (by omega), si_1, if_neg (by omega)]
        exact hd j (by omega))
    exact ⟨w, y1, y2, fun k hk => by rw [y3.1 k hk, si_ro _ _ (by omega), si_ro _ _ (by omega)], y3.2⟩
theorem spans2 {g : Nat → Int32} (hO : lawOk g) : ∀ (d t f : Nat) (v : Mem), t + d = 7 → d < f → Sy v g → dnF g (1000 * t) v → ∃ w, fX12_spans_L2 f (nI t) v = some w ∧ dnF g 7000 w ∧ frN v w := by
  intro d
  induction d with
  | zero =>
    intro t f v hx hf hS hd
    obtain ⟨f, rfl⟩ : ∃ k, f = k + 1 := ⟨f - 1, by omega⟩
    have hx : t = 7 := by omega
    subst hx
    rw [fX12_spans_L2, if_pos (by decide)]
    exact ⟨v, rfl, hd, frN_rfl v⟩
  | succ d ih =>
    intro t f v hx hf hS hd
    obtain ⟨f, rfl⟩ : ∃ k, f = k + 1 := ⟨f - 1, by omega⟩
    have e7 : (7 : Int32).toInt = 7 := rfl
    obtain ⟨w, y1, y2, y3⟩ := spans1 hO (t := t) (by omega) (fX12_spans_L2 f) 1000 0 fu0 v rfl (fu_n (by omega)) hS hd
    rw [show nI 0 = (0 : Int32) from rfl] at y1
    rw [fX12_spans_L2, if_neg (by rw [i_le, nI_n (by omega)]; omega), y1]
    obtain ⟨z, z1, z2, z3⟩ := ih (t + 1) f w (by omega) (by omega) (Sy_fr (y3.1 1 (by omega)) hS) y2
    exact ⟨z, z1, z2, frN_tr y3 z3⟩
theorem spansM {g : Nat → Int32} {v : Mem} (hO : lawOk g) (hS : Sy v g) : ∃ w, fX12_spans v = some w ∧ dnF g 7000 w ∧ frN v w := spans2 hO 7 0 fu0 v rfl (fu_n (by omega)) hS (fun j hj => by omega)
theorem dn_at {g : Nat → Int32} {v : Mem} (h : dnF g 7000 v) {t x : Nat} (ht : t < 7) (hx : x < 1000) : v.1 9 (1000 * t + x) = zI (spZ g t false x) ∧ v.1 10 (1000 * t + x) = zI (spZ g t true x) := by
  have := h (1000 * t + x) (by omega)
  unfold spF at this
  rw [show (1000 * t + x) / 1000 = t by omega, show (1000 * t + x) % 1000 = x by omega] at this
  exact this
theorem canM {g : Nat → Int32} {v : Mem} (hO : lawOk g) (h : dnF g 7000 v) {s x : Nat} (hs : s < 16) (hx : x < 1000) : fX12_canBe (nI s) (nI x) v = some (pb g (v.1 14 s).toInt x) := by
  have h1 := dn_at h (t := 0) (by omega) hx
  rw [show 1000 * 0 + x = x by omega] at h1
  have r0 := sp_r hO (t := 0) (by omega) false x
  have r1 := sp_r hO (t := 0) (by omega) true x
  unfold fX12_canBe
  rw [if_pos (inB_n hs (by omega)), if_pos (inB_n (by omega) (by omega)), if_pos (inB_n (by omega) (by omega)), cl_n (by omega), cl_n (by omega), h1.1, h1.2, in_sp, j_of, j_of, j_of, zI_n (by omega) (by omega), zI_n (by omega) (by omega), Option.bind_some]
  rfl
def F1 (s : Nat) (v w : Mem) : Prop := (∀ k, k < 11 ∨ 13 < k → w.1 k = v.1 k) ∧ (∀ k j, j ≠ s → w.1 k j = v.1 k j) ∧ w.2 = v.2
theorem F1_rfl (s : Nat) (v : Mem) : F1 s v v := ⟨fun _ _ => rfl, fun _ _ _ => rfl, rfl⟩
theorem F1_tr {s : Nat} {a b c : Mem} (h1 : F1 s a b) (h2 : F1 s b c) : F1 s a c := ⟨fun k hk => (h2.1 k hk).trans (h1.1 k hk), fun k j hj => (h2.2.1 k j hj).trans (h1.2.1 k j hj), h2.2.2.trans h1.2.2⟩
theorem F1_si {s k : Nat} (hk : 11 ≤ k ∧ k ≤ 13) (v : Mem) (x : Int32) : F1 s v (si v k s x) := ⟨fun j hj => si_ro _ _ (by omega), fun a j hj => by rw [si_1, if_neg (by omega)], rfl⟩
/-- the reference's walk is the scan -/
theorem walkM {g : Nat → Int32} (hO : lawOk g) {s : Nat} (hs : s < 16) (need : Int32) (a1 a2 : Int32) (a3 : Bool) (K : Mem → Option (Bool × Mem)) : ∀ (d x f : Nat) (v : Mem), x + d = 1000 → d < f → dnF g 7000 v → v.1 14 s = need → v.1 11 s = nI (scan (pb g need.toInt) x).1 → v.1 12 s = nI (scan (pb g need.toInt) x).2.1 → v.1 13 s = nI (scan (pb g need.toInt) x).2.2 → ∃ w, fX12_settles_L75 a1 a2 a3 (nI s) K f (nI x) v = K w ∧ w.1 11 s = nI (bxs g need.toInt).1 ∧ w.1 12 s = nI (bxs g need.toInt).2.1 ∧ w.1 13 s = nI (bxs g need.toInt).2.2 ∧ F1 s v w := by
  have hb := inB_n (i := s) (n := 16) hs (by omega)
  have hcl := cl_n (show s < 2147483648 by omega)
  intro d
  induction d with
  | zero =>
    intro x f v hx hf hd h14 h11 h12 h13
    obtain ⟨f, rfl⟩ : ∃ k, f = k + 1 := ⟨f - 1, by omega⟩
    have hx : x = 1000 := by omega
    subst hx
    rw [fX12_settles_L75, if_pos (by decide)]
    exact ⟨v, rfl, h11, h12, h13, F1_rfl s v⟩
  | succ d ih =>
    intro x f v hx hf hd h14 h11 h12 h13
    obtain ⟨f, rfl⟩ : ∃ k, f = k + 1 := ⟨f - 1, by omega⟩
    have e1000 : (1000 : Int32).toInt = 1000 := rfl
    obtain ⟨l1, l2, l3⟩ := scan_le (pb g need.toInt) x
    rw [fX12_settles_L75, if_neg (by rw [i_le, nI_n (by omega)]; omega), canM hO hd hs (by omega), Option.bind_some, h14]
    have J153 : ∀ (w : Mem) (m lo hi : Nat), m ≤ x + 1 → F1 s v w → w.1 11 s = nI m → w.1 12 s = nI lo → w.1 13 s = nI hi → scan (pb g need.toInt) (x + 1) = (m, lo, if m = 1 then x else hi) → ∃ z, fX12_settles_J153 (fX12_settles_L75 a1 a2 a3 (nI s) K f) a1 a2 a3 (nI s) (nI x) w = K z ∧ z.1 11 s = nI (bxs g need.toInt).1 ∧ z.1 12 s = nI (bxs g need.toInt).2.1 ∧ z.1 13 s = nI (bxs g need.toInt).2.2 ∧ F1 s v z := by
      intro w m lo hi hm hF k1 k2 k3 hsc
      unfold fX12_settles_J153
      rw [if_pos hb, hcl, k1, nI_1]
      have go : ∀ w2 : Mem, F1 s w w2 → w2.1 11 s = nI m → w2.1 12 s = nI lo → w2.1 13 s = nI (if m = 1 then x else hi) → ∃ z, fX12_settles_L75 a1 a2 a3 (nI s) K f (nI (x + 1)) w2 = K z ∧ z.1 11 s = nI (bxs g need.toInt).1 ∧ z.1 12 s = nI (bxs g need.toInt).2.1 ∧ z.1 13 s = nI (bxs g need.toInt).2.2 ∧ F1 s v z := by
        intro w2 hF2 q1 q2 q3
        have hF3 := F1_tr hF hF2
        obtain ⟨z, z1, z2, z3, z4, z5⟩ := ih (x + 1) f w2 (by omega) (by omega) (fun j hj => by rw [hF3.1 9 (by omega), hF3.1 10 (by omega)]; exact hd j hj) (by rw [hF3.1 14 (by omega)]; exact h14) (by rw [hsc]; exact q1) (by rw [hsc]; exact q2) (by rw [hsc]; exact q3)
        exact ⟨z, z1, z2, z3, z4, F1_tr hF3 z5⟩
      by_cases hm1 : m = 1
      · rw [if_pos (by rw [hm1]; rfl), if_pos hb]
        refine go _ (F1_si (by omega) w _) ?_ ?_ ?_
        · rw [si_1, if_neg (by omega)]; exact k1
        · rw [si_1, if_neg (by omega)]; exact k2
        · rw [si_1, if_pos ⟨rfl, rfl⟩, if_pos hm1]
      · rw [if_neg (nI_n1 hm1 (by omega)), if_pos hb, if_pos hb, Option.bind_some]
        refine go _ (F1_si (by omega) w _) ?_ ?_ ?_
        · rw [si_1, if_neg (by omega)]; exact k1
        · rw [si_1, if_neg (by omega)]; exact k2
        · rw [si_1, if_pos ⟨rfl, rfl⟩, if_neg hm1]; exact k3
    have J112 : pb g need.toInt x = true → ¬ (x ≠ 0 ∧ pb g need.toInt (x - 1) = true) → ∃ z, fX12_settles_J112 (fX12_settles_L75 a1 a2 a3 (nI s) K f) a1 a2 a3 (nI s) (nI x) v = K z ∧ z.1 11 s = nI (bxs g need.toInt).1 ∧ z.1 12 s = nI (bxs g need.toInt).2.1 ∧ z.1 13 s = nI (bxs g need.toInt).2.2 ∧ F1 s v z := by
      intro hp hnp
      unfold fX12_settles_J112
      rw [if_pos hb, if_pos hb, hcl, h11, nI_1, Option.bind_some, if_pos hb]
      generalize hw : si v 11 s (nI ((scan (pb g need.toInt) x).1 + 1)) = w
      have k1 : w.1 11 s = nI ((scan (pb g need.toInt) x).1 + 1) := by rw [← hw, si_1, if_pos ⟨rfl, rfl⟩]
      have k2 : w.1 12 s = nI (scan (pb g need.toInt) x).2.1 := by rw [← hw, si_1, if_neg (by omega)]; exact h12
      have k3 : w.1 13 s = nI (scan (pb g need.toInt) x).2.2 := by rw [← hw, si_1, if_neg (by omega)]; exact h13
      have hF : F1 s v w := by rw [← hw]; exact F1_si (by omega) v _
      rw [k1, k2]
      have hsc : scan (pb g need.toInt) (x + 1) = ((scan (pb g need.toInt) x).1 + 1, if (scan (pb g need.toInt) x).1 + 1 = 1 then x else (scan (pb g need.toInt) x).2.1, if (scan (pb g need.toInt) x).1 + 1 = 1 then x else (scan (pb g need.toInt) x).2.2) := by rw [scan, if_pos hp, if_neg hnp]
      generalize scan (pb g need.toInt) x = r at *
      have key : (if nI (r.1 + 1) = 1 then fX12_settles_J152 (fX12_settles_L75 a1 a2 a3 (nI s) K f) a1 a2 a3 (nI s) (nI x) (nI x) (nI s) w else if inB (nI s) 16 then fX12_settles_J152 (fX12_settles_L75 a1 a2 a3 (nI s) K f) a1 a2 a3 (nI s) (nI x) (nI r.2.1) (nI s) w else none) = fX12_settles_J152 (fX12_settles_L75 a1 a2 a3 (nI s) K f) a1 a2 a3 (nI s) (nI x) (nI (if r.1 + 1 = 1 then x else r.2.1)) (nI s) w := by
        by_cases h : r.1 + 1 = 1
        · rw [if_pos (by rw [h]; rfl), if_pos h]
        · rw [if_neg (nI_n1 h (by omega)), if_neg h, if_pos hb]
      rw [key]
      unfold fX12_settles_J152
      rw [if_pos hb, hcl]
      refine J153 _ (r.1 + 1) _ r.2.2 (by omega) (F1_tr hF (F1_si (by omega) w _)) ?_ ?_ ?_ hsc
      · rw [si_1, if_neg (by omega)]; exact k1
      · rw [si_1, if_pos ⟨rfl, rfl⟩]
      · rw [si_1, if_neg (by omega)]; exact k3
    by_cases hp : pb g need.toInt x = true
    · rw [if_pos hp]
      by_cases h0 : x = 0
      · rw [if_pos (by rw [h0]; rfl)]
        exact J112 hp (fun h => h.1 h0)
      · rw [if_neg (nI_nz h0 (by omega)), nI_s1 (by omega) (by omega), canM hO hd hs (by omega), Option.bind_some, h14]
        by_cases hq : pb g need.toInt (x - 1) = true
        · rw [if_pos hq]
          refine J153 v _ _ _ (by omega) (F1_rfl s v) h11 h12 h13 ?_
          rw [scan, if_pos hp, if_pos ⟨h0, hq⟩]
        · rw [if_neg hq]
          exact J112 hp (fun h => hq h.2)
    · rw [if_neg hp, nI_1]
      have hsc : scan (pb g need.toInt) (x + 1) = scan (pb g need.toInt) x := by rw [scan, if_neg hp]
      exact ih (x + 1) f v (by omega) (by omega) hd h14 (by rw [hsc]; exact h11) (by rw [hsc]; exact h12) (by rw [hsc]; exact h13)
def okv (c : Nat → Nat) (b : Bool) : Nat → Bool
  | 0 => b
  | k + 1 => okv c b k && decide (0 < c k)
def SM (g f : Nat → Int32) (q n : Nat) (unit : Int32) (v : Mem) (s : Nat) : Prop :=
  v.1 14 s = ndI g f q n unit s ∧ v.1 11 s = nI (bxs g (ndI g f q n unit s).toInt).1 ∧ v.1 12 s = nI (bxs g (ndI g f q n unit s).toInt).2.1 ∧ v.1 13 s = nI (bxs g (ndI g f q n unit s).toInt).2.2
theorem SM_fr {g f : Nat → Int32} {q n : Nat} {unit : Int32} {v w : Mem} {s : Nat} (h : SM g f q n unit v s) (e : ∀ k, 11 ≤ k → k ≤ 14 → w.1 k s = v.1 k s) : SM g f q n unit w s := by
  unfold SM at *
  rw [e 11 (by omega) (by omega), e 12 (by omega) (by omega), e 13 (by omega) (by omega), e 14 (by omega) (by omega)]
  exact h
theorem stM {g f : Nat → Int32} (hO : lawOk g) {q n : Nat} (hq : q < 2) (hn : n ≤ 16) (hf : f (2 + q) = nI n) {unit : Int32} (hu : 0 < unit.toInt) : ∀ (d s t : Nat) (v : Mem), s + d = n → d < t → Sy v g → v.1 1 = f → dnF g 7000 v → (∀ j, j < s → SM g f q n unit v j) → ∃ w, fX12_settles_L20 (nI q) unit t (okv (bxC g f q n unit) (decide (0 < n)) s) (nI s) v = some (okv (bxC g f q n unit) (decide (0 < n)) n, w) ∧ frN v w ∧ dnF g 7000 w ∧ (∀ j, j < n → SM g f q n unit w j) ∧ ∀ k, 14 < k → w.1 k = v.1 k := by
  have e2 : (2 : Int32) + nI q = nI (2 + q) := nI_add 2 q
  have p3 : inB (nI (2 + q)) 8320 := inB_n (by omega) (by omega)
  have c2 := cl_n (show 2 + q < 2147483648 by omega)
  intro d
  induction d with
  | zero =>
    intro s t v hs ht hS hv hd hM
    obtain ⟨t, rfl⟩ : ∃ k, t = k + 1 := ⟨t - 1, by omega⟩
    have : s = n := by omega
    subst this
    rw [fX12_settles_L20, e2, if_pos p3, c2, hv, hf, if_pos ((le_nI (by omega) (by omega)).mpr (by omega))]
    exact ⟨v, rfl, frN_rfl v, hd, hM, fun _ _ => rfl⟩
  | succ d ih =>
    intro s t v hs ht hS hv hd hM
    obtain ⟨t, rfl⟩ : ∃ k, t = k + 1 := ⟨t - 1, by omega⟩
    have hb := inB_n (i := s) (n := 16) (by omega) (by omega)
    have hcl := cl_n (show s < 2147483648 by omega)
    have hneed := nedM (s := s) hS hq hn (by omega) (by rw [hv]; exact hf) hu
    rw [hv] at hneed
    rw [fX12_settles_L20, e2, if_pos p3, c2, hv, hf, if_neg (fun h => by have := (le_nI (by omega) (by omega)).mp h; omega), hneed, Option.bind_some, if_pos hb, if_pos hb, Option.bind_some, if_pos hb, if_pos hb, Option.bind_some, hcl]
    generalize hu6 : si (si (si (si v 14 s (ndI g f q n unit s)) 11 s 0) 12 s 0) 13 s 0 = u6
    have fr6 : ∀ k, k < 11 ∨ 14 < k → u6.1 k = v.1 k := fun k hk => by rw [← hu6, si_ro _ _ (by omega), si_ro _ _ (by omega), si_ro _ _ (by omega), si_ro _ _ (by omega)]
    have fr6s : ∀ k j, j ≠ s → u6.1 k j = v.1 k j := fun k j hj => by rw [← hu6, si_1, if_neg (by omega), si_1, if_neg (by omega), si_1, if_neg (by omega), si_1, if_neg (by omega)]
    have fr62 : u6.2 = v.2 := by rw [← hu6]; rfl
    obtain ⟨w, y1, y2, y3, y4, y5⟩ := walkM hO (s := s) (by omega) (ndI g f q n unit s) (nI q) unit (okv (bxC g f q n unit) (decide (0 < n)) s) (fun u20 => (if (okv (bxC g f q n unit) (decide (0 < n)) s) = true then (if inB (nI s) 16 then fX12_settles_L20 (nI q) unit t (if (u20.1 11 s) ≤ 0 then false else true) (nI s + 1) u20 else none) else fX12_settles_L20 (nI q) unit t false (nI s + 1) u20)) 1000 0 fu0 u6 rfl (fu_n (by omega)) (fun j hj => by rw [fr6 9 (by omega), fr6 10 (by omega)]; exact hd j hj) (by rw [← hu6, si_1, if_neg (by omega), si_1, if_neg (by omega), si_1, if_neg (by omega), si_1, if_pos ⟨rfl, rfl⟩]) (by rw [← hu6, si_1, if_neg (by omega), si_1, if_neg (by omega), si_1, if_pos ⟨rfl, rfl⟩]; rfl) (by rw [← hu6, si_1, if_neg (by omega), si_1, if_pos ⟨rfl, rfl⟩]; rfl) (by rw [← hu6, si_1, if_pos ⟨rfl, rfl⟩]; rfl)
    rw [show nI 0 = (0 : Int32) from rfl] at y1
    rw [y1, y2, nI_1]
    have hbl := bxs_le g (ndI g f q n unit s).toInt
    have ebc : bxC g f q n unit s = (bxs g (ndI g f q n unit s).toInt).1 := rfl
    have efin : (if (okv (bxC g f q n unit) (decide (0 < n)) s) = true then (if inB (nI s) 16 then fX12_settles_L20 (nI q) unit t (if nI (bxs g (ndI g f q n unit s).toInt).1 ≤ 0 then false else true) (nI (s + 1)) w else none) else fX12_settles_L20 (nI q) unit t false (nI (s + 1)) w) = fX12_settles_L20 (nI q) unit t (okv (bxC g f q n unit) (decide (0 < n)) (s + 1)) (nI (s + 1)) w := by
      rw [okv, ebc]
      have e0 : (0 : Int32).toInt = 0 := rfl
      by_cases h : okv (bxC g f q n unit) (decide (0 < n)) s = true
      · rw [if_pos h, if_pos hb, h, Bool.true_and]
        congr 1
        by_cases h1 : (bxs g (ndI g f q n unit s).toInt).1 = 0
        · rw [if_pos (by rw [i_le, nI_n (by omega)]; omega), decide_eq_false (by omega)]
        · rw [if_neg (by rw [i_le, nI_n (by omega)]; omega), decide_eq_true (by omega)]
      · rw [if_neg h, Bool.eq_false_iff.mpr h, Bool.false_and]
    rw [efin]
    have hw1 : ∀ k, k < 11 ∨ 14 < k → w.1 k = v.1 k := fun k hk => by rw [y5.1 k (by omega), fr6 k hk]
    have frw : frN v w := ⟨fun k hk => hw1 k (by omega), by rw [y5.2.2, fr62]⟩
    have hMs : ∀ j, j < s + 1 → SM g f q n unit w j := by
      intro j hj
      by_cases h : j = s
      · rw [h]
        refine ⟨?_, y2, y3, y4⟩
        rw [y5.1 14 (by omega), ← hu6, si_1, if_neg (by omega), si_1, if_neg (by omega), si_1, if_neg (by omega), si_1, if_pos ⟨rfl, rfl⟩]
      · exact SM_fr (hM j (by omega)) (fun k h1 h2 => by rw [y5.2.1 k j h, fr6s k j h])
    obtain ⟨z, z1, z2, z3, z4, z5⟩ := ih (s + 1) t w (by omega) (by omega) (Sy_fr (hw1 1 (by omega)) hS) (by rw [hw1 1 (by omega)]; exact hv) (fun j hj => by rw [hw1 9 (by omega), hw1 10 (by omega)]; exact hd j hj) hMs
    exact ⟨z, z1, frN_tr frw z2, z3, z4, fun k hk => by rw [z5 k hk, hw1 k (by omega)]⟩
theorem settleM {g f : Nat → Int32} {v : Mem} (hO : lawOk g) {q n : Nat} (hq : q < 2) (hn : n ≤ 16) (hv : v.1 1 = f) (hf : f (2 + q) = nI n) {unit : Int32} (hu : 0 < unit.toInt) (hS : Sy v g) (hd : dnF g 7000 v) : ∃ w, fX12_settles (nI q) unit v = some (okv (bxC g f q n unit) (decide (0 < n)) n, w) ∧ frN v w ∧ dnF g 7000 w ∧ (∀ j, j < n → SM g f q n unit w j) ∧ ∀ k, 14 < k → w.1 k = v.1 k := by
  unfold fX12_settles
  have e2 : (2 : Int32) + nI q = nI (2 + q) := nI_add 2 q
  have e0 : (0 : Int32).toInt = 0 := rfl
  rw [e2, if_pos (inB_n (by omega) (by omega)), cl_n (by omega), hv, hf]
  have e : (if nI n ≤ 0 then false else true) = okv (bxC g f q n unit) (decide (0 < n)) 0 := by
    rw [okv]
    by_cases h : n = 0
    · rw [if_pos (by rw [i_le, nI_n (by omega)]; omega), decide_eq_false (by omega)]
    · rw [if_neg (by rw [i_le, nI_n (by omega)]; omega), decide_eq_true (by omega)]
  rw [e]
  exact stM hO hq hn hf hu n 0 fu0 v (by omega) (fu_n (by omega)) hS hv hd (fun j hj => by omega)
/-- calm or not -/
theorem okv_iff (c : Nat → Nat) (n : Nat) : ∀ k, okv c (decide (0 < n)) k = true ↔ 0 < n ∧ ∀ s, s < k → 0 < c s := by
  intro k
  induction k with
  | zero => rw [okv, decide_eq_true_iff]; exact ⟨fun h => ⟨h, fun s hs => by omega⟩, fun h => h.1⟩
  | succ k ih =>
    rw [okv, Bool.and_eq_true, ih, decide_eq_true_iff]
    constructor
    · intro ⟨⟨h1, h2⟩, h3⟩
      refine ⟨h1, fun s hs => ?_⟩
      by_cases h : s = k
      · rw [h]; exact h3
      · exact h2 s (by omega)
    · intro ⟨h1, h2⟩; exact ⟨⟨h1, fun s hs => h2 s (by omega)⟩, h2 k (by omega)⟩
theorem cmv_0 (c : Nat → Nat) (n : Nat) : ∀ d, d ≤ n → (0 < cmv c n d ↔ 0 < n ∧ ∀ s, n - d ≤ s → s < n → 0 < c s) := by
  intro d
  induction d with
  | zero =>
    intro _
    rw [cmv]
    by_cases h : n = 0
    · rw [if_pos h]; omega
    · rw [if_neg h]; exact ⟨fun _ => ⟨by omega, fun s h1 h2 => by omega⟩, fun _ => by omega⟩
  | succ d ih =>
    intro hd
    have ih := ih (by omega)
    rw [cmv]
    have spl : (0 < n ∧ ∀ s, n - (d + 1) ≤ s → s < n → 0 < c s) ↔ (0 < c (n - (d + 1)) ∧ 0 < cmv c n d) := by
      rw [ih]
      constructor
      · intro ⟨h1, h2⟩; exact ⟨h2 _ (Nat.le_refl _) (by omega), h1, fun s h3 h4 => h2 s (by omega) h4⟩
      · intro ⟨h1, h2, h3⟩
        refine ⟨h2, fun s h4 h5 => ?_⟩
        by_cases h : s = n - (d + 1)
        · rw [h]; exact h1
        · exact h3 s (by omega) h5
    rw [spl]
    by_cases h1 : c (n - (d + 1)) = 1
    · rw [if_pos h1]; omega
    · rw [if_neg h1]
      by_cases h2 : c (n - (d + 1)) = 0
      · rw [if_pos h2]; omega
      · rw [if_neg h2]; omega
theorem cmv_2 (c : Nat → Nat) (n : Nat) : ∀ d, d ≤ n → (cmv c n d = 2 ↔ 0 < n ∧ ∀ s, n - d ≤ s → s < n → c s = 1) := by
  intro d
  induction d with
  | zero =>
    intro _
    rw [cmv]
    by_cases h : n = 0
    · rw [if_pos h]; omega
    · rw [if_neg h]; exact ⟨fun _ => ⟨by omega, fun s h1 h2 => by omega⟩, fun _ => by omega⟩
  | succ d ih =>
    intro hd
    have ih := ih (by omega)
    rw [cmv]
    have spl : (0 < n ∧ ∀ s, n - (d + 1) ≤ s → s < n → c s = 1) ↔ (c (n - (d + 1)) = 1 ∧ cmv c n d = 2) := by
      rw [ih]
      constructor
      · intro ⟨h1, h2⟩; exact ⟨h2 _ (Nat.le_refl _) (by omega), h1, fun s h3 h4 => h2 s (by omega) h4⟩
      · intro ⟨h1, h2, h3⟩
        refine ⟨h2, fun s h4 h5 => ?_⟩
        by_cases h : s = n - (d + 1)
        · rw [h]; exact h1
        · exact h3 s (by omega) h5
    rw [spl]
    by_cases h1 : c (n - (d + 1)) = 1
    · rw [if_pos h1]; omega
    · rw [if_neg h1]
      by_cases h2 : c (n - (d + 1)) = 0
      · rw [if_pos h2]; omega
      · rw [if_neg h2]; omega
