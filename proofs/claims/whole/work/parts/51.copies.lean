/-- the reference's copies, out and back -/
def cpO (u : Mem) (i : Nat) : Mem := sr u 2 (fun j => if i ≤ j ∧ j < 8320 then u.1 1 j else u.1 2 j)
def cpI (u : Mem) (i : Nat) : Mem := sr u 1 (fun j => if i ≤ j ∧ j < 8320 then u.1 2 j else u.1 1 j)
def cbO (u : Mem) (i : Nat) : Mem := srl u 4 (fun j => if i ≤ j ∧ j < 160 then u.2 3 j else u.2 4 j)
def cbI (u : Mem) (i : Nat) : Mem := srl u 3 (fun j => if i ≤ j ∧ j < 160 then u.2 4 j else u.2 3 j)
theorem cpO_step (u : Mem) (i : Nat) (hi : i < 8320) : cpO (si u 2 i (u.1 1 i)) (i + 1) = cpO u i := by
  apply mem_ext
  · intro a b
    simp only [cpO, sr_1, si_1, true_and]
    repeat' split
    all_goals first | rfl | (exfalso; omega) | (have e : b = i := by omega
                                                subst e; rfl)
  · intro a b; rfl
theorem cpI_step (u : Mem) (i : Nat) (hi : i < 8320) : cpI (si u 1 i (u.1 2 i)) (i + 1) = cpI u i := by
  apply mem_ext
  · intro a b
    simp only [cpI, sr_1, si_1, true_and]
    repeat' split
    all_goals first | rfl | (exfalso; omega) | (have e : b = i := by omega
                                                subst e; rfl)
  · intro a b; rfl
theorem cbO_step (u : Mem) (i : Nat) (hi : i < 160) : cbO (sl u 4 i (u.2 3 i)) (i + 1) = cbO u i := by
  apply mem_ext
  · intro a b; rfl
  · intro a b
    simp only [cbO, srl_2, sl_2, true_and]
    repeat' split
    all_goals first | rfl | (exfalso; omega) | (have e : b = i := by omega
                                                subst e; rfl)
theorem cbI_step (u : Mem) (i : Nat) (hi : i < 160) : cbI (sl u 3 i (u.2 4 i)) (i + 1) = cbI u i := by
  apply mem_ext
  · intro a b; rfl
  · intro a b
    simp only [cbI, srl_2, sl_2, true_and]
    repeat' split
    all_goals first | rfl | (exfalso; omega) | (have e : b = i := by omega
                                                subst e; rfl)
theorem copies_a (o : Bool) (K : Mem → Option Mem) : ∀ (n i : Nat) (u : Mem) (t : Nat), i + n = 8320 → n < t → fX12_copies_L2 o K t (nI i) u = K (if o = true then cpO u i else cpI u i) := by
  intro n
  induction n with
  | zero =>
    intro i u t hi ht
    obtain ⟨t, rfl⟩ : ∃ k, t = k + 1 := ⟨t - 1, by omega⟩
    have hi : i = 8320 := by omega
    subst hi
    rw [fX12_copies_L2, if_pos (by decide)]
    congr 1
    cases o
    · simp only [Bool.false_eq_true, if_false]
      apply mem_ext
      · intro a b; simp only [cpI, sr_1]; repeat' split
        all_goals first | rfl | (exfalso; omega) | (rename_i h _; subst h; rfl) | simp_all
      · intro a b; rfl
    · simp only [if_true]
      apply mem_ext
      · intro a b; simp only [cpO, sr_1]; repeat' split
        all_goals first | rfl | (exfalso; omega) | (rename_i h _; subst h; rfl) | simp_all
      · intro a b; rfl
  | succ n ih =>
    intro i u t hi ht
    obtain ⟨t, rfl⟩ : ∃ k, t = k + 1 := ⟨t - 1, by omega⟩
    have h1 : ¬ (8320 : Int32) ≤ nI i := by rw [i_le, nI_n (by omega)]; have : (8320 : Int32).toInt = 8320 := by decide
                                            omega
    have hb : inB (nI i) 8320 := inB_n (by omega) (by omega)
    rw [fX12_copies_L2, if_neg h1]
    cases o
    · simp only [Bool.false_eq_true, if_false, if_pos hb, cl_n (show i < 2147483648 by omega), Option.bind_some, nI_1]
      rw [ih (i + 1) _ t (by omega) (by omega)]
      simp only [Bool.false_eq_true, if_false, cpI_step u i (by omega)]
    · simp only [if_true, if_pos hb, cl_n (show i < 2147483648 by omega), Option.bind_some, nI_1]
      rw [ih (i + 1) _ t (by omega) (by omega)]
      simp only [if_true, cpO_step u i (by omega)]
theorem copies_b (o : Bool) : ∀ (n i : Nat) (u : Mem) (t : Nat), i + n = 160 → n < t → fX12_copies_L48 o t (nI i) u = some (if o = true then cbO u i else cbI u i) := by
  intro n
  induction n with
  | zero =>
    intro i u t hi ht
    obtain ⟨t, rfl⟩ : ∃ k, t = k + 1 := ⟨t - 1, by omega⟩
    have hi : i = 160 := by omega
    subst hi
    rw [fX12_copies_L48, if_pos (by decide)]
    congr 1
    cases o
    · simp only [Bool.false_eq_true, if_false]
      apply mem_ext
      · intro a b; rfl
      · intro a b; simp only [cbI, srl_2]; repeat' split
        all_goals first | rfl | (exfalso; omega) | (rename_i h _; subst h; rfl) | simp_all
    · simp only [if_true]
      apply mem_ext
      · intro a b; rfl
      · intro a b; simp only [cbO, srl_2]; repeat' split
        all_goals first | rfl | (exfalso; omega) | (rename_i h _; subst h; rfl) | simp_all
  | succ n ih =>
    intro i u t hi ht
    obtain ⟨t, rfl⟩ : ∃ k, t = k + 1 := ⟨t - 1, by omega⟩
    have h1 : ¬ (160 : Int32) ≤ nI i := by rw [i_le, nI_n (by omega)]; have : (160 : Int32).toInt = 160 := by decide
                                           omega
    have hb : inB (nI i) 160 := inB_n (by omega) (by omega)
    rw [fX12_copies_L48, if_neg h1]
    cases o
    · simp only [Bool.false_eq_true, if_false, if_pos hb, cl_n (show i < 2147483648 by omega), Option.bind_some, nI_1]
      rw [ih (i + 1) _ t (by omega) (by omega)]
      simp only [Bool.false_eq_true, if_false, cbI_step u i (by omega)]
    · simp only [if_true, if_pos hb, cl_n (show i < 2147483648 by omega), Option.bind_some, nI_1]
      rw [ih (i + 1) _ t (by omega) (by omega)]
      simp only [if_true, cbO_step u i (by omega)]
theorem copies_out (u : Mem) : fX12_copies true u = some (cbO (cpO u 0) 0) := by
  unfold fX12_copies
  rw [show (0 : Int32) = nI 0 from rfl, copies_a true _ 8320 0 u fu0 rfl (by decide)]
  simp only [if_true]
  rw [copies_b true 160 0 _ fu0 rfl (by decide)]
  simp only [if_true]
theorem copies_in (u : Mem) : fX12_copies false u = some (cbI (cpI u 0) 0) := by
  unfold fX12_copies
  rw [show (0 : Int32) = nI 0 from rfl, copies_a false _ 8320 0 u fu0 rfl (by decide)]
  simp only [Bool.false_eq_true, if_false]
  rw [copies_b false 160 0 _ fu0 rfl (by decide)]
  simp only [Bool.false_eq_true, if_false]
