def w6 : Nat → Int32 := upd (upd (upd (upd (upd (upd (fun _ => 0) 0 1) 1 1) 2 1) 3 1) 4 1) 5 1
/-- the memory of a new StarShells -/
def uX0 : Mem := (fun k j => if k < 160 then (if k % 5 = 1 then w6 j else 0) else if k < 176 then (if k % 4 = 0 then (if j = 4 then 100 else if j = 5 then 1000 else 0) else 0) else if k = 184 then (if j = 2 then 31 else 0) else if k = 193 then (if j = 1 then -1 else 0) else 0, fun _ _ => 0)
def EL (cy : Nat → ClassId) (al : Nat → Nat) : Nat → va_E := fun k => sE cy al (uX0.1 k) (uX0.2 k) (shX k)
def fk (k : Nat) (al : Nat → Nat) : Nat → Option Nat := fun i => if i < k then some (al (5 * i)) else none
def hd9 (cy : Nat → ClassId) (a1 a2 : Nat → Nat) : va_W := [(a1 0, .inr (8, [.ref (a1 1), .int 0])), (a1 1, .inl (cy 0, 400, .inl (fun _ => 0))), (a2 0, .inr (4, [.ref (a1 0), .ref (a2 1), .ref (a2 2), .int 0, .int 0, .int 0, .int 0, .int 0, .int 0, .int 0, .int 0])), (a2 1, .inl (cy 1, 18, .inl (fun _ => 0))), (a2 2, .inr (3, [.ref (a2 3), .ref (a2 4), .ref (a2 5), .ref (a2 6), .int 0])), (a2 3, .inl (cy 0, 6, .inl (upd (upd (upd (upd (upd (upd (fun _ => 0) 0 1) 1 1) 2 1) 3 1) 4 1) 5 1))), (a2 4, .inl (cy 0, 25, .inl (fun _ => 0))), (a2 5, .inl (cy 0, 7, .inl (fun _ => 0))), (a2 6, .inl (cy 0, 168, .inl (fun _ => 0)))]
def hd11 (cy : Nat → ClassId) (h0 q : Nat) (a1 a2 : Nat → Nat) (f : Nat → Option Nat) : va_W := (h0, .inr (11, [.ref (a1 0), .ref (a2 0), .ref q, .null, .null, .null, .null, .null, .null, .null, .null, .null])) :: (hd9 cy a1 a2 ++ [(q, .inl (cy 4, 31, .inr (.inr (.inr (.inr f)))))])

theorem EL_grow (cy : Nat → ClassId) (al a : Nat → Nat) (k : Nat) (hk : k < 31) : wl al (5 * k) (EL cy al) ++ gX3_init cy a = wl (fun j => if j < 5 * k then al j else a (j - 5 * k)) (5 * (k + 1)) (EL cy (fun j => if j < 5 * k then al j else a (j - 5 * k))) := by
  generalize hb : (fun j => if j < 5 * k then al j else a (j - 5 * k)) = b
  have hb1 : ∀ j, j < 5 * k → b j = al j := fun j h => by rw [← hb]; simp [h]
  have hb2 : ∀ r, b (5 * k + r) = a r := fun r => by rw [← hb]; show (if 5 * k + r < 5 * k then al (5 * k + r) else a (5 * k + r - 5 * k)) = a r; rw [if_neg (by omega), show 5 * k + r - 5 * k = r by omega]
  have hL : (wl al (5 * k) (EL cy al)).length = 5 * k := by simp [wl]
  apply List.ext_getElem?
  intro j
  by_cases h1 : j < 5 * k
  · rw [List.getElem?_append_left (by rw [hL]; exact h1), wl_at h1, wl_at (by omega), hb1 j h1]
    congr 2
    have hj : j < 160 := by omega
    have e0 : shX j = shL j (j % 5) := by simp only [shX, if_pos hj]
    simp only [EL, e0]
    have h5 : j % 5 < 5 := Nat.mod_lt _ (by omega)
    rcases (by omega : j % 5 = 0 ∨ j % 5 = 1 ∨ j % 5 = 2 ∨ j % 5 = 3 ∨ j % 5 = 4) with h | h | h | h | h
    · rw [h]
      show (Sum.inr (3, [.ref (al (j + 1)), .ref (al (j + 2)), .ref (al (j + 3)), .ref (al (j + 4)), .int (uX0.1 j 4)]) : va_E) = .inr (3, [.ref (b (j + 1)), .ref (b (j + 2)), .ref (b (j + 3)), .ref (b (j + 4)), .int (uX0.1 j 4)])
      rw [hb1 (j + 1) (by omega), hb1 (j + 2) (by omega), hb1 (j + 3) (by omega), hb1 (j + 4) (by omega)]
    · rw [h]; rfl
    · rw [h]; rfl
    · rw [h]; rfl
    · rw [h]; rfl
  · by_cases h2 : j < 5 * (k + 1)
    · rw [List.getElem?_append_right (by rw [hL]; omega), hL, wl_at h2]
      have hj : j < 160 := by omega
      obtain ⟨r, rfl⟩ : ∃ r, j = 5 * k + r := ⟨j - 5 * k, by omega⟩
      have e0 : shX (5 * k + r) = shL (5 * k + r) ((5 * k + r) % 5) := by simp only [shX, if_pos hj]
      rw [show 5 * k + r - 5 * k = r by omega, hb2]
      simp only [EL, e0]
      have u1 : uX0.1 (5 * k + r) = fun j => if (5 * k + r) % 5 = 1 then w6 j else 0 := by funext j; simp only [uX0, if_pos hj]
      rw [u1]
      rcases (by omega : r = 0 ∨ r = 1 ∨ r = 2 ∨ r = 3 ∨ r = 4) with h | h | h | h | h <;> subst h
      · have e1 : (5 * k + 0) % 5 = 0 := by omega
        rw [e1]
        show some (a 0, (Sum.inr (3, [.ref (a 1), .ref (a 2), .ref (a 3), .ref (a 4), .int 0]) : va_E)) = some (a 0, .inr (3, [.ref (b (5 * k + 0 + 1)), .ref (b (5 * k + 0 + 2)), .ref (b (5 * k + 0 + 3)), .ref (b (5 * k + 0 + 4)), .int _]))
        have f1 : b (5 * k + 0 + 1) = a 1 := hb2 1
        have f2 : b (5 * k + 0 + 2) = a 2 := hb2 2
        have f3 : b (5 * k + 0 + 3) = a 3 := hb2 3
        have f4 : b (5 * k + 0 + 4) = a 4 := hb2 4
        rw [f1, f2, f3, f4]
        rfl
      · have e1 : (5 * k + 1) % 5 = 1 := by omega
        rw [e1]; rfl
      · have e1 : (5 * k + 2) % 5 = 2 := by omega
        rw [e1]; rfl
      · have e1 : (5 * k + 3) % 5 = 3 := by omega
        rw [e1]; rfl
      · have e1 : (5 * k + 4) % 5 = 4 := by omega
        rw [e1]; rfl
    · rw [List.getElem?_eq_none (by rw [List.length_append, hL]; simp [gX3_init]; omega), List.getElem?_eq_none (by simp [wl]; omega)]
theorem fk_grow (al a : Nat → Nat) (k : Nat) : va_up (fk k al) k (some (a 0)) = fk (k + 1) (fun j => if j < 5 * k then al j else a (j - 5 * k)) := by
  funext i
  by_cases h : i = k
  · subst h
    simp [va_up, fk]
  · rw [va_up_ne _ _ h]
    by_cases h2 : i < k
    · simp only [fk, if_pos h2, if_pos (show i < k + 1 by omega), if_pos (show 5 * i < 5 * k by omega)]
    · simp only [fk, if_neg h2, if_neg (show ¬ i < k + 1 by omega)]

theorem nw_X11_25 : nwW RX11 25 3 5 [.null, .null, .null, .null, .int 0] := ⟨RX3, TX3, tyX3, rfl, inG3, tyX3_ok, (tk_1 (List.mem_of_getElem? (i := 118) rfl) rfl), (tk_1 (List.mem_of_getElem? (i := 52) rfl) rfl), (tk_1 (List.mem_of_getElem? (i := 4) rfl) rfl), by decide⟩
theorem mi_X11_31 : MiW RX11 31 yX3_init cX3_init 2 0 := ⟨(tk_1 (List.mem_of_getElem? (i := 120) rfl) rfl), (tk_1 (List.mem_of_getElem? (i := 54) rfl) rfl), (tk_1 (List.mem_of_getElem? (i := 4) rfl) rfl), (tk_1 (List.mem_of_getElem? (i := 55) rfl) rfl), rfl, by decide +kernel⟩
def rX11_init : Room := { frames := 3, cells := 210, slots := 9629, locals := 54 }
set_option maxHeartbeats 4000000 in
set_option maxRecDepth 100000 in
theorem main_loop {l : Launch} {D : va_G} {cy : Nat → ClassId} {A : Nat → Prop} {p : Program} {e : Env} {s : State} {m : MethodId} {args : Array Value} {below : List Frame} {meth : Method} {c : Code} {Q : State → Prop} (C : CN D cy A 2 cX11_init RX11 p s m args meth c) (hov : va_AO "StarShells$Laws" s ∧ va_AO "StarShells$Star" s) {h0 q : Nat} {a1 a2 : Nat → Nat} (hx : ∀ al : Nat → Nat, VN D A 2 p l e rX11_init s m args below meth c Q (165) (7214) 66 [(0, .ref h0)] [] (hd11 cy h0 q a1 a2 (fk 31 al) ++ wl al 155 (EL cy al))) : ∀ (t k : Nat) (al : Nat → Nat), k + t = 31 → VN D A 2 p l e rX11_init s m args below meth c Q (10 + 5 * k) (673 + 211 * k) 41 [(1, .int (nI k)), (0, .ref h0)] [] (hd11 cy h0 q a1 a2 (fk k al) ++ wl al (5 * k) (EL cy al)) := by
  intro t
  induction t with
  | zero =>
    intro k al hk
    have hk : k = 31 := by omega
    subst hk
    refine n_iload_n C 0 dX11_init_41 rfl rfl ?_
    refine n_bipush C (v := 30) dX11_init_42 (by decide) ?_
    refine n_icmp_gt C 66 dX11_init_44 (by decide) (fun _ => ?_) (fun z => absurd (by decide) z)
    refine n_sub [1] rfl ?_
    exact hx al
  | succ t ih =>
    intro k al hk
    refine n_iload_n C 0 dX11_init_41 rfl rfl ?_
    refine n_bipush C (v := 30) dX11_init_42 (by decide) ?_
    refine n_icmp_gt C 66 dX11_init_44 (by decide) (fun z => ?_) (fun z => ?_)
    · exfalso
      have z2 : (30 : Int32).toInt < (nI k).toInt := (fa_lt5 _ _).mp z
      rw [nI_toInt (by omega)] at z2
      have e3 : (30 : Int32).toInt = 30 := by decide
      omega
    · refine n_aload_n C 1 dX11_init_47 rfl rfl ?_
      refine n_get C 0 rfl fd_X11_27 rfl dX11_init_48 ?_
      refine n_iload_n C 0 dX11_init_51 rfl rfl ?_
      refine n_new C nw_X11_25 (by show 10 + 5 * k + 1 ≤ 210; omega) (by show 673 + 211 * k + 5 ≤ 9629; omega) dX11_init_52 (fun q1 => ?_)
      refine n_dup C rfl dX11_init_55 ?_
      refine n_ctorI C (g := gX3_init cy) (W0 := hd11 cy h0 q a1 a2 (fk k al) ++ wl al (5 * k) (EL cy al)) (cX3_init_in l D cy) hov mi_X11_31 ⟨Nat.le_of_ble_eq_true rfl, Nat.le_of_ble_eq_true rfl⟩ ⟨rfl, rfl⟩ rfl rfl (Nat.le_of_ble_eq_true rfl) rfl (by show 10 + 5 * k + 1 + 4 ≤ 210; omega) (by show 673 + 211 * k + 5 + 206 ≤ 9629; omega) dX11_init_56 (fun a ha => ?_)
      subst ha
      have e1 : (nI k).toNatClampNeg = k := nI_clamp (by omega)
      refine n_aast4 C 10 (hd11 cy h0 q a1 a2 (fk k al) ++ wl al (5 * k) (EL cy al)).length 3 (a := q) (j0 := k) (hd11 cy h0 q a1 a2 (va_up (fk k al) k (some (a 0))) ++ (wl al (5 * k) (EL cy al) ++ gX3_init cy a)) rfl (by rw [List.getElem?_append_right (Nat.le_refl _), Nat.sub_self]; rfl) rfl rfl (vp_in_nI (by omega) (by omega)) e1 dX11_init_59 (by rw [List.append_assoc]; rfl) ?_
      rw [EL_grow cy al a k (by omega), fk_grow]
      refine n_iinc C 0 (v := nI (k + 1)) [(1, .int (nI (k + 1))), (0, .ref h0)] dX11_init_60 rfl (nI_1 k) (by decide) rfl ?_
      refine n_goto C 41 dX11_init_63 (by decide) ?_
      refine n_widen (10 + 5 * (k + 1)) (673 + 211 * (k + 1)) (by omega) (by omega) ?_
      exact ih (k + 1) _ (by omega)
theorem nw_X11_32 : nwW RX11 32 10 6 [.null, .int 0, .int 0, .int 0, .int 0, .int 0] := ⟨RX10, TX10, tyX10, rfl, inG10, tyX10_ok, (tk_1 (List.mem_of_getElem? (i := 121) rfl) rfl), (tk_1 (List.mem_of_getElem? (i := 122) rfl) rfl), (tk_1 (List.mem_of_getElem? (i := 5) rfl) rfl), by decide⟩
theorem mi_X11_34 : MiW RX11 34 yX10_init cX10_init 2 0 := ⟨(tk_1 (List.mem_of_getElem? (i := 123) rfl) rfl), (tk_1 (List.mem_of_getElem? (i := 124) rfl) rfl), (tk_1 (List.mem_of_getElem? (i := 5) rfl) rfl), (tk_1 (List.mem_of_getElem? (i := 125) rfl) rfl), rfl, by decide +kernel⟩
theorem nw_X11_42 : nwW RX11 42 1 1 [.null] := ⟨RX1, TX1, tyX1, rfl, inG1, tyX1_ok, (tk_1 (List.mem_of_getElem? (i := 186) rfl) rfl), (tk_1 (List.mem_of_getElem? (i := 187) rfl) rfl), (tk_1 (List.mem_of_getElem? (i := 7) rfl) rfl), by decide⟩
theorem mi_X11_44 : MiN RX11 44 yX1_init "StarShells" cX1_init 1 0 := ⟨by decide +kernel, (tk_1 (List.mem_of_getElem? (i := 189) rfl) rfl), (tk_1 (List.mem_of_getElem? (i := 7) rfl) rfl), (tk_1 (List.mem_of_getElem? (i := 190) rfl) rfl), rfl, by decide +kernel⟩
theorem nw_X11_49 : nwW RX11 49 6 4 [.null, .null, .null, .null] := ⟨RX6, TX6, tyX6, rfl, inG6, tyX6_ok, (tk_1 (List.mem_of_getElem? (i := 197) rfl) rfl), (tk_1 (List.mem_of_getElem? (i := 198) rfl) rfl), (tk_1 (List.mem_of_getElem? (i := 8) rfl) rfl), by decide⟩
theorem mi_X11_51 : MiN RX11 51 yX6_init "StarShells" cX6_init 1 0 := ⟨by decide +kernel, (tk_1 (List.mem_of_getElem? (i := 200) rfl) rfl), (tk_1 (List.mem_of_getElem? (i := 8) rfl) rfl), (tk_1 (List.mem_of_getElem? (i := 201) rfl) rfl), rfl, by decide +kernel⟩
theorem nw_X11_56 : nwW RX11 56 5 4 [.null, .int 0, .int 0, .int 0] := ⟨RX5, TX5, tyX5, rfl, inG5, tyX5_ok, (tk_1 (List.mem_of_getElem? (i := 220) rfl) rfl), (tk_1 (List.mem_of_getElem? (i := 221) rfl) rfl), (tk_1 (List.mem_of_getElem? (i := 9) rfl) rfl), by decide⟩
theorem mi_X11_58 : MiN RX11 58 yX5_init "StarShells" cX5_init 1 0 := ⟨by decide +kernel, (tk_1 (List.mem_of_getElem? (i := 223) rfl) rfl), (tk_1 (List.mem_of_getElem? (i := 9) rfl) rfl), (tk_1 (List.mem_of_getElem? (i := 224) rfl) rfl), rfl, by decide +kernel⟩
theorem nw_X11_63 : nwW RX11 63 2 11 [.null, .null, .null, .null, .null, .null, .null, .null, .null, .int 0, .int 0] := ⟨RX2, TX2, tyX2, rfl, inG2, tyX2_ok, (tk_2 (List.mem_of_getElem? (i := 3) rfl) rfl), (tk_2 (List.mem_of_getElem? (i := 4) rfl) rfl), (tk_1 (List.mem_of_getElem? (i := 10) rfl) rfl), by decide⟩
theorem mi_X11_65 : MiN RX11 65 yX2_init "StarShells" cX2_init 1 0 := ⟨by decide +kernel, (tk_2 (List.mem_of_getElem? (i := 6) rfl) rfl), (tk_1 (List.mem_of_getElem? (i := 10) rfl) rfl), (tk_2 (List.mem_of_getElem? (i := 7) rfl) rfl), rfl, by decide +kernel⟩
theorem nw_X11_70 : nwW RX11 70 9 2 [.null, .int 0] := ⟨RX9, TX9, tyX9, rfl, inG9, tyX9_ok, (tk_2 (List.mem_of_getElem? (i := 84) rfl) rfl), (tk_2 (List.mem_of_getElem? (i := 85) rfl) rfl), (tk_1 (List.mem_of_getElem? (i := 12) rfl) rfl), by decide⟩
theorem mi_X11_72 : MiN RX11 72 yX9_init "StarShells" cX9_init 1 0 := ⟨by decide +kernel, (tk_2 (List.mem_of_getElem? (i := 87) rfl) rfl), (tk_1 (List.mem_of_getElem? (i := 12) rfl) rfl), (tk_2 (List.mem_of_getElem? (i := 88) rfl) rfl), rfl, by decide +kernel⟩
def fI (k : Nat) : Nat := if k < 155 then 11 + k else [5, 6, 7, 8, 9, 168, 169, 170, 171, 172, 173, 174, 175, 178, 179, 180, 181, 182, 183, 184, 185, 166, 167, 176, 177, 0, 10, 1, 2, 3, 4, 186, 187, 188, 189, 190, 191, 192, 193, 194, 195, 196, 197, 198, 199, 200, 201, 202, 203, 204, 205, 206, 207, 208, 209, 210].getD (k - 155) 0
theorem fI_inj : ∀ i, i < 211 → ∀ j, j < 211 → fI i = fI j → i = j := by decide +kernel
def sw (k : Nat) : Nat := if k = 180 then 0 else if k = 0 then 180 else k
theorem sw_sw (k : Nat) : sw (sw k) = k := by unfold sw; split <;> split <;> first | omega | (split <;> omega)
def aXs (aS a : Nat → Nat) : Nat → Nat := fun k => if k < 211 then a (sw k) else aS k
def gX11_init (cy : Nat → ClassId) (aS a : Nat → Nat) : va_W := wl (aXs aS a) nX (wE cy (aXs aS a) shX uX0)
def wX1 (cy : Nat → ClassId) (h0 q qq8 qq9 : Nat) (a1 a2 al b1 b2 b3 b4 b5 b6 b7 aS : Nat → Nat) : va_W := ((h0, .inr (11, [.ref (a1 0), .ref (a2 0), .ref q, .ref (b1 0), .ref (b2 0), .ref (b3 0), .ref (b4 0), .ref (b5 0), .ref (b6 0), .ref (b7 0), .ref qq8, .ref qq9])) :: (hd9 cy a1 a2 ++ [(q, .inl (cy 4, 31, .inr (.inr (.inr (.inr (fk 31 al))))))])) ++ (wl al 155 (EL cy al) ++ [(b1 0, .inr (10, [.ref (b1 1), .int 0, .int 0, .int 0, .int 0, .int 0])), (b1 1, .inl (cy 5, 2, .inr (.inr (.inr (.inr (va_up (va_up (fun _ => none) 0 (some (b1 2))) 1 (some (b1 6)))))))), (b1 2, .inr (7, [.ref (b1 3), .ref (b1 4), .ref (b1 5), .int 0, .int 100, .int 1000])), (b1 3, .inl (cy 0, 96, .inl (fun _ => 0))), (b1 4, .inl (cy 3, 80, .inr (.inl (fun _ => 0)))), (b1 5, .inl (cy 1, 80, .inl (fun _ => 0))), (b1 6, .inr (7, [.ref (b1 7), .ref (b1 8), .ref (b1 9), .int 0, .int 100, .int 1000])), (b1 7, .inl (cy 0, 96, .inl (fun _ => 0))), (b1 8, .inl (cy 3, 80, .inr (.inl (fun _ => 0)))), (b1 9, .inl (cy 1, 80, .inl (fun _ => 0))), (b2 0, .inr (10, [.ref (b2 1), .int 0, .int 0, .int 0, .int 0, .int 0])), (b2 1, .inl (cy 5, 2, .inr (.inr (.inr (.inr (va_up (va_up (fun _ => none) 0 (some (b2 2))) 1 (some (b2 6)))))))), (b2 2, .inr (7, [.ref (b2 3), .ref (b2 4), .ref (b2 5), .int 0, .int 100, .int 1000])), (b2 3, .inl (cy 0, 96, .inl (fun _ => 0))), (b2 4, .inl (cy 3, 80, .inr (.inl (fun _ => 0)))), (b2 5, .inl (cy 1, 80, .inl (fun _ => 0))), (b2 6, .inr (7, [.ref (b2 7), .ref (b2 8), .ref (b2 9), .int 0, .int 100, .int 1000])), (b2 7, .inl (cy 0, 96, .inl (fun _ => 0))), (b2 8, .inl (cy 3, 80, .inr (.inl (fun _ => 0)))), (b2 9, .inl (cy 1, 80, .inl (fun _ => 0))), (b3 0, .inr (1, [.ref (b3 1)])), (b3 1, .inl (cy 0, 1000, .inl (fun _ => 0))), (b4 0, .inr (6, [.ref (b4 1), .ref (b4 2), .ref (b4 3), .ref (b4 4)])), (b4 1, .inl (cy 0, 20, .inl (fun _ => 0))), (b4 2, .inl (cy 0, 20, .inl (fun _ => 0))), (b4 3, .inl (cy 0, 20, .inl (fun _ => 0))), (b4 4, .inl (cy 0, 20, .inl (fun _ => 0))), (b5 0, .inr (5, [.ref (b5 1), .int (-1), .int 0, .int 0])), (b5 1, .inl (cy 3, 80, .inr (.inl (fun _ => 0)))), (b6 0, .inr (2, [.ref (b6 1), .ref (b6 2), .ref (b6 3), .ref (b6 4), .ref (b6 5), .ref (b6 6), .ref (b6 7), .ref (b6 8), .ref (b6 9), .int 0, .int 0])), (b6 1, .inl (cy 0, 16, .inl (fun _ => 0))), (b6 2, .inl (cy 0, 16, .inl (fun _ => 0))), (b6 3, .inl (cy 0, 16, .inl (fun _ => 0))), (b6 4, .inl (cy 0, 16, .inl (fun _ => 0))), (b6 5, .inl (cy 0, 16, .inl (fun _ => 0))), (b6 6, .inl (cy 0, 16, .inl (fun _ => 0))), (b6 7, .inl (cy 3, 16, .inr (.inl (fun _ => 0)))), (b6 8, .inl (cy 3, 16, .inr (.inl (fun _ => 0)))), (b6 9, .inr (0, [.ref (b6 10), .ref (b6 11), .int 0, .long 0, .long 0])), (b6 10, .inl (cy 0, 9, .inl (fun _ => 0))), (b6 11, .inl (cy 0, 9, .inl (fun _ => 0))), (b7 0, .inr (9, [.ref (b7 1), .int 0])), (b7 1, .inl (cy 0, 7, .inl (fun _ => 0))), (qq8, .inl (cy 0, 6, .inl (fun _ => 0))), (qq9, .inl (cy 3, 5, .inr (.inl (fun _ => 0))))])
def adX (h0 q qq8 qq9 : Nat) (a1 a2 al b1 b2 b3 b4 b5 b6 b7 aS : Nat → Nat) : Nat → Nat := (fun k => if k < 155 then al k else if k < 211 then [a2 2, a2 3, a2 4, a2 5, a2 6, b1 2, b1 3, b1 4, b1 5, b1 6, b1 7, b1 8, b1 9, b2 2, b2 3, b2 4, b2 5, b2 6, b2 7, b2 8, b2 9, b1 0, b1 1, b2 0, b2 1, h0, q, a1 0, a1 1, a2 0, a2 1, b3 0, b3 1, b4 0, b4 1, b4 2, b4 3, b4 4, b5 0, b5 1, b6 0, b6 1, b6 2, b6 3, b6 4, b6 5, b6 6, b6 7, b6 8, b6 9, b6 10, b6 11, b7 0, b7 1, qq8, qq9].getD (k - 155) 0 else aS k)
set_option maxHeartbeats 4000000 in
set_option maxRecDepth 100000 in
theorem wX1_ok (D : va_G) (cy : Nat → ClassId) (h0 q qq8 qq9 : Nat) (a1 a2 al b1 b2 b3 b4 b5 b6 b7 aS : Nat → Nat) : ∀ k, k < nX → ∃ e, (wX1 cy h0 q qq8 qq9 a1 a2 al b1 b2 b3 b4 b5 b6 b7 aS)[fI k]? = some (adX h0 q qq8 qq9 a1 a2 al b1 b2 b3 b4 b5 b6 b7 aS k, e) ∧ ∀ H, va_at D vwCl (adX h0 q qq8 qq9 a1 a2 al b1 b2 b3 b4 b5 b6 b7 aS k, e) H → va_at D vwCl (adX h0 q qq8 qq9 a1 a2 al b1 b2 b3 b4 b5 b6 b7 aS k, wE cy (adX h0 q qq8 qq9 a1 a2 al b1 b2 b3 b4 b5 b6 b7 aS) shX uX0 k) H := by
  intro k hk
  have hk : k < 211 := hk
  by_cases h1 : k < 155
  · refine ⟨EL cy al k, ?_, ?_⟩
    · have e1 : fI k = 11 + k := by simp only [fI, if_pos h1]
      have e2 : adX h0 q qq8 qq9 a1 a2 al b1 b2 b3 b4 b5 b6 b7 aS k = al k := by simp only [adX, if_pos h1]
      rw [e1, e2]
      unfold wX1
      rw [List.getElem?_append_right (by show 11 ≤ 11 + k; omega)]
      rw [show 11 + k - List.length _ = k from by show 11 + k - 11 = k; omega]
      rw [List.getElem?_append_left (by simp [wl]; omega), wl_at h1]
    · intro H h
      have e3 : wE cy (adX h0 q qq8 qq9 a1 a2 al b1 b2 b3 b4 b5 b6 b7 aS) shX uX0 k = EL cy al k := by
        have hj : k < 160 := by omega
        have e0 : shX k = shL k (k % 5) := by simp only [shX, if_pos hj]
        simp only [wE, EL, e0]
        have e4 : ∀ i, i < 155 → adX h0 q qq8 qq9 a1 a2 al b1 b2 b3 b4 b5 b6 b7 aS i = al i := fun i hi => by simp only [adX, if_pos hi]
        generalize adX h0 q qq8 qq9 a1 a2 al b1 b2 b3 b4 b5 b6 b7 aS = ad at e4
        rcases (by omega : k % 5 = 0 ∨ k % 5 = 1 ∨ k % 5 = 2 ∨ k % 5 = 3 ∨ k % 5 = 4) with h | h | h | h | h
        · rw [h]
          show (Sum.inr (3, [.ref (ad (k + 1)), .ref (ad (k + 2)), .ref (ad (k + 3)), .ref (ad (k + 4)), .int (uX0.1 k 4)]) : va_E) = .inr (3, [.ref (al (k + 1)), .ref (al (k + 2)), .ref (al (k + 3)), .ref (al (k + 4)), .int (uX0.1 k 4)])
          rw [e4 (k + 1) (by omega), e4 (k + 2) (by omega), e4 (k + 3) (by omega), e4 (k + 4) (by omega)]
        · rw [h]; rfl
        · rw [h]; rfl
        · rw [h]; rfl
        · rw [h]; rfl
      rw [e3]
      exact h
  · have hidx : ∀ j, (wX1 cy h0 q qq8 qq9 a1 a2 al b1 b2 b3 b4 b5 b6 b7 aS)[166 + j]? = ([(b1 0, .inr (10, [.ref (b1 1), .int 0, .int 0, .int 0, .int 0, .int 0])), (b1 1, .inl (cy 5, 2, .inr (.inr (.inr (.inr (va_up (va_up (fun _ => none) 0 (some (b1 2))) 1 (some (b1 6)))))))), (b1 2, .inr (7, [.ref (b1 3), .ref (b1 4), .ref (b1 5), .int 0, .int 100, .int 1000])), (b1 3, .inl (cy 0, 96, .inl (fun _ => 0))), (b1 4, .inl (cy 3, 80, .inr (.inl (fun _ => 0)))), (b1 5, .inl (cy 1, 80, .inl (fun _ => 0))), (b1 6, .inr (7, [.ref (b1 7), .ref (b1 8), .ref (b1 9), .int 0, .int 100, .int 1000])), (b1 7, .inl (cy 0, 96, .inl (fun _ => 0))), (b1 8, .inl (cy 3, 80, .inr (.inl (fun _ => 0)))), (b1 9, .inl (cy 1, 80, .inl (fun _ => 0))), (b2 0, .inr (10, [.ref (b2 1), .int 0, .int 0, .int 0, .int 0, .int 0])), (b2 1, .inl (cy 5, 2, .inr (.inr (.inr (.inr (va_up (va_up (fun _ => none) 0 (some (b2 2))) 1 (some (b2 6)))))))), (b2 2, .inr (7, [.ref (b2 3), .ref (b2 4), .ref (b2 5), .int 0, .int 100, .int 1000])), (b2 3, .inl (cy 0, 96, .inl (fun _ => 0))), (b2 4, .inl (cy 3, 80, .inr (.inl (fun _ => 0)))), (b2 5, .inl (cy 1, 80, .inl (fun _ => 0))), (b2 6, .inr (7, [.ref (b2 7), .ref (b2 8), .ref (b2 9), .int 0, .int 100, .int 1000])), (b2 7, .inl (cy 0, 96, .inl (fun _ => 0))), (b2 8, .inl (cy 3, 80, .inr (.inl (fun _ => 0)))), (b2 9, .inl (cy 1, 80, .inl (fun _ => 0))), (b3 0, .inr (1, [.ref (b3 1)])), (b3 1, .inl (cy 0, 1000, .inl (fun _ => 0))), (b4 0, .inr (6, [.ref (b4 1), .ref (b4 2), .ref (b4 3), .ref (b4 4)])), (b4 1, .inl (cy 0, 20, .inl (fun _ => 0))), (b4 2, .inl (cy 0, 20, .inl (fun _ => 0))), (b4 3, .inl (cy 0, 20, .inl (fun _ => 0))), (b4 4, .inl (cy 0, 20, .inl (fun _ => 0))), (b5 0, .inr (5, [.ref (b5 1), .int (-1), .int 0, .int 0])), (b5 1, .inl (cy 3, 80, .inr (.inl (fun _ => 0)))), (b6 0, .inr (2, [.ref (b6 1), .ref (b6 2), .ref (b6 3), .ref (b6 4), .ref (b6 5), .ref (b6 6), .ref (b6 7), .ref (b6 8), .ref (b6 9), .int 0, .int 0])), (b6 1, .inl (cy 0, 16, .inl (fun _ => 0))), (b6 2, .inl (cy 0, 16, .inl (fun _ => 0))), (b6 3, .inl (cy 0, 16, .inl (fun _ => 0))), (b6 4, .inl (cy 0, 16, .inl (fun _ => 0))), (b6 5, .inl (cy 0, 16, .inl (fun _ => 0))), (b6 6, .inl (cy 0, 16, .inl (fun _ => 0))), (b6 7, .inl (cy 3, 16, .inr (.inl (fun _ => 0)))), (b6 8, .inl (cy 3, 16, .inr (.inl (fun _ => 0)))), (b6 9, .inr (0, [.ref (b6 10), .ref (b6 11), .int 0, .long 0, .long 0])), (b6 10, .inl (cy 0, 9, .inl (fun _ => 0))), (b6 11, .inl (cy 0, 9, .inl (fun _ => 0))), (b7 0, .inr (9, [.ref (b7 1), .int 0])), (b7 1, .inl (cy 0, 7, .inl (fun _ => 0))), (qq8, .inl (cy 0, 6, .inl (fun _ => 0))), (qq9, .inl (cy 3, 5, .inr (.inl (fun _ => 0))))] : va_W)[j]? := by
      intro j
      unfold wX1
      rw [List.getElem?_append_right (by show 11 ≤ 166 + j; omega)]
      rw [show 166 + j - List.length _ = 155 + j from by show 166 + j - 11 = 155 + j; omega]
      rw [List.getElem?_append_right (by simp [wl])]
      rw [show 155 + j - (wl al 155 (EL cy al)).length = j from by simp [wl]]
    rcases (by omega : k = 155 ∨ k = 156 ∨ k = 157 ∨ k = 158 ∨ k = 159 ∨ k = 160 ∨ k = 161 ∨ k = 162 ∨ k = 163 ∨ k = 164 ∨ k = 165 ∨ k = 166 ∨ k = 167 ∨ k = 168 ∨ k = 169 ∨ k = 170 ∨ k = 171 ∨ k = 172 ∨ k = 173 ∨ k = 174 ∨ k = 175 ∨ k = 176 ∨ k = 177 ∨ k = 178 ∨ k = 179 ∨ k = 180 ∨ k = 181 ∨ k = 182 ∨ k = 183 ∨ k = 184 ∨ k = 185 ∨ k = 186 ∨ k = 187 ∨ k = 188 ∨ k = 189 ∨ k = 190 ∨ k = 191 ∨ k = 192 ∨ k = 193 ∨ k = 194 ∨ k = 195 ∨ k = 196 ∨ k = 197 ∨ k = 198 ∨ k = 199 ∨ k = 200 ∨ k = 201 ∨ k = 202 ∨ k = 203 ∨ k = 204 ∨ k = 205 ∨ k = 206 ∨ k = 207 ∨ k = 208 ∨ k = 209 ∨ k = 210) with rfl | rfl | rfl | rfl | rfl | rfl | rfl | rfl | rfl | rfl | rfl | rfl | rfl | rfl | rfl | rfl | rfl | rfl | rfl | rfl | rfl | rfl | rfl | rfl | rfl | rfl | rfl | rfl | rfl | rfl | rfl | rfl | rfl | rfl | rfl | rfl | rfl | rfl | rfl | rfl | rfl | rfl | rfl | rfl | rfl | rfl | rfl | rfl | rfl | rfl | rfl | rfl | rfl | rfl | rfl | rfl <;> clear hk h1
    · exact ⟨_, rfl, fun H h => h⟩
    · exact ⟨_, rfl, fun H h => h⟩
    · exact ⟨_, rfl, fun H h => h⟩
    · exact ⟨_, rfl, fun H h => h⟩
    · exact ⟨_, rfl, fun H h => h⟩
    · exact ⟨_, (hidx 2), fun H h => h⟩
    · exact ⟨_, (hidx 3), fun H h => h⟩
    · exact ⟨_, (hidx 4), fun H h => h⟩
    · exact ⟨_, (hidx 5), fun H h => h⟩
    · exact ⟨_, (hidx 6), fun H h => h⟩
    · exact ⟨_, (hidx 7), fun H h => h⟩
    · exact ⟨_, (hidx 8), fun H h => h⟩
    · exact ⟨_, (hidx 9), fun H h => h⟩
    · exact ⟨_, (hidx 12), fun H h => h⟩
    · exact ⟨_, (hidx 13), fun H h => h⟩
    · exact ⟨_, (hidx 14), fun H h => h⟩
    · exact ⟨_, (hidx 15), fun H h => h⟩
    · exact ⟨_, (hidx 16), fun H h => h⟩
    · exact ⟨_, (hidx 17), fun H h => h⟩
    · exact ⟨_, (hidx 18), fun H h => h⟩
    · exact ⟨_, (hidx 19), fun H h => h⟩
    · exact ⟨_, (hidx 0), fun H h => h⟩
    · refine ⟨_, (hidx 1), fun H h => ?_⟩
      refine h.trans (congrArg some (arr_congr (fun i hi => ?_)))
      rcases (by omega : i = 0 ∨ i = 1) with rfl | rfl <;> rfl
    · exact ⟨_, (hidx 10), fun H h => h⟩
    · refine ⟨_, (hidx 11), fun H h => ?_⟩
      refine h.trans (congrArg some (arr_congr (fun i hi => ?_)))
      rcases (by omega : i = 0 ∨ i = 1) with rfl | rfl <;> rfl
    · exact ⟨_, rfl, fun H h => h⟩
    · refine ⟨_, rfl, fun H h => ?_⟩
      refine h.trans (congrArg some (arr_congr (fun i hi => ?_)))
      show fk 31 al i = some (adX h0 q qq8 qq9 a1 a2 al b1 b2 b3 b4 b5 b6 b7 aS (5 * i))
      simp only [fk, adX, if_pos hi, if_pos (show 5 * i < 155 by omega)]
    · exact ⟨_, rfl, fun H h => h⟩
    · exact ⟨_, rfl, fun H h => h⟩
    · exact ⟨_, rfl, fun H h => h⟩
    · exact ⟨_, rfl, fun H h => h⟩
    · exact ⟨_, (hidx 20), fun H h => h⟩
    · exact ⟨_, (hidx 21), fun H h => h⟩
    · exact ⟨_, (hidx 22), fun H h => h⟩
    · exact ⟨_, (hidx 23), fun H h => h⟩
    · exact ⟨_, (hidx 24), fun H h => h⟩
    · exact ⟨_, (hidx 25), fun H h => h⟩
    · exact ⟨_, (hidx 26), fun H h => h⟩
    · exact ⟨_, (hidx 27), fun H h => h⟩
    · exact ⟨_, (hidx 28), fun H h => h⟩
    · exact ⟨_, (hidx 29), fun H h => h⟩
    · exact ⟨_, (hidx 30), fun H h => h⟩
    · exact ⟨_, (hidx 31), fun H h => h⟩
    · exact ⟨_, (hidx 32), fun H h => h⟩
    · exact ⟨_, (hidx 33), fun H h => h⟩
    · exact ⟨_, (hidx 34), fun H h => h⟩
    · exact ⟨_, (hidx 35), fun H h => h⟩
    · exact ⟨_, (hidx 36), fun H h => h⟩
    · exact ⟨_, (hidx 37), fun H h => h⟩
    · exact ⟨_, (hidx 38), fun H h => h⟩
    · exact ⟨_, (hidx 39), fun H h => h⟩
    · exact ⟨_, (hidx 40), fun H h => h⟩
    · exact ⟨_, (hidx 41), fun H h => h⟩
    · exact ⟨_, (hidx 42), fun H h => h⟩
    · exact ⟨_, (hidx 43), fun H h => h⟩
    · exact ⟨_, (hidx 44), fun H h => h⟩
theorem nw_X11_9 : nwW RX11 9 8 2 [.null, .int 0] := ⟨RX8, TX8, tyX8, rfl, inG8, tyX8_ok, (tk_1 (List.mem_of_getElem? (i := 28) rfl) rfl), (tk_1 (List.mem_of_getElem? (i := 29) rfl) rfl), (tk_1 (List.mem_of_getElem? (i := 2) rfl) rfl), by decide⟩
theorem nw_X11_16 : nwW RX11 16 4 11 [.null, .null, .null, .int 0, .int 0, .int 0, .int 0, .int 0, .int 0, .int 0, .int 0] := ⟨RX4, TX4, tyX4, rfl, inG4, tyX4_ok, (tk_1 (List.mem_of_getElem? (i := 45) rfl) rfl), (tk_1 (List.mem_of_getElem? (i := 46) rfl) rfl), (tk_1 (List.mem_of_getElem? (i := 3) rfl) rfl), by decide⟩
theorem mi_X11_11 : MiN RX11 11 yX8_init "StarShells" cX8_init 1 0 := ⟨by decide +kernel, (tk_1 (List.mem_of_getElem? (i := 31) rfl) rfl), (tk_1 (List.mem_of_getElem? (i := 2) rfl) rfl), (tk_1 (List.mem_of_getElem? (i := 32) rfl) rfl), rfl, by decide +kernel⟩
theorem mi_X11_18 : MiW RX11 18 yX4_init cX4_init 2 1 := ⟨(tk_1 (List.mem_of_getElem? (i := 47) rfl) rfl), (tk_1 (List.mem_of_getElem? (i := 48) rfl) rfl), (tk_1 (List.mem_of_getElem? (i := 3) rfl) rfl), (tk_1 (List.mem_of_getElem? (i := 49) rfl) rfl), rfl, by decide +kernel⟩
set_option maxHeartbeats 4000000 in
set_option maxRecDepth 100000 in
theorem cX11_init_in (l : Launch) (D : va_G) (cy : Nat → ClassId) (aS : Nat → Nat) : Mc l D cy yX11_init cX11_init 2 rX11_init 210 9629 (.inr (11, [.null, .null, .null, .null, .null, .null, .null, .null, .null, .null, .null, .null])) [] (gX11_init cy aS) := by
  refine mc_of (by decide) rfl (fun h0 => Nat.le_of_ble_eq_true rfl) (fun h0 p e s m below meth c C hov hr hlk => ?_)
  refine n_aload_n C 0 dX11_init_0 rfl rfl ?_
  refine n_obj C (tk_1 (List.mem_of_getElem? (i := 25) rfl) rfl) ow_i ow_c (Nat.le_of_ble_eq_true rfl) (Nat.le_of_ble_eq_true rfl) dX11_init_1 ?_
  refine n_aload_n C 0 dX11_init_4 rfl rfl ?_
  refine n_new C nw_X11_9 (Nat.le_of_ble_eq_true rfl) (Nat.le_of_ble_eq_true rfl) dX11_init_5 (fun q1 => ?_)
  refine n_dup C rfl dX11_init_8 ?_
  refine n_ctorN C (g := gX8_init cy) (W0 := [(h0, .inr (11, [.null, .null, .null, .null, .null, .null, .null, .null, .null, .null, .null, .null]))]) (cX8_init_in l D cy) hov mi_X11_11 ⟨Nat.le_of_ble_eq_true rfl, Nat.le_of_ble_eq_true rfl⟩ ⟨rfl, rfl⟩ rfl rfl (Nat.le_of_ble_eq_true rfl) rfl (Nat.le_of_ble_eq_true rfl) (Nat.le_of_ble_eq_true rfl) dX11_init_9 (fun a1 ha1 => ?_)
  subst ha1
  refine n_putF C 0 ((h0, .inr (11, [.ref (a1 0), .null, .null, .null, .null, .null, .null, .null, .null, .null, .null, .null])) :: (gX8_init cy a1)) rfl ff_X11_12 (by decide) rfl rfl (Nat.le_of_ble_eq_true rfl) dX11_init_12 rfl ?_
  refine n_aload_n C 0 dX11_init_15 rfl rfl ?_
  refine n_new C nw_X11_16 (Nat.le_of_ble_eq_true rfl) (Nat.le_of_ble_eq_true rfl) dX11_init_16 (fun q2 => ?_)
  refine n_dup C rfl dX11_init_19 ?_
  refine n_aload_n C 0 dX11_init_20 rfl rfl ?_
  refine n_get C 0 rfl fd_X11_12 rfl dX11_init_21 ?_
  refine n_ctorI C (g := gX4_init cy (a1 0)) (W0 := (h0, .inr (11, [.ref (a1 0), .null, .null, .null, .null, .null, .null, .null, .null, .null, .null, .null])) :: (gX8_init cy a1)) (cX4_init_in l D cy (a1 0)) hov mi_X11_18 ⟨Nat.le_of_ble_eq_true rfl, Nat.le_of_ble_eq_true rfl⟩ ⟨rfl, rfl⟩ rfl rfl (Nat.le_of_ble_eq_true rfl) rfl (Nat.le_of_ble_eq_true rfl) (Nat.le_of_ble_eq_true rfl) dX11_init_24 (fun a2 ha2 => ?_)
  subst ha2
  refine n_putF C 0 ((h0, .inr (11, [.ref (a1 0), .ref (a2 0), .null, .null, .null, .null, .null, .null, .null, .null, .null, .null])) :: (gX8_init cy a1 ++ gX4_init cy (a1 0) a2)) rfl ff_X11_21 (by decide) rfl rfl (Nat.le_of_ble_eq_true rfl) dX11_init_27 rfl ?_
  refine n_aload_n C 0 dX11_init_30 rfl rfl ?_
  refine n_bipush C (v := 31) dX11_init_31 (by decide) ?_
  refine n_newq4 C (N := 31) (tk_1 (List.mem_of_getElem? (i := 118) rfl) rfl) hov.1 (by decide) (by decide) (by decide) (Nat.le_of_ble_eq_true rfl) (Nat.le_of_ble_eq_true rfl) dX11_init_33 (fun q => ?_)
  refine n_putF C 0 ((h0, .inr (11, [.ref (a1 0), .ref (a2 0), .ref q, .null, .null, .null, .null, .null, .null, .null, .null, .null])) :: (gX8_init cy a1 ++ gX4_init cy (a1 0) a2 ++ [(q, .inl (cy 4, 31, .inr (.inr (.inr (.inr (fun _ => none))))))])) rfl ff_X11_27 (by decide) rfl rfl (Nat.le_of_ble_eq_true rfl) dX11_init_36 rfl ?_
  refine n_iconst C (v := 0) dX11_init_39 (by decide) ?_
  refine n_istore_n C [(1, .int (nI 0)), (0, .ref h0)] dX11_init_40 rfl (by decide) rfl ?_
  refine n_ws (ws2 := hd11 cy h0 q a1 a2 (fk 0 (fun _ => 0)) ++ wl (fun _ => 0) (5 * 0) (EL cy (fun _ => 0))) ?_ ?_
  · have e1 : fk 0 (fun _ => 0) = (fun _ => none) := by funext i; simp [fk]
    rw [e1]; rfl
  refine n_widen (10 + 5 * 0) (673 + 211 * 0) (Nat.le_of_ble_eq_true rfl) (Nat.le_of_ble_eq_true rfl) ?_
  refine main_loop C hov (fun al => ?_) 31 0 (fun _ => 0) rfl
  refine n_ws (ws2 := (h0, .inr (11, [.ref (a1 0), .ref (a2 0), .ref q, .null, .null, .null, .null, .null, .null, .null, .null, .null])) :: (hd9 cy a1 a2 ++ [(q, .inl (cy 4, 31, .inr (.inr (.inr (.inr (fk 31 al))))))] ++ wl al 155 (EL cy al))) rfl ?_
  refine n_aload_n C 0 dX11_init_66 rfl rfl ?_
  refine n_new C nw_X11_32 (Nat.le_of_ble_eq_true rfl) (Nat.le_of_ble_eq_true rfl) dX11_init_67 (fun qq1 => ?_)
  refine n_dup C rfl dX11_init_70 ?_
  refine n_ctorI C (g := gX10_init cy) (W0 := (h0, .inr (11, [.ref (a1 0), .ref (a2 0), .ref q, .null, .null, .null, .null, .null, .null, .null, .null, .null])) :: (hd9 cy a1 a2 ++ [(q, .inl (cy 4, 31, .inr (.inr (.inr (.inr (fk 31 al))))))] ++ wl al 155 (EL cy al))) (cX10_init_in l D cy) hov mi_X11_34 ⟨Nat.le_of_ble_eq_true rfl, Nat.le_of_ble_eq_true rfl⟩ ⟨rfl, rfl⟩ rfl rfl (Nat.le_of_ble_eq_true rfl) rfl (Nat.le_of_ble_eq_true rfl) (Nat.le_of_ble_eq_true rfl) dX11_init_71 (fun b1 hb1 => ?_)
  subst hb1
  refine n_putF C 0 ((h0, .inr (11, [.ref (a1 0), .ref (a2 0), .ref q, .ref (b1 0), .null, .null, .null, .null, .null, .null, .null, .null])) :: (hd9 cy a1 a2 ++ [(q, .inl (cy 4, 31, .inr (.inr (.inr (.inr (fk 31 al))))))] ++ wl al 155 (EL cy al) ++ gX10_init cy b1)) rfl ff_X11_35 (by decide) rfl rfl (Nat.le_of_ble_eq_true rfl) dX11_init_74 rfl ?_
  refine n_aload_n C 0 dX11_init_77 rfl rfl ?_
  refine n_new C nw_X11_32 (Nat.le_of_ble_eq_true rfl) (Nat.le_of_ble_eq_true rfl) dX11_init_78 (fun qq2 => ?_)
  refine n_dup C rfl dX11_init_81 ?_
  refine n_ctorI C (g := gX10_init cy) (W0 := (h0, .inr (11, [.ref (a1 0), .ref (a2 0), .ref q, .ref (b1 0), .null, .null, .null, .null, .null, .null, .null, .null])) :: (hd9 cy a1 a2 ++ [(q, .inl (cy 4, 31, .inr (.inr (.inr (.inr (fk 31 al))))))] ++ wl al 155 (EL cy al) ++ gX10_init cy b1)) (cX10_init_in l D cy) hov mi_X11_34 ⟨Nat.le_of_ble_eq_true rfl, Nat.le_of_ble_eq_true rfl⟩ ⟨rfl, rfl⟩ rfl rfl (Nat.le_of_ble_eq_true rfl) rfl (Nat.le_of_ble_eq_true rfl) (Nat.le_of_ble_eq_true rfl) dX11_init_82 (fun b2 hb2 => ?_)
  subst hb2
  refine n_putF C 0 ((h0, .inr (11, [.ref (a1 0), .ref (a2 0), .ref q, .ref (b1 0), .ref (b2 0), .null, .null, .null, .null, .null, .null, .null])) :: (hd9 cy a1 a2 ++ [(q, .inl (cy 4, 31, .inr (.inr (.inr (.inr (fk 31 al))))))] ++ wl al 155 (EL cy al) ++ gX10_init cy b1 ++ gX10_init cy b2)) rfl ff_X11_39 (by decide) rfl rfl (Nat.le_of_ble_eq_true rfl) dX11_init_85 rfl ?_
  refine n_aload_n C 0 dX11_init_88 rfl rfl ?_
  refine n_new C nw_X11_42 (Nat.le_of_ble_eq_true rfl) (Nat.le_of_ble_eq_true rfl) dX11_init_89 (fun qq3 => ?_)
  refine n_dup C rfl dX11_init_92 ?_
  refine n_ctorN C (g := gX1_init cy) (W0 := (h0, .inr (11, [.ref (a1 0), .ref (a2 0), .ref q, .ref (b1 0), .ref (b2 0), .null, .null, .null, .null, .null, .null, .null])) :: (hd9 cy a1 a2 ++ [(q, .inl (cy 4, 31, .inr (.inr (.inr (.inr (fk 31 al))))))] ++ wl al 155 (EL cy al) ++ gX10_init cy b1 ++ gX10_init cy b2)) (cX1_init_in l D cy) hov mi_X11_44 ⟨Nat.le_of_ble_eq_true rfl, Nat.le_of_ble_eq_true rfl⟩ ⟨rfl, rfl⟩ rfl rfl (Nat.le_of_ble_eq_true rfl) rfl (Nat.le_of_ble_eq_true rfl) (Nat.le_of_ble_eq_true rfl) dX11_init_93 (fun b3 hb3 => ?_)
  subst hb3
  refine n_putF C 0 ((h0, .inr (11, [.ref (a1 0), .ref (a2 0), .ref q, .ref (b1 0), .ref (b2 0), .ref (b3 0), .null, .null, .null, .null, .null, .null])) :: (hd9 cy a1 a2 ++ [(q, .inl (cy 4, 31, .inr (.inr (.inr (.inr (fk 31 al))))))] ++ wl al 155 (EL cy al) ++ gX10_init cy b1 ++ gX10_init cy b2 ++ gX1_init cy b3)) rfl ff_X11_45 (by decide) rfl rfl (Nat.le_of_ble_eq_true rfl) dX11_init_96 rfl ?_
  refine n_aload_n C 0 dX11_init_99 rfl rfl ?_
  refine n_new C nw_X11_49 (Nat.le_of_ble_eq_true rfl) (Nat.le_of_ble_eq_true rfl) dX11_init_100 (fun qq4 => ?_)
  refine n_dup C rfl dX11_init_103 ?_
  refine n_ctorN C (g := gX6_init cy) (W0 := (h0, .inr (11, [.ref (a1 0), .ref (a2 0), .ref q, .ref (b1 0), .ref (b2 0), .ref (b3 0), .null, .null, .null, .null, .null, .null])) :: (hd9 cy a1 a2 ++ [(q, .inl (cy 4, 31, .inr (.inr (.inr (.inr (fk 31 al))))))] ++ wl al 155 (EL cy al) ++ gX10_init cy b1 ++ gX10_init cy b2 ++ gX1_init cy b3)) (cX6_init_in l D cy) hov mi_X11_51 ⟨Nat.le_of_ble_eq_true rfl, Nat.le_of_ble_eq_true rfl⟩ ⟨rfl, rfl⟩ rfl rfl (Nat.le_of_ble_eq_true rfl) rfl (Nat.le_of_ble_eq_true rfl) (Nat.le_of_ble_eq_true rfl) dX11_init_104 (fun b4 hb4 => ?_)
  subst hb4
  refine n_putF C 0 ((h0, .inr (11, [.ref (a1 0), .ref (a2 0), .ref q, .ref (b1 0), .ref (b2 0), .ref (b3 0), .ref (b4 0), .null, .null, .null, .null, .null])) :: (hd9 cy a1 a2 ++ [(q, .inl (cy 4, 31, .inr (.inr (.inr (.inr (fk 31 al))))))] ++ wl al 155 (EL cy al) ++ gX10_init cy b1 ++ gX10_init cy b2 ++ gX1_init cy b3 ++ gX6_init cy b4)) rfl ff_X11_52 (by decide) rfl rfl (Nat.le_of_ble_eq_true rfl) dX11_init_107 rfl ?_
  refine n_aload_n C 0 dX11_init_110 rfl rfl ?_
  refine n_new C nw_X11_56 (Nat.le_of_ble_eq_true rfl) (Nat.le_of_ble_eq_true rfl) dX11_init_111 (fun qq5 => ?_)
  refine n_dup C rfl dX11_init_114 ?_
  refine n_ctorN C (g := gX5_init cy) (W0 := (h0, .inr (11, [.ref (a1 0), .ref (a2 0), .ref q, .ref (b1 0), .ref (b2 0), .ref (b3 0), .ref (b4 0), .null, .null, .null, .null, .null])) :: (hd9 cy a1 a2 ++ [(q, .inl (cy 4, 31, .inr (.inr (.inr (.inr (fk 31 al))))))] ++ wl al 155 (EL cy al) ++ gX10_init cy b1 ++ gX10_init cy b2 ++ gX1_init cy b3 ++ gX6_init cy b4)) (cX5_init_in l D cy) hov mi_X11_58 ⟨Nat.le_of_ble_eq_true rfl, Nat.le_of_ble_eq_true rfl⟩ ⟨rfl, rfl⟩ rfl rfl (Nat.le_of_ble_eq_true rfl) rfl (Nat.le_of_ble_eq_true rfl) (Nat.le_of_ble_eq_true rfl) dX11_init_115 (fun b5 hb5 => ?_)
  subst hb5
  refine n_putF C 0 ((h0, .inr (11, [.ref (a1 0), .ref (a2 0), .ref q, .ref (b1 0), .ref (b2 0), .ref (b3 0), .ref (b4 0), .ref (b5 0), .null, .null, .null, .null])) :: (hd9 cy a1 a2 ++ [(q, .inl (cy 4, 31, .inr (.inr (.inr (.inr (fk 31 al))))))] ++ wl al 155 (EL cy al) ++ gX10_init cy b1 ++ gX10_init cy b2 ++ gX1_init cy b3 ++ gX6_init cy b4 ++ gX5_init cy b5)) rfl ff_X11_59 (by decide) rfl rfl (Nat.le_of_ble_eq_true rfl) dX11_init_118 rfl ?_
  refine n_aload_n C 0 dX11_init_121 rfl rfl ?_
  refine n_new C nw_X11_63 (Nat.le_of_ble_eq_true rfl) (Nat.le_of_ble_eq_true rfl) dX11_init_122 (fun qq6 => ?_)
  refine n_dup C rfl dX11_init_125 ?_
  refine n_ctorN C (g := gX2_init cy) (W0 := (h0, .inr (11, [.ref (a1 0), .ref (a2 0), .ref q, .ref (b1 0), .ref (b2 0), .ref (b3 0), .ref (b4 0), .ref (b5 0), .null, .null, .null, .null])) :: (hd9 cy a1 a2 ++ [(q, .inl (cy 4, 31, .inr (.inr (.inr (.inr (fk 31 al))))))] ++ wl al 155 (EL cy al) ++ gX10_init cy b1 ++ gX10_init cy b2 ++ gX1_init cy b3 ++ gX6_init cy b4 ++ gX5_init cy b5)) (cX2_init_in l D cy) hov mi_X11_65 ⟨Nat.le_of_ble_eq_true rfl, Nat.le_of_ble_eq_true rfl⟩ ⟨rfl, rfl⟩ rfl rfl (Nat.le_of_ble_eq_true rfl) rfl (Nat.le_of_ble_eq_true rfl) (Nat.le_of_ble_eq_true rfl) dX11_init_126 (fun b6 hb6 => ?_)
  subst hb6
  refine n_putF C 0 ((h0, .inr (11, [.ref (a1 0), .ref (a2 0), .ref q, .ref (b1 0), .ref (b2 0), .ref (b3 0), .ref (b4 0), .ref (b5 0), .ref (b6 0), .null, .null, .null])) :: (hd9 cy a1 a2 ++ [(q, .inl (cy 4, 31, .inr (.inr (.inr (.inr (fk 31 al))))))] ++ wl al 155 (EL cy al) ++ gX10_init cy b1 ++ gX10_init cy b2 ++ gX1_init cy b3 ++ gX6_init cy b4 ++ gX5_init cy b5 ++ gX2_init cy b6)) rfl ff_X11_66 (by decide) rfl rfl (Nat.le_of_ble_eq_true rfl) dX11_init_129 rfl ?_
  refine n_aload_n C 0 dX11_init_132 rfl rfl ?_
  refine n_new C nw_X11_70 (Nat.le_of_ble_eq_true rfl) (Nat.le_of_ble_eq_true rfl) dX11_init_133 (fun qq7 => ?_)
  refine n_dup C rfl dX11_init_136 ?_
  refine n_ctorN C (g := gX9_init cy) (W0 := (h0, .inr (11, [.ref (a1 0), .ref (a2 0), .ref q, .ref (b1 0), .ref (b2 0), .ref (b3 0), .ref (b4 0), .ref (b5 0), .ref (b6 0), .null, .null, .null])) :: (hd9 cy a1 a2 ++ [(q, .inl (cy 4, 31, .inr (.inr (.inr (.inr (fk 31 al))))))] ++ wl al 155 (EL cy al) ++ gX10_init cy b1 ++ gX10_init cy b2 ++ gX1_init cy b3 ++ gX6_init cy b4 ++ gX5_init cy b5 ++ gX2_init cy b6)) (cX9_init_in l D cy) hov mi_X11_72 ⟨Nat.le_of_ble_eq_true rfl, Nat.le_of_ble_eq_true rfl⟩ ⟨rfl, rfl⟩ rfl rfl (Nat.le_of_ble_eq_true rfl) rfl (Nat.le_of_ble_eq_true rfl) (Nat.le_of_ble_eq_true rfl) dX11_init_137 (fun b7 hb7 => ?_)
  subst hb7
  refine n_putF C 0 ((h0, .inr (11, [.ref (a1 0), .ref (a2 0), .ref q, .ref (b1 0), .ref (b2 0), .ref (b3 0), .ref (b4 0), .ref (b5 0), .ref (b6 0), .ref (b7 0), .null, .null])) :: (hd9 cy a1 a2 ++ [(q, .inl (cy 4, 31, .inr (.inr (.inr (.inr (fk 31 al))))))] ++ wl al 155 (EL cy al) ++ gX10_init cy b1 ++ gX10_init cy b2 ++ gX1_init cy b3 ++ gX6_init cy b4 ++ gX5_init cy b5 ++ gX2_init cy b6 ++ gX9_init cy b7)) rfl ff_X11_73 (by decide) rfl rfl (Nat.le_of_ble_eq_true rfl) dX11_init_140 rfl ?_
  refine n_aload_n C 0 dX11_init_143 rfl rfl ?_
  refine n_bipush C (v := 6) dX11_init_144 (by decide) ?_
  refine n_newa0 C (N := 6) ac_int (by decide) (by decide) (by decide) (Nat.le_of_ble_eq_true rfl) (Nat.le_of_ble_eq_true rfl) dX11_init_146 (fun qq8 => ?_)
  refine n_putF C 0 ((h0, .inr (11, [.ref (a1 0), .ref (a2 0), .ref q, .ref (b1 0), .ref (b2 0), .ref (b3 0), .ref (b4 0), .ref (b5 0), .ref (b6 0), .ref (b7 0), .ref qq8, .null])) :: (hd9 cy a1 a2 ++ [(q, .inl (cy 4, 31, .inr (.inr (.inr (.inr (fk 31 al))))))] ++ wl al 155 (EL cy al) ++ gX10_init cy b1 ++ gX10_init cy b2 ++ gX1_init cy b3 ++ gX6_init cy b4 ++ gX5_init cy b5 ++ gX2_init cy b6 ++ gX9_init cy b7 ++ [(qq8, .inl (cy 0, 6, .inl (fun _ => 0)))])) rfl ff_X11_77 (by decide) rfl rfl (Nat.le_of_ble_eq_true rfl) dX11_init_148 rfl ?_
  refine n_aload_n C 0 dX11_init_151 rfl rfl ?_
  refine n_iconst C (v := 5) dX11_init_152 (by decide) ?_
  refine n_newa3 C (N := 5) ac_long (by decide) (by decide) (by decide) (Nat.le_of_ble_eq_true rfl) (Nat.le_of_ble_eq_true rfl) dX11_init_153 (fun qq9 => ?_)
  refine n_putF C 0 ((h0, .inr (11, [.ref (a1 0), .ref (a2 0), .ref q, .ref (b1 0), .ref (b2 0), .ref (b3 0), .ref (b4 0), .ref (b5 0), .ref (b6 0), .ref (b7 0), .ref qq8, .ref qq9])) :: (hd9 cy a1 a2 ++ [(q, .inl (cy 4, 31, .inr (.inr (.inr (.inr (fk 31 al))))))] ++ wl al 155 (EL cy al) ++ gX10_init cy b1 ++ gX10_init cy b2 ++ gX1_init cy b3 ++ gX6_init cy b4 ++ gX5_init cy b5 ++ gX2_init cy b6 ++ gX9_init cy b7 ++ [(qq8, .inl (cy 0, 6, .inl (fun _ => 0)))] ++ [(qq9, .inl (cy 3, 5, .inr (.inl (fun _ => 0))))])) rfl ff_X11_81 (by decide) rfl rfl (Nat.le_of_ble_eq_true rfl) dX11_init_155 rfl ?_
  refine n_ws (ws2 := wX1 cy h0 q qq8 qq9 a1 a2 al b1 b2 b3 b4 b5 b6 b7 aS) (by unfold wX1; simp only [List.append_assoc, List.cons_append, List.nil_append]; rfl) ?_
  refine n_conv (cv_P fI (wX1_ok D cy h0 q qq8 qq9 a1 a2 al b1 b2 b3 b4 b5 b6 b7 aS)) (cv_D fI (wX1_ok D cy h0 q qq8 qq9 a1 a2 al b1 b2 b3 b4 b5 b6 b7 aS) fI_inj) ?_
  refine n_ret C (g := gX11_init cy aS) (fun k => adX h0 q qq8 qq9 a1 a2 al b1 b2 b3 b4 b5 b6 b7 aS (sw k)) rfl rfl hr hlk ?_ (Nat.le_of_ble_eq_true rfl) (Nat.le_of_ble_eq_true rfl) dX11_init_158
  have e1 : aXs aS (fun k => adX h0 q qq8 qq9 a1 a2 al b1 b2 b3 b4 b5 b6 b7 aS (sw k)) = adX h0 q qq8 qq9 a1 a2 al b1 b2 b3 b4 b5 b6 b7 aS := by
    funext k
    by_cases hk : k < 211
    · simp only [aXs, if_pos hk, sw_sw]
    · simp only [aXs, if_neg hk, adX, if_neg (show ¬ k < 155 by omega)]
  unfold gX11_init
  rw [e1]
