theorem ow_i : Cond.instanceMethod Lib.objectInit ∈ gw := (tk_1 (List.mem_of_getElem? (i := 26) rfl) rfl)
theorem ow_c : Cond.code Lib.objectInit ⟨#[0xb1]⟩ 1 none ∈ gw := (tk_1 (List.mem_of_getElem? (i := 27) rfl) rfl)
theorem ac_int : Cond.arrayClass .int ∈ gw := (tk_1 (List.mem_of_getElem? (i := 44) rfl) rfl)
theorem ac_boolean : Cond.arrayClass .boolean ∈ gw := (tk_1 (List.mem_of_getElem? (i := 80) rfl) rfl)
theorem ac_long : Cond.arrayClass .long ∈ gw := (tk_1 (List.mem_of_getElem? (i := 160) rfl) rfl)
theorem ac_byte : Cond.arrayClass .byte ∈ gw := (tk_3 (List.mem_of_getElem? (i := 65) rfl) rfl)
theorem ff_X11_12 : fpF RX11 12 11 0 (.object "StarShells$Tape") := ⟨RX11, TX11, 12, tyX11, rfl, inG11, by decide, fl_X11_12, tyX11_ok, nmX11, rfl, rfl, tyX11_ok 0 (by decide)⟩
theorem ff_X11_21 : fpF RX11 21 11 1 (.object "StarShells$Reader") := ⟨RX11, TX11, 12, tyX11, rfl, inG11, by decide, fl_X11_21, tyX11_ok, nmX11, rfl, rfl, tyX11_ok 1 (by decide)⟩
theorem ff_X11_27 : fpF RX11 27 11 2 (.array (.object "StarShells$Laws")) := ⟨RX11, TX11, 12, tyX11, rfl, inG11, by decide, fl_X11_27, tyX11_ok, nmX11, rfl, rfl, tyX11_ok 2 (by decide)⟩
theorem ff_X11_35 : fpF RX11 35 11 3 (.object "StarShells$World") := ⟨RX11, TX11, 12, tyX11, rfl, inG11, by decide, fl_X11_35, tyX11_ok, nmX11, rfl, rfl, tyX11_ok 3 (by decide)⟩
theorem ff_X11_39 : fpF RX11 39 11 4 (.object "StarShells$World") := ⟨RX11, TX11, 12, tyX11, rfl, inG11, by decide, fl_X11_39, tyX11_ok, nmX11, rfl, rfl, tyX11_ok 4 (by decide)⟩
theorem ff_X11_45 : fpF RX11 45 11 5 (.object "StarShells$Events") := ⟨RX11, TX11, 12, tyX11, rfl, inG11, by decide, fl_X11_45, tyX11_ok, nmX11, rfl, rfl, tyX11_ok 5 (by decide)⟩
theorem ff_X11_52 : fpF RX11 52 11 6 (.object "StarShells$Sights") := ⟨RX11, TX11, 12, tyX11, rfl, inG11, by decide, fl_X11_52, tyX11_ok, nmX11, rfl, rfl, tyX11_ok 6 (by decide)⟩
theorem ff_X11_59 : fpF RX11 59 11 7 (.object "StarShells$Sheet") := ⟨RX11, TX11, 12, tyX11, rfl, inG11, by decide, fl_X11_59, tyX11_ok, nmX11, rfl, rfl, tyX11_ok 7 (by decide)⟩
theorem ff_X11_66 : fpF RX11 66 11 8 (.object "StarShells$Inside") := ⟨RX11, TX11, 12, tyX11, rfl, inG11, by decide, fl_X11_66, tyX11_ok, nmX11, rfl, rfl, tyX11_ok 8 (by decide)⟩
theorem ff_X11_73 : fpF RX11 73 11 9 (.object "StarShells$Tones") := ⟨RX11, TX11, 12, tyX11, rfl, inG11, by decide, fl_X11_73, tyX11_ok, nmX11, rfl, rfl, tyX11_ok 9 (by decide)⟩
theorem ff_X11_77 : fpF RX11 77 11 10 (.array .int) := ⟨RX11, TX11, 12, tyX11, rfl, inG11, by decide, fl_X11_77, tyX11_ok, nmX11, rfl, rfl, tyX11_ok 10 (by decide)⟩
theorem ff_X11_81 : fpF RX11 81 11 11 (.array .long) := ⟨RX11, TX11, 12, tyX11, rfl, inG11, by decide, fl_X11_81, tyX11_ok, nmX11, rfl, rfl, tyX11_ok 11 (by decide)⟩
theorem ff_X0_9 : fpF RX0 9 0 0 (.array .int) := ⟨RX0, TX0, 5, tyX0, rfl, inG0, by decide, fl_X0_9, tyX0_ok, nmX0, rfl, rfl, tyX0_ok 0 (by decide)⟩
theorem ff_X0_15 : fpF RX0 15 0 1 (.array .int) := ⟨RX0, TX0, 5, tyX0, rfl, inG0, by decide, fl_X0_15, tyX0_ok, nmX0, rfl, rfl, tyX0_ok 1 (by decide)⟩
theorem ff_X1_9 : fpF RX1 9 1 0 (.array .int) := ⟨RX1, TX1, 1, tyX1, rfl, inG1, by decide, fl_X1_9, tyX1_ok, nmX1, rfl, rfl, tyX1_ok 0 (by decide)⟩
theorem ff_X2_9 : fpF RX2 9 2 0 (.array .int) := ⟨RX2, TX2, 11, tyX2, rfl, inG2, by decide, fl_X2_9, tyX2_ok, nmX2, rfl, rfl, tyX2_ok 0 (by decide)⟩
theorem ff_X2_15 : fpF RX2 15 2 1 (.array .int) := ⟨RX2, TX2, 11, tyX2, rfl, inG2, by decide, fl_X2_15, tyX2_ok, nmX2, rfl, rfl, tyX2_ok 1 (by decide)⟩
theorem ff_X2_18 : fpF RX2 18 2 2 (.array .int) := ⟨RX2, TX2, 11, tyX2, rfl, inG2, by decide, fl_X2_18, tyX2_ok, nmX2, rfl, rfl, tyX2_ok 2 (by decide)⟩
theorem ff_X2_21 : fpF RX2 21 2 3 (.array .int) := ⟨RX2, TX2, 11, tyX2, rfl, inG2, by decide, fl_X2_21, tyX2_ok, nmX2, rfl, rfl, tyX2_ok 3 (by decide)⟩
theorem ff_X2_24 : fpF RX2 24 2 4 (.array .int) := ⟨RX2, TX2, 11, tyX2, rfl, inG2, by decide, fl_X2_24, tyX2_ok, nmX2, rfl, rfl, tyX2_ok 4 (by decide)⟩
theorem ff_X2_27 : fpF RX2 27 2 5 (.array .int) := ⟨RX2, TX2, 11, tyX2, rfl, inG2, by decide, fl_X2_27, tyX2_ok, nmX2, rfl, rfl, tyX2_ok 5 (by decide)⟩
theorem ff_X2_30 : fpF RX2 30 2 6 (.array .long) := ⟨RX2, TX2, 11, tyX2, rfl, inG2, by decide, fl_X2_30, tyX2_ok, nmX2, rfl, rfl, tyX2_ok 6 (by decide)⟩
theorem ff_X2_34 : fpF RX2 34 2 7 (.array .long) := ⟨RX2, TX2, 11, tyX2, rfl, inG2, by decide, fl_X2_34, tyX2_ok, nmX2, rfl, rfl, tyX2_ok 7 (by decide)⟩
theorem ff_X2_40 : fpF RX2 40 2 8 (.object "StarShells$Boxes") := ⟨RX2, TX2, 11, tyX2, rfl, inG2, by decide, fl_X2_40, tyX2_ok, nmX2, rfl, rfl, tyX2_ok 8 (by decide)⟩
theorem ff_X3_9 : fpF RX3 9 3 0 (.array .int) := ⟨RX3, TX3, 5, tyX3, rfl, inG3, by decide, fl_X3_9, tyX3_ok, nmX3, rfl, rfl, tyX3_ok 0 (by decide)⟩
theorem ff_X3_15 : fpF RX3 15 3 1 (.array .int) := ⟨RX3, TX3, 5, tyX3, rfl, inG3, by decide, fl_X3_15, tyX3_ok, nmX3, rfl, rfl, tyX3_ok 1 (by decide)⟩
theorem ff_X3_18 : fpF RX3 18 3 2 (.array .int) := ⟨RX3, TX3, 5, tyX3, rfl, inG3, by decide, fl_X3_18, tyX3_ok, nmX3, rfl, rfl, tyX3_ok 2 (by decide)⟩
theorem ff_X3_21 : fpF RX3 21 3 3 (.array .int) := ⟨RX3, TX3, 5, tyX3, rfl, inG3, by decide, fl_X3_21, tyX3_ok, nmX3, rfl, rfl, tyX3_ok 3 (by decide)⟩
theorem ff_X4_11 : fpF RX4 11 4 1 (.array .boolean) := ⟨RX4, TX4, 11, tyX4, rfl, inG4, by decide, fl_X4_11, tyX4_ok, nmX4, rfl, rfl, tyX4_ok 1 (by decide)⟩
theorem ff_X4_15 : fpF RX4 15 4 0 (.object "StarShells$Tape") := ⟨RX4, TX4, 11, tyX4, rfl, inG4, by decide, fl_X4_15, tyX4_ok, nmX4, rfl, rfl, tyX4_ok 0 (by decide)⟩
theorem ff_X5_9 : fpF RX5 9 5 0 (.array .long) := ⟨RX5, TX5, 4, tyX5, rfl, inG5, by decide, fl_X5_9, tyX5_ok, nmX5, rfl, rfl, tyX5_ok 0 (by decide)⟩
theorem ff_X6_9 : fpF RX6 9 6 0 (.array .int) := ⟨RX6, TX6, 4, tyX6, rfl, inG6, by decide, fl_X6_9, tyX6_ok, nmX6, rfl, rfl, tyX6_ok 0 (by decide)⟩
theorem ff_X6_13 : fpF RX6 13 6 1 (.array .int) := ⟨RX6, TX6, 4, tyX6, rfl, inG6, by decide, fl_X6_13, tyX6_ok, nmX6, rfl, rfl, tyX6_ok 1 (by decide)⟩
theorem ff_X6_16 : fpF RX6 16 6 2 (.array .int) := ⟨RX6, TX6, 4, tyX6, rfl, inG6, by decide, fl_X6_16, tyX6_ok, nmX6, rfl, rfl, tyX6_ok 2 (by decide)⟩
theorem ff_X6_19 : fpF RX6 19 6 3 (.array .int) := ⟨RX6, TX6, 4, tyX6, rfl, inG6, by decide, fl_X6_19, tyX6_ok, nmX6, rfl, rfl, tyX6_ok 3 (by decide)⟩
theorem ff_X7_9 : fpF RX7 9 7 0 (.array .int) := ⟨RX7, TX7, 6, tyX7, rfl, inG7, by decide, fl_X7_9, tyX7_ok, nmX7, rfl, rfl, tyX7_ok 0 (by decide)⟩
theorem ff_X7_15 : fpF RX7 15 7 1 (.array .long) := ⟨RX7, TX7, 6, tyX7, rfl, inG7, by decide, fl_X7_15, tyX7_ok, nmX7, rfl, rfl, tyX7_ok 1 (by decide)⟩
theorem ff_X7_19 : fpF RX7 19 7 2 (.array .boolean) := ⟨RX7, TX7, 6, tyX7, rfl, inG7, by decide, fl_X7_19, tyX7_ok, nmX7, rfl, rfl, tyX7_ok 2 (by decide)⟩
theorem ff_X8_9 : fpF RX8 9 8 0 (.array .int) := ⟨RX8, TX8, 2, tyX8, rfl, inG8, by decide, fl_X8_9, tyX8_ok, nmX8, rfl, rfl, tyX8_ok 0 (by decide)⟩
theorem ff_X9_9 : fpF RX9 9 9 0 (.array .int) := ⟨RX9, TX9, 2, tyX9, rfl, inG9, by decide, fl_X9_9, tyX9_ok, nmX9, rfl, rfl, tyX9_ok 0 (by decide)⟩
theorem ff_X10_11 : fpF RX10 11 10 0 (.array (.object "StarShells$Star")) := ⟨RX10, TX10, 6, tyX10, rfl, inG10, by decide, fl_X10_11, tyX10_ok, nmX10, rfl, rfl, tyX10_ok 0 (by decide)⟩
theorem ff_X12_7 : fpF RX12 7 12 0 (.array .int) := ⟨RX12, TX12, 28, tyX12, rfl, inG12, by decide, fl_X12_7, tyX12_ok, nmX12, rfl, rfl, tyX12_ok 0 (by decide)⟩
theorem ff_X12_13 : fpF RX12 13 12 1 (.array .int) := ⟨RX12, TX12, 28, tyX12, rfl, inG12, by decide, fl_X12_13, tyX12_ok, nmX12, rfl, rfl, tyX12_ok 1 (by decide)⟩
theorem ff_X12_16 : fpF RX12 16 12 2 (.array .long) := ⟨RX12, TX12, 28, tyX12, rfl, inG12, by decide, fl_X12_16, tyX12_ok, nmX12, rfl, rfl, tyX12_ok 2 (by decide)⟩
theorem ff_X12_20 : fpF RX12 20 12 3 (.array .long) := ⟨RX12, TX12, 28, tyX12, rfl, inG12, by decide, fl_X12_20, tyX12_ok, nmX12, rfl, rfl, tyX12_ok 3 (by decide)⟩
theorem ff_X12_23 : fpF RX12 23 12 4 (.array .long) := ⟨RX12, TX12, 28, tyX12, rfl, inG12, by decide, fl_X12_23, tyX12_ok, nmX12, rfl, rfl, tyX12_ok 4 (by decide)⟩
theorem ff_X12_30 : fpF RX12 30 12 6 (.array .byte) := ⟨RX12, TX12, 28, tyX12, rfl, inG12, by decide, fl_X12_30, tyX12_ok, nmX12, rfl, rfl, tyX12_ok 6 (by decide)⟩
theorem ff_X12_40 : fpF RX12 40 12 17 (.array .boolean) := ⟨RX12, TX12, 28, tyX12, rfl, inG12, by decide, fl_X12_40, tyX12_ok, nmX12, rfl, rfl, tyX12_ok 17 (by decide)⟩
theorem ff_X12_44 : fpF RX12 44 12 18 (.array .int) := ⟨RX12, TX12, 28, tyX12, rfl, inG12, by decide, fl_X12_44, tyX12_ok, nmX12, rfl, rfl, tyX12_ok 18 (by decide)⟩
theorem ff_X12_47 : fpF RX12 47 12 19 (.array .int) := ⟨RX12, TX12, 28, tyX12, rfl, inG12, by decide, fl_X12_47, tyX12_ok, nmX12, rfl, rfl, tyX12_ok 19 (by decide)⟩
theorem ff_X12_50 : fpF RX12 50 12 20 (.array .int) := ⟨RX12, TX12, 28, tyX12, rfl, inG12, by decide, fl_X12_50, tyX12_ok, nmX12, rfl, rfl, tyX12_ok 20 (by decide)⟩
theorem ff_X12_53 : fpF RX12 53 12 21 (.array .int) := ⟨RX12, TX12, 28, tyX12, rfl, inG12, by decide, fl_X12_53, tyX12_ok, nmX12, rfl, rfl, tyX12_ok 21 (by decide)⟩
theorem ff_X12_56 : fpF RX12 56 12 22 (.array .int) := ⟨RX12, TX12, 28, tyX12, rfl, inG12, by decide, fl_X12_56, tyX12_ok, nmX12, rfl, rfl, tyX12_ok 22 (by decide)⟩
theorem ff_X12_59 : fpF RX12 59 12 23 (.array .int) := ⟨RX12, TX12, 28, tyX12, rfl, inG12, by decide, fl_X12_59, tyX12_ok, nmX12, rfl, rfl, tyX12_ok 23 (by decide)⟩
theorem ff_X12_62 : fpF RX12 62 12 24 (.array .int) := ⟨RX12, TX12, 28, tyX12, rfl, inG12, by decide, fl_X12_62, tyX12_ok, nmX12, rfl, rfl, tyX12_ok 24 (by decide)⟩
theorem ff_X12_65 : fpF RX12 65 12 25 (.array .boolean) := ⟨RX12, TX12, 28, tyX12, rfl, inG12, by decide, fl_X12_65, tyX12_ok, nmX12, rfl, rfl, tyX12_ok 25 (by decide)⟩
theorem ff_X12_68 : fpF RX12 68 12 26 (.array .int) := ⟨RX12, TX12, 28, tyX12, rfl, inG12, by decide, fl_X12_68, tyX12_ok, nmX12, rfl, rfl, tyX12_ok 26 (by decide)⟩
theorem ff_X12_71 : fpF RX12 71 12 27 (.array .boolean) := ⟨RX12, TX12, 28, tyX12, rfl, inG12, by decide, fl_X12_71, tyX12_ok, nmX12, rfl, rfl, tyX12_ok 27 (by decide)⟩
theorem nw_X10_9 : nwW RX10 9 7 6 [.null, .null, .null, .int 0, .int 0, .int 0] := ⟨RX7, TX7, tyX7, rfl, inG7, tyX7_ok, (tk_1 (List.mem_of_getElem? (i := 127) rfl) rfl), (tk_1 (List.mem_of_getElem? (i := 129) rfl) rfl), (tk_1 (List.mem_of_getElem? (i := 6) rfl) rfl), by decide⟩
theorem mi_X10_17 : MiN RX10 17 yX7_init "StarShells" cX7_init 1 0 := ⟨by decide +kernel, (tk_1 (List.mem_of_getElem? (i := 131) rfl) rfl), (tk_1 (List.mem_of_getElem? (i := 6) rfl) rfl), (tk_1 (List.mem_of_getElem? (i := 132) rfl) rfl), rfl, by decide +kernel⟩
theorem nw_X4_19 : nwW RX4 19 3 5 [.null, .null, .null, .null, .int 0] := ⟨RX3, TX3, tyX3, rfl, inG3, tyX3_ok, (tk_1 (List.mem_of_getElem? (i := 51) rfl) rfl), (tk_1 (List.mem_of_getElem? (i := 52) rfl) rfl), (tk_1 (List.mem_of_getElem? (i := 4) rfl) rfl), by decide⟩
theorem mi_X4_21 : MiW RX4 21 yX3_init cX3_init 2 0 := ⟨(tk_1 (List.mem_of_getElem? (i := 53) rfl) rfl), (tk_1 (List.mem_of_getElem? (i := 54) rfl) rfl), (tk_1 (List.mem_of_getElem? (i := 4) rfl) rfl), (tk_1 (List.mem_of_getElem? (i := 55) rfl) rfl), rfl, by decide +kernel⟩
theorem nw_X2_37 : nwW RX2 37 0 5 [.null, .null, .int 0, .long 0, .long 0] := ⟨RX0, TX0, tyX0, rfl, inG0, tyX0_ok, (tk_2 (List.mem_of_getElem? (i := 9) rfl) rfl), (tk_2 (List.mem_of_getElem? (i := 10) rfl) rfl), (tk_1 (List.mem_of_getElem? (i := 11) rfl) rfl), by decide⟩
theorem mi_X2_39 : MiN RX2 39 yX0_init "StarShells" cX0_init 1 0 := ⟨by decide +kernel, (tk_2 (List.mem_of_getElem? (i := 12) rfl) rfl), (tk_1 (List.mem_of_getElem? (i := 11) rfl) rfl), (tk_2 (List.mem_of_getElem? (i := 13) rfl) rfl), rfl, by decide +kernel⟩
def gX8_init (cy : Nat → ClassId) (a : Nat → Nat) : va_W := [(a 0, .inr (8, [.ref (a 1), .int 0])), (a 1, .inl (cy 0, 400, .inl (fun _ => 0)))]
def rX8_init : Room := { frames := 1, cells := 1, slots := 400, locals := 12 }
set_option maxHeartbeats 4000000 in
set_option maxRecDepth 100000 in
theorem cX8_init_in (l : Launch) (D : va_G) (cy : Nat → ClassId) : Mc l D cy yX8_init cX8_init 1 rX8_init 1 400 (.inr (8, [.null, .int 0])) [] (gX8_init cy) := by
  refine mc_of (by decide) rfl (fun h0 => Nat.le_of_ble_eq_true rfl) (fun h0 p e s m below meth c C hov hr hlk => ?_)
  skip
  refine n_aload_n C 0 dX8_init_0 rfl rfl ?_
  refine n_obj C (tk_1 (List.mem_of_getElem? (i := 33) rfl) rfl) ow_i ow_c (Nat.le_of_ble_eq_true rfl) (Nat.le_of_ble_eq_true rfl) dX8_init_1 ?_
  refine n_aload_n C 0 dX8_init_4 rfl rfl ?_
  refine n_sipush C (v := 400) dX8_init_5 (by decide) ?_
  refine n_newa0 C (N := 400) ac_int (by decide) (by decide) (by decide) (Nat.le_of_ble_eq_true rfl) (Nat.le_of_ble_eq_true rfl) dX8_init_8 (fun q1 => ?_)
  refine n_ws (ws2 := [(h0, .inr (8, [.null, .int 0])), (q1, .inl (cy 0, 400, .inl (fun _ => 0)))]) rfl ?_
  refine n_putF C 0 [(h0, .inr (8, [.ref q1, .int 0])), (q1, .inl (cy 0, 400, .inl (fun _ => 0)))] rfl ff_X8_9 (by decide) rfl rfl (Nat.le_of_ble_eq_true rfl) dX8_init_10 rfl ?_
  exact n_ret C (fun k => [h0, q1].getD k 0) rfl rfl hr hlk rfl (Nat.le_refl _) (Nat.le_refl _) dX8_init_13
def gX3_init (cy : Nat → ClassId) (a : Nat → Nat) : va_W := [(a 0, .inr (3, [.ref (a 1), .ref (a 2), .ref (a 3), .ref (a 4), .int 0])), (a 1, .inl (cy 0, 6, .inl (upd (upd (upd (upd (upd (upd (fun _ => 0) 0 1) 1 1) 2 1) 3 1) 4 1) 5 1))), (a 2, .inl (cy 0, 25, .inl (fun _ => 0))), (a 3, .inl (cy 0, 7, .inl (fun _ => 0))), (a 4, .inl (cy 0, 168, .inl (fun _ => 0)))]
def rX3_init : Room := { frames := 1, cells := 4, slots := 206, locals := 12 }
set_option maxHeartbeats 4000000 in
set_option maxRecDepth 100000 in
theorem cX3_init_in (l : Launch) (D : va_G) (cy : Nat → ClassId) : Mc l D cy yX3_init cX3_init 2 rX3_init 4 206 (.inr (3, [.null, .null, .null, .null, .int 0])) [] (gX3_init cy) := by
  refine mc_of (by decide) rfl (fun h0 => Nat.le_of_ble_eq_true rfl) (fun h0 p e s m below meth c C hov hr hlk => ?_)
  skip
  refine n_aload_n C 0 dX3_init_0 rfl rfl ?_
  refine n_obj C (tk_1 (List.mem_of_getElem? (i := 56) rfl) rfl) ow_i ow_c (Nat.le_of_ble_eq_true rfl) (Nat.le_of_ble_eq_true rfl) dX3_init_1 ?_
  refine n_aload_n C 0 dX3_init_4 rfl rfl ?_
  refine n_bipush C (v := 6) dX3_init_5 (by decide) ?_
  refine n_newa0 C (N := 6) ac_int (by decide) (by decide) (by decide) (Nat.le_of_ble_eq_true rfl) (Nat.le_of_ble_eq_true rfl) dX3_init_7 (fun q1 => ?_)
  refine n_ws (ws2 := [(h0, .inr (3, [.null, .null, .null, .null, .int 0])), (q1, .inl (cy 0, 6, .inl (fun _ => 0)))]) rfl ?_
  refine n_putF C 0 [(h0, .inr (3, [.ref q1, .null, .null, .null, .int 0])), (q1, .inl (cy 0, 6, .inl (fun _ => 0)))] rfl ff_X3_9 (by decide) rfl rfl (Nat.le_of_ble_eq_true rfl) dX3_init_9 rfl ?_
  refine n_aload_n C 0 dX3_init_12 rfl rfl ?_
  refine n_bipush C (v := 25) dX3_init_13 (by decide) ?_
  refine n_newa0 C (N := 25) ac_int (by decide) (by decide) (by decide) (Nat.le_of_ble_eq_true rfl) (Nat.le_of_ble_eq_true rfl) dX3_init_15 (fun q2 => ?_)
  refine n_ws (ws2 := [(h0, .inr (3, [.ref q1, .null, .null, .null, .int 0])), (q1, .inl (cy 0, 6, .inl (fun _ => 0))), (q2, .inl (cy 0, 25, .inl (fun _ => 0)))]) rfl ?_
  refine n_putF C 0 [(h0, .inr (3, [.ref q1, .ref q2, .null, .null, .int 0])), (q1, .inl (cy 0, 6, .inl (fun _ => 0))), (q2, .inl (cy 0, 25, .inl (fun _ => 0)))] rfl ff_X3_15 (by decide) rfl rfl (Nat.le_of_ble_eq_true rfl) dX3_init_17 rfl ?_
  refine n_aload_n C 0 dX3_init_20 rfl rfl ?_
  refine n_bipush C (v := 7) dX3_init_21 (by decide) ?_
  refine n_newa0 C (N := 7) ac_int (by decide) (by decide) (by decide) (Nat.le_of_ble_eq_true rfl) (Nat.le_of_ble_eq_true rfl) dX3_init_23 (fun q3 => ?_)
  refine n_ws (ws2 := [(h0, .inr (3, [.ref q1, .ref q2, .null, .null, .int 0])), (q1, .inl (cy 0, 6, .inl (fun _ => 0))), (q2, .inl (cy 0, 25, .inl (fun _ => 0))), (q3, .inl (cy 0, 7, .inl (fun _ => 0)))]) rfl ?_
  refine n_putF C 0 [(h0, .inr (3, [.ref q1, .ref q2, .ref q3, .null, .int 0])), (q1, .inl (cy 0, 6, .inl (fun _ => 0))), (q2, .inl (cy 0, 25, .inl (fun _ => 0))), (q3, .inl (cy 0, 7, .inl (fun _ => 0)))] rfl ff_X3_18 (by decide) rfl rfl (Nat.le_of_ble_eq_true rfl) dX3_init_25 rfl ?_
  refine n_aload_n C 0 dX3_init_28 rfl rfl ?_
  refine n_sipush C (v := 168) dX3_init_29 (by decide) ?_
  refine n_newa0 C (N := 168) ac_int (by decide) (by decide) (by decide) (Nat.le_of_ble_eq_true rfl) (Nat.le_of_ble_eq_true rfl) dX3_init_32 (fun q4 => ?_)
  refine n_ws (ws2 := [(h0, .inr (3, [.ref q1, .ref q2, .ref q3, .null, .int 0])), (q1, .inl (cy 0, 6, .inl (fun _ => 0))), (q2, .inl (cy 0, 25, .inl (fun _ => 0))), (q3, .inl (cy 0, 7, .inl (fun _ => 0))), (q4, .inl (cy 0, 168, .inl (fun _ => 0)))]) rfl ?_
  refine n_putF C 0 [(h0, .inr (3, [.ref q1, .ref q2, .ref q3, .ref q4, .int 0])), (q1, .inl (cy 0, 6, .inl (fun _ => 0))), (q2, .inl (cy 0, 25, .inl (fun _ => 0))), (q3, .inl (cy 0, 7, .inl (fun _ => 0))), (q4, .inl (cy 0, 168, .inl (fun _ => 0)))] rfl ff_X3_21 (by decide) rfl rfl (Nat.le_of_ble_eq_true rfl) dX3_init_34 rfl ?_
  refine n_iconst C (v := 0) dX3_init_37 (by decide) ?_
  refine n_istore_n C [(1, .int 0), (0, .ref h0)] dX3_init_38 rfl (by decide) rfl ?_
  refine n_iload_n C 0 dX3_init_39 rfl rfl ?_
  refine n_bipush C (v := 6) dX3_init_40 (by decide) ?_
  refine n_icmp_ge C 58 dX3_init_42 (by decide) (fun z => absurd z (by decide)) (fun _ => ?_)
  refine n_aload_n C 1 dX3_init_45 rfl rfl ?_
  refine n_get C 0 rfl fd_X3_9 rfl dX3_init_46 ?_
  refine n_iload_n C 0 dX3_init_49 rfl rfl ?_
  refine n_iconst C (v := 1) dX3_init_50 (by decide) ?_
  refine n_iast C 1 (j0 := 0) [(h0, .inr (3, [.ref q1, .ref q2, .ref q3, .ref q4, .int 0])), (q1, .inl (cy 0, 6, .inl (upd (fun _ => 0) 0 1))), (q2, .inl (cy 0, 25, .inl (fun _ => 0))), (q3, .inl (cy 0, 7, .inl (fun _ => 0))), (q4, .inl (cy 0, 168, .inl (fun _ => 0)))] rfl (vp_in_iff.mpr (by decide)) (by decide) dX3_init_51 rfl ?_
  refine n_iinc C 0 (v := 1) [(1, .int 1), (0, .ref h0)] dX3_init_52 rfl (by decide) (by decide) rfl ?_
  refine n_goto C 39 dX3_init_55 (by decide) ?_
  refine n_iload_n C 0 dX3_init_39 rfl rfl ?_
  refine n_bipush C (v := 6) dX3_init_40 (by decide) ?_
  refine n_icmp_ge C 58 dX3_init_42 (by decide) (fun z => absurd z (by decide)) (fun _ => ?_)
  refine n_aload_n C 1 dX3_init_45 rfl rfl ?_
  refine n_get C 0 rfl fd_X3_9 rfl dX3_init_46 ?_
  refine n_iload_n C 0 dX3_init_49 rfl rfl ?_
  refine n_iconst C (v := 1) dX3_init_50 (by decide) ?_
  refine n_iast C 1 (j0 := 1) [(h0, .inr (3, [.ref q1, .ref q2, .ref q3, .ref q4, .int 0])), (q1, .inl (cy 0, 6, .inl (upd (upd (fun _ => 0) 0 1) 1 1))), (q2, .inl (cy 0, 25, .inl (fun _ => 0))), (q3, .inl (cy 0, 7, .inl (fun _ => 0))), (q4, .inl (cy 0, 168, .inl (fun _ => 0)))] rfl (vp_in_iff.mpr (by decide)) (by decide) dX3_init_51 rfl ?_
  refine n_iinc C 0 (v := 2) [(1, .int 2), (0, .ref h0)] dX3_init_52 rfl (by decide) (by decide) rfl ?_
  refine n_goto C 39 dX3_init_55 (by decide) ?_
  refine n_iload_n C 0 dX3_init_39 rfl rfl ?_
  refine n_bipush C (v := 6) dX3_init_40 (by decide) ?_
  refine n_icmp_ge C 58 dX3_init_42 (by decide) (fun z => absurd z (by decide)) (fun _ => ?_)
  refine n_aload_n C 1 dX3_init_45 rfl rfl ?_
  refine n_get C 0 rfl fd_X3_9 rfl dX3_init_46 ?_
  refine n_iload_n C 0 dX3_init_49 rfl rfl ?_
  refine n_iconst C (v := 1) dX3_init_50 (by decide) ?_
  refine n_iast C 1 (j0 := 2) [(h0, .inr (3, [.ref q1, .ref q2, .ref q3, .ref q4, .int 0])), (q1, .inl (cy 0, 6, .inl (upd (upd (upd (fun _ => 0) 0 1) 1 1) 2 1))), (q2, .inl (cy 0, 25, .inl (fun _ => 0))), (q3, .inl (cy 0, 7, .inl (fun _ => 0))), (q4, .inl (cy 0, 168, .inl (fun _ => 0)))] rfl (vp_in_iff.mpr (by decide)) (by decide) dX3_init_51 rfl ?_
  refine n_iinc C 0 (v := 3) [(1, .int 3), (0, .ref h0)] dX3_init_52 rfl (by decide) (by decide) rfl ?_
  refine n_goto C 39 dX3_init_55 (by decide) ?_
  refine n_iload_n C 0 dX3_init_39 rfl rfl ?_
  refine n_bipush C (v := 6) dX3_init_40 (by decide) ?_
  refine n_icmp_ge C 58 dX3_init_42 (by decide) (fun z => absurd z (by decide)) (fun _ => ?_)
  refine n_aload_n C 1 dX3_init_45 rfl rfl ?_
  refine n_get C 0 rfl fd_X3_9 rfl dX3_init_46 ?_
  refine n_iload_n C 0 dX3_init_49 rfl rfl ?_
  refine n_iconst C (v := 1) dX3_init_50 (by decide) ?_
  refine n_iast C 1 (j0 := 3) [(h0, .inr (3, [.ref q1, .ref q2, .ref q3, .ref q4, .int 0])), (q1, .inl (cy 0, 6, .inl (upd (upd (upd (upd (fun _ => 0) 0 1) 1 1) 2 1) 3 1))), (q2, .inl (cy 0, 25, .inl (fun _ => 0))), (q3, .inl (cy 0, 7, .inl (fun _ => 0))), (q4, .inl (cy 0, 168, .inl (fun _ => 0)))] rfl (vp_in_iff.mpr (by decide)) (by decide) dX3_init_51 rfl ?_
  refine n_iinc C 0 (v := 4) [(1, .int 4), (0, .ref h0)] dX3_init_52 rfl (by decide) (by decide) rfl ?_
  refine n_goto C 39 dX3_init_55 (by decide) ?_
  refine n_iload_n C 0 dX3_init_39 rfl rfl ?_
  refine n_bipush C (v := 6) dX3_init_40 (by decide) ?_
  refine n_icmp_ge C 58 dX3_init_42 (by decide) (fun z => absurd z (by decide)) (fun _ => ?_)
  refine n_aload_n C 1 dX3_init_45 rfl rfl ?_
  refine n_get C 0 rfl fd_X3_9 rfl dX3_init_46 ?_
  refine n_iload_n C 0 dX3_init_49 rfl rfl ?_
  refine n_iconst C (v := 1) dX3_init_50 (by decide) ?_
  refine n_iast C 1 (j0 := 4) [(h0, .inr (3, [.ref q1, .ref q2, .ref q3, .ref q4, .int 0])), (q1, .inl (cy 0, 6, .inl (upd (upd (upd (upd (upd (fun _ => 0) 0 1) 1 1) 2 1) 3 1) 4 1))), (q2, .inl (cy 0, 25, .inl (fun _ => 0))), (q3, .inl (cy 0, 7, .inl (fun _ => 0))), (q4, .inl (cy 0, 168, .inl (fun _ => 0)))] rfl (vp_in_iff.mpr (by decide)) (by decide) dX3_init_51 rfl ?_
  refine n_iinc C 0 (v := 5) [(1, .int 5), (0, .ref h0)] dX3_init_52 rfl (by decide) (by decide) rfl ?_
  refine n_goto C 39 dX3_init_55 (by decide) ?_
  refine n_iload_n C 0 dX3_init_39 rfl rfl ?_
  refine n_bipush C (v := 6) dX3_init_40 (by decide) ?_
  refine n_icmp_ge C 58 dX3_init_42 (by decide) (fun z => absurd z (by decide)) (fun _ => ?_)
  refine n_aload_n C 1 dX3_init_45 rfl rfl ?_
  refine n_get C 0 rfl fd_X3_9 rfl dX3_init_46 ?_
  refine n_iload_n C 0 dX3_init_49 rfl rfl ?_
  refine n_iconst C (v := 1) dX3_init_50 (by decide) ?_
  refine n_iast C 1 (j0 := 5) [(h0, .inr (3, [.ref q1, .ref q2, .ref q3, .ref q4, .int 0])), (q1, .inl (cy 0, 6, .inl (upd (upd (upd (upd (upd (upd (fun _ => 0) 0 1) 1 1) 2 1) 3 1) 4 1) 5 1))), (q2, .inl (cy 0, 25, .inl (fun _ => 0))), (q3, .inl (cy 0, 7, .inl (fun _ => 0))), (q4, .inl (cy 0, 168, .inl (fun _ => 0)))] rfl (vp_in_iff.mpr (by decide)) (by decide) dX3_init_51 rfl ?_
  refine n_iinc C 0 (v := 6) [(1, .int 6), (0, .ref h0)] dX3_init_52 rfl (by decide) (by decide) rfl ?_
  refine n_goto C 39 dX3_init_55 (by decide) ?_
  refine n_iload_n C 0 dX3_init_39 rfl rfl ?_
  refine n_bipush C (v := 6) dX3_init_40 (by decide) ?_
  refine n_icmp_ge C 58 dX3_init_42 (by decide) (fun _ => ?_) (fun z => absurd (by decide) z)
  exact n_ret C (fun k => [h0, q1, q2, q3, q4].getD k 0) rfl rfl hr hlk rfl (Nat.le_refl _) (Nat.le_refl _) dX3_init_58
def gX7_init (cy : Nat → ClassId) (a : Nat → Nat) : va_W := [(a 0, .inr (7, [.ref (a 1), .ref (a 2), .ref (a 3), .int 0, .int 100, .int 1000])), (a 1, .inl (cy 0, 96, .inl (fun _ => 0))), (a 2, .inl (cy 3, 80, .inr (.inl (fun _ => 0)))), (a 3, .inl (cy 1, 80, .inl (fun _ => 0)))]
def rX7_init : Room := { frames := 1, cells := 3, slots := 256, locals := 12 }
set_option maxHeartbeats 4000000 in
set_option maxRecDepth 100000 in
theorem cX7_init_in (l : Launch) (D : va_G) (cy : Nat → ClassId) : Mc l D cy yX7_init cX7_init 1 rX7_init 3 256 (.inr (7, [.null, .null, .null, .int 0, .int 0, .int 0])) [] (gX7_init cy) := by
  refine mc_of (by decide) rfl (fun h0 => Nat.le_of_ble_eq_true rfl) (fun h0 p e s m below meth c C hov hr hlk => ?_)
  skip
  refine n_aload_n C 0 dX7_init_0 rfl rfl ?_
  refine n_obj C (tk_1 (List.mem_of_getElem? (i := 133) rfl) rfl) ow_i ow_c (Nat.le_of_ble_eq_true rfl) (Nat.le_of_ble_eq_true rfl) dX7_init_1 ?_
  refine n_aload_n C 0 dX7_init_4 rfl rfl ?_
  refine n_bipush C (v := 96) dX7_init_5 (by decide) ?_
  refine n_newa0 C (N := 96) ac_int (by decide) (by decide) (by decide) (Nat.le_of_ble_eq_true rfl) (Nat.le_of_ble_eq_true rfl) dX7_init_7 (fun q1 => ?_)
  refine n_ws (ws2 := [(h0, .inr (7, [.null, .null, .null, .int 0, .int 0, .int 0])), (q1, .inl (cy 0, 96, .inl (fun _ => 0)))]) rfl ?_
  refine n_putF C 0 [(h0, .inr (7, [.ref q1, .null, .null, .int 0, .int 0, .int 0])), (q1, .inl (cy 0, 96, .inl (fun _ => 0)))] rfl ff_X7_9 (by decide) rfl rfl (Nat.le_of_ble_eq_true rfl) dX7_init_9 rfl ?_
  refine n_aload_n C 0 dX7_init_12 rfl rfl ?_
  refine n_bipush C (v := 80) dX7_init_13 (by decide) ?_
  refine n_newa3 C (N := 80) ac_long (by decide) (by decide) (by decide) (Nat.le_of_ble_eq_true rfl) (Nat.le_of_ble_eq_true rfl) dX7_init_15 (fun q2 => ?_)
  refine n_ws (ws2 := [(h0, .inr (7, [.ref q1, .null, .null, .int 0, .int 0, .int 0])), (q1, .inl (cy 0, 96, .inl (fun _ => 0))), (q2, .inl (cy 3, 80, .inr (.inl (fun _ => 0))))]) rfl ?_
  refine n_putF C 0 [(h0, .inr (7, [.ref q1, .ref q2, .null, .int 0, .int 0, .int 0])), (q1, .inl (cy 0, 96, .inl (fun _ => 0))), (q2, .inl (cy 3, 80, .inr (.inl (fun _ => 0))))] rfl ff_X7_15 (by decide) rfl rfl (Nat.le_of_ble_eq_true rfl) dX7_init_17 rfl ?_
  refine n_aload_n C 0 dX7_init_20 rfl rfl ?_
  refine n_bipush C (v := 80) dX7_init_21 (by decide) ?_
  refine n_newa1 C (N := 80) ac_boolean (by decide) (by decide) (by decide) (Nat.le_of_ble_eq_true rfl) (Nat.le_of_ble_eq_true rfl) dX7_init_23 (fun q3 => ?_)
  refine n_ws (ws2 := [(h0, .inr (7, [.ref q1, .ref q2, .null, .int 0, .int 0, .int 0])), (q1, .inl (cy 0, 96, .inl (fun _ => 0))), (q2, .inl (cy 3, 80, .inr (.inl (fun _ => 0)))), (q3, .inl (cy 1, 80, .inl (fun _ => 0)))]) rfl ?_
  refine n_putF C 0 [(h0, .inr (7, [.ref q1, .ref q2, .ref q3, .int 0, .int 0, .int 0])), (q1, .inl (cy 0, 96, .inl (fun _ => 0))), (q2, .inl (cy 3, 80, .inr (.inl (fun _ => 0)))), (q3, .inl (cy 1, 80, .inl (fun _ => 0)))] rfl ff_X7_19 (by decide) rfl rfl (Nat.le_of_ble_eq_true rfl) dX7_init_25 rfl ?_
  refine n_aload_n C 0 dX7_init_28 rfl rfl ?_
  refine n_bipush C (v := 100) dX7_init_29 (by decide) ?_
  refine n_put C 0 [(h0, .inr (7, [.ref q1, .ref q2, .ref q3, .int 0, .int 100, .int 0])), (q1, .inl (cy 0, 96, .inl (fun _ => 0))), (q2, .inl (cy 3, 80, .inr (.inl (fun _ => 0)))), (q3, .inl (cy 1, 80, .inl (fun _ => 0)))] rfl fp_X7_23 rfl rfl (Nat.le_of_ble_eq_true rfl) dX7_init_31 rfl ?_
  refine n_aload_n C 0 dX7_init_34 rfl rfl ?_
  refine n_sipush C (v := 1000) dX7_init_35 (by decide) ?_
  refine n_put C 0 [(h0, .inr (7, [.ref q1, .ref q2, .ref q3, .int 0, .int 100, .int 1000])), (q1, .inl (cy 0, 96, .inl (fun _ => 0))), (q2, .inl (cy 3, 80, .inr (.inl (fun _ => 0)))), (q3, .inl (cy 1, 80, .inl (fun _ => 0)))] rfl fp_X7_27 rfl rfl (Nat.le_of_ble_eq_true rfl) dX7_init_38 rfl ?_
  exact n_ret C (fun k => [h0, q1, q2, q3].getD k 0) rfl rfl hr hlk rfl (Nat.le_refl _) (Nat.le_refl _) dX7_init_41
def gX1_init (cy : Nat → ClassId) (a : Nat → Nat) : va_W := [(a 0, .inr (1, [.ref (a 1)])), (a 1, .inl (cy 0, 1000, .inl (fun _ => 0)))]
def rX1_init : Room := { frames := 1, cells := 1, slots := 1000, locals := 12 }
set_option maxHeartbeats 4000000 in
set_option maxRecDepth 100000 in
theorem cX1_init_in (l : Launch) (D : va_G) (cy : Nat → ClassId) : Mc l D cy yX1_init cX1_init 1 rX1_init 1 1000 (.inr (1, [.null])) [] (gX1_init cy) := by
  refine mc_of (by decide) rfl (fun h0 => Nat.le_of_ble_eq_true rfl) (fun h0 p e s m below meth c C hov hr hlk => ?_)
  skip
  refine n_aload_n C 0 dX1_init_0 rfl rfl ?_
  refine n_obj C (tk_1 (List.mem_of_getElem? (i := 191) rfl) rfl) ow_i ow_c (Nat.le_of_ble_eq_true rfl) (Nat.le_of_ble_eq_true rfl) dX1_init_1 ?_
  refine n_aload_n C 0 dX1_init_4 rfl rfl ?_
  refine n_sipush C (v := 1000) dX1_init_5 (by decide) ?_
  refine n_newa0 C (N := 1000) ac_int (by decide) (by decide) (by decide) (Nat.le_of_ble_eq_true rfl) (Nat.le_of_ble_eq_true rfl) dX1_init_8 (fun q1 => ?_)
  refine n_ws (ws2 := [(h0, .inr (1, [.null])), (q1, .inl (cy 0, 1000, .inl (fun _ => 0)))]) rfl ?_
  refine n_putF C 0 [(h0, .inr (1, [.ref q1])), (q1, .inl (cy 0, 1000, .inl (fun _ => 0)))] rfl ff_X1_9 (by decide) rfl rfl (Nat.le_of_ble_eq_true rfl) dX1_init_10 rfl ?_
  exact n_ret C (fun k => [h0, q1].getD k 0) rfl rfl hr hlk rfl (Nat.le_refl _) (Nat.le_refl _) dX1_init_13
def gX6_init (cy : Nat → ClassId) (a : Nat → Nat) : va_W := [(a 0, .inr (6, [.ref (a 1), .ref (a 2), .ref (a 3), .ref (a 4)])), (a 1, .inl (cy 0, 20, .inl (fun _ => 0))), (a 2, .inl (cy 0, 20, .inl (fun _ => 0))), (a 3, .inl (cy 0, 20, .inl (fun _ => 0))), (a 4, .inl (cy 0, 20, .inl (fun _ => 0)))]
def rX6_init : Room := { frames := 1, cells := 4, slots := 80, locals := 12 }
set_option maxHeartbeats 4000000 in
set_option maxRecDepth 100000 in
theorem cX6_init_in (l : Launch) (D : va_G) (cy : Nat → ClassId) : Mc l D cy yX6_init cX6_init 1 rX6_init 4 80 (.inr (6, [.null, .null, .null, .null])) [] (gX6_init cy) := by
  refine mc_of (by decide) rfl (fun h0 => Nat.le_of_ble_eq_true rfl) (fun h0 p e s m below meth c C hov hr hlk => ?_)
  skip
  refine n_aload_n C 0 dX6_init_0 rfl rfl ?_
  refine n_obj C (tk_1 (List.mem_of_getElem? (i := 202) rfl) rfl) ow_i ow_c (Nat.le_of_ble_eq_true rfl) (Nat.le_of_ble_eq_true rfl) dX6_init_1 ?_
  refine n_aload_n C 0 dX6_init_4 rfl rfl ?_
  refine n_bipush C (v := 20) dX6_init_5 (by decide) ?_
  refine n_newa0 C (N := 20) ac_int (by decide) (by decide) (by decide) (Nat.le_of_ble_eq_true rfl) (Nat.le_of_ble_eq_true rfl) dX6_init_7 (fun q1 => ?_)
  refine n_ws (ws2 := [(h0, .inr (6, [.null, .null, .null, .null])), (q1, .inl (cy 0, 20, .inl (fun _ => 0)))]) rfl ?_
  refine n_putF C 0 [(h0, .inr (6, [.ref q1, .null, .null, .null])), (q1, .inl (cy 0, 20, .inl (fun _ => 0)))] rfl ff_X6_9 (by decide) rfl rfl (Nat.le_of_ble_eq_true rfl) dX6_init_9 rfl ?_
  refine n_aload_n C 0 dX6_init_12 rfl rfl ?_
  refine n_bipush C (v := 20) dX6_init_13 (by decide) ?_
  refine n_newa0 C (N := 20) ac_int (by decide) (by decide) (by decide) (Nat.le_of_ble_eq_true rfl) (Nat.le_of_ble_eq_true rfl) dX6_init_15 (fun q2 => ?_)
  refine n_ws (ws2 := [(h0, .inr (6, [.ref q1, .null, .null, .null])), (q1, .inl (cy 0, 20, .inl (fun _ => 0))), (q2, .inl (cy 0, 20, .inl (fun _ => 0)))]) rfl ?_
  refine n_putF C 0 [(h0, .inr (6, [.ref q1, .ref q2, .null, .null])), (q1, .inl (cy 0, 20, .inl (fun _ => 0))), (q2, .inl (cy 0, 20, .inl (fun _ => 0)))] rfl ff_X6_13 (by decide) rfl rfl (Nat.le_of_ble_eq_true rfl) dX6_init_17 rfl ?_
  refine n_aload_n C 0 dX6_init_20 rfl rfl ?_
  refine n_bipush C (v := 20) dX6_init_21 (by decide) ?_
  refine n_newa0 C (N := 20) ac_int (by decide) (by decide) (by decide) (Nat.le_of_ble_eq_true rfl) (Nat.le_of_ble_eq_true rfl) dX6_init_23 (fun q3 => ?_)
  refine n_ws (ws2 := [(h0, .inr (6, [.ref q1, .ref q2, .null, .null])), (q1, .inl (cy 0, 20, .inl (fun _ => 0))), (q2, .inl (cy 0, 20, .inl (fun _ => 0))), (q3, .inl (cy 0, 20, .inl (fun _ => 0)))]) rfl ?_
  refine n_putF C 0 [(h0, .inr (6, [.ref q1, .ref q2, .ref q3, .null])), (q1, .inl (cy 0, 20, .inl (fun _ => 0))), (q2, .inl (cy 0, 20, .inl (fun _ => 0))), (q3, .inl (cy 0, 20, .inl (fun _ => 0)))] rfl ff_X6_16 (by decide) rfl rfl (Nat.le_of_ble_eq_true rfl) dX6_init_25 rfl ?_
  refine n_aload_n C 0 dX6_init_28 rfl rfl ?_
  refine n_bipush C (v := 20) dX6_init_29 (by decide) ?_
  refine n_newa0 C (N := 20) ac_int (by decide) (by decide) (by decide) (Nat.le_of_ble_eq_true rfl) (Nat.le_of_ble_eq_true rfl) dX6_init_31 (fun q4 => ?_)
  refine n_ws (ws2 := [(h0, .inr (6, [.ref q1, .ref q2, .ref q3, .null])), (q1, .inl (cy 0, 20, .inl (fun _ => 0))), (q2, .inl (cy 0, 20, .inl (fun _ => 0))), (q3, .inl (cy 0, 20, .inl (fun _ => 0))), (q4, .inl (cy 0, 20, .inl (fun _ => 0)))]) rfl ?_
  refine n_putF C 0 [(h0, .inr (6, [.ref q1, .ref q2, .ref q3, .ref q4])), (q1, .inl (cy 0, 20, .inl (fun _ => 0))), (q2, .inl (cy 0, 20, .inl (fun _ => 0))), (q3, .inl (cy 0, 20, .inl (fun _ => 0))), (q4, .inl (cy 0, 20, .inl (fun _ => 0)))] rfl ff_X6_19 (by decide) rfl rfl (Nat.le_of_ble_eq_true rfl) dX6_init_33 rfl ?_
  exact n_ret C (fun k => [h0, q1, q2, q3, q4].getD k 0) rfl rfl hr hlk rfl (Nat.le_refl _) (Nat.le_refl _) dX6_init_36
def gX5_init (cy : Nat → ClassId) (a : Nat → Nat) : va_W := [(a 0, .inr (5, [.ref (a 1), .int (-1), .int 0, .int 0])), (a 1, .inl (cy 3, 80, .inr (.inl (fun _ => 0))))]
def rX5_init : Room := { frames := 1, cells := 1, slots := 80, locals := 12 }
set_option maxHeartbeats 4000000 in
set_option maxRecDepth 100000 in
theorem cX5_init_in (l : Launch) (D : va_G) (cy : Nat → ClassId) : Mc l D cy yX5_init cX5_init 1 rX5_init 1 80 (.inr (5, [.null, .int 0, .int 0, .int 0])) [] (gX5_init cy) := by
  refine mc_of (by decide) rfl (fun h0 => Nat.le_of_ble_eq_true rfl) (fun h0 p e s m below meth c C hov hr hlk => ?_)
  skip
  refine n_aload_n C 0 dX5_init_0 rfl rfl ?_
  refine n_obj C (tk_1 (List.mem_of_getElem? (i := 225) rfl) rfl) ow_i ow_c (Nat.le_of_ble_eq_true rfl) (Nat.le_of_ble_eq_true rfl) dX5_init_1 ?_
  refine n_aload_n C 0 dX5_init_4 rfl rfl ?_
  refine n_bipush C (v := 80) dX5_init_5 (by decide) ?_
  refine n_newa3 C (N := 80) ac_long (by decide) (by decide) (by decide) (Nat.le_of_ble_eq_true rfl) (Nat.le_of_ble_eq_true rfl) dX5_init_7 (fun q1 => ?_)
  refine n_ws (ws2 := [(h0, .inr (5, [.null, .int 0, .int 0, .int 0])), (q1, .inl (cy 3, 80, .inr (.inl (fun _ => 0))))]) rfl ?_
  refine n_putF C 0 [(h0, .inr (5, [.ref q1, .int 0, .int 0, .int 0])), (q1, .inl (cy 3, 80, .inr (.inl (fun _ => 0))))] rfl ff_X5_9 (by decide) rfl rfl (Nat.le_of_ble_eq_true rfl) dX5_init_9 rfl ?_
  refine n_aload_n C 0 dX5_init_12 rfl rfl ?_
  refine n_iconst C (v := -1) dX5_init_13 (by decide) ?_
  refine n_put C 0 [(h0, .inr (5, [.ref q1, .int (-1), .int 0, .int 0])), (q1, .inl (cy 3, 80, .inr (.inl (fun _ => 0))))] rfl fp_X5_15 rfl rfl (Nat.le_of_ble_eq_true rfl) dX5_init_14 rfl ?_
  exact n_ret C (fun k => [h0, q1].getD k 0) rfl rfl hr hlk rfl (Nat.le_refl _) (Nat.le_refl _) dX5_init_17
def gX9_init (cy : Nat → ClassId) (a : Nat → Nat) : va_W := [(a 0, .inr (9, [.ref (a 1), .int 0])), (a 1, .inl (cy 0, 7, .inl (fun _ => 0)))]
def rX9_init : Room := { frames := 1, cells := 1, slots := 7, locals := 12 }
set_option maxHeartbeats 4000000 in
set_option maxRecDepth 100000 in
theorem cX9_init_in (l : Launch) (D : va_G) (cy : Nat → ClassId) : Mc l D cy yX9_init cX9_init 1 rX9_init 1 7 (.inr (9, [.null, .int 0])) [] (gX9_init cy) := by
  refine mc_of (by decide) rfl (fun h0 => Nat.le_of_ble_eq_true rfl) (fun h0 p e s m below meth c C hov hr hlk => ?_)
  skip
  refine n_aload_n C 0 dX9_init_0 rfl rfl ?_
  refine n_obj C (tk_2 (List.mem_of_getElem? (i := 89) rfl) rfl) ow_i ow_c (Nat.le_of_ble_eq_true rfl) (Nat.le_of_ble_eq_true rfl) dX9_init_1 ?_
  refine n_aload_n C 0 dX9_init_4 rfl rfl ?_
  refine n_bipush C (v := 7) dX9_init_5 (by decide) ?_
  refine n_newa0 C (N := 7) ac_int (by decide) (by decide) (by decide) (Nat.le_of_ble_eq_true rfl) (Nat.le_of_ble_eq_true rfl) dX9_init_7 (fun q1 => ?_)
  refine n_ws (ws2 := [(h0, .inr (9, [.null, .int 0])), (q1, .inl (cy 0, 7, .inl (fun _ => 0)))]) rfl ?_
  refine n_putF C 0 [(h0, .inr (9, [.ref q1, .int 0])), (q1, .inl (cy 0, 7, .inl (fun _ => 0)))] rfl ff_X9_9 (by decide) rfl rfl (Nat.le_of_ble_eq_true rfl) dX9_init_9 rfl ?_
  exact n_ret C (fun k => [h0, q1].getD k 0) rfl rfl hr hlk rfl (Nat.le_refl _) (Nat.le_refl _) dX9_init_12
def gX0_init (cy : Nat → ClassId) (a : Nat → Nat) : va_W := [(a 0, .inr (0, [.ref (a 1), .ref (a 2), .int 0, .long 0, .long 0])), (a 1, .inl (cy 0, 9, .inl (fun _ => 0))), (a 2, .inl (cy 0, 9, .inl (fun _ => 0)))]
def rX0_init : Room := { frames := 1, cells := 2, slots := 18, locals := 12 }
set_option maxHeartbeats 4000000 in
set_option maxRecDepth 100000 in
theorem cX0_init_in (l : Launch) (D : va_G) (cy : Nat → ClassId) : Mc l D cy yX0_init cX0_init 1 rX0_init 2 18 (.inr (0, [.null, .null, .int 0, .long 0, .long 0])) [] (gX0_init cy) := by
  refine mc_of (by decide) rfl (fun h0 => Nat.le_of_ble_eq_true rfl) (fun h0 p e s m below meth c C hov hr hlk => ?_)
  skip
  refine n_aload_n C 0 dX0_init_0 rfl rfl ?_
  refine n_obj C (tk_2 (List.mem_of_getElem? (i := 14) rfl) rfl) ow_i ow_c (Nat.le_of_ble_eq_true rfl) (Nat.le_of_ble_eq_true rfl) dX0_init_1 ?_
  refine n_aload_n C 0 dX0_init_4 rfl rfl ?_
  refine n_bipush C (v := 9) dX0_init_5 (by decide) ?_
  refine n_newa0 C (N := 9) ac_int (by decide) (by decide) (by decide) (Nat.le_of_ble_eq_true rfl) (Nat.le_of_ble_eq_true rfl) dX0_init_7 (fun q1 => ?_)
  refine n_ws (ws2 := [(h0, .inr (0, [.null, .null, .int 0, .long 0, .long 0])), (q1, .inl (cy 0, 9, .inl (fun _ => 0)))]) rfl ?_
  refine n_putF C 0 [(h0, .inr (0, [.ref q1, .null, .int 0, .long 0, .long 0])), (q1, .inl (cy 0, 9, .inl (fun _ => 0)))] rfl ff_X0_9 (by decide) rfl rfl (Nat.le_of_ble_eq_true rfl) dX0_init_9 rfl ?_
  refine n_aload_n C 0 dX0_init_12 rfl rfl ?_
  refine n_bipush C (v := 9) dX0_init_13 (by decide) ?_
  refine n_newa0 C (N := 9) ac_int (by decide) (by decide) (by decide) (Nat.le_of_ble_eq_true rfl) (Nat.le_of_ble_eq_true rfl) dX0_init_15 (fun q2 => ?_)
  refine n_ws (ws2 := [(h0, .inr (0, [.ref q1, .null, .int 0, .long 0, .long 0])), (q1, .inl (cy 0, 9, .inl (fun _ => 0))), (q2, .inl (cy 0, 9, .inl (fun _ => 0)))]) rfl ?_
  refine n_putF C 0 [(h0, .inr (0, [.ref q1, .ref q2, .int 0, .long 0, .long 0])), (q1, .inl (cy 0, 9, .inl (fun _ => 0))), (q2, .inl (cy 0, 9, .inl (fun _ => 0)))] rfl ff_X0_15 (by decide) rfl rfl (Nat.le_of_ble_eq_true rfl) dX0_init_17 rfl ?_
  exact n_ret C (fun k => [h0, q1, q2].getD k 0) rfl rfl hr hlk rfl (Nat.le_refl _) (Nat.le_refl _) dX0_init_20
def gX10_init (cy : Nat → ClassId) (a : Nat → Nat) : va_W := [(a 0, .inr (10, [.ref (a 1), .int 0, .int 0, .int 0, .int 0, .int 0])), (a 1, .inl (cy 5, 2, .inr (.inr (.inr (.inr (va_up (va_up (fun _ => none) 0 (some (a 2))) 1 (some (a 6)))))))), (a 2, .inr (7, [.ref (a 3), .ref (a 4), .ref (a 5), .int 0, .int 100, .int 1000])), (a 3, .inl (cy 0, 96, .inl (fun _ => 0))), (a 4, .inl (cy 3, 80, .inr (.inl (fun _ => 0)))), (a 5, .inl (cy 1, 80, .inl (fun _ => 0))), (a 6, .inr (7, [.ref (a 7), .ref (a 8), .ref (a 9), .int 0, .int 100, .int 1000])), (a 7, .inl (cy 0, 96, .inl (fun _ => 0))), (a 8, .inl (cy 3, 80, .inr (.inl (fun _ => 0)))), (a 9, .inl (cy 1, 80, .inl (fun _ => 0)))]
def rX10_init : Room := { frames := 2, cells := 9, slots := 526, locals := 32 }
set_option maxHeartbeats 4000000 in
set_option maxRecDepth 100000 in
theorem cX10_init_in (l : Launch) (D : va_G) (cy : Nat → ClassId) : Mc l D cy yX10_init cX10_init 2 rX10_init 9 526 (.inr (10, [.null, .int 0, .int 0, .int 0, .int 0, .int 0])) [] (gX10_init cy) := by
  refine mc_of (by decide) rfl (fun h0 => Nat.le_of_ble_eq_true rfl) (fun h0 p e s m below meth c C hov hr hlk => ?_)
  skip
  refine n_aload_n C 0 dX10_init_0 rfl rfl ?_
  refine n_obj C (tk_1 (List.mem_of_getElem? (i := 126) rfl) rfl) ow_i ow_c (Nat.le_of_ble_eq_true rfl) (Nat.le_of_ble_eq_true rfl) dX10_init_1 ?_
  refine n_aload_n C 0 dX10_init_4 rfl rfl ?_
  refine n_iconst C (v := 2) dX10_init_5 (by decide) ?_
  refine n_newq5 C (N := 2) (tk_1 (List.mem_of_getElem? (i := 127) rfl) rfl) hov.2 (by decide) (by decide) (by decide) (Nat.le_of_ble_eq_true rfl) (Nat.le_of_ble_eq_true rfl) dX10_init_6 (fun q1 => ?_)
  refine n_ws (ws2 := [(h0, .inr (10, [.null, .int 0, .int 0, .int 0, .int 0, .int 0])), (q1, .inl (cy 5, 2, .inr (.inr (.inr (.inr (fun _ => none))))))]) rfl ?_
  refine n_putF C 0 [(h0, .inr (10, [.ref q1, .int 0, .int 0, .int 0, .int 0, .int 0])), (q1, .inl (cy 5, 2, .inr (.inr (.inr (.inr (fun _ => none))))))] rfl ff_X10_11 (by decide) rfl rfl (Nat.le_of_ble_eq_true rfl) dX10_init_9 rfl ?_
  refine n_iconst C (v := 0) dX10_init_12 (by decide) ?_
  refine n_istore_n C [(1, .int 0), (0, .ref h0)] dX10_init_13 rfl (by decide) rfl ?_
  refine n_iload_n C 0 dX10_init_14 rfl rfl ?_
  refine n_iconst C (v := 2) dX10_init_15 (by decide) ?_
  refine n_icmp_ge C 38 dX10_init_16 (by decide) (fun z => absurd z (by decide)) (fun _ => ?_)
  refine n_aload_n C 1 dX10_init_19 rfl rfl ?_
  refine n_get C 0 rfl fd_X10_11 rfl dX10_init_20 ?_
  refine n_iload_n C 0 dX10_init_23 rfl rfl ?_
  refine n_new C nw_X10_9 (Nat.le_of_ble_eq_true rfl) (Nat.le_of_ble_eq_true rfl) dX10_init_24 (fun q2 => ?_)
  refine n_ws (ws2 := [(h0, .inr (10, [.ref q1, .int 0, .int 0, .int 0, .int 0, .int 0])), (q1, .inl (cy 5, 2, .inr (.inr (.inr (.inr (fun _ => none)))))), (q2, .inr (7, [.null, .null, .null, .int 0, .int 0, .int 0]))]) rfl ?_
  refine n_dup C rfl dX10_init_27 ?_
  refine n_ctorN C (g := gX7_init cy) (W0 := [(h0, .inr (10, [.ref q1, .int 0, .int 0, .int 0, .int 0, .int 0])), (q1, .inl (cy 5, 2, .inr (.inr (.inr (.inr (fun _ => none))))))]) (cX7_init_in l D cy) hov mi_X10_17 ⟨Nat.le_of_ble_eq_true rfl, Nat.le_of_ble_eq_true rfl⟩ ⟨rfl, rfl⟩ rfl rfl (Nat.le_of_ble_eq_true rfl) rfl (Nat.le_of_ble_eq_true rfl) (Nat.le_of_ble_eq_true rfl) dX10_init_28 (fun a3 ha3 => ?_)
  subst ha3
  refine n_ws (ws2 := [(h0, .inr (10, [.ref q1, .int 0, .int 0, .int 0, .int 0, .int 0])), (q1, .inl (cy 5, 2, .inr (.inr (.inr (.inr (fun _ => none)))))), ((a3 0), .inr (7, [.ref (a3 1), .ref (a3 2), .ref (a3 3), .int 0, .int 100, .int 1000])), ((a3 1), .inl (cy 0, 96, .inl (fun _ => 0))), ((a3 2), .inl (cy 3, 80, .inr (.inl (fun _ => 0)))), ((a3 3), .inl (cy 1, 80, .inl (fun _ => 0)))]) rfl ?_
  refine n_aast5 C 1 2 7 (j0 := 0) [(h0, .inr (10, [.ref q1, .int 0, .int 0, .int 0, .int 0, .int 0])), (q1, .inl (cy 5, 2, .inr (.inr (.inr (.inr (va_up (fun _ => none) 0 (some (a3 0)))))))), ((a3 0), .inr (7, [.ref (a3 1), .ref (a3 2), .ref (a3 3), .int 0, .int 100, .int 1000])), ((a3 1), .inl (cy 0, 96, .inl (fun _ => 0))), ((a3 2), .inl (cy 3, 80, .inr (.inl (fun _ => 0)))), ((a3 3), .inl (cy 1, 80, .inl (fun _ => 0)))] rfl rfl rfl rfl (vp_in_iff.mpr (by decide)) (by decide) dX10_init_31 rfl ?_
  refine n_iinc C 0 (v := 1) [(1, .int 1), (0, .ref h0)] dX10_init_32 rfl (by decide) (by decide) rfl ?_
  refine n_goto C 14 dX10_init_35 (by decide) ?_
  refine n_iload_n C 0 dX10_init_14 rfl rfl ?_
  refine n_iconst C (v := 2) dX10_init_15 (by decide) ?_
  refine n_icmp_ge C 38 dX10_init_16 (by decide) (fun z => absurd z (by decide)) (fun _ => ?_)
  refine n_aload_n C 1 dX10_init_19 rfl rfl ?_
  refine n_get C 0 rfl fd_X10_11 rfl dX10_init_20 ?_
  refine n_iload_n C 0 dX10_init_23 rfl rfl ?_
  refine n_new C nw_X10_9 (Nat.le_of_ble_eq_true rfl) (Nat.le_of_ble_eq_true rfl) dX10_init_24 (fun q4 => ?_)
  refine n_ws (ws2 := [(h0, .inr (10, [.ref q1, .int 0, .int 0, .int 0, .int 0, .int 0])), (q1, .inl (cy 5, 2, .inr (.inr (.inr (.inr (va_up (fun _ => none) 0 (some (a3 0)))))))), ((a3 0), .inr (7, [.ref (a3 1), .ref (a3 2), .ref (a3 3), .int 0, .int 100, .int 1000])), ((a3 1), .inl (cy 0, 96, .inl (fun _ => 0))), ((a3 2), .inl (cy 3, 80, .inr (.inl (fun _ => 0)))), ((a3 3), .inl (cy 1, 80, .inl (fun _ => 0))), (q4, .inr (7, [.null, .null, .null, .int 0, .int 0, .int 0]))]) rfl ?_
  refine n_dup C rfl dX10_init_27 ?_
  refine n_ctorN C (g := gX7_init cy) (W0 := [(h0, .inr (10, [.ref q1, .int 0, .int 0, .int 0, .int 0, .int 0])), (q1, .inl (cy 5, 2, .inr (.inr (.inr (.inr (va_up (fun _ => none) 0 (some (a3 0)))))))), ((a3 0), .inr (7, [.ref (a3 1), .ref (a3 2), .ref (a3 3), .int 0, .int 100, .int 1000])), ((a3 1), .inl (cy 0, 96, .inl (fun _ => 0))), ((a3 2), .inl (cy 3, 80, .inr (.inl (fun _ => 0)))), ((a3 3), .inl (cy 1, 80, .inl (fun _ => 0)))]) (cX7_init_in l D cy) hov mi_X10_17 ⟨Nat.le_of_ble_eq_true rfl, Nat.le_of_ble_eq_true rfl⟩ ⟨rfl, rfl⟩ rfl rfl (Nat.le_of_ble_eq_true rfl) rfl (Nat.le_of_ble_eq_true rfl) (Nat.le_of_ble_eq_true rfl) dX10_init_28 (fun a5 ha5 => ?_)
  subst ha5
  refine n_ws (ws2 := [(h0, .inr (10, [.ref q1, .int 0, .int 0, .int 0, .int 0, .int 0])), (q1, .inl (cy 5, 2, .inr (.inr (.inr (.inr (va_up (fun _ => none) 0 (some (a3 0)))))))), ((a3 0), .inr (7, [.ref (a3 1), .ref (a3 2), .ref (a3 3), .int 0, .int 100, .int 1000])), ((a3 1), .inl (cy 0, 96, .inl (fun _ => 0))), ((a3 2), .inl (cy 3, 80, .inr (.inl (fun _ => 0)))), ((a3 3), .inl (cy 1, 80, .inl (fun _ => 0))), ((a5 0), .inr (7, [.ref (a5 1), .ref (a5 2), .ref (a5 3), .int 0, .int 100, .int 1000])), ((a5 1), .inl (cy 0, 96, .inl (fun _ => 0))), ((a5 2), .inl (cy 3, 80, .inr (.inl (fun _ => 0)))), ((a5 3), .inl (cy 1, 80, .inl (fun _ => 0)))]) rfl ?_
  refine n_aast5 C 1 6 7 (j0 := 1) [(h0, .inr (10, [.ref q1, .int 0, .int 0, .int 0, .int 0, .int 0])), (q1, .inl (cy 5, 2, .inr (.inr (.inr (.inr (va_up (va_up (fun _ => none) 0 (some (a3 0))) 1 (some (a5 0)))))))), ((a3 0), .inr (7, [.ref (a3 1), .ref (a3 2), .ref (a3 3), .int 0, .int 100, .int 1000])), ((a3 1), .inl (cy 0, 96, .inl (fun _ => 0))), ((a3 2), .inl (cy 3, 80, .inr (.inl (fun _ => 0)))), ((a3 3), .inl (cy 1, 80, .inl (fun _ => 0))), ((a5 0), .inr (7, [.ref (a5 1), .ref (a5 2), .ref (a5 3), .int 0, .int 100, .int 1000])), ((a5 1), .inl (cy 0, 96, .inl (fun _ => 0))), ((a5 2), .inl (cy 3, 80, .inr (.inl (fun _ => 0)))), ((a5 3), .inl (cy 1, 80, .inl (fun _ => 0)))] rfl rfl rfl rfl (vp_in_iff.mpr (by decide)) (by decide) dX10_init_31 rfl ?_
  refine n_iinc C 0 (v := 2) [(1, .int 2), (0, .ref h0)] dX10_init_32 rfl (by decide) (by decide) rfl ?_
  refine n_goto C 14 dX10_init_35 (by decide) ?_
  refine n_iload_n C 0 dX10_init_14 rfl rfl ?_
  refine n_iconst C (v := 2) dX10_init_15 (by decide) ?_
  refine n_icmp_ge C 38 dX10_init_16 (by decide) (fun _ => ?_) (fun z => absurd (by decide) z)
  exact n_ret C (fun k => [h0, q1, (a3 0), (a3 1), (a3 2), (a3 3), (a5 0), (a5 1), (a5 2), (a5 3)].getD k 0) rfl rfl hr hlk rfl (Nat.le_refl _) (Nat.le_refl _) dX10_init_38
def gX4_init (cy : Nat → ClassId) (t1 : Nat) (a : Nat → Nat) : va_W := [(a 0, .inr (4, [.ref t1, .ref (a 1), .ref (a 2), .int 0, .int 0, .int 0, .int 0, .int 0, .int 0, .int 0, .int 0])), (a 1, .inl (cy 1, 18, .inl (fun _ => 0))), (a 2, .inr (3, [.ref (a 3), .ref (a 4), .ref (a 5), .ref (a 6), .int 0])), (a 3, .inl (cy 0, 6, .inl (upd (upd (upd (upd (upd (upd (fun _ => 0) 0 1) 1 1) 2 1) 3 1) 4 1) 5 1))), (a 4, .inl (cy 0, 25, .inl (fun _ => 0))), (a 5, .inl (cy 0, 7, .inl (fun _ => 0))), (a 6, .inl (cy 0, 168, .inl (fun _ => 0)))]
def rX4_init : Room := { frames := 2, cells := 6, slots := 229, locals := 33 }
set_option maxHeartbeats 4000000 in
set_option maxRecDepth 100000 in
theorem cX4_init_in (l : Launch) (D : va_G) (cy : Nat → ClassId) (t1 : Nat) : Mc l D cy yX4_init cX4_init 2 rX4_init 6 229 (.inr (4, [.null, .null, .null, .int 0, .int 0, .int 0, .int 0, .int 0, .int 0, .int 0, .int 0])) [.ref t1] (gX4_init cy t1) := by
  refine mc_of (by decide) rfl (fun h0 => Nat.le_of_ble_eq_true rfl) (fun h0 p e s m below meth c C hov hr hlk => ?_)
  skip
  refine n_aload_n C 0 dX4_init_0 rfl rfl ?_
  refine n_obj C (tk_1 (List.mem_of_getElem? (i := 50) rfl) rfl) ow_i ow_c (Nat.le_of_ble_eq_true rfl) (Nat.le_of_ble_eq_true rfl) dX4_init_1 ?_
  refine n_aload_n C 0 dX4_init_4 rfl rfl ?_
  refine n_bipush C (v := 18) dX4_init_5 (by decide) ?_
  refine n_newa1 C (N := 18) ac_boolean (by decide) (by decide) (by decide) (Nat.le_of_ble_eq_true rfl) (Nat.le_of_ble_eq_true rfl) dX4_init_7 (fun q1 => ?_)
  refine n_ws (ws2 := [(h0, .inr (4, [.null, .null, .null, .int 0, .int 0, .int 0, .int 0, .int 0, .int 0, .int 0, .int 0])), (q1, .inl (cy 1, 18, .inl (fun _ => 0)))]) rfl ?_
  refine n_putF C 0 [(h0, .inr (4, [.null, .ref q1, .null, .int 0, .int 0, .int 0, .int 0, .int 0, .int 0, .int 0, .int 0])), (q1, .inl (cy 1, 18, .inl (fun _ => 0)))] rfl ff_X4_11 (by decide) rfl rfl (Nat.le_of_ble_eq_true rfl) dX4_init_9 rfl ?_
  refine n_aload_n C 0 dX4_init_12 rfl rfl ?_
  refine n_aload_n C 1 dX4_init_13 rfl rfl ?_
  refine n_putF C 0 [(h0, .inr (4, [.ref t1, .ref q1, .null, .int 0, .int 0, .int 0, .int 0, .int 0, .int 0, .int 0, .int 0])), (q1, .inl (cy 1, 18, .inl (fun _ => 0)))] rfl ff_X4_15 (by decide) rfl rfl (Nat.le_of_ble_eq_true rfl) dX4_init_14 rfl ?_
  refine n_aload_n C 0 dX4_init_17 rfl rfl ?_
  refine n_new C nw_X4_19 (Nat.le_of_ble_eq_true rfl) (Nat.le_of_ble_eq_true rfl) dX4_init_18 (fun q2 => ?_)
  refine n_ws (ws2 := [(h0, .inr (4, [.ref t1, .ref q1, .null, .int 0, .int 0, .int 0, .int 0, .int 0, .int 0, .int 0, .int 0])), (q1, .inl (cy 1, 18, .inl (fun _ => 0))), (q2, .inr (3, [.null, .null, .null, .null, .int 0]))]) rfl ?_
  refine n_dup C rfl dX4_init_21 ?_
  refine n_ctorI C (g := gX3_init cy) (W0 := [(h0, .inr (4, [.ref t1, .ref q1, .null, .int 0, .int 0, .int 0, .int 0, .int 0, .int 0, .int 0, .int 0])), (q1, .inl (cy 1, 18, .inl (fun _ => 0)))]) (cX3_init_in l D cy) hov mi_X4_21 ⟨Nat.le_of_ble_eq_true rfl, Nat.le_of_ble_eq_true rfl⟩ ⟨rfl, rfl⟩ rfl rfl (Nat.le_of_ble_eq_true rfl) rfl (Nat.le_of_ble_eq_true rfl) (Nat.le_of_ble_eq_true rfl) dX4_init_22 (fun a3 ha3 => ?_)
  subst ha3
  refine n_ws (ws2 := [(h0, .inr (4, [.ref t1, .ref q1, .null, .int 0, .int 0, .int 0, .int 0, .int 0, .int 0, .int 0, .int 0])), (q1, .inl (cy 1, 18, .inl (fun _ => 0))), ((a3 0), .inr (3, [.ref (a3 1), .ref (a3 2), .ref (a3 3), .ref (a3 4), .int 0])), ((a3 1), .inl (cy 0, 6, .inl (upd (upd (upd (upd (upd (upd (fun _ => 0) 0 1) 1 1) 2 1) 3 1) 4 1) 5 1))), ((a3 2), .inl (cy 0, 25, .inl (fun _ => 0))), ((a3 3), .inl (cy 0, 7, .inl (fun _ => 0))), ((a3 4), .inl (cy 0, 168, .inl (fun _ => 0)))]) rfl ?_
  refine n_put C 0 [(h0, .inr (4, [.ref t1, .ref q1, .ref (a3 0), .int 0, .int 0, .int 0, .int 0, .int 0, .int 0, .int 0, .int 0])), (q1, .inl (cy 1, 18, .inl (fun _ => 0))), ((a3 0), .inr (3, [.ref (a3 1), .ref (a3 2), .ref (a3 3), .ref (a3 4), .int 0])), ((a3 1), .inl (cy 0, 6, .inl (upd (upd (upd (upd (upd (upd (fun _ => 0) 0 1) 1 1) 2 1) 3 1) 4 1) 5 1))), ((a3 2), .inl (cy 0, 25, .inl (fun _ => 0))), ((a3 3), .inl (cy 0, 7, .inl (fun _ => 0))), ((a3 4), .inl (cy 0, 168, .inl (fun _ => 0)))] rfl fp_X4_22 rfl rfl (Nat.le_of_ble_eq_true rfl) dX4_init_25 rfl ?_
  exact n_ret C (fun k => [h0, q1, (a3 0), (a3 1), (a3 2), (a3 3), (a3 4)].getD k 0) rfl rfl hr hlk rfl (Nat.le_refl _) (Nat.le_refl _) dX4_init_28
def gX2_init (cy : Nat → ClassId) (a : Nat → Nat) : va_W := [(a 0, .inr (2, [.ref (a 1), .ref (a 2), .ref (a 3), .ref (a 4), .ref (a 5), .ref (a 6), .ref (a 7), .ref (a 8), .ref (a 9), .int 0, .int 0])), (a 1, .inl (cy 0, 16, .inl (fun _ => 0))), (a 2, .inl (cy 0, 16, .inl (fun _ => 0))), (a 3, .inl (cy 0, 16, .inl (fun _ => 0))), (a 4, .inl (cy 0, 16, .inl (fun _ => 0))), (a 5, .inl (cy 0, 16, .inl (fun _ => 0))), (a 6, .inl (cy 0, 16, .inl (fun _ => 0))), (a 7, .inl (cy 3, 16, .inr (.inl (fun _ => 0)))), (a 8, .inl (cy 3, 16, .inr (.inl (fun _ => 0)))), (a 9, .inr (0, [.ref (a 10), .ref (a 11), .int 0, .long 0, .long 0])), (a 10, .inl (cy 0, 9, .inl (fun _ => 0))), (a 11, .inl (cy 0, 9, .inl (fun _ => 0)))]
def rX2_init : Room := { frames := 2, cells := 11, slots := 151, locals := 32 }
set_option maxHeartbeats 4000000 in
set_option maxRecDepth 100000 in
theorem cX2_init_in (l : Launch) (D : va_G) (cy : Nat → ClassId) : Mc l D cy yX2_init cX2_init 1 rX2_init 11 151 (.inr (2, [.null, .null, .null, .null, .null, .null, .null, .null, .null, .int 0, .int 0])) [] (gX2_init cy) := by
  refine mc_of (by decide) rfl (fun h0 => Nat.le_of_ble_eq_true rfl) (fun h0 p e s m below meth c C hov hr hlk => ?_)
  skip
  refine n_aload_n C 0 dX2_init_0 rfl rfl ?_
  refine n_obj C (tk_2 (List.mem_of_getElem? (i := 8) rfl) rfl) ow_i ow_c (Nat.le_of_ble_eq_true rfl) (Nat.le_of_ble_eq_true rfl) dX2_init_1 ?_
  refine n_aload_n C 0 dX2_init_4 rfl rfl ?_
  refine n_bipush C (v := 16) dX2_init_5 (by decide) ?_
  refine n_newa0 C (N := 16) ac_int (by decide) (by decide) (by decide) (Nat.le_of_ble_eq_true rfl) (Nat.le_of_ble_eq_true rfl) dX2_init_7 (fun q1 => ?_)
  refine n_ws (ws2 := [(h0, .inr (2, [.null, .null, .null, .null, .null, .null, .null, .null, .null, .int 0, .int 0])), (q1, .inl (cy 0, 16, .inl (fun _ => 0)))]) rfl ?_
  refine n_putF C 0 [(h0, .inr (2, [.ref q1, .null, .null, .null, .null, .null, .null, .null, .null, .int 0, .int 0])), (q1, .inl (cy 0, 16, .inl (fun _ => 0)))] rfl ff_X2_9 (by decide) rfl rfl (Nat.le_of_ble_eq_true rfl) dX2_init_9 rfl ?_
  refine n_aload_n C 0 dX2_init_12 rfl rfl ?_
  refine n_bipush C (v := 16) dX2_init_13 (by decide) ?_
  refine n_newa0 C (N := 16) ac_int (by decide) (by decide) (by decide) (Nat.le_of_ble_eq_true rfl) (Nat.le_of_ble_eq_true rfl) dX2_init_15 (fun q2 => ?_)
  refine n_ws (ws2 := [(h0, .inr (2, [.ref q1, .null, .null, .null, .null, .null, .null, .null, .null, .int 0, .int 0])), (q1, .inl (cy 0, 16, .inl (fun _ => 0))), (q2, .inl (cy 0, 16, .inl (fun _ => 0)))]) rfl ?_
  refine n_putF C 0 [(h0, .inr (2, [.ref q1, .ref q2, .null, .null, .null, .null, .null, .null, .null, .int 0, .int 0])), (q1, .inl (cy 0, 16, .inl (fun _ => 0))), (q2, .inl (cy 0, 16, .inl (fun _ => 0)))] rfl ff_X2_15 (by decide) rfl rfl (Nat.le_of_ble_eq_true rfl) dX2_init_17 rfl ?_
  refine n_aload_n C 0 dX2_init_20 rfl rfl ?_
  refine n_bipush C (v := 16) dX2_init_21 (by decide) ?_
  refine n_newa0 C (N := 16) ac_int (by decide) (by decide) (by decide) (Nat.le_of_ble_eq_true rfl) (Nat.le_of_ble_eq_true rfl) dX2_init_23 (fun q3 => ?_)
  refine n_ws (ws2 := [(h0, .inr (2, [.ref q1, .ref q2, .null, .null, .null, .null, .null, .null, .null, .int 0, .int 0])), (q1, .inl (cy 0, 16, .inl (fun _ => 0))), (q2, .inl (cy 0, 16, .inl (fun _ => 0))), (q3, .inl (cy 0, 16, .inl (fun _ => 0)))]) rfl ?_
  refine n_putF C 0 [(h0, .inr (2, [.ref q1, .ref q2, .ref q3, .null, .null, .null, .null, .null, .null, .int 0, .int 0])), (q1, .inl (cy 0, 16, .inl (fun _ => 0))), (q2, .inl (cy 0, 16, .inl (fun _ => 0))), (q3, .inl (cy 0, 16, .inl (fun _ => 0)))] rfl ff_X2_18 (by decide) rfl rfl (Nat.le_of_ble_eq_true rfl) dX2_init_25 rfl ?_
  refine n_aload_n C 0 dX2_init_28 rfl rfl ?_
  refine n_bipush C (v := 16) dX2_init_29 (by decide) ?_
  refine n_newa0 C (N := 16) ac_int (by decide) (by decide) (by decide) (Nat.le_of_ble_eq_true rfl) (Nat.le_of_ble_eq_true rfl) dX2_init_31 (fun q4 => ?_)
  refine n_ws (ws2 := [(h0, .inr (2, [.ref q1, .ref q2, .ref q3, .null, .null, .null, .null, .null, .null, .int 0, .int 0])), (q1, .inl (cy 0, 16, .inl (fun _ => 0))), (q2, .inl (cy 0, 16, .inl (fun _ => 0))), (q3, .inl (cy 0, 16, .inl (fun _ => 0))), (q4, .inl (cy 0, 16, .inl (fun _ => 0)))]) rfl ?_
  refine n_putF C 0 [(h0, .inr (2, [.ref q1, .ref q2, .ref q3, .ref q4, .null, .null, .null, .null, .null, .int 0, .int 0])), (q1, .inl (cy 0, 16, .inl (fun _ => 0))), (q2, .inl (cy 0, 16, .inl (fun _ => 0))), (q3, .inl (cy 0, 16, .inl (fun _ => 0))), (q4, .inl (cy 0, 16, .inl (fun _ => 0)))] rfl ff_X2_21 (by decide) rfl rfl (Nat.le_of_ble_eq_true rfl) dX2_init_33 rfl ?_
  refine n_aload_n C 0 dX2_init_36 rfl rfl ?_
  refine n_bipush C (v := 16) dX2_init_37 (by decide) ?_
  refine n_newa0 C (N := 16) ac_int (by decide) (by decide) (by decide) (Nat.le_of_ble_eq_true rfl) (Nat.le_of_ble_eq_true rfl) dX2_init_39 (fun q5 => ?_)
  refine n_ws (ws2 := [(h0, .inr (2, [.ref q1, .ref q2, .ref q3, .ref q4, .null, .null, .null, .null, .null, .int 0, .int 0])), (q1, .inl (cy 0, 16, .inl (fun _ => 0))), (q2, .inl (cy 0, 16, .inl (fun _ => 0))), (q3, .inl (cy 0, 16, .inl (fun _ => 0))), (q4, .inl (cy 0, 16, .inl (fun _ => 0))), (q5, .inl (cy 0, 16, .inl (fun _ => 0)))]) rfl ?_
  refine n_putF C 0 [(h0, .inr (2, [.ref q1, .ref q2, .ref q3, .ref q4, .ref q5, .null, .null, .null, .null, .int 0, .int 0])), (q1, .inl (cy 0, 16, .inl (fun _ => 0))), (q2, .inl (cy 0, 16, .inl (fun _ => 0))), (q3, .inl (cy 0, 16, .inl (fun _ => 0))), (q4, .inl (cy 0, 16, .inl (fun _ => 0))), (q5, .inl (cy 0, 16, .inl (fun _ => 0)))] rfl ff_X2_24 (by decide) rfl rfl (Nat.le_of_ble_eq_true rfl) dX2_init_41 rfl ?_
  refine n_aload_n C 0 dX2_init_44 rfl rfl ?_
  refine n_bipush C (v := 16) dX2_init_45 (by decide) ?_
  refine n_newa0 C (N := 16) ac_int (by decide) (by decide) (by decide) (Nat.le_of_ble_eq_true rfl) (Nat.le_of_ble_eq_true rfl) dX2_init_47 (fun q6 => ?_)
  refine n_ws (ws2 := [(h0, .inr (2, [.ref q1, .ref q2, .ref q3, .ref q4, .ref q5, .null, .null, .null, .null, .int 0, .int 0])), (q1, .inl (cy 0, 16, .inl (fun _ => 0))), (q2, .inl (cy 0, 16, .inl (fun _ => 0))), (q3, .inl (cy 0, 16, .inl (fun _ => 0))), (q4, .inl (cy 0, 16, .inl (fun _ => 0))), (q5, .inl (cy 0, 16, .inl (fun _ => 0))), (q6, .inl (cy 0, 16, .inl (fun _ => 0)))]) rfl ?_
  refine n_putF C 0 [(h0, .inr (2, [.ref q1, .ref q2, .ref q3, .ref q4, .ref q5, .ref q6, .null, .null, .null, .int 0, .int 0])), (q1, .inl (cy 0, 16, .inl (fun _ => 0))), (q2, .inl (cy 0, 16, .inl (fun _ => 0))), (q3, .inl (cy 0, 16, .inl (fun _ => 0))), (q4, .inl (cy 0, 16, .inl (fun _ => 0))), (q5, .inl (cy 0, 16, .inl (fun _ => 0))), (q6, .inl (cy 0, 16, .inl (fun _ => 0)))] rfl ff_X2_27 (by decide) rfl rfl (Nat.le_of_ble_eq_true rfl) dX2_init_49 rfl ?_
  refine n_aload_n C 0 dX2_init_52 rfl rfl ?_
  refine n_bipush C (v := 16) dX2_init_53 (by decide) ?_
  refine n_newa3 C (N := 16) ac_long (by decide) (by decide) (by decide) (Nat.le_of_ble_eq_true rfl) (Nat.le_of_ble_eq_true rfl) dX2_init_55 (fun q7 => ?_)
  refine n_ws (ws2 := [(h0, .inr (2, [.ref q1, .ref q2, .ref q3, .ref q4, .ref q5, .ref q6, .null, .null, .null, .int 0, .int 0])), (q1, .inl (cy 0, 16, .inl (fun _ => 0))), (q2, .inl (cy 0, 16, .inl (fun _ => 0))), (q3, .inl (cy 0, 16, .inl (fun _ => 0))), (q4, .inl (cy 0, 16, .inl (fun _ => 0))), (q5, .inl (cy 0, 16, .inl (fun _ => 0))), (q6, .inl (cy 0, 16, .inl (fun _ => 0))), (q7, .inl (cy 3, 16, .inr (.inl (fun _ => 0))))]) rfl ?_
  refine n_putF C 0 [(h0, .inr (2, [.ref q1, .ref q2, .ref q3, .ref q4, .ref q5, .ref q6, .ref q7, .null, .null, .int 0, .int 0])), (q1, .inl (cy 0, 16, .inl (fun _ => 0))), (q2, .inl (cy 0, 16, .inl (fun _ => 0))), (q3, .inl (cy 0, 16, .inl (fun _ => 0))), (q4, .inl (cy 0, 16, .inl (fun _ => 0))), (q5, .inl (cy 0, 16, .inl (fun _ => 0))), (q6, .inl (cy 0, 16, .inl (fun _ => 0))), (q7, .inl (cy 3, 16, .inr (.inl (fun _ => 0))))] rfl ff_X2_30 (by decide) rfl rfl (Nat.le_of_ble_eq_true rfl) dX2_init_57 rfl ?_
  refine n_aload_n C 0 dX2_init_60 rfl rfl ?_
  refine n_bipush C (v := 16) dX2_init_61 (by decide) ?_
  refine n_newa3 C (N := 16) ac_long (by decide) (by decide) (by decide) (Nat.le_of_ble_eq_true rfl) (Nat.le_of_ble_eq_true rfl) dX2_init_63 (fun q8 => ?_)
  refine n_ws (ws2 := [(h0, .inr (2, [.ref q1, .ref q2, .ref q3, .ref q4, .ref q5, .ref q6, .ref q7, .null, .null, .int 0, .int 0])), (q1, .inl (cy 0, 16, .inl (fun _ => 0))), (q2, .inl (cy 0, 16, .inl (fun _ => 0))), (q3, .inl (cy 0, 16, .inl (fun _ => 0))), (q4, .inl (cy 0, 16, .inl (fun _ => 0))), (q5, .inl (cy 0, 16, .inl (fun _ => 0))), (q6, .inl (cy 0, 16, .inl (fun _ => 0))), (q7, .inl (cy 3, 16, .inr (.inl (fun _ => 0)))), (q8, .inl (cy 3, 16, .inr (.inl (fun _ => 0))))]) rfl ?_
  refine n_putF C 0 [(h0, .inr (2, [.ref q1, .ref q2, .ref q3, .ref q4, .ref q5, .ref q6, .ref q7, .ref q8, .null, .int 0, .int 0])), (q1, .inl (cy 0, 16, .inl (fun _ => 0))), (q2, .inl (cy 0, 16, .inl (fun _ => 0))), (q3, .inl (cy 0, 16, .inl (fun _ => 0))), (q4, .inl (cy 0, 16, .inl (fun _ => 0))), (q5, .inl (cy 0, 16, .inl (fun _ => 0))), (q6, .inl (cy 0, 16, .inl (fun _ => 0))), (q7, .inl (cy 3, 16, .inr (.inl (fun _ => 0)))), (q8, .inl (cy 3, 16, .inr (.inl (fun _ => 0))))] rfl ff_X2_34 (by decide) rfl rfl (Nat.le_of_ble_eq_true rfl) dX2_init_65 rfl ?_
  refine n_aload_n C 0 dX2_init_68 rfl rfl ?_
  refine n_new C nw_X2_37 (Nat.le_of_ble_eq_true rfl) (Nat.le_of_ble_eq_true rfl) dX2_init_69 (fun q9 => ?_)
  refine n_ws (ws2 := [(h0, .inr (2, [.ref q1, .ref q2, .ref q3, .ref q4, .ref q5, .ref q6, .ref q7, .ref q8, .null, .int 0, .int 0])), (q1, .inl (cy 0, 16, .inl (fun _ => 0))), (q2, .inl (cy 0, 16, .inl (fun _ => 0))), (q3, .inl (cy 0, 16, .inl (fun _ => 0))), (q4, .inl (cy 0, 16, .inl (fun _ => 0))), (q5, .inl (cy 0, 16, .inl (fun _ => 0))), (q6, .inl (cy 0, 16, .inl (fun _ => 0))), (q7, .inl (cy 3, 16, .inr (.inl (fun _ => 0)))), (q8, .inl (cy 3, 16, .inr (.inl (fun _ => 0)))), (q9, .inr (0, [.null, .null, .int 0, .long 0, .long 0]))]) rfl ?_
  refine n_dup C rfl dX2_init_72 ?_
  refine n_ctorN C (g := gX0_init cy) (W0 := [(h0, .inr (2, [.ref q1, .ref q2, .ref q3, .ref q4, .ref q5, .ref q6, .ref q7, .ref q8, .null, .int 0, .int 0])), (q1, .inl (cy 0, 16, .inl (fun _ => 0))), (q2, .inl (cy 0, 16, .inl (fun _ => 0))), (q3, .inl (cy 0, 16, .inl (fun _ => 0))), (q4, .inl (cy 0, 16, .inl (fun _ => 0))), (q5, .inl (cy 0, 16, .inl (fun _ => 0))), (q6, .inl (cy 0, 16, .inl (fun _ => 0))), (q7, .inl (cy 3, 16, .inr (.inl (fun _ => 0)))), (q8, .inl (cy 3, 16, .inr (.inl (fun _ => 0))))]) (cX0_init_in l D cy) hov mi_X2_39 ⟨Nat.le_of_ble_eq_true rfl, Nat.le_of_ble_eq_true rfl⟩ ⟨rfl, rfl⟩ rfl rfl (Nat.le_of_ble_eq_true rfl) rfl (Nat.le_of_ble_eq_true rfl) (Nat.le_of_ble_eq_true rfl) dX2_init_73 (fun a10 ha10 => ?_)
  subst ha10
  refine n_ws (ws2 := [(h0, .inr (2, [.ref q1, .ref q2, .ref q3, .ref q4, .ref q5, .ref q6, .ref q7, .ref q8, .null, .int 0, .int 0])), (q1, .inl (cy 0, 16, .inl (fun _ => 0))), (q2, .inl (cy 0, 16, .inl (fun _ => 0))), (q3, .inl (cy 0, 16, .inl (fun _ => 0))), (q4, .inl (cy 0, 16, .inl (fun _ => 0))), (q5, .inl (cy 0, 16, .inl (fun _ => 0))), (q6, .inl (cy 0, 16, .inl (fun _ => 0))), (q7, .inl (cy 3, 16, .inr (.inl (fun _ => 0)))), (q8, .inl (cy 3, 16, .inr (.inl (fun _ => 0)))), ((a10 0), .inr (0, [.ref (a10 1), .ref (a10 2), .int 0, .long 0, .long 0])), ((a10 1), .inl (cy 0, 9, .inl (fun _ => 0))), ((a10 2), .inl (cy 0, 9, .inl (fun _ => 0)))]) rfl ?_
  refine n_putF C 0 [(h0, .inr (2, [.ref q1, .ref q2, .ref q3, .ref q4, .ref q5, .ref q6, .ref q7, .ref q8, .ref (a10 0), .int 0, .int 0])), (q1, .inl (cy 0, 16, .inl (fun _ => 0))), (q2, .inl (cy 0, 16, .inl (fun _ => 0))), (q3, .inl (cy 0, 16, .inl (fun _ => 0))), (q4, .inl (cy 0, 16, .inl (fun _ => 0))), (q5, .inl (cy 0, 16, .inl (fun _ => 0))), (q6, .inl (cy 0, 16, .inl (fun _ => 0))), (q7, .inl (cy 3, 16, .inr (.inl (fun _ => 0)))), (q8, .inl (cy 3, 16, .inr (.inl (fun _ => 0)))), ((a10 0), .inr (0, [.ref (a10 1), .ref (a10 2), .int 0, .long 0, .long 0])), ((a10 1), .inl (cy 0, 9, .inl (fun _ => 0))), ((a10 2), .inl (cy 0, 9, .inl (fun _ => 0)))] rfl ff_X2_40 (by decide) rfl rfl (Nat.le_of_ble_eq_true rfl) dX2_init_76 rfl ?_
  exact n_ret C (fun k => [h0, q1, q2, q3, q4, q5, q6, q7, q8, (a10 0), (a10 1), (a10 2)].getD k 0) rfl rfl hr hlk rfl (Nat.le_refl _) (Nat.le_refl _) dX2_init_79
