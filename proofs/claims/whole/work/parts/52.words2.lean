/-! the words of the constructors -/
set_option maxRecDepth 100000 in
theorem ac_int : Cond.arrayClass .int ∈ gw := gw_at 91 rfl rfl
set_option maxRecDepth 100000 in
theorem ac_char : Cond.arrayClass .char ∈ gw := gw_at 90 rfl rfl
set_option maxRecDepth 100000 in
theorem ac_byte : Cond.arrayClass .byte ∈ gw := gw_at 327 rfl rfl
set_option maxRecDepth 100000 in
theorem ac_long : Cond.arrayClass .long ∈ gw := gw_at 190 rfl rfl
set_option maxRecDepth 100000 in
theorem oi_i : Cond.instanceMethod Lib.objectInit ∈ gw := gw_at 68 rfl rfl
set_option maxRecDepth 100000 in
theorem oi_c : Cond.code Lib.objectInit ⟨#[0xb1]⟩ 1 none ∈ gw := gw_at 69 rfl rfl
set_option maxRecDepth 100000 in
theorem oi_X6 : Cond.methodLink RX6 1 Lib.objectInit ∈ gw := gw_at 67 rfl rfl
set_option maxRecDepth 100000 in
theorem oi_X0 : Cond.methodLink RX0 5 Lib.objectInit ∈ gw := gw_at 142 rfl rfl
set_option maxRecDepth 100000 in
theorem oi_X1 : Cond.methodLink RX1 3 Lib.objectInit ∈ gw := gw_at 128 rfl rfl
set_option maxRecDepth 100000 in
theorem oi_X2 : Cond.methodLink RX2 3 Lib.objectInit ∈ gw := gw_at 158 rfl rfl
set_option maxRecDepth 100000 in
theorem oi_X3 : Cond.methodLink RX3 5 Lib.objectInit ∈ gw := gw_at 97 rfl rfl
set_option maxRecDepth 100000 in
theorem oi_X4 : Cond.methodLink RX4 1 Lib.objectInit ∈ gw := gw_at 108 rfl rfl
set_option maxRecDepth 100000 in
theorem oi_X5 : Cond.methodLink RX5 3 Lib.objectInit ∈ gw := gw_at 75 rfl rfl
set_option maxRecDepth 100000 in
theorem oi_X7 : Cond.methodLink RX7 1 Lib.objectInit ∈ gw := gw_at 708 rfl rfl
set_option maxRecDepth 100000 in
theorem nw_L_7 : NWok RL 7 6 9 [.null, .null, .null, .null, .null, .null, .null, .null, .null] := ⟨RX6, TX6, tyX6, rfl, inG_X6, tyX6_ok, gw_at 62 rfl rfl, gw_at 63 rfl rfl, gw_at 46 rfl rfl, (fun j hj => match j, hj with | 0, _ => rfl | 1, _ => rfl | 2, _ => rfl | 3, _ => rfl | 4, _ => rfl | 5, _ => rfl | 6, _ => rfl | 7, _ => rfl | 8, _ => rfl | n + 9, h => absurd h (by omega)), rfl⟩
set_option maxRecDepth 100000 in
theorem nw_X6_7 : NWok RX6 7 5 4 [.null, .null, .int 0, .int 0] := ⟨RX5, TX5, tyX5, rfl, inG_X5, tyX5_ok, gw_at 70 rfl rfl, gw_at 71 rfl rfl, gw_at 47 rfl rfl, (fun j hj => match j, hj with | 0, _ => rfl | 1, _ => rfl | 2, _ => rfl | 3, _ => rfl | n + 4, h => absurd h (by omega)), rfl⟩
set_option maxRecDepth 100000 in
theorem nw_X6_16 : NWok RX6 16 3 1 [.null] := ⟨RX3, TX3, tyX3, rfl, inG_X3, tyX3_ok, gw_at 92 rfl rfl, gw_at 93 rfl rfl, gw_at 48 rfl rfl, (fun j hj => match j, hj with | 0, _ => rfl | n + 1, h => absurd h (by omega)), rfl⟩
set_option maxRecDepth 100000 in
theorem nw_X6_26 : NWok RX6 26 4 3 [.null, .int 0, .int 0] := ⟨RX4, TX4, tyX4, rfl, inG_X4, tyX4_ok, gw_at 103 rfl rfl, gw_at 104 rfl rfl, gw_at 49 rfl rfl, (fun j hj => match j, hj with | 0, _ => rfl | 1, _ => rfl | 2, _ => rfl | n + 3, h => absurd h (by omega)), rfl⟩
set_option maxRecDepth 100000 in
theorem nw_X6_38 : NWok RX6 38 1 2 [.null, .int 0] := ⟨RX1, TX1, tyX1, rfl, inG_X1, tyX1_ok, gw_at 123 rfl rfl, gw_at 124 rfl rfl, gw_at 51 rfl rfl, (fun j hj => match j, hj with | 0, _ => rfl | 1, _ => rfl | n + 2, h => absurd h (by omega)), rfl⟩
set_option maxRecDepth 100000 in
theorem nw_X6_45 : NWok RX6 45 0 3 [.null, .null, .null] := ⟨RX0, TX0, tyX0, rfl, inG_X0, tyX0_ok, gw_at 137 rfl rfl, gw_at 138 rfl rfl, gw_at 52 rfl rfl, (fun j hj => match j, hj with | 0, _ => rfl | 1, _ => rfl | 2, _ => rfl | n + 3, h => absurd h (by omega)), rfl⟩
set_option maxRecDepth 100000 in
theorem nw_X6_52 : NWok RX6 52 2 7 [.null, .null, .null, .null, .null, .int 0, .int 0] := ⟨RX2, TX2, tyX2, rfl, inG_X2, tyX2_ok, gw_at 153 rfl rfl, gw_at 154 rfl rfl, gw_at 53 rfl rfl, (fun j hj => match j, hj with | 0, _ => rfl | 1, _ => rfl | 2, _ => rfl | 3, _ => rfl | 4, _ => rfl | 5, _ => rfl | 6, _ => rfl | n + 7, h => absurd h (by omega)), rfl⟩
set_option maxRecDepth 100000 in
theorem nw_L_10 : NWok RL 10 7 20 [.null, .int 0, .null, .null, .null, .null, .null, .null, .int 0, .int 0, .null, .null, .int 0, .null, .int 0, .null, .null, .int 0, .null, .null] := ⟨RX7, TX7, tyX7, rfl, inG_X7, tyX7_ok, gw_at 703 rfl rfl, gw_at 704 rfl rfl, gw_at 59 rfl rfl, (fun j hj => match j, hj with | 0, _ => rfl | 1, _ => rfl | 2, _ => rfl | 3, _ => rfl | 4, _ => rfl | 5, _ => rfl | 6, _ => rfl | 7, _ => rfl | 8, _ => rfl | 9, _ => rfl | 10, _ => rfl | 11, _ => rfl | 12, _ => rfl | 13, _ => rfl | 14, _ => rfl | 15, _ => rfl | 16, _ => rfl | 17, _ => rfl | 18, _ => rfl | 19, _ => rfl | n + 20, h => absurd h (by omega)), rfl⟩
set_option maxRecDepth 100000 in
theorem ff_X6_10 : FFok RX6 10 6 0 (.object "ParishRaffle$Text") := ⟨RX6, TX6, 9, tyX6, rfl, by decide, inG_X6, rfl, gw_at 299 rfl rfl, rfl, tyX6_ok, nmX6, by decide +kernel, rfl⟩
set_option maxRecDepth 100000 in
theorem ff_X6_19 : FFok RX6 19 6 1 (.object "ParishRaffle$Stand") := ⟨RX6, TX6, 9, tyX6, rfl, by decide, inG_X6, rfl, gw_at 300 rfl rfl, rfl, tyX6_ok, nmX6, by decide +kernel, rfl⟩
set_option maxRecDepth 100000 in
theorem ff_X6_23 : FFok RX6 23 6 2 (.object "ParishRaffle$Stand") := ⟨RX6, TX6, 9, tyX6, rfl, by decide, inG_X6, rfl, gw_at 301 rfl rfl, rfl, tyX6_ok, nmX6, by decide +kernel, rfl⟩
set_option maxRecDepth 100000 in
theorem ff_X6_31 : FFok RX6 31 6 3 (.object "ParishRaffle$Stands") := ⟨RX6, TX6, 9, tyX6, rfl, by decide, inG_X6, rfl, gw_at 302 rfl rfl, rfl, tyX6_ok, nmX6, by decide +kernel, rfl⟩
set_option maxRecDepth 100000 in
theorem ff_X6_35 : FFok RX6 35 6 4 (.object "ParishRaffle$Stands") := ⟨RX6, TX6, 9, tyX6, rfl, by decide, inG_X6, rfl, gw_at 303 rfl rfl, rfl, tyX6_ok, nmX6, by decide +kernel, rfl⟩
set_option maxRecDepth 100000 in
theorem ff_X6_41 : FFok RX6 41 6 5 (.object "ParishRaffle$Notes") := ⟨RX6, TX6, 9, tyX6, rfl, by decide, inG_X6, rfl, gw_at 304 rfl rfl, rfl, tyX6_ok, nmX6, by decide +kernel, rfl⟩
set_option maxRecDepth 100000 in
theorem ff_X6_48 : FFok RX6 48 6 6 (.object "ParishRaffle$Barter") := ⟨RX6, TX6, 9, tyX6, rfl, by decide, inG_X6, rfl, gw_at 305 rfl rfl, rfl, tyX6_ok, nmX6, by decide +kernel, rfl⟩
set_option maxRecDepth 100000 in
theorem ff_X0_11 : FFok RX0 11 0 0 (.array .int) := ⟨RX0, TX0, 3, tyX0, rfl, by decide, inG_X0, rfl, gw_at 143 rfl rfl, rfl, tyX0_ok, nmX0, by decide +kernel, rfl⟩
set_option maxRecDepth 100000 in
theorem ff_X0_15 : FFok RX0 15 0 1 (.array .int) := ⟨RX0, TX0, 3, tyX0, rfl, by decide, inG_X0, rfl, gw_at 144 rfl rfl, rfl, tyX0_ok, nmX0, by decide +kernel, rfl⟩
set_option maxRecDepth 100000 in
theorem ff_X0_18 : FFok RX0 18 0 2 (.array .int) := ⟨RX0, TX0, 3, tyX0, rfl, by decide, inG_X0, rfl, gw_at 145 rfl rfl, rfl, tyX0_ok, nmX0, by decide +kernel, rfl⟩
set_option maxRecDepth 100000 in
theorem ff_X1_9 : FFok RX1 9 1 0 (.array .int) := ⟨RX1, TX1, 2, tyX1, rfl, by decide, inG_X1, rfl, gw_at 129 rfl rfl, rfl, tyX1_ok, nmX1, by decide +kernel, rfl⟩
set_option maxRecDepth 100000 in
theorem ff_X2_9 : FFok RX2 9 2 0 (.array .int) := ⟨RX2, TX2, 7, tyX2, rfl, by decide, inG_X2, rfl, gw_at 159 rfl rfl, rfl, tyX2_ok, nmX2, by decide +kernel, rfl⟩
set_option maxRecDepth 100000 in
theorem ff_X2_15 : FFok RX2 15 2 1 (.array .int) := ⟨RX2, TX2, 7, tyX2, rfl, by decide, inG_X2, rfl, gw_at 163 rfl rfl, rfl, tyX2_ok, nmX2, by decide +kernel, rfl⟩
set_option maxRecDepth 100000 in
theorem ff_X2_18 : FFok RX2 18 2 2 (.array .int) := ⟨RX2, TX2, 7, tyX2, rfl, by decide, inG_X2, rfl, gw_at 165 rfl rfl, rfl, tyX2_ok, nmX2, by decide +kernel, rfl⟩
set_option maxRecDepth 100000 in
theorem ff_X2_21 : FFok RX2 21 2 3 (.array .int) := ⟨RX2, TX2, 7, tyX2, rfl, by decide, inG_X2, rfl, gw_at 167 rfl rfl, rfl, tyX2_ok, nmX2, by decide +kernel, rfl⟩
set_option maxRecDepth 100000 in
theorem ff_X2_24 : FFok RX2 24 2 4 (.array .long) := ⟨RX2, TX2, 7, tyX2, rfl, by decide, inG_X2, rfl, gw_at 168 rfl rfl, rfl, tyX2_ok, nmX2, by decide +kernel, rfl⟩
set_option maxRecDepth 100000 in
theorem ff_X3_11 : FFok RX3 11 3 0 (.array .int) := ⟨RX3, TX3, 1, tyX3, rfl, by decide, inG_X3, rfl, gw_at 98 rfl rfl, rfl, tyX3_ok, nmX3, by decide +kernel, rfl⟩
set_option maxRecDepth 100000 in
theorem ff_X4_13 : FFok RX4 13 4 1 .int := ⟨RX4, TX4, 3, tyX4, rfl, by decide, inG_X4, rfl, gw_at 113 rfl rfl, rfl, tyX4_ok, nmX4, by decide +kernel, rfl⟩
set_option maxRecDepth 100000 in
theorem ff_X4_21 : FFok RX4 21 4 0 (.array .int) := ⟨RX4, TX4, 3, tyX4, rfl, by decide, inG_X4, rfl, gw_at 112 rfl rfl, rfl, tyX4_ok, nmX4, by decide +kernel, rfl⟩
set_option maxRecDepth 100000 in
theorem ff_X5_9 : FFok RX5 9 5 0 (.array .char) := ⟨RX5, TX5, 4, tyX5, rfl, by decide, inG_X5, rfl, gw_at 76 rfl rfl, rfl, tyX5_ok, nmX5, by decide +kernel, rfl⟩
set_option maxRecDepth 100000 in
theorem ff_X5_15 : FFok RX5 15 5 1 (.array .int) := ⟨RX5, TX5, 4, tyX5, rfl, by decide, inG_X5, rfl, gw_at 77 rfl rfl, rfl, tyX5_ok, nmX5, by decide +kernel, rfl⟩
set_option maxRecDepth 100000 in
theorem ff_X7_7 : FFok RX7 7 7 0 (.array .byte) := ⟨RX7, TX7, 20, tyX7, rfl, by decide, inG_X7, rfl, gw_at 733 rfl rfl, rfl, tyX7_ok, nmX7, by decide +kernel, rfl⟩
set_option maxRecDepth 100000 in
theorem ff_X7_13 : FFok RX7 13 7 2 (.array .int) := ⟨RX7, TX7, 20, tyX7, rfl, by decide, inG_X7, rfl, gw_at 735 rfl rfl, rfl, tyX7_ok, nmX7, by decide +kernel, rfl⟩
set_option maxRecDepth 100000 in
theorem ff_X7_17 : FFok RX7 17 7 3 (.array .int) := ⟨RX7, TX7, 20, tyX7, rfl, by decide, inG_X7, rfl, gw_at 736 rfl rfl, rfl, tyX7_ok, nmX7, by decide +kernel, rfl⟩
set_option maxRecDepth 100000 in
theorem ff_X7_20 : FFok RX7 20 7 4 (.array .int) := ⟨RX7, TX7, 20, tyX7, rfl, by decide, inG_X7, rfl, gw_at 737 rfl rfl, rfl, tyX7_ok, nmX7, by decide +kernel, rfl⟩
set_option maxRecDepth 100000 in
theorem ff_X7_23 : FFok RX7 23 7 5 (.array .int) := ⟨RX7, TX7, 20, tyX7, rfl, by decide, inG_X7, rfl, gw_at 738 rfl rfl, rfl, tyX7_ok, nmX7, by decide +kernel, rfl⟩
set_option maxRecDepth 100000 in
theorem ff_X7_26 : FFok RX7 26 7 6 (.array .int) := ⟨RX7, TX7, 20, tyX7, rfl, by decide, inG_X7, rfl, gw_at 739 rfl rfl, rfl, tyX7_ok, nmX7, by decide +kernel, rfl⟩
set_option maxRecDepth 100000 in
theorem ff_X7_29 : FFok RX7 29 7 7 (.array .int) := ⟨RX7, TX7, 20, tyX7, rfl, by decide, inG_X7, rfl, gw_at 740 rfl rfl, rfl, tyX7_ok, nmX7, by decide +kernel, rfl⟩
set_option maxRecDepth 100000 in
theorem ff_X7_32 : FFok RX7 32 7 10 (.array .int) := ⟨RX7, TX7, 20, tyX7, rfl, by decide, inG_X7, rfl, gw_at 743 rfl rfl, rfl, tyX7_ok, nmX7, by decide +kernel, rfl⟩
set_option maxRecDepth 100000 in
theorem ff_X7_35 : FFok RX7 35 7 11 (.array .int) := ⟨RX7, TX7, 20, tyX7, rfl, by decide, inG_X7, rfl, gw_at 744 rfl rfl, rfl, tyX7_ok, nmX7, by decide +kernel, rfl⟩
set_option maxRecDepth 100000 in
theorem ff_X7_38 : FFok RX7 38 7 13 (.array .int) := ⟨RX7, TX7, 20, tyX7, rfl, by decide, inG_X7, rfl, gw_at 746 rfl rfl, rfl, tyX7_ok, nmX7, by decide +kernel, rfl⟩
set_option maxRecDepth 100000 in
theorem ff_X7_41 : FFok RX7 41 7 15 (.array .int) := ⟨RX7, TX7, 20, tyX7, rfl, by decide, inG_X7, rfl, gw_at 748 rfl rfl, rfl, tyX7_ok, nmX7, by decide +kernel, rfl⟩
set_option maxRecDepth 100000 in
theorem ff_X7_44 : FFok RX7 44 7 16 (.array .int) := ⟨RX7, TX7, 20, tyX7, rfl, by decide, inG_X7, rfl, gw_at 749 rfl rfl, rfl, tyX7_ok, nmX7, by decide +kernel, rfl⟩
set_option maxRecDepth 100000 in
theorem ff_X7_47 : FFok RX7 47 7 18 (.array .long) := ⟨RX7, TX7, 20, tyX7, rfl, by decide, inG_X7, rfl, gw_at 751 rfl rfl, rfl, tyX7_ok, nmX7, by decide +kernel, rfl⟩
set_option maxRecDepth 100000 in
theorem ff_X7_51 : FFok RX7 51 7 19 (.array .long) := ⟨RX7, TX7, 20, tyX7, rfl, by decide, inG_X7, rfl, gw_at 752 rfl rfl, rfl, tyX7_ok, nmX7, by decide +kernel, rfl⟩
set_option maxRecDepth 100000 in
theorem mi_X0 : MIok yX0_init cX0_init 1 0 := ⟨gw_at 140 rfl rfl, gw_at 52 rfl rfl, gw_at 141 rfl rfl, rfl, ⟨by decide, by decide⟩, by decide +kernel⟩
set_option maxRecDepth 100000 in
theorem mi_X1 : MIok yX1_init cX1_init 1 0 := ⟨gw_at 126 rfl rfl, gw_at 51 rfl rfl, gw_at 127 rfl rfl, rfl, ⟨by decide, by decide⟩, by decide +kernel⟩
set_option maxRecDepth 100000 in
theorem mi_X2 : MIok yX2_init cX2_init 1 0 := ⟨gw_at 156 rfl rfl, gw_at 53 rfl rfl, gw_at 157 rfl rfl, rfl, ⟨by decide, by decide⟩, by decide +kernel⟩
set_option maxRecDepth 100000 in
theorem mi_X3 : MIok yX3_init cX3_init 1 0 := ⟨gw_at 95 rfl rfl, gw_at 48 rfl rfl, gw_at 96 rfl rfl, rfl, ⟨by decide, by decide⟩, by decide +kernel⟩
set_option maxRecDepth 100000 in
theorem mi_X4 : MIok yX4_init cX4_init 2 1 := ⟨gw_at 106 rfl rfl, gw_at 49 rfl rfl, gw_at 107 rfl rfl, rfl, ⟨by decide, by decide⟩, by decide +kernel⟩
set_option maxRecDepth 100000 in
theorem mi_X5 : MIok yX5_init cX5_init 1 0 := ⟨gw_at 73 rfl rfl, gw_at 47 rfl rfl, gw_at 74 rfl rfl, rfl, ⟨by decide, by decide⟩, by decide +kernel⟩
set_option maxRecDepth 100000 in
theorem mi_X6 : MIok yX6_init cX6_init 2 0 := ⟨gw_at 65 rfl rfl, gw_at 46 rfl rfl, gw_at 66 rfl rfl, rfl, ⟨by decide, by decide⟩, by decide +kernel⟩
set_option maxRecDepth 100000 in
theorem mi_X7 : MIok yX7_init cX7_init 1 0 := ⟨gw_at 706 rfl rfl, gw_at 59 rfl rfl, gw_at 707 rfl rfl, rfl, ⟨by decide, by decide⟩, by decide +kernel⟩
set_option maxRecDepth 100000 in
theorem li_X6_28 : Cond.methodLink RX6 28 yX4_init ∈ gw ∨ ∃ host, (RX6, 28, yX4_init, host) ∈ nwM := Or.inl (gw_at 105 rfl rfl)
set_option maxRecDepth 100000 in
theorem li_L_9 : Cond.methodLink RL 9 yX6_init ∈ gw ∨ ∃ host, (RL, 9, yX6_init, host) ∈ nwM := Or.inl (gw_at 64 rfl rfl)
set_option maxRecDepth 100000 in
theorem li_L_12 : Cond.methodLink RL 12 yX7_init ∈ gw ∨ ∃ host, (RL, 12, yX7_init, host) ∈ nwM := Or.inl (gw_at 705 rfl rfl)
set_option maxRecDepth 100000 in
theorem li_X6_9 : Cond.methodLink RX6 9 yX5_init ∈ gw ∨ ∃ host, (RX6, 9, yX5_init, host) ∈ nwM := Or.inr ⟨"ParishRaffle", List.mem_of_getElem? (i := 0) rfl⟩
set_option maxRecDepth 100000 in
theorem li_X6_18 : Cond.methodLink RX6 18 yX3_init ∈ gw ∨ ∃ host, (RX6, 18, yX3_init, host) ∈ nwM := Or.inr ⟨"ParishRaffle", List.mem_of_getElem? (i := 1) rfl⟩
set_option maxRecDepth 100000 in
theorem li_X6_40 : Cond.methodLink RX6 40 yX1_init ∈ gw ∨ ∃ host, (RX6, 40, yX1_init, host) ∈ nwM := Or.inr ⟨"ParishRaffle", List.mem_of_getElem? (i := 2) rfl⟩
set_option maxRecDepth 100000 in
theorem li_X6_47 : Cond.methodLink RX6 47 yX0_init ∈ gw ∨ ∃ host, (RX6, 47, yX0_init, host) ∈ nwM := Or.inr ⟨"ParishRaffle", List.mem_of_getElem? (i := 3) rfl⟩
set_option maxRecDepth 100000 in
theorem li_X6_54 : Cond.methodLink RX6 54 yX2_init ∈ gw ∨ ∃ host, (RX6, 54, yX2_init, host) ∈ nwM := Or.inr ⟨"ParishRaffle", List.mem_of_getElem? (i := 4) rfl⟩
set_option maxRecDepth 100000 in
theorem rnk {rmy : Room} {mLy mc ms : Nat} {rm : Room} (h : (Nat.beq rmy.cells mc && Nat.beq rmy.slots ms && Nat.ble (rmy.frames + 1) rm.frames && Nat.ble (8 + (mLy + 11) + rmy.locals) rm.locals) = true) : RNok rmy mLy mc ms rm := by
  simp only [Bool.and_eq_true] at h
  exact ⟨Nat.eq_of_beq_eq_true h.1.1.1, Nat.eq_of_beq_eq_true h.1.1.2, Nat.le_of_ble_eq_true h.1.2, Nat.le_of_ble_eq_true h.2⟩
set_option maxRecDepth 100000 in
theorem une {ty : FieldType} {x : State → Option ClassId} (h : ∀ (U : State) (c : ClassId), va_RA U c ty → x U = some c) : ∀ (U : State) (c c' : ClassId), va_RA U c ty → va_RA U c' ty → c = c' := fun U c c' h1 h2 => Option.some.inj ((h U c h1).symm.trans (h U c' h2))
set_option maxRecDepth 100000 in
theorem un_int : ∀ (U : State) (c c' : ClassId), va_RA U c .int → va_RA U c' .int → c = c' := une (x := fun U => U.vm.findClass ("[" ++ (FieldType.int).toString)) (fun U c h => h)
set_option maxRecDepth 100000 in
theorem un_char : ∀ (U : State) (c c' : ClassId), va_RA U c .char → va_RA U c' .char → c = c' := une (x := fun U => U.vm.findClass ("[" ++ (FieldType.char).toString)) (fun U c h => h)
set_option maxRecDepth 100000 in
theorem un_byte : ∀ (U : State) (c c' : ClassId), va_RA U c .byte → va_RA U c' .byte → c = c' := une (x := fun U => U.vm.findClass ("[" ++ (FieldType.byte).toString)) (fun U c h => h)
set_option maxRecDepth 100000 in
theorem un_long : ∀ (U : State) (c c' : ClassId), va_RA U c .long → va_RA U c' .long → c = c' := une (x := fun U => U.vm.findClass ("[" ++ (FieldType.long).toString)) (fun U c h => h)
