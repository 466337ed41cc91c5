/-! printed by wip/whole/mkctors.py: the constructors, walked -/
abbrev GRI (Y : DX) (h n m : Nat) : va_W := (h, .inl (Y.2.1 14, n, .inr (.inr (.inr (.inr fun j => if j < n then some (h + 1 + j) else none))))) :: (List.range n).map fun j => (h + 1 + j, .inl (Y.2.1 10, m, .inl fun _ => 0))
abbrev GRJ (Y : DX) (h n m : Nat) : va_W := (h, .inl (Y.2.1 15, n, .inr (.inr (.inr (.inr fun j => if j < n then some (h + 1 + j) else none))))) :: (List.range n).map fun j => (h + 1 + j, .inl (Y.2.1 12, m, .inr (.inl fun _ => 0)))
abbrev M_X3_init : MI := (yX3_init, cX3_init, 1, none)
abbrev M_X6_init : MI := (yX6_init, cX6_init, 1, none)
abbrev M_X4_init : MI := (yX4_init, cX4_init, 1, none)
abbrev M_X5_init : MI := (yX5_init, cX5_init, 1, none)
abbrev M_X2_init : MI := (yX2_init, cX2_init, 1, none)
abbrev M_X0_init : MI := (yX0_init, cX0_init, 1, none)
abbrev M_X7_init : MI := (yX7_init, cX7_init, 1, none)
abbrev M_X8_init : MI := (yX8_init, cX8_init, 1, none)
abbrev M_X10_init : MI := (yX10_init, cX10_init, 2, none)
abbrev M_X9_init : MI := (yX9_init, cX9_init, 2, none)
theorem lfd_X3_7 : LF RX3 7 2 0 := ⟨by decide, by decide, (RX3, TX3, 1), rfl, rfl, rfl, inG2, Or.inl (mg 344 (by decide +kernel) rfl)⟩
theorem lpn_2_0 : LPt 2 0 .long := ⟨(RX3, TX3, 1), rfl, ⟨tyX3, tyX3_ok⟩, nmX3, rfl, by decide +kernel⟩
theorem lfc_X6_11 : LF1 RX6 11 5 0 := ⟨by decide, by decide, (RX6, TX6, 6), rfl, rfl, rfl, inG5, (mg 196 (by decide +kernel) rfl)⟩
theorem lpf_5_0 : LPf 5 0 (.array .int) := ⟨(RX6, TX6, 6), rfl, ⟨tyX6, tyX6_ok⟩, nmX6, rfl, by decide +kernel⟩
theorem lfd_X6_15 : LF RX6 15 5 1 := ⟨by decide, by decide, (RX6, TX6, 6), rfl, rfl, rfl, inG5, Or.inl (mg 198 (by decide +kernel) rfl)⟩
theorem lpn_5_1 : LPt 5 1 .int := ⟨(RX6, TX6, 6), rfl, ⟨tyX6, tyX6_ok⟩, nmX6, rfl, by decide +kernel⟩
theorem lfd_X6_19 : LF RX6 19 5 2 := ⟨by decide, by decide, (RX6, TX6, 6), rfl, rfl, rfl, inG5, Or.inl (mg 200 (by decide +kernel) rfl)⟩
theorem lpn_5_2 : LPt 5 2 .int := ⟨(RX6, TX6, 6), rfl, ⟨tyX6, tyX6_ok⟩, nmX6, rfl, by decide +kernel⟩
theorem lfd_X6_22 : LF RX6 22 5 3 := ⟨by decide, by decide, (RX6, TX6, 6), rfl, rfl, rfl, inG5, Or.inl (mg 201 (by decide +kernel) rfl)⟩
theorem lpn_5_3 : LPt 5 3 .int := ⟨(RX6, TX6, 6), rfl, ⟨tyX6, tyX6_ok⟩, nmX6, rfl, by decide +kernel⟩
theorem lfd_X6_25 : LF RX6 25 5 4 := ⟨by decide, by decide, (RX6, TX6, 6), rfl, rfl, rfl, inG5, Or.inl (mg 202 (by decide +kernel) rfl)⟩
theorem lpn_5_4 : LPt 5 4 .int := ⟨(RX6, TX6, 6), rfl, ⟨tyX6, tyX6_ok⟩, nmX6, rfl, by decide +kernel⟩
theorem lfd_X6_28 : LF RX6 28 5 5 := ⟨by decide, by decide, (RX6, TX6, 6), rfl, rfl, rfl, inG5, Or.inl (mg 203 (by decide +kernel) rfl)⟩
theorem lpn_5_5 : LPt 5 5 .int := ⟨(RX6, TX6, 6), rfl, ⟨tyX6, tyX6_ok⟩, nmX6, rfl, by decide +kernel⟩
theorem lfd_X4_9 : LF RX4 9 3 0 := ⟨by decide, by decide, (RX4, TX4, 12), rfl, rfl, rfl, inG3, Or.inl (mg 218 (by decide +kernel) rfl)⟩
theorem lpn_3_0 : LPt 3 0 .int := ⟨(RX4, TX4, 12), rfl, ⟨tyX4, tyX4_ok⟩, nmX4, rfl, by decide +kernel⟩
theorem lfd_X4_15 : LF RX4 15 3 1 := ⟨by decide, by decide, (RX4, TX4, 12), rfl, rfl, rfl, inG3, Or.inl (mg 222 (by decide +kernel) rfl)⟩
theorem lpn_3_1 : LPt 3 1 .int := ⟨(RX4, TX4, 12), rfl, ⟨tyX4, tyX4_ok⟩, nmX4, rfl, by decide +kernel⟩
theorem lfd_X4_18 : LF RX4 18 3 2 := ⟨by decide, by decide, (RX4, TX4, 12), rfl, rfl, rfl, inG3, Or.inl (mg 227 (by decide +kernel) rfl)⟩
theorem lpn_3_2 : LPt 3 2 .int := ⟨(RX4, TX4, 12), rfl, ⟨tyX4, tyX4_ok⟩, nmX4, rfl, by decide +kernel⟩
theorem lfd_X4_21 : LF RX4 21 3 3 := ⟨by decide, by decide, (RX4, TX4, 12), rfl, rfl, rfl, inG3, Or.inl (mg 231 (by decide +kernel) rfl)⟩
theorem lpn_3_3 : LPt 3 3 .int := ⟨(RX4, TX4, 12), rfl, ⟨tyX4, tyX4_ok⟩, nmX4, rfl, by decide +kernel⟩
theorem lfc_X4_24 : LF1 RX4 24 3 4 := ⟨by decide, by decide, (RX4, TX4, 12), rfl, rfl, rfl, inG3, (mg 236 (by decide +kernel) rfl)⟩
theorem lpf_3_4 : LPf 3 4 (.array .int) := ⟨(RX4, TX4, 12), rfl, ⟨tyX4, tyX4_ok⟩, nmX4, rfl, by decide +kernel⟩
theorem lfc_X4_28 : LF1 RX4 28 3 5 := ⟨by decide, by decide, (RX4, TX4, 12), rfl, rfl, rfl, inG3, (mg 240 (by decide +kernel) rfl)⟩
theorem lpf_3_5 : LPf 3 5 (.array .int) := ⟨(RX4, TX4, 12), rfl, ⟨tyX4, tyX4_ok⟩, nmX4, rfl, by decide +kernel⟩
theorem lfd_X4_31 : LF RX4 31 3 6 := ⟨by decide, by decide, (RX4, TX4, 12), rfl, rfl, rfl, inG3, Or.inl (mg 243 (by decide +kernel) rfl)⟩
theorem lpn_3_6 : LPt 3 6 .int := ⟨(RX4, TX4, 12), rfl, ⟨tyX4, tyX4_ok⟩, nmX4, rfl, by decide +kernel⟩
theorem lfd_X4_34 : LF RX4 34 3 7 := ⟨by decide, by decide, (RX4, TX4, 12), rfl, rfl, rfl, inG3, Or.inl (mg 248 (by decide +kernel) rfl)⟩
theorem lpn_3_7 : LPt 3 7 .int := ⟨(RX4, TX4, 12), rfl, ⟨tyX4, tyX4_ok⟩, nmX4, rfl, by decide +kernel⟩
theorem lfd_X4_37 : LF RX4 37 3 8 := ⟨by decide, by decide, (RX4, TX4, 12), rfl, rfl, rfl, inG3, Or.inl (mg 249 (by decide +kernel) rfl)⟩
theorem lpn_3_8 : LPt 3 8 .int := ⟨(RX4, TX4, 12), rfl, ⟨tyX4, tyX4_ok⟩, nmX4, rfl, by decide +kernel⟩
theorem df_5 : ∀ j, j < 6 → defaultValue (tyX6 j) = vp_V [.null, .int 0, .int 0, .int 0, .int 0, .int 0] j := by decide +kernel
theorem mc_X4_42 : LCt RX4 42 M_X6_init := ⟨⟨by decide, by decide, by decide +kernel⟩, rfl, rfl, ⟨(mg 194 (by decide +kernel) rfl), (mg 193 (by decide +kernel) rfl), (mg 154 (by decide +kernel) rfl)⟩, Or.inr ⟨"BingoHall", (mn 192 (by decide +kernel) rfl)⟩⟩
theorem lfc_X4_43 : LF1 RX4 43 3 9 := ⟨by decide, by decide, (RX4, TX4, 12), rfl, rfl, rfl, inG3, (mg 252 (by decide +kernel) rfl)⟩
theorem lpf_3_9 : LPf 3 9 (.object "BingoHall$Parts") := ⟨(RX4, TX4, 12), rfl, ⟨tyX4, tyX4_ok⟩, nmX4, rfl, by decide +kernel⟩
theorem lfc_X4_47 : LF1 RX4 47 3 10 := ⟨by decide, by decide, (RX4, TX4, 12), rfl, rfl, rfl, inG3, (mg 253 (by decide +kernel) rfl)⟩
theorem lpf_3_10 : LPf 3 10 (.array .int) := ⟨(RX4, TX4, 12), rfl, ⟨tyX4, tyX4_ok⟩, nmX4, rfl, by decide +kernel⟩
theorem lfc_X4_50 : LF1 RX4 50 3 11 := ⟨by decide, by decide, (RX4, TX4, 12), rfl, rfl, rfl, inG3, (mg 254 (by decide +kernel) rfl)⟩
theorem lpf_3_11 : LPf 3 11 (.object "BingoHall$Parts") := ⟨(RX4, TX4, 12), rfl, ⟨tyX4, tyX4_ok⟩, nmX4, rfl, by decide +kernel⟩
theorem df_3 : ∀ j, j < 12 → defaultValue (tyX4 j) = vp_V [.int 0, .int 0, .int 0, .int 0, .null, .null, .int 0, .int 0, .int 0, .null, .null, .null] j := by decide +kernel
theorem mc_X5_11 : LCt RX5 11 M_X4_init := ⟨⟨by decide, by decide, by decide +kernel⟩, rfl, rfl, ⟨(mg 188 (by decide +kernel) rfl), (mg 187 (by decide +kernel) rfl), (mg 153 (by decide +kernel) rfl)⟩, Or.inr ⟨"BingoHall", (mn 186 (by decide +kernel) rfl)⟩⟩
theorem lfc_X5_12 : LF1 RX5 12 4 0 := ⟨by decide, by decide, (RX5, TX5, 10), rfl, rfl, rfl, inG4, (mg 284 (by decide +kernel) rfl)⟩
theorem lpf_4_0 : LPf 4 0 (.object "BingoHall$Form") := ⟨(RX5, TX5, 10), rfl, ⟨tyX5, tyX5_ok⟩, nmX5, rfl, by decide +kernel⟩
theorem lfd_X5_18 : LF RX5 18 4 1 := ⟨by decide, by decide, (RX5, TX5, 10), rfl, rfl, rfl, inG4, Or.inl (mg 287 (by decide +kernel) rfl)⟩
theorem lpn_4_1 : LPt 4 1 .int := ⟨(RX5, TX5, 10), rfl, ⟨tyX5, tyX5_ok⟩, nmX5, rfl, by decide +kernel⟩
theorem lfc_X5_22 : LF1 RX5 22 4 2 := ⟨by decide, by decide, (RX5, TX5, 10), rfl, rfl, rfl, inG4, (mg 290 (by decide +kernel) rfl)⟩
theorem lpf_4_2 : LPf 4 2 (.array .int) := ⟨(RX5, TX5, 10), rfl, ⟨tyX5, tyX5_ok⟩, nmX5, rfl, by decide +kernel⟩
theorem lfd_X5_26 : LF RX5 26 4 3 := ⟨by decide, by decide, (RX5, TX5, 10), rfl, rfl, rfl, inG4, Or.inl (mg 293 (by decide +kernel) rfl)⟩
theorem lpn_4_3 : LPt 4 3 .int := ⟨(RX5, TX5, 10), rfl, ⟨tyX5, tyX5_ok⟩, nmX5, rfl, by decide +kernel⟩
theorem lfd_X5_29 : LF RX5 29 4 4 := ⟨by decide, by decide, (RX5, TX5, 10), rfl, rfl, rfl, inG4, Or.inl (mg 296 (by decide +kernel) rfl)⟩
theorem lpn_4_4 : LPt 4 4 .int := ⟨(RX5, TX5, 10), rfl, ⟨tyX5, tyX5_ok⟩, nmX5, rfl, by decide +kernel⟩
theorem lfd_X5_32 : LF RX5 32 4 5 := ⟨by decide, by decide, (RX5, TX5, 10), rfl, rfl, rfl, inG4, Or.inl (mg 299 (by decide +kernel) rfl)⟩
theorem lpn_4_5 : LPt 4 5 .int := ⟨(RX5, TX5, 10), rfl, ⟨tyX5, tyX5_ok⟩, nmX5, rfl, by decide +kernel⟩
theorem lfc_X5_35 : LF1 RX5 35 4 6 := ⟨by decide, by decide, (RX5, TX5, 10), rfl, rfl, rfl, inG4, (mg 302 (by decide +kernel) rfl)⟩
theorem lpf_4_6 : LPf 4 6 (.array .int) := ⟨(RX5, TX5, 10), rfl, ⟨tyX5, tyX5_ok⟩, nmX5, rfl, by decide +kernel⟩
theorem lfc_X5_40 : LF1 RX5 40 4 7 := ⟨by decide, by decide, (RX5, TX5, 10), rfl, rfl, rfl, inG4, (mg 304 (by decide +kernel) rfl)⟩
theorem lpf_4_7 : LPf 4 7 (.array (.array .int)) := ⟨(RX5, TX5, 10), rfl, ⟨tyX5, tyX5_ok⟩, nmX5, rfl, by decide +kernel⟩
theorem lfc_X5_43 : LF1 RX5 43 4 8 := ⟨by decide, by decide, (RX5, TX5, 10), rfl, rfl, rfl, inG4, (mg 306 (by decide +kernel) rfl)⟩
theorem lpf_4_8 : LPf 4 8 (.array .int) := ⟨(RX5, TX5, 10), rfl, ⟨tyX5, tyX5_ok⟩, nmX5, rfl, by decide +kernel⟩
theorem lfc_X5_46 : LF1 RX5 46 4 9 := ⟨by decide, by decide, (RX5, TX5, 10), rfl, rfl, rfl, inG4, (mg 308 (by decide +kernel) rfl)⟩
theorem lpf_4_9 : LPf 4 9 (.array .int) := ⟨(RX5, TX5, 10), rfl, ⟨tyX5, tyX5_ok⟩, nmX5, rfl, by decide +kernel⟩
theorem df_2 : ∀ j, j < 1 → defaultValue (tyX3 j) = vp_V [.long 0] j := by decide +kernel
theorem mc_X2_11 : LCt RX2 11 M_X3_init := ⟨⟨by decide, by decide, by decide +kernel⟩, rfl, rfl, ⟨(mg 342 (by decide +kernel) rfl), (mg 341 (by decide +kernel) rfl), (mg 156 (by decide +kernel) rfl)⟩, Or.inr ⟨"BingoHall", (mn 340 (by decide +kernel) rfl)⟩⟩
theorem lfc_X2_12 : LF1 RX2 12 1 0 := ⟨by decide, by decide, (RX2, TX2, 5), rfl, rfl, rfl, inG1, (mg 349 (by decide +kernel) rfl)⟩
theorem lpf_1_0 : LPf 1 0 (.object "BingoHall$Draws") := ⟨(RX2, TX2, 5), rfl, ⟨tyX2, tyX2_ok⟩, nmX2, rfl, by decide +kernel⟩
theorem lfc_X2_18 : LF1 RX2 18 1 1 := ⟨by decide, by decide, (RX2, TX2, 5), rfl, rfl, rfl, inG1, (mg 350 (by decide +kernel) rfl)⟩
theorem lpf_1_1 : LPf 1 1 (.array .int) := ⟨(RX2, TX2, 5), rfl, ⟨tyX2, tyX2_ok⟩, nmX2, rfl, by decide +kernel⟩
theorem lfc_X2_22 : LF1 RX2 22 1 2 := ⟨by decide, by decide, (RX2, TX2, 5), rfl, rfl, rfl, inG1, (mg 351 (by decide +kernel) rfl)⟩
theorem lpf_1_2 : LPf 1 2 (.array .int) := ⟨(RX2, TX2, 5), rfl, ⟨tyX2, tyX2_ok⟩, nmX2, rfl, by decide +kernel⟩
theorem lfc_X2_25 : LF1 RX2 25 1 3 := ⟨by decide, by decide, (RX2, TX2, 5), rfl, rfl, rfl, inG1, (mg 352 (by decide +kernel) rfl)⟩
theorem lpf_1_3 : LPf 1 3 (.array .int) := ⟨(RX2, TX2, 5), rfl, ⟨tyX2, tyX2_ok⟩, nmX2, rfl, by decide +kernel⟩
theorem lfc_X2_28 : LF1 RX2 28 1 4 := ⟨by decide, by decide, (RX2, TX2, 5), rfl, rfl, rfl, inG1, (mg 353 (by decide +kernel) rfl)⟩
theorem lpf_1_4 : LPf 1 4 (.array .int) := ⟨(RX2, TX2, 5), rfl, ⟨tyX2, tyX2_ok⟩, nmX2, rfl, by decide +kernel⟩
theorem lfd_X0_9 : LF RX0 9 0 0 := ⟨by decide, by decide, (RX0, TX0, 5), rfl, rfl, rfl, inG0, Or.inl (mg 440 (by decide +kernel) rfl)⟩
theorem lpn_0_0 : LPt 0 0 .int := ⟨(RX0, TX0, 5), rfl, ⟨tyX0, tyX0_ok⟩, nmX0, rfl, by decide +kernel⟩
theorem lfd_X0_15 : LF RX0 15 0 1 := ⟨by decide, by decide, (RX0, TX0, 5), rfl, rfl, rfl, inG0, Or.inl (mg 441 (by decide +kernel) rfl)⟩
theorem lpn_0_1 : LPt 0 1 .int := ⟨(RX0, TX0, 5), rfl, ⟨tyX0, tyX0_ok⟩, nmX0, rfl, by decide +kernel⟩
theorem lfd_X0_18 : LF RX0 18 0 2 := ⟨by decide, by decide, (RX0, TX0, 5), rfl, rfl, rfl, inG0, Or.inl (mg 442 (by decide +kernel) rfl)⟩
theorem lpn_0_2 : LPt 0 2 .int := ⟨(RX0, TX0, 5), rfl, ⟨tyX0, tyX0_ok⟩, nmX0, rfl, by decide +kernel⟩
theorem lfc_X0_21 : LF1 RX0 21 0 3 := ⟨by decide, by decide, (RX0, TX0, 5), rfl, rfl, rfl, inG0, (mg 443 (by decide +kernel) rfl)⟩
theorem lpf_0_3 : LPf 0 3 (.array .int) := ⟨(RX0, TX0, 5), rfl, ⟨tyX0, tyX0_ok⟩, nmX0, rfl, by decide +kernel⟩
theorem lfc_X0_25 : LF1 RX0 25 0 4 := ⟨by decide, by decide, (RX0, TX0, 5), rfl, rfl, rfl, inG0, (mg 444 (by decide +kernel) rfl)⟩
theorem lpf_0_4 : LPf 0 4 (.array .int) := ⟨(RX0, TX0, 5), rfl, ⟨tyX0, tyX0_ok⟩, nmX0, rfl, by decide +kernel⟩
theorem lfc_X7_9 : LF1 RX7 9 6 0 := ⟨by decide, by decide, (RX7, TX7, 11), rfl, rfl, rfl, inG6, (mg 373 (by decide +kernel) rfl)⟩
theorem lpf_6_0 : LPf 6 0 (.array .byte) := ⟨(RX7, TX7, 11), rfl, ⟨tyX7, tyX7_ok⟩, nmX7, rfl, by decide +kernel⟩
theorem lfd_X7_15 : LF RX7 15 6 1 := ⟨by decide, by decide, (RX7, TX7, 11), rfl, rfl, rfl, inG6, Or.inl (mg 374 (by decide +kernel) rfl)⟩
theorem lpn_6_1 : LPt 6 1 .int := ⟨(RX7, TX7, 11), rfl, ⟨tyX7, tyX7_ok⟩, nmX7, rfl, by decide +kernel⟩
theorem df_1 : ∀ j, j < 5 → defaultValue (tyX2 j) = vp_V [.null, .null, .null, .null, .null] j := by decide +kernel
theorem mc_X7_21 : LCt RX7 21 M_X2_init := ⟨⟨by decide, by decide, by decide +kernel⟩, rfl, rfl, ⟨(mg 336 (by decide +kernel) rfl), (mg 335 (by decide +kernel) rfl), (mg 155 (by decide +kernel) rfl)⟩, Or.inr ⟨"BingoHall", (mn 372 (by decide +kernel) rfl)⟩⟩
theorem lfc_X7_22 : LF1 RX7 22 6 2 := ⟨by decide, by decide, (RX7, TX7, 11), rfl, rfl, rfl, inG6, (mg 376 (by decide +kernel) rfl)⟩
theorem lpf_6_2 : LPf 6 2 (.object "BingoHall$Dealer") := ⟨(RX7, TX7, 11), rfl, ⟨tyX7, tyX7_ok⟩, nmX7, rfl, by decide +kernel⟩
theorem lfc_X7_26 : LF1 RX7 26 6 3 := ⟨by decide, by decide, (RX7, TX7, 11), rfl, rfl, rfl, inG6, (mg 377 (by decide +kernel) rfl)⟩
theorem lpf_6_3 : LPf 6 3 (.array .int) := ⟨(RX7, TX7, 11), rfl, ⟨tyX7, tyX7_ok⟩, nmX7, rfl, by decide +kernel⟩
theorem lfd_X7_30 : LF RX7 30 6 4 := ⟨by decide, by decide, (RX7, TX7, 11), rfl, rfl, rfl, inG6, Or.inl (mg 378 (by decide +kernel) rfl)⟩
theorem lpn_6_4 : LPt 6 4 .int := ⟨(RX7, TX7, 11), rfl, ⟨tyX7, tyX7_ok⟩, nmX7, rfl, by decide +kernel⟩
theorem lfd_X7_33 : LF RX7 33 6 5 := ⟨by decide, by decide, (RX7, TX7, 11), rfl, rfl, rfl, inG6, Or.inl (mg 379 (by decide +kernel) rfl)⟩
theorem lpn_6_5 : LPt 6 5 .int := ⟨(RX7, TX7, 11), rfl, ⟨tyX7, tyX7_ok⟩, nmX7, rfl, by decide +kernel⟩
theorem lfd_X7_36 : LF RX7 36 6 6 := ⟨by decide, by decide, (RX7, TX7, 11), rfl, rfl, rfl, inG6, Or.inl (mg 380 (by decide +kernel) rfl)⟩
theorem lpn_6_6 : LPt 6 6 .int := ⟨(RX7, TX7, 11), rfl, ⟨tyX7, tyX7_ok⟩, nmX7, rfl, by decide +kernel⟩
theorem lfd_X7_39 : LF RX7 39 6 7 := ⟨by decide, by decide, (RX7, TX7, 11), rfl, rfl, rfl, inG6, Or.inl (mg 381 (by decide +kernel) rfl)⟩
theorem lpn_6_7 : LPt 6 7 .int := ⟨(RX7, TX7, 11), rfl, ⟨tyX7, tyX7_ok⟩, nmX7, rfl, by decide +kernel⟩
theorem lfd_X7_42 : LF RX7 42 6 8 := ⟨by decide, by decide, (RX7, TX7, 11), rfl, rfl, rfl, inG6, Or.inl (mg 382 (by decide +kernel) rfl)⟩
theorem lpn_6_8 : LPt 6 8 .int := ⟨(RX7, TX7, 11), rfl, ⟨tyX7, tyX7_ok⟩, nmX7, rfl, by decide +kernel⟩
theorem lfd_X7_45 : LF RX7 45 6 9 := ⟨by decide, by decide, (RX7, TX7, 11), rfl, rfl, rfl, inG6, Or.inl (mg 384 (by decide +kernel) rfl)⟩
theorem lpn_6_9 : LPt 6 9 .int := ⟨(RX7, TX7, 11), rfl, ⟨tyX7, tyX7_ok⟩, nmX7, rfl, by decide +kernel⟩
theorem lfd_X7_48 : LF RX7 48 6 10 := ⟨by decide, by decide, (RX7, TX7, 11), rfl, rfl, rfl, inG6, Or.inl (mg 386 (by decide +kernel) rfl)⟩
theorem lpn_6_10 : LPt 6 10 .int := ⟨(RX7, TX7, 11), rfl, ⟨tyX7, tyX7_ok⟩, nmX7, rfl, by decide +kernel⟩
theorem lfc_X8_13 : LF1 RX8 13 7 0 := ⟨by decide, by decide, (RX8, TX8, 4), rfl, rfl, rfl, inG7, (mg 420 (by decide +kernel) rfl)⟩
theorem lpf_7_0 : LPf 7 0 (.array (.array .long)) := ⟨(RX8, TX8, 4), rfl, ⟨tyX8, tyX8_ok⟩, nmX8, rfl, by decide +kernel⟩
theorem lfc_X8_16 : LF1 RX8 16 7 1 := ⟨by decide, by decide, (RX8, TX8, 4), rfl, rfl, rfl, inG7, (mg 421 (by decide +kernel) rfl)⟩
theorem lpf_7_1 : LPf 7 1 (.array .int) := ⟨(RX8, TX8, 4), rfl, ⟨tyX8, tyX8_ok⟩, nmX8, rfl, by decide +kernel⟩
theorem lfc_X8_20 : LF1 RX8 20 7 2 := ⟨by decide, by decide, (RX8, TX8, 4), rfl, rfl, rfl, inG7, (mg 422 (by decide +kernel) rfl)⟩
theorem lpf_7_2 : LPf 7 2 (.array .int) := ⟨(RX8, TX8, 4), rfl, ⟨tyX8, tyX8_ok⟩, nmX8, rfl, by decide +kernel⟩
theorem lfc_X8_23 : LF1 RX8 23 7 3 := ⟨by decide, by decide, (RX8, TX8, 4), rfl, rfl, rfl, inG7, (mg 423 (by decide +kernel) rfl)⟩
theorem lpf_7_3 : LPf 7 3 (.array .boolean) := ⟨(RX8, TX8, 4), rfl, ⟨tyX8, tyX8_ok⟩, nmX8, rfl, by decide +kernel⟩
theorem lfc_X10_7 : LF1 RX10 7 9 1 := ⟨by decide, by decide, (RX10, TX10, 45), rfl, rfl, rfl, inG9, (mg 1257 (by decide +kernel) rfl)⟩
theorem lpf_9_1 : LPf 9 1 (.array .int) := ⟨(RX10, TX10, 45), rfl, ⟨tyX10, tyX10_ok⟩, nmX10, rfl, by decide +kernel⟩
theorem lfc_X10_13 : LF1 RX10 13 9 2 := ⟨by decide, by decide, (RX10, TX10, 45), rfl, rfl, rfl, inG9, (mg 1258 (by decide +kernel) rfl)⟩
theorem lpf_9_2 : LPf 9 2 (.array .int) := ⟨(RX10, TX10, 45), rfl, ⟨tyX10, tyX10_ok⟩, nmX10, rfl, by decide +kernel⟩
theorem lfc_X10_16 : LF1 RX10 16 9 3 := ⟨by decide, by decide, (RX10, TX10, 45), rfl, rfl, rfl, inG9, (mg 1259 (by decide +kernel) rfl)⟩
theorem lpf_9_3 : LPf 9 3 (.array .long) := ⟨(RX10, TX10, 45), rfl, ⟨tyX10, tyX10_ok⟩, nmX10, rfl, by decide +kernel⟩
theorem lfc_X10_20 : LF1 RX10 20 9 4 := ⟨by decide, by decide, (RX10, TX10, 45), rfl, rfl, rfl, inG9, (mg 1260 (by decide +kernel) rfl)⟩
theorem lpf_9_4 : LPf 9 4 (.array .long) := ⟨(RX10, TX10, 45), rfl, ⟨tyX10, tyX10_ok⟩, nmX10, rfl, by decide +kernel⟩
theorem lfc_X10_23 : LF1 RX10 23 9 5 := ⟨by decide, by decide, (RX10, TX10, 45), rfl, rfl, rfl, inG9, (mg 1261 (by decide +kernel) rfl)⟩
theorem lpf_9_5 : LPf 9 5 (.array .byte) := ⟨(RX10, TX10, 45), rfl, ⟨tyX10, tyX10_ok⟩, nmX10, rfl, by decide +kernel⟩
theorem lfd_X10_27 : LF RX10 27 9 15 := ⟨by decide, by decide, (RX10, TX10, 45), rfl, rfl, rfl, inG9, Or.inl (mg 1271 (by decide +kernel) rfl)⟩
theorem lpn_9_15 : LPt 9 15 .int := ⟨(RX10, TX10, 45), rfl, ⟨tyX10, tyX10_ok⟩, nmX10, rfl, by decide +kernel⟩
theorem lfc_X10_31 : LF1 RX10 31 9 16 := ⟨by decide, by decide, (RX10, TX10, 45), rfl, rfl, rfl, inG9, (mg 1272 (by decide +kernel) rfl)⟩
theorem lpf_9_16 : LPf 9 16 (.array .int) := ⟨(RX10, TX10, 45), rfl, ⟨tyX10, tyX10_ok⟩, nmX10, rfl, by decide +kernel⟩
theorem lfc_X10_34 : LF1 RX10 34 9 17 := ⟨by decide, by decide, (RX10, TX10, 45), rfl, rfl, rfl, inG9, (mg 1273 (by decide +kernel) rfl)⟩
theorem lpf_9_17 : LPf 9 17 (.array .int) := ⟨(RX10, TX10, 45), rfl, ⟨tyX10, tyX10_ok⟩, nmX10, rfl, by decide +kernel⟩
theorem lfc_X10_37 : LF1 RX10 37 9 18 := ⟨by decide, by decide, (RX10, TX10, 45), rfl, rfl, rfl, inG9, (mg 1274 (by decide +kernel) rfl)⟩
theorem lpf_9_18 : LPf 9 18 (.array .int) := ⟨(RX10, TX10, 45), rfl, ⟨tyX10, tyX10_ok⟩, nmX10, rfl, by decide +kernel⟩
theorem lfc_X10_40 : LF1 RX10 40 9 19 := ⟨by decide, by decide, (RX10, TX10, 45), rfl, rfl, rfl, inG9, (mg 1275 (by decide +kernel) rfl)⟩
theorem lpf_9_19 : LPf 9 19 (.array .int) := ⟨(RX10, TX10, 45), rfl, ⟨tyX10, tyX10_ok⟩, nmX10, rfl, by decide +kernel⟩
theorem lfc_X10_43 : LF1 RX10 43 9 20 := ⟨by decide, by decide, (RX10, TX10, 45), rfl, rfl, rfl, inG9, (mg 1276 (by decide +kernel) rfl)⟩
theorem lpf_9_20 : LPf 9 20 (.array .int) := ⟨(RX10, TX10, 45), rfl, ⟨tyX10, tyX10_ok⟩, nmX10, rfl, by decide +kernel⟩
theorem lfc_X10_46 : LF1 RX10 46 9 21 := ⟨by decide, by decide, (RX10, TX10, 45), rfl, rfl, rfl, inG9, (mg 1277 (by decide +kernel) rfl)⟩
theorem lpf_9_21 : LPf 9 21 (.array .int) := ⟨(RX10, TX10, 45), rfl, ⟨tyX10, tyX10_ok⟩, nmX10, rfl, by decide +kernel⟩
theorem lfc_X10_49 : LF1 RX10 49 9 22 := ⟨by decide, by decide, (RX10, TX10, 45), rfl, rfl, rfl, inG9, (mg 1278 (by decide +kernel) rfl)⟩
theorem lpf_9_22 : LPf 9 22 (.array .boolean) := ⟨(RX10, TX10, 45), rfl, ⟨tyX10, tyX10_ok⟩, nmX10, rfl, by decide +kernel⟩
theorem lfc_X10_53 : LF1 RX10 53 9 23 := ⟨by decide, by decide, (RX10, TX10, 45), rfl, rfl, rfl, inG9, (mg 1279 (by decide +kernel) rfl)⟩
theorem lpf_9_23 : LPf 9 23 (.array .int) := ⟨(RX10, TX10, 45), rfl, ⟨tyX10, tyX10_ok⟩, nmX10, rfl, by decide +kernel⟩
theorem lfc_X10_56 : LF1 RX10 56 9 24 := ⟨by decide, by decide, (RX10, TX10, 45), rfl, rfl, rfl, inG9, (mg 1280 (by decide +kernel) rfl)⟩
theorem lpf_9_24 : LPf 9 24 (.array .int) := ⟨(RX10, TX10, 45), rfl, ⟨tyX10, tyX10_ok⟩, nmX10, rfl, by decide +kernel⟩
theorem lfc_X10_59 : LF1 RX10 59 9 25 := ⟨by decide, by decide, (RX10, TX10, 45), rfl, rfl, rfl, inG9, (mg 1281 (by decide +kernel) rfl)⟩
theorem lpf_9_25 : LPf 9 25 (.array .int) := ⟨(RX10, TX10, 45), rfl, ⟨tyX10, tyX10_ok⟩, nmX10, rfl, by decide +kernel⟩
theorem lfc_X10_62 : LF1 RX10 62 9 28 := ⟨by decide, by decide, (RX10, TX10, 45), rfl, rfl, rfl, inG9, (mg 1284 (by decide +kernel) rfl)⟩
theorem lpf_9_28 : LPf 9 28 (.array .int) := ⟨(RX10, TX10, 45), rfl, ⟨tyX10, tyX10_ok⟩, nmX10, rfl, by decide +kernel⟩
theorem lfc_X10_65 : LF1 RX10 65 9 29 := ⟨by decide, by decide, (RX10, TX10, 45), rfl, rfl, rfl, inG9, (mg 1285 (by decide +kernel) rfl)⟩
theorem lpf_9_29 : LPf 9 29 (.array .int) := ⟨(RX10, TX10, 45), rfl, ⟨tyX10, tyX10_ok⟩, nmX10, rfl, by decide +kernel⟩
theorem lfc_X10_68 : LF1 RX10 68 9 30 := ⟨by decide, by decide, (RX10, TX10, 45), rfl, rfl, rfl, inG9, (mg 1286 (by decide +kernel) rfl)⟩
theorem lpf_9_30 : LPf 9 30 (.array .int) := ⟨(RX10, TX10, 45), rfl, ⟨tyX10, tyX10_ok⟩, nmX10, rfl, by decide +kernel⟩
theorem lfc_X10_71 : LF1 RX10 71 9 34 := ⟨by decide, by decide, (RX10, TX10, 45), rfl, rfl, rfl, inG9, (mg 1290 (by decide +kernel) rfl)⟩
theorem lpf_9_34 : LPf 9 34 (.array .int) := ⟨(RX10, TX10, 45), rfl, ⟨tyX10, tyX10_ok⟩, nmX10, rfl, by decide +kernel⟩
theorem lfc_X10_74 : LF1 RX10 74 9 35 := ⟨by decide, by decide, (RX10, TX10, 45), rfl, rfl, rfl, inG9, (mg 1291 (by decide +kernel) rfl)⟩
theorem lpf_9_35 : LPf 9 35 (.array .int) := ⟨(RX10, TX10, 45), rfl, ⟨tyX10, tyX10_ok⟩, nmX10, rfl, by decide +kernel⟩
theorem lfc_X10_77 : LF1 RX10 77 9 37 := ⟨by decide, by decide, (RX10, TX10, 45), rfl, rfl, rfl, inG9, (mg 1293 (by decide +kernel) rfl)⟩
theorem lpf_9_37 : LPf 9 37 (.array .int) := ⟨(RX10, TX10, 45), rfl, ⟨tyX10, tyX10_ok⟩, nmX10, rfl, by decide +kernel⟩
theorem lfc_X10_80 : LF1 RX10 80 9 38 := ⟨by decide, by decide, (RX10, TX10, 45), rfl, rfl, rfl, inG9, (mg 1294 (by decide +kernel) rfl)⟩
theorem lpf_9_38 : LPf 9 38 (.array .int) := ⟨(RX10, TX10, 45), rfl, ⟨tyX10, tyX10_ok⟩, nmX10, rfl, by decide +kernel⟩
theorem lfc_X10_83 : LF1 RX10 83 9 39 := ⟨by decide, by decide, (RX10, TX10, 45), rfl, rfl, rfl, inG9, (mg 1295 (by decide +kernel) rfl)⟩
theorem lpf_9_39 : LPf 9 39 (.array .int) := ⟨(RX10, TX10, 45), rfl, ⟨tyX10, tyX10_ok⟩, nmX10, rfl, by decide +kernel⟩
theorem lfc_X10_86 : LF1 RX10 86 9 42 := ⟨by decide, by decide, (RX10, TX10, 45), rfl, rfl, rfl, inG9, (mg 1298 (by decide +kernel) rfl)⟩
theorem lpf_9_42 : LPf 9 42 (.array .int) := ⟨(RX10, TX10, 45), rfl, ⟨tyX10, tyX10_ok⟩, nmX10, rfl, by decide +kernel⟩
theorem lfc_X10_89 : LF1 RX10 89 9 43 := ⟨by decide, by decide, (RX10, TX10, 45), rfl, rfl, rfl, inG9, (mg 1299 (by decide +kernel) rfl)⟩
theorem lpf_9_43 : LPf 9 43 (.array .int) := ⟨(RX10, TX10, 45), rfl, ⟨tyX10, tyX10_ok⟩, nmX10, rfl, by decide +kernel⟩
theorem lfc_X10_92 : LF1 RX10 92 9 44 := ⟨by decide, by decide, (RX10, TX10, 45), rfl, rfl, rfl, inG9, (mg 1300 (by decide +kernel) rfl)⟩
theorem lpf_9_44 : LPf 9 44 (.array .int) := ⟨(RX10, TX10, 45), rfl, ⟨tyX10, tyX10_ok⟩, nmX10, rfl, by decide +kernel⟩
theorem lfd_X10_7 : LF RX10 7 9 1 := ⟨by decide, by decide, (RX10, TX10, 45), rfl, rfl, rfl, inG9, Or.inl (mg 1257 (by decide +kernel) rfl)⟩
theorem df_4 : ∀ j, j < 10 → defaultValue (tyX5 j) = vp_V [.null, .int 0, .null, .int 0, .int 0, .int 0, .null, .null, .null, .null] j := by decide +kernel
theorem mc_X9_9 : LCt RX9 9 M_X5_init := ⟨⟨by decide, by decide, by decide +kernel⟩, rfl, rfl, ⟨(mg 182 (by decide +kernel) rfl), (mg 181 (by decide +kernel) rfl), (mg 152 (by decide +kernel) rfl)⟩, Or.inr ⟨"BingoHall", (mn 180 (by decide +kernel) rfl)⟩⟩
theorem lfd_X9_10 : LF RX9 10 8 0 := ⟨by decide, by decide, (RX9, TX9, 14), rfl, rfl, rfl, inG8, Or.inl (mg 457 (by decide +kernel) rfl)⟩
theorem lpn_8_0 : LPt 8 0 (.object "BingoHall$Hall") := ⟨(RX9, TX9, 14), rfl, ⟨tyX9, tyX9_ok⟩, nmX9, rfl, by decide +kernel⟩
theorem lfd_X9_16 : LF RX9 16 8 1 := ⟨by decide, by decide, (RX9, TX9, 14), rfl, rfl, rfl, inG8, Or.inl (mg 458 (by decide +kernel) rfl)⟩
theorem lpn_8_1 : LPt 8 1 (.object "BingoHall$Hall") := ⟨(RX9, TX9, 14), rfl, ⟨tyX9, tyX9_ok⟩, nmX9, rfl, by decide +kernel⟩
theorem lfc_X9_19 : LF1 RX9 19 8 2 := ⟨by decide, by decide, (RX9, TX9, 14), rfl, rfl, rfl, inG8, (mg 459 (by decide +kernel) rfl)⟩
theorem lpf_8_2 : LPf 8 2 (.array (.object "BingoHall$Hall")) := ⟨(RX9, TX9, 14), rfl, ⟨tyX9, tyX9_ok⟩, nmX9, rfl, by decide +kernel⟩
theorem lfc_X9_23 : LF1 RX9 23 8 3 := ⟨by decide, by decide, (RX9, TX9, 14), rfl, rfl, rfl, inG8, (mg 460 (by decide +kernel) rfl)⟩
theorem lpf_8_3 : LPf 8 3 (.array .boolean) := ⟨(RX9, TX9, 14), rfl, ⟨tyX9, tyX9_ok⟩, nmX9, rfl, by decide +kernel⟩
theorem mc_X9_29 : LCt RX9 29 M_X2_init := ⟨⟨by decide, by decide, by decide +kernel⟩, rfl, rfl, ⟨(mg 336 (by decide +kernel) rfl), (mg 335 (by decide +kernel) rfl), (mg 155 (by decide +kernel) rfl)⟩, Or.inr ⟨"BingoHall", (mn 334 (by decide +kernel) rfl)⟩⟩
theorem lfc_X9_30 : LF1 RX9 30 8 4 := ⟨by decide, by decide, (RX9, TX9, 14), rfl, rfl, rfl, inG8, (mg 461 (by decide +kernel) rfl)⟩
theorem lpf_8_4 : LPf 8 4 (.object "BingoHall$Dealer") := ⟨(RX9, TX9, 14), rfl, ⟨tyX9, tyX9_ok⟩, nmX9, rfl, by decide +kernel⟩
theorem df_6 : ∀ j, j < 11 → defaultValue (tyX7 j) = vp_V [.null, .int 0, .null, .null, .int 0, .int 0, .int 0, .int 0, .int 0, .int 0, .int 0] j := by decide +kernel
theorem mc_X9_36 : LCt RX9 36 M_X7_init := ⟨⟨by decide, by decide, by decide +kernel⟩, rfl, rfl, ⟨(mg 369 (by decide +kernel) rfl), (mg 368 (by decide +kernel) rfl), (mg 157 (by decide +kernel) rfl)⟩, Or.inr ⟨"BingoHall", (mn 367 (by decide +kernel) rfl)⟩⟩
theorem lfc_X9_37 : LF1 RX9 37 8 5 := ⟨by decide, by decide, (RX9, TX9, 14), rfl, rfl, rfl, inG8, (mg 462 (by decide +kernel) rfl)⟩
theorem lpf_8_5 : LPf 8 5 (.object "BingoHall$Reader") := ⟨(RX9, TX9, 14), rfl, ⟨tyX9, tyX9_ok⟩, nmX9, rfl, by decide +kernel⟩
theorem df_7 : ∀ j, j < 4 → defaultValue (tyX8 j) = vp_V [.null, .null, .null, .null] j := by decide +kernel
theorem mc_X9_43 : LCt RX9 43 M_X8_init := ⟨⟨by decide, by decide, by decide +kernel⟩, rfl, rfl, ⟨(mg 416 (by decide +kernel) rfl), (mg 415 (by decide +kernel) rfl), (mg 158 (by decide +kernel) rfl)⟩, Or.inr ⟨"BingoHall", (mn 414 (by decide +kernel) rfl)⟩⟩
theorem lfc_X9_44 : LF1 RX9 44 8 6 := ⟨by decide, by decide, (RX9, TX9, 14), rfl, rfl, rfl, inG8, (mg 463 (by decide +kernel) rfl)⟩
theorem lpf_8_6 : LPf 8 6 (.object "BingoHall$Slots") := ⟨(RX9, TX9, 14), rfl, ⟨tyX9, tyX9_ok⟩, nmX9, rfl, by decide +kernel⟩
theorem df_0 : ∀ j, j < 5 → defaultValue (tyX0 j) = vp_V [.int 0, .int 0, .int 0, .null, .null] j := by decide +kernel
theorem mc_X9_50 : LCt RX9 50 M_X0_init := ⟨⟨by decide, by decide, by decide +kernel⟩, rfl, rfl, ⟨(mg 438 (by decide +kernel) rfl), (mg 437 (by decide +kernel) rfl), (mg 159 (by decide +kernel) rfl)⟩, Or.inr ⟨"BingoHall", (mn 436 (by decide +kernel) rfl)⟩⟩
theorem lfc_X9_51 : LF1 RX9 51 8 7 := ⟨by decide, by decide, (RX9, TX9, 14), rfl, rfl, rfl, inG8, (mg 464 (by decide +kernel) rfl)⟩
theorem lpf_8_7 : LPf 8 7 (.object "BingoHall$Card") := ⟨(RX9, TX9, 14), rfl, ⟨tyX9, tyX9_ok⟩, nmX9, rfl, by decide +kernel⟩
theorem lfc_X9_55 : LF1 RX9 55 8 8 := ⟨by decide, by decide, (RX9, TX9, 14), rfl, rfl, rfl, inG8, (mg 465 (by decide +kernel) rfl)⟩
theorem lpf_8_8 : LPf 8 8 (.array .int) := ⟨(RX9, TX9, 14), rfl, ⟨tyX9, tyX9_ok⟩, nmX9, rfl, by decide +kernel⟩
theorem lfc_X9_59 : LF1 RX9 59 8 9 := ⟨by decide, by decide, (RX9, TX9, 14), rfl, rfl, rfl, inG8, (mg 466 (by decide +kernel) rfl)⟩
theorem lpf_8_9 : LPf 8 9 (.array .int) := ⟨(RX9, TX9, 14), rfl, ⟨tyX9, tyX9_ok⟩, nmX9, rfl, by decide +kernel⟩
theorem lfc_X9_64 : LF1 RX9 64 8 10 := ⟨by decide, by decide, (RX9, TX9, 14), rfl, rfl, rfl, inG8, (mg 467 (by decide +kernel) rfl)⟩
theorem lpf_8_10 : LPf 8 10 (.array (.array .int)) := ⟨(RX9, TX9, 14), rfl, ⟨tyX9, tyX9_ok⟩, nmX9, rfl, by decide +kernel⟩
theorem lfc_X9_67 : LF1 RX9 67 8 11 := ⟨by decide, by decide, (RX9, TX9, 14), rfl, rfl, rfl, inG8, (mg 468 (by decide +kernel) rfl)⟩
theorem lpf_8_11 : LPf 8 11 (.array .int) := ⟨(RX9, TX9, 14), rfl, ⟨tyX9, tyX9_ok⟩, nmX9, rfl, by decide +kernel⟩
theorem lfc_X9_70 : LF1 RX9 70 8 12 := ⟨by decide, by decide, (RX9, TX9, 14), rfl, rfl, rfl, inG8, (mg 469 (by decide +kernel) rfl)⟩
theorem lpf_8_12 : LPf 8 12 (.array .int) := ⟨(RX9, TX9, 14), rfl, ⟨tyX9, tyX9_ok⟩, nmX9, rfl, by decide +kernel⟩
theorem lfc_X9_73 : LF1 RX9 73 8 13 := ⟨by decide, by decide, (RX9, TX9, 14), rfl, rfl, rfl, inG8, (mg 470 (by decide +kernel) rfl)⟩
theorem lpf_8_13 : LPf 8 13 (.array .int) := ⟨(RX9, TX9, 14), rfl, ⟨tyX9, tyX9_ok⟩, nmX9, rfl, by decide +kernel⟩
theorem lfd_X9_19 : LF RX9 19 8 2 := ⟨by decide, by decide, (RX9, TX9, 14), rfl, rfl, rfl, inG8, Or.inl (mg 459 (by decide +kernel) rfl)⟩
abbrev CB2 (Y : DX) (h : Nat) : va_W := (h, .inr (2, [.long 0])) :: ([] : va_W)
set_option maxHeartbeats 8000000 in
set_option maxRecDepth 100000 in
theorem oc_2 {Y : DX} {B : Nat} (ws : va_W) (h : Nat) : OkC Y B 1 M_X3_init 0 0 h (ws ++ [(h, .inr (2, [.long 0]))]) (ws ++ CB2 Y h) (h + 1) := by
  refine okCt_of (by decide +kernel) (Nat.le_of_ble_eq_true rfl) ?_
  intro X Q hX hin hR
  have hX : CCok X Y B RX3 cX3_init 1 _ _ _ := hX
  have hin : X.2.2.2.2.2.2.2.2.1.name = "<init>" := hin
  refine C_eqW (W1 := ws ++ ((h, .inr (2, [.long 0])) :: ([] : va_W))) rfl ?_
  refine C_aload 0 hX dX3_init_0 fz0 rfl ?_
  refine C_obj hX dX3_init_1 (mg 343 (by decide +kernel) rfl) (mg 176 (by decide +kernel) rfl) (mg 177 (by decide +kernel) rfl) (Nat.le_of_ble_eq_true rfl) ?_
  refine C_aload 0 hX dX3_init_4 fz0 rfl ?_
  refine C_lconst (x := 0) hX dX3_init_5 fy0 ?_
  refine C_putN (i := ws.length + 0) (W1 := ws ++ ((h, .inr (2, [.long 0])) :: ([] : va_W))) hX dX3_init_6 lfd_X3_7 lpn_2_0 ((gpx ws _ 0).trans rfl) rfl rfl rfl ((spx ws _ 0 _).trans rfl) ?_
  exact hR _ _ dX3_init_9
abbrev CB5 (Y : DX) (h : Nat) : va_W := (h, .inr (5, [.ref (h + 1), .int 0, .int 0, .int 0, .int 0, .int 0])) :: (List.append ([] : va_W) [((h + 1), .inl (Y.2.1 10, 64, .inl fun _ => 0))])
set_option maxHeartbeats 8000000 in
set_option maxRecDepth 100000 in
theorem oc_5 {Y : DX} {B : Nat} (ws : va_W) (h : Nat) : OkC Y B 1 M_X6_init 1 64 h (ws ++ [(h, .inr (5, [.null, .int 0, .int 0, .int 0, .int 0, .int 0]))]) (ws ++ CB5 Y h) (h + 2) := by
  refine okCt_of (by decide +kernel) (Nat.le_of_ble_eq_true rfl) ?_
  intro X Q hX hin hR
  have hX : CCok X Y B RX6 cX6_init 1 _ _ _ := hX
  have hin : X.2.2.2.2.2.2.2.2.1.name = "<init>" := hin
  refine C_eqW (W1 := ws ++ ((h, .inr (5, [.null, .int 0, .int 0, .int 0, .int 0, .int 0])) :: ([] : va_W))) rfl ?_
  refine C_aload 0 hX dX6_init_0 fz0 rfl ?_
  refine C_obj hX dX6_init_1 (mg 195 (by decide +kernel) rfl) (mg 176 (by decide +kernel) rfl) (mg 177 (by decide +kernel) rfl) (Nat.le_of_ble_eq_true rfl) ?_
  refine C_aload 0 hX dX6_init_4 fz0 rfl ?_
  refine C_bipush (x := 64) hX dX6_init_5 (by decide) ?_
  refine C_newaI (ty := .int) (kd := 10) (n := 64) (sz1 := (h + 2)) (c1 := 1) (k1 := 64) hX dX6_init_7 rfl rfl ac_g10 (fun h9 => h9) rfl (by decide) (by decide +kernel) (Nat.le_of_ble_eq_true rfl) (Nat.le_of_ble_eq_true rfl) (Nat.le_of_ble_eq_true rfl) rfl rfl rfl ?_
  refine C_eqW (W1 := ws ++ ((h, .inr (5, [.null, .int 0, .int 0, .int 0, .int 0, .int 0])) :: (List.append ([] : va_W) [((h + 1), .inl (Y.2.1 10, 64, .inl fun _ => 0))]))) (List.append_assoc _ _ _) ?_
  refine C_putF (i := ws.length + 0) (W1 := ws ++ ((h, .inr (5, [.ref (h + 1), .int 0, .int 0, .int 0, .int 0, .int 0])) :: (List.append ([] : va_W) [((h + 1), .inl (Y.2.1 10, 64, .inl fun _ => 0))]))) hX hin dX6_init_9 lfc_X6_11 lpf_5_0 rfl ((gpx ws _ 0).trans rfl) rfl rfl rfl ((spx ws _ 0 _).trans rfl) ?_
  refine C_aload 0 hX dX6_init_12 fz0 rfl ?_
  refine C_iconst (x := 0) hX dX6_init_13 (by decide) ?_
  refine C_putN (i := ws.length + 0) (W1 := ws ++ ((h, .inr (5, [.ref (h + 1), .int 0, .int 0, .int 0, .int 0, .int 0])) :: (List.append ([] : va_W) [((h + 1), .inl (Y.2.1 10, 64, .inl fun _ => 0))]))) hX dX6_init_14 lfd_X6_15 lpn_5_1 ((gpx ws _ 0).trans rfl) rfl rfl rfl ((spx ws _ 0 _).trans rfl) ?_
  refine C_aload 0 hX dX6_init_17 fz0 rfl ?_
  refine C_iconst (x := 0) hX dX6_init_18 (by decide) ?_
  refine C_putN (i := ws.length + 0) (W1 := ws ++ ((h, .inr (5, [.ref (h + 1), .int 0, .int 0, .int 0, .int 0, .int 0])) :: (List.append ([] : va_W) [((h + 1), .inl (Y.2.1 10, 64, .inl fun _ => 0))]))) hX dX6_init_19 lfd_X6_19 lpn_5_2 ((gpx ws _ 0).trans rfl) rfl rfl rfl ((spx ws _ 0 _).trans rfl) ?_
  refine C_aload 0 hX dX6_init_22 fz0 rfl ?_
  refine C_iconst (x := 0) hX dX6_init_23 (by decide) ?_
  refine C_putN (i := ws.length + 0) (W1 := ws ++ ((h, .inr (5, [.ref (h + 1), .int 0, .int 0, .int 0, .int 0, .int 0])) :: (List.append ([] : va_W) [((h + 1), .inl (Y.2.1 10, 64, .inl fun _ => 0))]))) hX dX6_init_24 lfd_X6_22 lpn_5_3 ((gpx ws _ 0).trans rfl) rfl rfl rfl ((spx ws _ 0 _).trans rfl) ?_
  refine C_aload 0 hX dX6_init_27 fz0 rfl ?_
  refine C_iconst (x := 0) hX dX6_init_28 (by decide) ?_
  refine C_putN (i := ws.length + 0) (W1 := ws ++ ((h, .inr (5, [.ref (h + 1), .int 0, .int 0, .int 0, .int 0, .int 0])) :: (List.append ([] : va_W) [((h + 1), .inl (Y.2.1 10, 64, .inl fun _ => 0))]))) hX dX6_init_29 lfd_X6_25 lpn_5_4 ((gpx ws _ 0).trans rfl) rfl rfl rfl ((spx ws _ 0 _).trans rfl) ?_
  refine C_aload 0 hX dX6_init_32 fz0 rfl ?_
  refine C_iconst (x := 0) hX dX6_init_33 (by decide) ?_
  refine C_putN (i := ws.length + 0) (W1 := ws ++ ((h, .inr (5, [.ref (h + 1), .int 0, .int 0, .int 0, .int 0, .int 0])) :: (List.append ([] : va_W) [((h + 1), .inl (Y.2.1 10, 64, .inl fun _ => 0))]))) hX dX6_init_34 lfd_X6_28 lpn_5_5 ((gpx ws _ 0).trans rfl) rfl rfl rfl ((spx ws _ 0 _).trans rfl) ?_
  exact hR _ _ dX6_init_37
abbrev CB3 (Y : DX) (h : Nat) : va_W := (h, .inr (3, [.int 0, .int 0, .int 0, .int 0, .ref (h + 1), .ref (h + 2), .int 0, .int 0, .int 0, .ref (h + 3), .ref (h + 5), .ref (h + 6)])) :: (List.append (List.append (List.append (List.append (List.append ([] : va_W) [((h + 1), .inl (Y.2.1 10, 5, .inl fun _ => 0))]) [((h + 2), .inl (Y.2.1 10, 5, .inl fun _ => 0))]) (CB5 Y (h + 3))) [((h + 5), .inl (Y.2.1 10, 64, .inl fun _ => 0))]) (CB5 Y (h + 6)))
set_option maxHeartbeats 8000000 in
set_option maxRecDepth 100000 in
theorem oc_3 {Y : DX} {B : Nat} (ws : va_W) (h : Nat) : OkC Y B 2 M_X4_init 7 214 h (ws ++ [(h, .inr (3, [.int 0, .int 0, .int 0, .int 0, .null, .null, .int 0, .int 0, .int 0, .null, .null, .null]))]) (ws ++ CB3 Y h) (h + 8) := by
  refine okCt_of (by decide +kernel) (Nat.le_of_ble_eq_true rfl) ?_
  intro X Q hX hin hR
  have hX : CCok X Y B RX4 cX4_init 1 _ _ _ := hX
  have hin : X.2.2.2.2.2.2.2.2.1.name = "<init>" := hin
  refine C_eqW (W1 := ws ++ ((h, .inr (3, [.int 0, .int 0, .int 0, .int 0, .null, .null, .int 0, .int 0, .int 0, .null, .null, .null])) :: ([] : va_W))) rfl ?_
  refine C_aload 0 hX dX4_init_0 fz0 rfl ?_
  refine C_obj hX dX4_init_1 (mg 189 (by decide +kernel) rfl) (mg 176 (by decide +kernel) rfl) (mg 177 (by decide +kernel) rfl) (Nat.le_of_ble_eq_true rfl) ?_
  refine C_aload 0 hX dX4_init_4 fz0 rfl ?_
  refine C_iconst (x := 0) hX dX4_init_5 (by decide) ?_
  refine C_putN (i := ws.length + 0) (W1 := ws ++ ((h, .inr (3, [.int 0, .int 0, .int 0, .int 0, .null, .null, .int 0, .int 0, .int 0, .null, .null, .null])) :: ([] : va_W))) hX dX4_init_6 lfd_X4_9 lpn_3_0 ((gpx ws _ 0).trans rfl) rfl rfl rfl ((spx ws _ 0 _).trans rfl) ?_
  refine C_aload 0 hX dX4_init_9 fz0 rfl ?_
  refine C_iconst (x := 0) hX dX4_init_10 (by decide) ?_
  refine C_putN (i := ws.length + 0) (W1 := ws ++ ((h, .inr (3, [.int 0, .int 0, .int 0, .int 0, .null, .null, .int 0, .int 0, .int 0, .null, .null, .null])) :: ([] : va_W))) hX dX4_init_11 lfd_X4_15 lpn_3_1 ((gpx ws _ 0).trans rfl) rfl rfl rfl ((spx ws _ 0 _).trans rfl) ?_
  refine C_aload 0 hX dX4_init_14 fz0 rfl ?_
  refine C_iconst (x := 0) hX dX4_init_15 (by decide) ?_
  refine C_putN (i := ws.length + 0) (W1 := ws ++ ((h, .inr (3, [.int 0, .int 0, .int 0, .int 0, .null, .null, .int 0, .int 0, .int 0, .null, .null, .null])) :: ([] : va_W))) hX dX4_init_16 lfd_X4_18 lpn_3_2 ((gpx ws _ 0).trans rfl) rfl rfl rfl ((spx ws _ 0 _).trans rfl) ?_
  refine C_aload 0 hX dX4_init_19 fz0 rfl ?_
  refine C_iconst (x := 0) hX dX4_init_20 (by decide) ?_
  refine C_putN (i := ws.length + 0) (W1 := ws ++ ((h, .inr (3, [.int 0, .int 0, .int 0, .int 0, .null, .null, .int 0, .int 0, .int 0, .null, .null, .null])) :: ([] : va_W))) hX dX4_init_21 lfd_X4_21 lpn_3_3 ((gpx ws _ 0).trans rfl) rfl rfl rfl ((spx ws _ 0 _).trans rfl) ?_
  refine C_aload 0 hX dX4_init_24 fz0 rfl ?_
  refine C_iconst (x := 5) hX dX4_init_25 (by decide) ?_
  refine C_newaI (ty := .int) (kd := 10) (n := 5) (sz1 := (h + 2)) (c1 := 1) (k1 := 5) hX dX4_init_26 rfl rfl ac_g10 (fun h9 => h9) rfl (by decide) (by decide +kernel) (Nat.le_of_ble_eq_true rfl) (Nat.le_of_ble_eq_true rfl) (Nat.le_of_ble_eq_true rfl) rfl rfl rfl ?_
  refine C_eqW (W1 := ws ++ ((h, .inr (3, [.int 0, .int 0, .int 0, .int 0, .null, .null, .int 0, .int 0, .int 0, .null, .null, .null])) :: (List.append ([] : va_W) [((h + 1), .inl (Y.2.1 10, 5, .inl fun _ => 0))]))) (List.append_assoc _ _ _) ?_
  refine C_putF (i := ws.length + 0) (W1 := ws ++ ((h, .inr (3, [.int 0, .int 0, .int 0, .int 0, .ref (h + 1), .null, .int 0, .int 0, .int 0, .null, .null, .null])) :: (List.append ([] : va_W) [((h + 1), .inl (Y.2.1 10, 5, .inl fun _ => 0))]))) hX hin dX4_init_28 lfc_X4_24 lpf_3_4 rfl ((gpx ws _ 0).trans rfl) rfl rfl rfl ((spx ws _ 0 _).trans rfl) ?_
  refine C_aload 0 hX dX4_init_31 fz0 rfl ?_
  refine C_iconst (x := 5) hX dX4_init_32 (by decide) ?_
  refine C_newaI (ty := .int) (kd := 10) (n := 5) (sz1 := (h + 3)) (c1 := 2) (k1 := 10) hX dX4_init_33 rfl rfl ac_g10 (fun h9 => h9) rfl (by decide) (by decide +kernel) (Nat.le_of_ble_eq_true rfl) (Nat.le_of_ble_eq_true rfl) (Nat.le_of_ble_eq_true rfl) rfl rfl rfl ?_
  refine C_eqW (W1 := ws ++ ((h, .inr (3, [.int 0, .int 0, .int 0, .int 0, .ref (h + 1), .null, .int 0, .int 0, .int 0, .null, .null, .null])) :: (List.append (List.append ([] : va_W) [((h + 1), .inl (Y.2.1 10, 5, .inl fun _ => 0))]) [((h + 2), .inl (Y.2.1 10, 5, .inl fun _ => 0))]))) (List.append_assoc _ _ _) ?_
  refine C_putF (i := ws.length + 0) (W1 := ws ++ ((h, .inr (3, [.int 0, .int 0, .int 0, .int 0, .ref (h + 1), .ref (h + 2), .int 0, .int 0, .int 0, .null, .null, .null])) :: (List.append (List.append ([] : va_W) [((h + 1), .inl (Y.2.1 10, 5, .inl fun _ => 0))]) [((h + 2), .inl (Y.2.1 10, 5, .inl fun _ => 0))]))) hX hin dX4_init_35 lfc_X4_28 lpf_3_5 rfl ((gpx ws _ 0).trans rfl) rfl rfl rfl ((spx ws _ 0 _).trans rfl) ?_
  refine C_aload 0 hX dX4_init_38 fz0 rfl ?_
  refine C_iconst (x := 0) hX dX4_init_39 (by decide) ?_
  refine C_putN (i := ws.length + 0) (W1 := ws ++ ((h, .inr (3, [.int 0, .int 0, .int 0, .int 0, .ref (h + 1), .ref (h + 2), .int 0, .int 0, .int 0, .null, .null, .null])) :: (List.append (List.append ([] : va_W) [((h + 1), .inl (Y.2.1 10, 5, .inl fun _ => 0))]) [((h + 2), .inl (Y.2.1 10, 5, .inl fun _ => 0))]))) hX dX4_init_40 lfd_X4_31 lpn_3_6 ((gpx ws _ 0).trans rfl) rfl rfl rfl ((spx ws _ 0 _).trans rfl) ?_
  refine C_aload 0 hX dX4_init_43 fz0 rfl ?_
  refine C_iconst (x := 0) hX dX4_init_44 (by decide) ?_
  refine C_putN (i := ws.length + 0) (W1 := ws ++ ((h, .inr (3, [.int 0, .int 0, .int 0, .int 0, .ref (h + 1), .ref (h + 2), .int 0, .int 0, .int 0, .null, .null, .null])) :: (List.append (List.append ([] : va_W) [((h + 1), .inl (Y.2.1 10, 5, .inl fun _ => 0))]) [((h + 2), .inl (Y.2.1 10, 5, .inl fun _ => 0))]))) hX dX4_init_45 lfd_X4_34 lpn_3_7 ((gpx ws _ 0).trans rfl) rfl rfl rfl ((spx ws _ 0 _).trans rfl) ?_
  refine C_aload 0 hX dX4_init_48 fz0 rfl ?_
  refine C_iconst (x := 0) hX dX4_init_49 (by decide) ?_
  refine C_putN (i := ws.length + 0) (W1 := ws ++ ((h, .inr (3, [.int 0, .int 0, .int 0, .int 0, .ref (h + 1), .ref (h + 2), .int 0, .int 0, .int 0, .null, .null, .null])) :: (List.append (List.append ([] : va_W) [((h + 1), .inl (Y.2.1 10, 5, .inl fun _ => 0))]) [((h + 2), .inl (Y.2.1 10, 5, .inl fun _ => 0))]))) hX dX4_init_50 lfd_X4_37 lpn_3_8 ((gpx ws _ 0).trans rfl) rfl rfl rfl ((spx ws _ 0 _).trans rfl) ?_
  refine C_aload 0 hX dX4_init_53 fz0 rfl ?_
  refine C_new (fs := [.null, .int 0, .int 0, .int 0, .int 0, .int 0]) (sz1 := (h + 4)) (c1 := 3) (k1 := 16) hX dX4_init_54 (mg 190 (by decide +kernel) rfl) (mg 191 (by decide +kernel) rfl) (mg 154 (by decide +kernel) rfl) (ci := 5) rfl inG5 tyX6 tyX6_ok (df_5) (Nat.le_of_ble_eq_true rfl) (Nat.le_of_ble_eq_true rfl) rfl rfl rfl ?_
  refine C_dup hX dX4_init_57 rfl ?_
  refine C_call (st := [.ref (h + 3), .ref h]) (sz1 := (h + 5)) (c1 := 4) (k1 := 80) hX dX4_init_58 mc_X4_42 (oc_5 (ws ++ ((h, .inr (3, [.int 0, .int 0, .int 0, .int 0, .ref (h + 1), .ref (h + 2), .int 0, .int 0, .int 0, .null, .null, .null])) :: (List.append (List.append ([] : va_W) [((h + 1), .inl (Y.2.1 10, 5, .inl fun _ => 0))]) [((h + 2), .inl (Y.2.1 10, 5, .inl fun _ => 0))]))) (h + 3)) rfl (Nat.le_of_ble_eq_true rfl) (Nat.le_of_ble_eq_true rfl) (Nat.le_of_ble_eq_true rfl) (Nat.le_of_ble_eq_true rfl) (Nat.le_of_ble_eq_true rfl) rfl rfl ?_
  refine C_eqW (W1 := ws ++ ((h, .inr (3, [.int 0, .int 0, .int 0, .int 0, .ref (h + 1), .ref (h + 2), .int 0, .int 0, .int 0, .null, .null, .null])) :: (List.append (List.append (List.append ([] : va_W) [((h + 1), .inl (Y.2.1 10, 5, .inl fun _ => 0))]) [((h + 2), .inl (Y.2.1 10, 5, .inl fun _ => 0))]) (CB5 Y (h + 3))))) (List.append_assoc _ _ _) ?_
  refine C_putF (i := ws.length + 0) (W1 := ws ++ ((h, .inr (3, [.int 0, .int 0, .int 0, .int 0, .ref (h + 1), .ref (h + 2), .int 0, .int 0, .int 0, .ref (h + 3), .null, .null])) :: (List.append (List.append (List.append ([] : va_W) [((h + 1), .inl (Y.2.1 10, 5, .inl fun _ => 0))]) [((h + 2), .inl (Y.2.1 10, 5, .inl fun _ => 0))]) (CB5 Y (h + 3))))) hX hin dX4_init_61 lfc_X4_43 lpf_3_9 rfl ((gpx ws _ 0).trans rfl) rfl rfl rfl ((spx ws _ 0 _).trans rfl) ?_
  refine C_aload 0 hX dX4_init_64 fz0 rfl ?_
  refine C_bipush (x := 64) hX dX4_init_65 (by decide) ?_
  refine C_newaI (ty := .int) (kd := 10) (n := 64) (sz1 := (h + 6)) (c1 := 5) (k1 := 144) hX dX4_init_67 rfl rfl ac_g10 (fun h9 => h9) rfl (by decide) (by decide +kernel) (Nat.le_of_ble_eq_true rfl) (Nat.le_of_ble_eq_true rfl) (Nat.le_of_ble_eq_true rfl) rfl rfl rfl ?_
  refine C_eqW (W1 := ws ++ ((h, .inr (3, [.int 0, .int 0, .int 0, .int 0, .ref (h + 1), .ref (h + 2), .int 0, .int 0, .int 0, .ref (h + 3), .null, .null])) :: (List.append (List.append (List.append (List.append ([] : va_W) [((h + 1), .inl (Y.2.1 10, 5, .inl fun _ => 0))]) [((h + 2), .inl (Y.2.1 10, 5, .inl fun _ => 0))]) (CB5 Y (h + 3))) [((h + 5), .inl (Y.2.1 10, 64, .inl fun _ => 0))]))) (List.append_assoc _ _ _) ?_
  refine C_putF (i := ws.length + 0) (W1 := ws ++ ((h, .inr (3, [.int 0, .int 0, .int 0, .int 0, .ref (h + 1), .ref (h + 2), .int 0, .int 0, .int 0, .ref (h + 3), .ref (h + 5), .null])) :: (List.append (List.append (List.append (List.append ([] : va_W) [((h + 1), .inl (Y.2.1 10, 5, .inl fun _ => 0))]) [((h + 2), .inl (Y.2.1 10, 5, .inl fun _ => 0))]) (CB5 Y (h + 3))) [((h + 5), .inl (Y.2.1 10, 64, .inl fun _ => 0))]))) hX hin dX4_init_69 lfc_X4_47 lpf_3_10 rfl ((gpx ws _ 0).trans rfl) rfl rfl rfl ((spx ws _ 0 _).trans rfl) ?_
  refine C_aload 0 hX dX4_init_72 fz0 rfl ?_
  refine C_new (fs := [.null, .int 0, .int 0, .int 0, .int 0, .int 0]) (sz1 := (h + 7)) (c1 := 6) (k1 := 150) hX dX4_init_73 (mg 190 (by decide +kernel) rfl) (mg 191 (by decide +kernel) rfl) (mg 154 (by decide +kernel) rfl) (ci := 5) rfl inG5 tyX6 tyX6_ok (df_5) (Nat.le_of_ble_eq_true rfl) (Nat.le_of_ble_eq_true rfl) rfl rfl rfl ?_
  refine C_dup hX dX4_init_76 rfl ?_
  refine C_call (st := [.ref (h + 6), .ref h]) (sz1 := (h + 8)) (c1 := 7) (k1 := 214) hX dX4_init_77 mc_X4_42 (oc_5 (ws ++ ((h, .inr (3, [.int 0, .int 0, .int 0, .int 0, .ref (h + 1), .ref (h + 2), .int 0, .int 0, .int 0, .ref (h + 3), .ref (h + 5), .null])) :: (List.append (List.append (List.append (List.append ([] : va_W) [((h + 1), .inl (Y.2.1 10, 5, .inl fun _ => 0))]) [((h + 2), .inl (Y.2.1 10, 5, .inl fun _ => 0))]) (CB5 Y (h + 3))) [((h + 5), .inl (Y.2.1 10, 64, .inl fun _ => 0))]))) (h + 6)) rfl (Nat.le_of_ble_eq_true rfl) (Nat.le_of_ble_eq_true rfl) (Nat.le_of_ble_eq_true rfl) (Nat.le_of_ble_eq_true rfl) (Nat.le_of_ble_eq_true rfl) rfl rfl ?_
  refine C_eqW (W1 := ws ++ ((h, .inr (3, [.int 0, .int 0, .int 0, .int 0, .ref (h + 1), .ref (h + 2), .int 0, .int 0, .int 0, .ref (h + 3), .ref (h + 5), .null])) :: (List.append (List.append (List.append (List.append (List.append ([] : va_W) [((h + 1), .inl (Y.2.1 10, 5, .inl fun _ => 0))]) [((h + 2), .inl (Y.2.1 10, 5, .inl fun _ => 0))]) (CB5 Y (h + 3))) [((h + 5), .inl (Y.2.1 10, 64, .inl fun _ => 0))]) (CB5 Y (h + 6))))) (List.append_assoc _ _ _) ?_
  refine C_putF (i := ws.length + 0) (W1 := ws ++ ((h, .inr (3, [.int 0, .int 0, .int 0, .int 0, .ref (h + 1), .ref (h + 2), .int 0, .int 0, .int 0, .ref (h + 3), .ref (h + 5), .ref (h + 6)])) :: (List.append (List.append (List.append (List.append (List.append ([] : va_W) [((h + 1), .inl (Y.2.1 10, 5, .inl fun _ => 0))]) [((h + 2), .inl (Y.2.1 10, 5, .inl fun _ => 0))]) (CB5 Y (h + 3))) [((h + 5), .inl (Y.2.1 10, 64, .inl fun _ => 0))]) (CB5 Y (h + 6))))) hX hin dX4_init_80 lfc_X4_50 lpf_3_11 rfl ((gpx ws _ 0).trans rfl) rfl rfl rfl ((spx ws _ 0 _).trans rfl) ?_
  exact hR _ _ dX4_init_83
abbrev CB4 (Y : DX) (h : Nat) : va_W := (h, .inr (4, [.ref (h + 1), .int 0, .ref (h + 9), .int 0, .int 0, .int 0, .ref (h + 10), .ref (h + 11), .ref (h + 20), .ref (h + 21)])) :: (List.append (List.append (List.append (List.append (List.append (List.append ([] : va_W) (CB3 Y (h + 1))) [((h + 9), .inl (Y.2.1 10, 3, .inl fun _ => 0))]) [((h + 10), .inl (Y.2.1 10, 8, .inl fun _ => 0))]) (GRI Y (h + 11) 8 45)) [((h + 20), .inl (Y.2.1 10, 45, .inl fun _ => 0))]) [((h + 21), .inl (Y.2.1 10, 46, .inl fun _ => 0))])
set_option maxHeartbeats 8000000 in
set_option maxRecDepth 100000 in
theorem oc_4 {Y : DX} {B : Nat} (ws : va_W) (h : Nat) : OkC Y B 3 M_X5_init 21 696 h (ws ++ [(h, .inr (4, [.null, .int 0, .null, .int 0, .int 0, .int 0, .null, .null, .null, .null]))]) (ws ++ CB4 Y h) (h + 22) := by
  refine okCt_of (by decide +kernel) (Nat.le_of_ble_eq_true rfl) ?_
  intro X Q hX hin hR
  have hX : CCok X Y B RX5 cX5_init 1 _ _ _ := hX
  have hin : X.2.2.2.2.2.2.2.2.1.name = "<init>" := hin
  refine C_eqW (W1 := ws ++ ((h, .inr (4, [.null, .int 0, .null, .int 0, .int 0, .int 0, .null, .null, .null, .null])) :: ([] : va_W))) rfl ?_
  refine C_aload 0 hX dX5_init_0 fz0 rfl ?_
  refine C_obj hX dX5_init_1 (mg 183 (by decide +kernel) rfl) (mg 176 (by decide +kernel) rfl) (mg 177 (by decide +kernel) rfl) (Nat.le_of_ble_eq_true rfl) ?_
  refine C_aload 0 hX dX5_init_4 fz0 rfl ?_
  refine C_new (fs := [.int 0, .int 0, .int 0, .int 0, .null, .null, .int 0, .int 0, .int 0, .null, .null, .null]) (sz1 := (h + 2)) (c1 := 1) (k1 := 12) hX dX5_init_5 (mg 184 (by decide +kernel) rfl) (mg 185 (by decide +kernel) rfl) (mg 153 (by decide +kernel) rfl) (ci := 3) rfl inG3 tyX4 tyX4_ok (df_3) (Nat.le_of_ble_eq_true rfl) (Nat.le_of_ble_eq_true rfl) rfl rfl rfl ?_
  refine C_dup hX dX5_init_8 rfl ?_
  refine C_call (st := [.ref (h + 1), .ref h]) (sz1 := (h + 9)) (c1 := 8) (k1 := 226) hX dX5_init_9 mc_X5_11 (oc_3 (ws ++ ((h, .inr (4, [.null, .int 0, .null, .int 0, .int 0, .int 0, .null, .null, .null, .null])) :: ([] : va_W))) (h + 1)) rfl (Nat.le_of_ble_eq_true rfl) (Nat.le_of_ble_eq_true rfl) (Nat.le_of_ble_eq_true rfl) (Nat.le_of_ble_eq_true rfl) (Nat.le_of_ble_eq_true rfl) rfl rfl ?_
  refine C_eqW (W1 := ws ++ ((h, .inr (4, [.null, .int 0, .null, .int 0, .int 0, .int 0, .null, .null, .null, .null])) :: (List.append ([] : va_W) (CB3 Y (h + 1))))) (List.append_assoc _ _ _) ?_
  refine C_putF (i := ws.length + 0) (W1 := ws ++ ((h, .inr (4, [.ref (h + 1), .int 0, .null, .int 0, .int 0, .int 0, .null, .null, .null, .null])) :: (List.append ([] : va_W) (CB3 Y (h + 1))))) hX hin dX5_init_12 lfc_X5_12 lpf_4_0 rfl ((gpx ws _ 0).trans rfl) rfl rfl rfl ((spx ws _ 0 _).trans rfl) ?_
  refine C_aload 0 hX dX5_init_15 fz0 rfl ?_
  refine C_iconst (x := 0) hX dX5_init_16 (by decide) ?_
  refine C_putN (i := ws.length + 0) (W1 := ws ++ ((h, .inr (4, [.ref (h + 1), .int 0, .null, .int 0, .int 0, .int 0, .null, .null, .null, .null])) :: (List.append ([] : va_W) (CB3 Y (h + 1))))) hX dX5_init_17 lfd_X5_18 lpn_4_1 ((gpx ws _ 0).trans rfl) rfl rfl rfl ((spx ws _ 0 _).trans rfl) ?_
  refine C_aload 0 hX dX5_init_20 fz0 rfl ?_
  refine C_iconst (x := 3) hX dX5_init_21 (by decide) ?_
  refine C_newaI (ty := .int) (kd := 10) (n := 3) (sz1 := (h + 10)) (c1 := 9) (k1 := 229) hX dX5_init_22 rfl rfl ac_g10 (fun h9 => h9) rfl (by decide) (by decide +kernel) (Nat.le_of_ble_eq_true rfl) (Nat.le_of_ble_eq_true rfl) (Nat.le_of_ble_eq_true rfl) rfl rfl rfl ?_
  refine C_eqW (W1 := ws ++ ((h, .inr (4, [.ref (h + 1), .int 0, .null, .int 0, .int 0, .int 0, .null, .null, .null, .null])) :: (List.append (List.append ([] : va_W) (CB3 Y (h + 1))) [((h + 9), .inl (Y.2.1 10, 3, .inl fun _ => 0))]))) (List.append_assoc _ _ _) ?_
  refine C_putF (i := ws.length + 0) (W1 := ws ++ ((h, .inr (4, [.ref (h + 1), .int 0, .ref (h + 9), .int 0, .int 0, .int 0, .null, .null, .null, .null])) :: (List.append (List.append ([] : va_W) (CB3 Y (h + 1))) [((h + 9), .inl (Y.2.1 10, 3, .inl fun _ => 0))]))) hX hin dX5_init_24 lfc_X5_22 lpf_4_2 rfl ((gpx ws _ 0).trans rfl) rfl rfl rfl ((spx ws _ 0 _).trans rfl) ?_
  refine C_aload 0 hX dX5_init_27 fz0 rfl ?_
  refine C_iconst (x := 0) hX dX5_init_28 (by decide) ?_
  refine C_putN (i := ws.length + 0) (W1 := ws ++ ((h, .inr (4, [.ref (h + 1), .int 0, .ref (h + 9), .int 0, .int 0, .int 0, .null, .null, .null, .null])) :: (List.append (List.append ([] : va_W) (CB3 Y (h + 1))) [((h + 9), .inl (Y.2.1 10, 3, .inl fun _ => 0))]))) hX dX5_init_29 lfd_X5_26 lpn_4_3 ((gpx ws _ 0).trans rfl) rfl rfl rfl ((spx ws _ 0 _).trans rfl) ?_
  refine C_aload 0 hX dX5_init_32 fz0 rfl ?_
  refine C_iconst (x := 0) hX dX5_init_33 (by decide) ?_
  refine C_putN (i := ws.length + 0) (W1 := ws ++ ((h, .inr (4, [.ref (h + 1), .int 0, .ref (h + 9), .int 0, .int 0, .int 0, .null, .null, .null, .null])) :: (List.append (List.append ([] : va_W) (CB3 Y (h + 1))) [((h + 9), .inl (Y.2.1 10, 3, .inl fun _ => 0))]))) hX dX5_init_34 lfd_X5_29 lpn_4_4 ((gpx ws _ 0).trans rfl) rfl rfl rfl ((spx ws _ 0 _).trans rfl) ?_
  refine C_aload 0 hX dX5_init_37 fz0 rfl ?_
  refine C_iconst (x := 0) hX dX5_init_38 (by decide) ?_
  refine C_putN (i := ws.length + 0) (W1 := ws ++ ((h, .inr (4, [.ref (h + 1), .int 0, .ref (h + 9), .int 0, .int 0, .int 0, .null, .null, .null, .null])) :: (List.append (List.append ([] : va_W) (CB3 Y (h + 1))) [((h + 9), .inl (Y.2.1 10, 3, .inl fun _ => 0))]))) hX dX5_init_39 lfd_X5_32 lpn_4_5 ((gpx ws _ 0).trans rfl) rfl rfl rfl ((spx ws _ 0 _).trans rfl) ?_
  refine C_aload 0 hX dX5_init_42 fz0 rfl ?_
  refine C_bipush (x := 8) hX dX5_init_43 (by decide) ?_
  refine C_newaI (ty := .int) (kd := 10) (n := 8) (sz1 := (h + 11)) (c1 := 10) (k1 := 237) hX dX5_init_45 rfl rfl ac_g10 (fun h9 => h9) rfl (by decide) (by decide +kernel) (Nat.le_of_ble_eq_true rfl) (Nat.le_of_ble_eq_true rfl) (Nat.le_of_ble_eq_true rfl) rfl rfl rfl ?_
  refine C_eqW (W1 := ws ++ ((h, .inr (4, [.ref (h + 1), .int 0, .ref (h + 9), .int 0, .int 0, .int 0, .null, .null, .null, .null])) :: (List.append (List.append (List.append ([] : va_W) (CB3 Y (h + 1))) [((h + 9), .inl (Y.2.1 10, 3, .inl fun _ => 0))]) [((h + 10), .inl (Y.2.1 10, 8, .inl fun _ => 0))]))) (List.append_assoc _ _ _) ?_
  refine C_putF (i := ws.length + 0) (W1 := ws ++ ((h, .inr (4, [.ref (h + 1), .int 0, .ref (h + 9), .int 0, .int 0, .int 0, .ref (h + 10), .null, .null, .null])) :: (List.append (List.append (List.append ([] : va_W) (CB3 Y (h + 1))) [((h + 9), .inl (Y.2.1 10, 3, .inl fun _ => 0))]) [((h + 10), .inl (Y.2.1 10, 8, .inl fun _ => 0))]))) hX hin dX5_init_47 lfc_X5_35 lpf_4_6 rfl ((gpx ws _ 0).trans rfl) rfl rfl rfl ((spx ws _ 0 _).trans rfl) ?_
  refine C_aload 0 hX dX5_init_50 fz0 rfl ?_
  refine C_bipush (x := 8) hX dX5_init_51 (by decide) ?_
  refine C_bipush (x := 45) hX dX5_init_53 (by decide) ?_
  refine C_mna (ty := .int) (kd := 14) (kd2 := 10) (n := 8) (m := 45) (z := (45, .inl fun _ => 0)) (sz1 := (h + 20)) (c1 := 19) (k1 := 605) hX dX5_init_55 (mg 282 (by decide +kernel) rfl) hX.2.2.2.2.2.2.2.2.2.2.1 ac_g10 (fun h9 => h9) rfl rfl (by decide) (by decide) (by decide +kernel) (by decide +kernel) (Nat.le_of_ble_eq_true rfl) (Nat.le_of_ble_eq_true rfl) (Nat.le_of_ble_eq_true rfl) rfl rfl (fun cq => by rw [vp_cell_i, ← arrV_new]; rfl) (Nat.le_of_ble_eq_true rfl) (Nat.le_of_ble_eq_true rfl) rfl rfl rfl ?_
  refine C_eqW (W1 := ws ++ ((h, .inr (4, [.ref (h + 1), .int 0, .ref (h + 9), .int 0, .int 0, .int 0, .ref (h + 10), .null, .null, .null])) :: (List.append (List.append (List.append (List.append ([] : va_W) (CB3 Y (h + 1))) [((h + 9), .inl (Y.2.1 10, 3, .inl fun _ => 0))]) [((h + 10), .inl (Y.2.1 10, 8, .inl fun _ => 0))]) (GRI Y (h + 11) 8 45)))) (List.append_assoc _ _ _) ?_
  refine C_putF (i := ws.length + 0) (W1 := ws ++ ((h, .inr (4, [.ref (h + 1), .int 0, .ref (h + 9), .int 0, .int 0, .int 0, .ref (h + 10), .ref (h + 11), .null, .null])) :: (List.append (List.append (List.append (List.append ([] : va_W) (CB3 Y (h + 1))) [((h + 9), .inl (Y.2.1 10, 3, .inl fun _ => 0))]) [((h + 10), .inl (Y.2.1 10, 8, .inl fun _ => 0))]) (GRI Y (h + 11) 8 45)))) hX hin dX5_init_59 lfc_X5_40 lpf_4_7 rfl ((gpx ws _ 0).trans rfl) rfl rfl rfl ((spx ws _ 0 _).trans rfl) ?_
  refine C_aload 0 hX dX5_init_62 fz0 rfl ?_
  refine C_bipush (x := 45) hX dX5_init_63 (by decide) ?_
  refine C_newaI (ty := .int) (kd := 10) (n := 45) (sz1 := (h + 21)) (c1 := 20) (k1 := 650) hX dX5_init_65 rfl rfl ac_g10 (fun h9 => h9) rfl (by decide) (by decide +kernel) (Nat.le_of_ble_eq_true rfl) (Nat.le_of_ble_eq_true rfl) (Nat.le_of_ble_eq_true rfl) rfl rfl rfl ?_
  refine C_eqW (W1 := ws ++ ((h, .inr (4, [.ref (h + 1), .int 0, .ref (h + 9), .int 0, .int 0, .int 0, .ref (h + 10), .ref (h + 11), .null, .null])) :: (List.append (List.append (List.append (List.append (List.append ([] : va_W) (CB3 Y (h + 1))) [((h + 9), .inl (Y.2.1 10, 3, .inl fun _ => 0))]) [((h + 10), .inl (Y.2.1 10, 8, .inl fun _ => 0))]) (GRI Y (h + 11) 8 45)) [((h + 20), .inl (Y.2.1 10, 45, .inl fun _ => 0))]))) (List.append_assoc _ _ _) ?_
  refine C_putF (i := ws.length + 0) (W1 := ws ++ ((h, .inr (4, [.ref (h + 1), .int 0, .ref (h + 9), .int 0, .int 0, .int 0, .ref (h + 10), .ref (h + 11), .ref (h + 20), .null])) :: (List.append (List.append (List.append (List.append (List.append ([] : va_W) (CB3 Y (h + 1))) [((h + 9), .inl (Y.2.1 10, 3, .inl fun _ => 0))]) [((h + 10), .inl (Y.2.1 10, 8, .inl fun _ => 0))]) (GRI Y (h + 11) 8 45)) [((h + 20), .inl (Y.2.1 10, 45, .inl fun _ => 0))]))) hX hin dX5_init_67 lfc_X5_43 lpf_4_8 rfl ((gpx ws _ 0).trans rfl) rfl rfl rfl ((spx ws _ 0 _).trans rfl) ?_
  refine C_aload 0 hX dX5_init_70 fz0 rfl ?_
  refine C_bipush (x := 46) hX dX5_init_71 (by decide) ?_
  refine C_newaI (ty := .int) (kd := 10) (n := 46) (sz1 := (h + 22)) (c1 := 21) (k1 := 696) hX dX5_init_73 rfl rfl ac_g10 (fun h9 => h9) rfl (by decide) (by decide +kernel) (Nat.le_of_ble_eq_true rfl) (Nat.le_of_ble_eq_true rfl) (Nat.le_of_ble_eq_true rfl) rfl rfl rfl ?_
  refine C_eqW (W1 := ws ++ ((h, .inr (4, [.ref (h + 1), .int 0, .ref (h + 9), .int 0, .int 0, .int 0, .ref (h + 10), .ref (h + 11), .ref (h + 20), .null])) :: (List.append (List.append (List.append (List.append (List.append (List.append ([] : va_W) (CB3 Y (h + 1))) [((h + 9), .inl (Y.2.1 10, 3, .inl fun _ => 0))]) [((h + 10), .inl (Y.2.1 10, 8, .inl fun _ => 0))]) (GRI Y (h + 11) 8 45)) [((h + 20), .inl (Y.2.1 10, 45, .inl fun _ => 0))]) [((h + 21), .inl (Y.2.1 10, 46, .inl fun _ => 0))]))) (List.append_assoc _ _ _) ?_
  refine C_putF (i := ws.length + 0) (W1 := ws ++ ((h, .inr (4, [.ref (h + 1), .int 0, .ref (h + 9), .int 0, .int 0, .int 0, .ref (h + 10), .ref (h + 11), .ref (h + 20), .ref (h + 21)])) :: (List.append (List.append (List.append (List.append (List.append (List.append ([] : va_W) (CB3 Y (h + 1))) [((h + 9), .inl (Y.2.1 10, 3, .inl fun _ => 0))]) [((h + 10), .inl (Y.2.1 10, 8, .inl fun _ => 0))]) (GRI Y (h + 11) 8 45)) [((h + 20), .inl (Y.2.1 10, 45, .inl fun _ => 0))]) [((h + 21), .inl (Y.2.1 10, 46, .inl fun _ => 0))]))) hX hin dX5_init_75 lfc_X5_46 lpf_4_9 rfl ((gpx ws _ 0).trans rfl) rfl rfl rfl ((spx ws _ 0 _).trans rfl) ?_
  exact hR _ _ dX5_init_78
abbrev CB1 (Y : DX) (h : Nat) : va_W := (h, .inr (1, [.ref (h + 1), .ref (h + 2), .ref (h + 3), .ref (h + 4), .ref (h + 5)])) :: (List.append (List.append (List.append (List.append (List.append ([] : va_W) (CB2 Y (h + 1))) [((h + 2), .inl (Y.2.1 10, 3, .inl fun _ => 0))]) [((h + 3), .inl (Y.2.1 10, 9, .inl fun _ => 0))]) [((h + 4), .inl (Y.2.1 10, 15, .inl fun _ => 0))]) [((h + 5), .inl (Y.2.1 10, 3, .inl fun _ => 0))])
set_option maxHeartbeats 8000000 in
set_option maxRecDepth 100000 in
theorem oc_1 {Y : DX} {B : Nat} (ws : va_W) (h : Nat) : OkC Y B 2 M_X2_init 5 31 h (ws ++ [(h, .inr (1, [.null, .null, .null, .null, .null]))]) (ws ++ CB1 Y h) (h + 6) := by
  refine okCt_of (by decide +kernel) (Nat.le_of_ble_eq_true rfl) ?_
  intro X Q hX hin hR
  have hX : CCok X Y B RX2 cX2_init 1 _ _ _ := hX
  have hin : X.2.2.2.2.2.2.2.2.1.name = "<init>" := hin
  refine C_eqW (W1 := ws ++ ((h, .inr (1, [.null, .null, .null, .null, .null])) :: ([] : va_W))) rfl ?_
  refine C_aload 0 hX dX2_init_0 fz0 rfl ?_
  refine C_obj hX dX2_init_1 (mg 337 (by decide +kernel) rfl) (mg 176 (by decide +kernel) rfl) (mg 177 (by decide +kernel) rfl) (Nat.le_of_ble_eq_true rfl) ?_
  refine C_aload 0 hX dX2_init_4 fz0 rfl ?_
  refine C_new (fs := [.long 0]) (sz1 := (h + 2)) (c1 := 1) (k1 := 1) hX dX2_init_5 (mg 338 (by decide +kernel) rfl) (mg 339 (by decide +kernel) rfl) (mg 156 (by decide +kernel) rfl) (ci := 2) rfl inG2 tyX3 tyX3_ok (df_2) (Nat.le_of_ble_eq_true rfl) (Nat.le_of_ble_eq_true rfl) rfl rfl rfl ?_
  refine C_dup hX dX2_init_8 rfl ?_
  refine C_call (st := [.ref (h + 1), .ref h]) (sz1 := (h + 2)) (c1 := 1) (k1 := 1) hX dX2_init_9 mc_X2_11 (oc_2 (ws ++ ((h, .inr (1, [.null, .null, .null, .null, .null])) :: ([] : va_W))) (h + 1)) rfl (Nat.le_of_ble_eq_true rfl) (Nat.le_of_ble_eq_true rfl) (Nat.le_of_ble_eq_true rfl) (Nat.le_of_ble_eq_true rfl) (Nat.le_of_ble_eq_true rfl) rfl rfl ?_
  refine C_eqW (W1 := ws ++ ((h, .inr (1, [.null, .null, .null, .null, .null])) :: (List.append ([] : va_W) (CB2 Y (h + 1))))) (List.append_assoc _ _ _) ?_
  refine C_putF (i := ws.length + 0) (W1 := ws ++ ((h, .inr (1, [.ref (h + 1), .null, .null, .null, .null])) :: (List.append ([] : va_W) (CB2 Y (h + 1))))) hX hin dX2_init_12 lfc_X2_12 lpf_1_0 rfl ((gpx ws _ 0).trans rfl) rfl rfl rfl ((spx ws _ 0 _).trans rfl) ?_
  refine C_aload 0 hX dX2_init_15 fz0 rfl ?_
  refine C_iconst (x := 3) hX dX2_init_16 (by decide) ?_
  refine C_newaI (ty := .int) (kd := 10) (n := 3) (sz1 := (h + 3)) (c1 := 2) (k1 := 4) hX dX2_init_17 rfl rfl ac_g10 (fun h9 => h9) rfl (by decide) (by decide +kernel) (Nat.le_of_ble_eq_true rfl) (Nat.le_of_ble_eq_true rfl) (Nat.le_of_ble_eq_true rfl) rfl rfl rfl ?_
  refine C_eqW (W1 := ws ++ ((h, .inr (1, [.ref (h + 1), .null, .null, .null, .null])) :: (List.append (List.append ([] : va_W) (CB2 Y (h + 1))) [((h + 2), .inl (Y.2.1 10, 3, .inl fun _ => 0))]))) (List.append_assoc _ _ _) ?_
  refine C_putF (i := ws.length + 0) (W1 := ws ++ ((h, .inr (1, [.ref (h + 1), .ref (h + 2), .null, .null, .null])) :: (List.append (List.append ([] : va_W) (CB2 Y (h + 1))) [((h + 2), .inl (Y.2.1 10, 3, .inl fun _ => 0))]))) hX hin dX2_init_19 lfc_X2_18 lpf_1_1 rfl ((gpx ws _ 0).trans rfl) rfl rfl rfl ((spx ws _ 0 _).trans rfl) ?_
  refine C_aload 0 hX dX2_init_22 fz0 rfl ?_
  refine C_bipush (x := 9) hX dX2_init_23 (by decide) ?_
  refine C_newaI (ty := .int) (kd := 10) (n := 9) (sz1 := (h + 4)) (c1 := 3) (k1 := 13) hX dX2_init_25 rfl rfl ac_g10 (fun h9 => h9) rfl (by decide) (by decide +kernel) (Nat.le_of_ble_eq_true rfl) (Nat.le_of_ble_eq_true rfl) (Nat.le_of_ble_eq_true rfl) rfl rfl rfl ?_
  refine C_eqW (W1 := ws ++ ((h, .inr (1, [.ref (h + 1), .ref (h + 2), .null, .null, .null])) :: (List.append (List.append (List.append ([] : va_W) (CB2 Y (h + 1))) [((h + 2), .inl (Y.2.1 10, 3, .inl fun _ => 0))]) [((h + 3), .inl (Y.2.1 10, 9, .inl fun _ => 0))]))) (List.append_assoc _ _ _) ?_
  refine C_putF (i := ws.length + 0) (W1 := ws ++ ((h, .inr (1, [.ref (h + 1), .ref (h + 2), .ref (h + 3), .null, .null])) :: (List.append (List.append (List.append ([] : va_W) (CB2 Y (h + 1))) [((h + 2), .inl (Y.2.1 10, 3, .inl fun _ => 0))]) [((h + 3), .inl (Y.2.1 10, 9, .inl fun _ => 0))]))) hX hin dX2_init_27 lfc_X2_22 lpf_1_2 rfl ((gpx ws _ 0).trans rfl) rfl rfl rfl ((spx ws _ 0 _).trans rfl) ?_
  refine C_aload 0 hX dX2_init_30 fz0 rfl ?_
  refine C_bipush (x := 15) hX dX2_init_31 (by decide) ?_
  refine C_newaI (ty := .int) (kd := 10) (n := 15) (sz1 := (h + 5)) (c1 := 4) (k1 := 28) hX dX2_init_33 rfl rfl ac_g10 (fun h9 => h9) rfl (by decide) (by decide +kernel) (Nat.le_of_ble_eq_true rfl) (Nat.le_of_ble_eq_true rfl) (Nat.le_of_ble_eq_true rfl) rfl rfl rfl ?_
  refine C_eqW (W1 := ws ++ ((h, .inr (1, [.ref (h + 1), .ref (h + 2), .ref (h + 3), .null, .null])) :: (List.append (List.append (List.append (List.append ([] : va_W) (CB2 Y (h + 1))) [((h + 2), .inl (Y.2.1 10, 3, .inl fun _ => 0))]) [((h + 3), .inl (Y.2.1 10, 9, .inl fun _ => 0))]) [((h + 4), .inl (Y.2.1 10, 15, .inl fun _ => 0))]))) (List.append_assoc _ _ _) ?_
  refine C_putF (i := ws.length + 0) (W1 := ws ++ ((h, .inr (1, [.ref (h + 1), .ref (h + 2), .ref (h + 3), .ref (h + 4), .null])) :: (List.append (List.append (List.append (List.append ([] : va_W) (CB2 Y (h + 1))) [((h + 2), .inl (Y.2.1 10, 3, .inl fun _ => 0))]) [((h + 3), .inl (Y.2.1 10, 9, .inl fun _ => 0))]) [((h + 4), .inl (Y.2.1 10, 15, .inl fun _ => 0))]))) hX hin dX2_init_35 lfc_X2_25 lpf_1_3 rfl ((gpx ws _ 0).trans rfl) rfl rfl rfl ((spx ws _ 0 _).trans rfl) ?_
  refine C_aload 0 hX dX2_init_38 fz0 rfl ?_
  refine C_iconst (x := 3) hX dX2_init_39 (by decide) ?_
  refine C_newaI (ty := .int) (kd := 10) (n := 3) (sz1 := (h + 6)) (c1 := 5) (k1 := 31) hX dX2_init_40 rfl rfl ac_g10 (fun h9 => h9) rfl (by decide) (by decide +kernel) (Nat.le_of_ble_eq_true rfl) (Nat.le_of_ble_eq_true rfl) (Nat.le_of_ble_eq_true rfl) rfl rfl rfl ?_
  refine C_eqW (W1 := ws ++ ((h, .inr (1, [.ref (h + 1), .ref (h + 2), .ref (h + 3), .ref (h + 4), .null])) :: (List.append (List.append (List.append (List.append (List.append ([] : va_W) (CB2 Y (h + 1))) [((h + 2), .inl (Y.2.1 10, 3, .inl fun _ => 0))]) [((h + 3), .inl (Y.2.1 10, 9, .inl fun _ => 0))]) [((h + 4), .inl (Y.2.1 10, 15, .inl fun _ => 0))]) [((h + 5), .inl (Y.2.1 10, 3, .inl fun _ => 0))]))) (List.append_assoc _ _ _) ?_
  refine C_putF (i := ws.length + 0) (W1 := ws ++ ((h, .inr (1, [.ref (h + 1), .ref (h + 2), .ref (h + 3), .ref (h + 4), .ref (h + 5)])) :: (List.append (List.append (List.append (List.append (List.append ([] : va_W) (CB2 Y (h + 1))) [((h + 2), .inl (Y.2.1 10, 3, .inl fun _ => 0))]) [((h + 3), .inl (Y.2.1 10, 9, .inl fun _ => 0))]) [((h + 4), .inl (Y.2.1 10, 15, .inl fun _ => 0))]) [((h + 5), .inl (Y.2.1 10, 3, .inl fun _ => 0))]))) hX hin dX2_init_42 lfc_X2_28 lpf_1_4 rfl ((gpx ws _ 0).trans rfl) rfl rfl rfl ((spx ws _ 0 _).trans rfl) ?_
  exact hR _ _ dX2_init_45
abbrev CB0 (Y : DX) (h : Nat) : va_W := (h, .inr (0, [.int 0, .int 0, .int 0, .ref (h + 1), .ref (h + 2)])) :: (List.append (List.append ([] : va_W) [((h + 1), .inl (Y.2.1 10, 15, .inl fun _ => 0))]) [((h + 2), .inl (Y.2.1 10, 3, .inl fun _ => 0))])
set_option maxHeartbeats 8000000 in
set_option maxRecDepth 100000 in
theorem oc_0 {Y : DX} {B : Nat} (ws : va_W) (h : Nat) : OkC Y B 1 M_X0_init 2 18 h (ws ++ [(h, .inr (0, [.int 0, .int 0, .int 0, .null, .null]))]) (ws ++ CB0 Y h) (h + 3) := by
  refine okCt_of (by decide +kernel) (Nat.le_of_ble_eq_true rfl) ?_
  intro X Q hX hin hR
  have hX : CCok X Y B RX0 cX0_init 1 _ _ _ := hX
  have hin : X.2.2.2.2.2.2.2.2.1.name = "<init>" := hin
  refine C_eqW (W1 := ws ++ ((h, .inr (0, [.int 0, .int 0, .int 0, .null, .null])) :: ([] : va_W))) rfl ?_
  refine C_aload 0 hX dX0_init_0 fz0 rfl ?_
  refine C_obj hX dX0_init_1 (mg 439 (by decide +kernel) rfl) (mg 176 (by decide +kernel) rfl) (mg 177 (by decide +kernel) rfl) (Nat.le_of_ble_eq_true rfl) ?_
  refine C_aload 0 hX dX0_init_4 fz0 rfl ?_
  refine C_iconst (x := 0) hX dX0_init_5 (by decide) ?_
  refine C_putN (i := ws.length + 0) (W1 := ws ++ ((h, .inr (0, [.int 0, .int 0, .int 0, .null, .null])) :: ([] : va_W))) hX dX0_init_6 lfd_X0_9 lpn_0_0 ((gpx ws _ 0).trans rfl) rfl rfl rfl ((spx ws _ 0 _).trans rfl) ?_
  refine C_aload 0 hX dX0_init_9 fz0 rfl ?_
  refine C_iconst (x := 0) hX dX0_init_10 (by decide) ?_
  refine C_putN (i := ws.length + 0) (W1 := ws ++ ((h, .inr (0, [.int 0, .int 0, .int 0, .null, .null])) :: ([] : va_W))) hX dX0_init_11 lfd_X0_15 lpn_0_1 ((gpx ws _ 0).trans rfl) rfl rfl rfl ((spx ws _ 0 _).trans rfl) ?_
  refine C_aload 0 hX dX0_init_14 fz0 rfl ?_
  refine C_iconst (x := 0) hX dX0_init_15 (by decide) ?_
  refine C_putN (i := ws.length + 0) (W1 := ws ++ ((h, .inr (0, [.int 0, .int 0, .int 0, .null, .null])) :: ([] : va_W))) hX dX0_init_16 lfd_X0_18 lpn_0_2 ((gpx ws _ 0).trans rfl) rfl rfl rfl ((spx ws _ 0 _).trans rfl) ?_
  refine C_aload 0 hX dX0_init_19 fz0 rfl ?_
  refine C_bipush (x := 15) hX dX0_init_20 (by decide) ?_
  refine C_newaI (ty := .int) (kd := 10) (n := 15) (sz1 := (h + 2)) (c1 := 1) (k1 := 15) hX dX0_init_22 rfl rfl ac_g10 (fun h9 => h9) rfl (by decide) (by decide +kernel) (Nat.le_of_ble_eq_true rfl) (Nat.le_of_ble_eq_true rfl) (Nat.le_of_ble_eq_true rfl) rfl rfl rfl ?_
  refine C_eqW (W1 := ws ++ ((h, .inr (0, [.int 0, .int 0, .int 0, .null, .null])) :: (List.append ([] : va_W) [((h + 1), .inl (Y.2.1 10, 15, .inl fun _ => 0))]))) (List.append_assoc _ _ _) ?_
  refine C_putF (i := ws.length + 0) (W1 := ws ++ ((h, .inr (0, [.int 0, .int 0, .int 0, .ref (h + 1), .null])) :: (List.append ([] : va_W) [((h + 1), .inl (Y.2.1 10, 15, .inl fun _ => 0))]))) hX hin dX0_init_24 lfc_X0_21 lpf_0_3 rfl ((gpx ws _ 0).trans rfl) rfl rfl rfl ((spx ws _ 0 _).trans rfl) ?_
  refine C_aload 0 hX dX0_init_27 fz0 rfl ?_
  refine C_iconst (x := 3) hX dX0_init_28 (by decide) ?_
  refine C_newaI (ty := .int) (kd := 10) (n := 3) (sz1 := (h + 3)) (c1 := 2) (k1 := 18) hX dX0_init_29 rfl rfl ac_g10 (fun h9 => h9) rfl (by decide) (by decide +kernel) (Nat.le_of_ble_eq_true rfl) (Nat.le_of_ble_eq_true rfl) (Nat.le_of_ble_eq_true rfl) rfl rfl rfl ?_
  refine C_eqW (W1 := ws ++ ((h, .inr (0, [.int 0, .int 0, .int 0, .ref (h + 1), .null])) :: (List.append (List.append ([] : va_W) [((h + 1), .inl (Y.2.1 10, 15, .inl fun _ => 0))]) [((h + 2), .inl (Y.2.1 10, 3, .inl fun _ => 0))]))) (List.append_assoc _ _ _) ?_
  refine C_putF (i := ws.length + 0) (W1 := ws ++ ((h, .inr (0, [.int 0, .int 0, .int 0, .ref (h + 1), .ref (h + 2)])) :: (List.append (List.append ([] : va_W) [((h + 1), .inl (Y.2.1 10, 15, .inl fun _ => 0))]) [((h + 2), .inl (Y.2.1 10, 3, .inl fun _ => 0))]))) hX hin dX0_init_31 lfc_X0_25 lpf_0_4 rfl ((gpx ws _ 0).trans rfl) rfl rfl rfl ((spx ws _ 0 _).trans rfl) ?_
  exact hR _ _ dX0_init_34
abbrev CB6 (Y : DX) (h : Nat) : va_W := (h, .inr (6, [.ref (h + 1), .int 0, .ref (h + 2), .ref (h + 8), .int 0, .int 0, .int 0, .int 0, .int (1), .int 0, .int (-1)])) :: (List.append (List.append (List.append ([] : va_W) [((h + 1), .inl (Y.2.1 11, 800, .inl fun _ => 0))]) (CB1 Y (h + 2))) [((h + 8), .inl (Y.2.1 10, 45, .inl fun _ => 0))])
set_option maxHeartbeats 8000000 in
set_option maxRecDepth 100000 in
theorem oc_6 {Y : DX} {B : Nat} (ws : va_W) (h : Nat) : OkC Y B 3 M_X7_init 8 881 h (ws ++ [(h, .inr (6, [.null, .int 0, .null, .null, .int 0, .int 0, .int 0, .int 0, .int 0, .int 0, .int 0]))]) (ws ++ CB6 Y h) (h + 9) := by
  refine okCt_of (by decide +kernel) (Nat.le_of_ble_eq_true rfl) ?_
  intro X Q hX hin hR
  have hX : CCok X Y B RX7 cX7_init 1 _ _ _ := hX
  have hin : X.2.2.2.2.2.2.2.2.1.name = "<init>" := hin
  refine C_eqW (W1 := ws ++ ((h, .inr (6, [.null, .int 0, .null, .null, .int 0, .int 0, .int 0, .int 0, .int 0, .int 0, .int 0])) :: ([] : va_W))) rfl ?_
  refine C_aload 0 hX dX7_init_0 fz0 rfl ?_
  refine C_obj hX dX7_init_1 (mg 370 (by decide +kernel) rfl) (mg 176 (by decide +kernel) rfl) (mg 177 (by decide +kernel) rfl) (Nat.le_of_ble_eq_true rfl) ?_
  refine C_aload 0 hX dX7_init_4 fz0 rfl ?_
  refine C_sipush (x := 800) hX dX7_init_5 (by decide) ?_
  refine C_newaI (ty := .byte) (kd := 11) (n := 800) (sz1 := (h + 2)) (c1 := 1) (k1 := 800) hX dX7_init_8 rfl rfl ac_g11 (fun h9 => h9) rfl (by decide) (by decide +kernel) (Nat.le_of_ble_eq_true rfl) (Nat.le_of_ble_eq_true rfl) (Nat.le_of_ble_eq_true rfl) rfl rfl rfl ?_
  refine C_eqW (W1 := ws ++ ((h, .inr (6, [.null, .int 0, .null, .null, .int 0, .int 0, .int 0, .int 0, .int 0, .int 0, .int 0])) :: (List.append ([] : va_W) [((h + 1), .inl (Y.2.1 11, 800, .inl fun _ => 0))]))) (List.append_assoc _ _ _) ?_
  refine C_putF (i := ws.length + 0) (W1 := ws ++ ((h, .inr (6, [.ref (h + 1), .int 0, .null, .null, .int 0, .int 0, .int 0, .int 0, .int 0, .int 0, .int 0])) :: (List.append ([] : va_W) [((h + 1), .inl (Y.2.1 11, 800, .inl fun _ => 0))]))) hX hin dX7_init_10 lfc_X7_9 lpf_6_0 rfl ((gpx ws _ 0).trans rfl) rfl rfl rfl ((spx ws _ 0 _).trans rfl) ?_
  refine C_aload 0 hX dX7_init_13 fz0 rfl ?_
  refine C_iconst (x := 0) hX dX7_init_14 (by decide) ?_
  refine C_putN (i := ws.length + 0) (W1 := ws ++ ((h, .inr (6, [.ref (h + 1), .int 0, .null, .null, .int 0, .int 0, .int 0, .int 0, .int 0, .int 0, .int 0])) :: (List.append ([] : va_W) [((h + 1), .inl (Y.2.1 11, 800, .inl fun _ => 0))]))) hX dX7_init_15 lfd_X7_15 lpn_6_1 ((gpx ws _ 0).trans rfl) rfl rfl rfl ((spx ws _ 0 _).trans rfl) ?_
  refine C_aload 0 hX dX7_init_18 fz0 rfl ?_
  refine C_new (fs := [.null, .null, .null, .null, .null]) (sz1 := (h + 3)) (c1 := 2) (k1 := 805) hX dX7_init_19 (mg 371 (by decide +kernel) rfl) (mg 333 (by decide +kernel) rfl) (mg 155 (by decide +kernel) rfl) (ci := 1) rfl inG1 tyX2 tyX2_ok (df_1) (Nat.le_of_ble_eq_true rfl) (Nat.le_of_ble_eq_true rfl) rfl rfl rfl ?_
  refine C_dup hX dX7_init_22 rfl ?_
  refine C_call (st := [.ref (h + 2), .ref h]) (sz1 := (h + 8)) (c1 := 7) (k1 := 836) hX dX7_init_23 mc_X7_21 (oc_1 (ws ++ ((h, .inr (6, [.ref (h + 1), .int 0, .null, .null, .int 0, .int 0, .int 0, .int 0, .int 0, .int 0, .int 0])) :: (List.append ([] : va_W) [((h + 1), .inl (Y.2.1 11, 800, .inl fun _ => 0))]))) (h + 2)) rfl (Nat.le_of_ble_eq_true rfl) (Nat.le_of_ble_eq_true rfl) (Nat.le_of_ble_eq_true rfl) (Nat.le_of_ble_eq_true rfl) (Nat.le_of_ble_eq_true rfl) rfl rfl ?_
  refine C_eqW (W1 := ws ++ ((h, .inr (6, [.ref (h + 1), .int 0, .null, .null, .int 0, .int 0, .int 0, .int 0, .int 0, .int 0, .int 0])) :: (List.append (List.append ([] : va_W) [((h + 1), .inl (Y.2.1 11, 800, .inl fun _ => 0))]) (CB1 Y (h + 2))))) (List.append_assoc _ _ _) ?_
  refine C_putF (i := ws.length + 0) (W1 := ws ++ ((h, .inr (6, [.ref (h + 1), .int 0, .ref (h + 2), .null, .int 0, .int 0, .int 0, .int 0, .int 0, .int 0, .int 0])) :: (List.append (List.append ([] : va_W) [((h + 1), .inl (Y.2.1 11, 800, .inl fun _ => 0))]) (CB1 Y (h + 2))))) hX hin dX7_init_26 lfc_X7_22 lpf_6_2 rfl ((gpx ws _ 0).trans rfl) rfl rfl rfl ((spx ws _ 0 _).trans rfl) ?_
  refine C_aload 0 hX dX7_init_29 fz0 rfl ?_
  refine C_bipush (x := 45) hX dX7_init_30 (by decide) ?_
  refine C_newaI (ty := .int) (kd := 10) (n := 45) (sz1 := (h + 9)) (c1 := 8) (k1 := 881) hX dX7_init_32 rfl rfl ac_g10 (fun h9 => h9) rfl (by decide) (by decide +kernel) (Nat.le_of_ble_eq_true rfl) (Nat.le_of_ble_eq_true rfl) (Nat.le_of_ble_eq_true rfl) rfl rfl rfl ?_
  refine C_eqW (W1 := ws ++ ((h, .inr (6, [.ref (h + 1), .int 0, .ref (h + 2), .null, .int 0, .int 0, .int 0, .int 0, .int 0, .int 0, .int 0])) :: (List.append (List.append (List.append ([] : va_W) [((h + 1), .inl (Y.2.1 11, 800, .inl fun _ => 0))]) (CB1 Y (h + 2))) [((h + 8), .inl (Y.2.1 10, 45, .inl fun _ => 0))]))) (List.append_assoc _ _ _) ?_
  refine C_putF (i := ws.length + 0) (W1 := ws ++ ((h, .inr (6, [.ref (h + 1), .int 0, .ref (h + 2), .ref (h + 8), .int 0, .int 0, .int 0, .int 0, .int 0, .int 0, .int 0])) :: (List.append (List.append (List.append ([] : va_W) [((h + 1), .inl (Y.2.1 11, 800, .inl fun _ => 0))]) (CB1 Y (h + 2))) [((h + 8), .inl (Y.2.1 10, 45, .inl fun _ => 0))]))) hX hin dX7_init_34 lfc_X7_26 lpf_6_3 rfl ((gpx ws _ 0).trans rfl) rfl rfl rfl ((spx ws _ 0 _).trans rfl) ?_
  refine C_aload 0 hX dX7_init_37 fz0 rfl ?_
  refine C_iconst (x := 0) hX dX7_init_38 (by decide) ?_
  refine C_putN (i := ws.length + 0) (W1 := ws ++ ((h, .inr (6, [.ref (h + 1), .int 0, .ref (h + 2), .ref (h + 8), .int 0, .int 0, .int 0, .int 0, .int 0, .int 0, .int 0])) :: (List.append (List.append (List.append ([] : va_W) [((h + 1), .inl (Y.2.1 11, 800, .inl fun _ => 0))]) (CB1 Y (h + 2))) [((h + 8), .inl (Y.2.1 10, 45, .inl fun _ => 0))]))) hX dX7_init_39 lfd_X7_30 lpn_6_4 ((gpx ws _ 0).trans rfl) rfl rfl rfl ((spx ws _ 0 _).trans rfl) ?_
  refine C_aload 0 hX dX7_init_42 fz0 rfl ?_
  refine C_iconst (x := 0) hX dX7_init_43 (by decide) ?_
  refine C_putN (i := ws.length + 0) (W1 := ws ++ ((h, .inr (6, [.ref (h + 1), .int 0, .ref (h + 2), .ref (h + 8), .int 0, .int 0, .int 0, .int 0, .int 0, .int 0, .int 0])) :: (List.append (List.append (List.append ([] : va_W) [((h + 1), .inl (Y.2.1 11, 800, .inl fun _ => 0))]) (CB1 Y (h + 2))) [((h + 8), .inl (Y.2.1 10, 45, .inl fun _ => 0))]))) hX dX7_init_44 lfd_X7_33 lpn_6_5 ((gpx ws _ 0).trans rfl) rfl rfl rfl ((spx ws _ 0 _).trans rfl) ?_
  refine C_aload 0 hX dX7_init_47 fz0 rfl ?_
  refine C_iconst (x := 0) hX dX7_init_48 (by decide) ?_
  refine C_putN (i := ws.length + 0) (W1 := ws ++ ((h, .inr (6, [.ref (h + 1), .int 0, .ref (h + 2), .ref (h + 8), .int 0, .int 0, .int 0, .int 0, .int 0, .int 0, .int 0])) :: (List.append (List.append (List.append ([] : va_W) [((h + 1), .inl (Y.2.1 11, 800, .inl fun _ => 0))]) (CB1 Y (h + 2))) [((h + 8), .inl (Y.2.1 10, 45, .inl fun _ => 0))]))) hX dX7_init_49 lfd_X7_36 lpn_6_6 ((gpx ws _ 0).trans rfl) rfl rfl rfl ((spx ws _ 0 _).trans rfl) ?_
  refine C_aload 0 hX dX7_init_52 fz0 rfl ?_
  refine C_iconst (x := 0) hX dX7_init_53 (by decide) ?_
  refine C_putN (i := ws.length + 0) (W1 := ws ++ ((h, .inr (6, [.ref (h + 1), .int 0, .ref (h + 2), .ref (h + 8), .int 0, .int 0, .int 0, .int 0, .int 0, .int 0, .int 0])) :: (List.append (List.append (List.append ([] : va_W) [((h + 1), .inl (Y.2.1 11, 800, .inl fun _ => 0))]) (CB1 Y (h + 2))) [((h + 8), .inl (Y.2.1 10, 45, .inl fun _ => 0))]))) hX dX7_init_54 lfd_X7_39 lpn_6_7 ((gpx ws _ 0).trans rfl) rfl rfl rfl ((spx ws _ 0 _).trans rfl) ?_
  refine C_aload 0 hX dX7_init_57 fz0 rfl ?_
  refine C_iconst (x := 1) hX dX7_init_58 (by decide) ?_
  refine C_putN (i := ws.length + 0) (W1 := ws ++ ((h, .inr (6, [.ref (h + 1), .int 0, .ref (h + 2), .ref (h + 8), .int 0, .int 0, .int 0, .int 0, .int (1), .int 0, .int 0])) :: (List.append (List.append (List.append ([] : va_W) [((h + 1), .inl (Y.2.1 11, 800, .inl fun _ => 0))]) (CB1 Y (h + 2))) [((h + 8), .inl (Y.2.1 10, 45, .inl fun _ => 0))]))) hX dX7_init_59 lfd_X7_42 lpn_6_8 ((gpx ws _ 0).trans rfl) rfl rfl rfl ((spx ws _ 0 _).trans rfl) ?_
  refine C_aload 0 hX dX7_init_62 fz0 rfl ?_
  refine C_iconst (x := 0) hX dX7_init_63 (by decide) ?_
  refine C_putN (i := ws.length + 0) (W1 := ws ++ ((h, .inr (6, [.ref (h + 1), .int 0, .ref (h + 2), .ref (h + 8), .int 0, .int 0, .int 0, .int 0, .int (1), .int 0, .int 0])) :: (List.append (List.append (List.append ([] : va_W) [((h + 1), .inl (Y.2.1 11, 800, .inl fun _ => 0))]) (CB1 Y (h + 2))) [((h + 8), .inl (Y.2.1 10, 45, .inl fun _ => 0))]))) hX dX7_init_64 lfd_X7_45 lpn_6_9 ((gpx ws _ 0).trans rfl) rfl rfl rfl ((spx ws _ 0 _).trans rfl) ?_
  refine C_aload 0 hX dX7_init_67 fz0 rfl ?_
  refine C_iconst (x := -1) hX dX7_init_68 (by decide) ?_
  refine C_putN (i := ws.length + 0) (W1 := ws ++ ((h, .inr (6, [.ref (h + 1), .int 0, .ref (h + 2), .ref (h + 8), .int 0, .int 0, .int 0, .int 0, .int (1), .int 0, .int (-1)])) :: (List.append (List.append (List.append ([] : va_W) [((h + 1), .inl (Y.2.1 11, 800, .inl fun _ => 0))]) (CB1 Y (h + 2))) [((h + 8), .inl (Y.2.1 10, 45, .inl fun _ => 0))]))) hX dX7_init_69 lfd_X7_48 lpn_6_10 ((gpx ws _ 0).trans rfl) rfl rfl rfl ((spx ws _ 0 _).trans rfl) ?_
  exact hR _ _ dX7_init_72
abbrev CB7 (Y : DX) (h : Nat) : va_W := (h, .inr (7, [.ref (h + 1), .ref (h + 6), .ref (h + 7), .ref (h + 8)])) :: (List.append (List.append (List.append (List.append ([] : va_W) (GRJ Y (h + 1) 4 60)) [((h + 6), .inl (Y.2.1 10, 4, .inl fun _ => 0))]) [((h + 7), .inl (Y.2.1 10, 4, .inl fun _ => 0))]) [((h + 8), .inl (Y.2.1 13, 4, .inl fun _ => 0))])
set_option maxHeartbeats 8000000 in
set_option maxRecDepth 100000 in
theorem oc_7 {Y : DX} {B : Nat} (ws : va_W) (h : Nat) : OkC Y B 1 M_X8_init 8 256 h (ws ++ [(h, .inr (7, [.null, .null, .null, .null]))]) (ws ++ CB7 Y h) (h + 9) := by
  refine okCt_of (by decide +kernel) (Nat.le_of_ble_eq_true rfl) ?_
  intro X Q hX hin hR
  have hX : CCok X Y B RX8 cX8_init 1 _ _ _ := hX
  have hin : X.2.2.2.2.2.2.2.2.1.name = "<init>" := hin
  refine C_eqW (W1 := ws ++ ((h, .inr (7, [.null, .null, .null, .null])) :: ([] : va_W))) rfl ?_
  refine C_aload 0 hX dX8_init_0 fz0 rfl ?_
  refine C_obj hX dX8_init_1 (mg 417 (by decide +kernel) rfl) (mg 176 (by decide +kernel) rfl) (mg 177 (by decide +kernel) rfl) (Nat.le_of_ble_eq_true rfl) ?_
  refine C_aload 0 hX dX8_init_4 fz0 rfl ?_
  refine C_iconst (x := 4) hX dX8_init_5 (by decide) ?_
  refine C_bipush (x := 60) hX dX8_init_6 (by decide) ?_
  refine C_mna (ty := .long) (kd := 15) (kd2 := 12) (n := 4) (m := 60) (z := (60, .inr (.inl fun _ => 0))) (sz1 := (h + 6)) (c1 := 5) (k1 := 244) hX dX8_init_8 (mg 418 (by decide +kernel) rfl) hX.2.2.2.2.2.2.2.2.2.2.2 ac_g12 (fun h9 => h9) rfl rfl (by decide) (by decide) (by decide +kernel) (by decide +kernel) (Nat.le_of_ble_eq_true rfl) (Nat.le_of_ble_eq_true rfl) (Nat.le_of_ble_eq_true rfl) rfl rfl (fun cq => by rw [vp_cell_l, ← arrV_new]; rfl) (Nat.le_of_ble_eq_true rfl) (Nat.le_of_ble_eq_true rfl) rfl rfl rfl ?_
  refine C_eqW (W1 := ws ++ ((h, .inr (7, [.null, .null, .null, .null])) :: (List.append ([] : va_W) (GRJ Y (h + 1) 4 60)))) (List.append_assoc _ _ _) ?_
  refine C_putF (i := ws.length + 0) (W1 := ws ++ ((h, .inr (7, [.ref (h + 1), .null, .null, .null])) :: (List.append ([] : va_W) (GRJ Y (h + 1) 4 60)))) hX hin dX8_init_12 lfc_X8_13 lpf_7_0 rfl ((gpx ws _ 0).trans rfl) rfl rfl rfl ((spx ws _ 0 _).trans rfl) ?_
  refine C_aload 0 hX dX8_init_15 fz0 rfl ?_
  refine C_iconst (x := 4) hX dX8_init_16 (by decide) ?_
  refine C_newaI (ty := .int) (kd := 10) (n := 4) (sz1 := (h + 7)) (c1 := 6) (k1 := 248) hX dX8_init_17 rfl rfl ac_g10 (fun h9 => h9) rfl (by decide) (by decide +kernel) (Nat.le_of_ble_eq_true rfl) (Nat.le_of_ble_eq_true rfl) (Nat.le_of_ble_eq_true rfl) rfl rfl rfl ?_
  refine C_eqW (W1 := ws ++ ((h, .inr (7, [.ref (h + 1), .null, .null, .null])) :: (List.append (List.append ([] : va_W) (GRJ Y (h + 1) 4 60)) [((h + 6), .inl (Y.2.1 10, 4, .inl fun _ => 0))]))) (List.append_assoc _ _ _) ?_
  refine C_putF (i := ws.length + 0) (W1 := ws ++ ((h, .inr (7, [.ref (h + 1), .ref (h + 6), .null, .null])) :: (List.append (List.append ([] : va_W) (GRJ Y (h + 1) 4 60)) [((h + 6), .inl (Y.2.1 10, 4, .inl fun _ => 0))]))) hX hin dX8_init_19 lfc_X8_16 lpf_7_1 rfl ((gpx ws _ 0).trans rfl) rfl rfl rfl ((spx ws _ 0 _).trans rfl) ?_
  refine C_aload 0 hX dX8_init_22 fz0 rfl ?_
  refine C_iconst (x := 4) hX dX8_init_23 (by decide) ?_
  refine C_newaI (ty := .int) (kd := 10) (n := 4) (sz1 := (h + 8)) (c1 := 7) (k1 := 252) hX dX8_init_24 rfl rfl ac_g10 (fun h9 => h9) rfl (by decide) (by decide +kernel) (Nat.le_of_ble_eq_true rfl) (Nat.le_of_ble_eq_true rfl) (Nat.le_of_ble_eq_true rfl) rfl rfl rfl ?_
  refine C_eqW (W1 := ws ++ ((h, .inr (7, [.ref (h + 1), .ref (h + 6), .null, .null])) :: (List.append (List.append (List.append ([] : va_W) (GRJ Y (h + 1) 4 60)) [((h + 6), .inl (Y.2.1 10, 4, .inl fun _ => 0))]) [((h + 7), .inl (Y.2.1 10, 4, .inl fun _ => 0))]))) (List.append_assoc _ _ _) ?_
  refine C_putF (i := ws.length + 0) (W1 := ws ++ ((h, .inr (7, [.ref (h + 1), .ref (h + 6), .ref (h + 7), .null])) :: (List.append (List.append (List.append ([] : va_W) (GRJ Y (h + 1) 4 60)) [((h + 6), .inl (Y.2.1 10, 4, .inl fun _ => 0))]) [((h + 7), .inl (Y.2.1 10, 4, .inl fun _ => 0))]))) hX hin dX8_init_26 lfc_X8_20 lpf_7_2 rfl ((gpx ws _ 0).trans rfl) rfl rfl rfl ((spx ws _ 0 _).trans rfl) ?_
  refine C_aload 0 hX dX8_init_29 fz0 rfl ?_
  refine C_iconst (x := 4) hX dX8_init_30 (by decide) ?_
  refine C_newaI (ty := .boolean) (kd := 13) (n := 4) (sz1 := (h + 9)) (c1 := 8) (k1 := 256) hX dX8_init_31 rfl rfl ac_g13 (fun h9 => h9) rfl (by decide) (by decide +kernel) (Nat.le_of_ble_eq_true rfl) (Nat.le_of_ble_eq_true rfl) (Nat.le_of_ble_eq_true rfl) rfl rfl rfl ?_
  refine C_eqW (W1 := ws ++ ((h, .inr (7, [.ref (h + 1), .ref (h + 6), .ref (h + 7), .null])) :: (List.append (List.append (List.append (List.append ([] : va_W) (GRJ Y (h + 1) 4 60)) [((h + 6), .inl (Y.2.1 10, 4, .inl fun _ => 0))]) [((h + 7), .inl (Y.2.1 10, 4, .inl fun _ => 0))]) [((h + 8), .inl (Y.2.1 13, 4, .inl fun _ => 0))]))) (List.append_assoc _ _ _) ?_
  refine C_putF (i := ws.length + 0) (W1 := ws ++ ((h, .inr (7, [.ref (h + 1), .ref (h + 6), .ref (h + 7), .ref (h + 8)])) :: (List.append (List.append (List.append (List.append ([] : va_W) (GRJ Y (h + 1) 4 60)) [((h + 6), .inl (Y.2.1 10, 4, .inl fun _ => 0))]) [((h + 7), .inl (Y.2.1 10, 4, .inl fun _ => 0))]) [((h + 8), .inl (Y.2.1 13, 4, .inl fun _ => 0))]))) hX hin dX8_init_33 lfc_X8_23 lpf_7_3 rfl ((gpx ws _ 0).trans rfl) rfl rfl rfl ((spx ws _ 0 _).trans rfl) ?_
  exact hR _ _ dX8_init_36
