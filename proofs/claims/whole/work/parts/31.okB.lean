set_option maxHeartbeats 4000000 in
set_option maxRecDepth 100000 in
theorem ok_X9_feed {Y : DX} {v1 : Int32} {v2 : Int32} {v3 : Int32} {v4 : Int32} {v5 : Int32}  {G : GM} {r : Int32} {G' : GM} (hf : f_X9_feed v1 v2 v3 v4 v5 G = some (r, G')) : OkI Y 2 M_X9_feed [.ref (AD Y 0), .int v1, .int v2, .int v3, .int v4, .int v5] G r G' := by
  refine okI_of (lv0 := [(0, .ref (AD Y 0)), (1, .int v1), (2, .int v2), (3, .int v3), (4, .int v4), (5, .int v5)]) (by decide +kernel) rfl (Nat.le_of_ble_eq_true rfl) ?_
  intro X Q hX hR
  have hX : CXok X Y RX9 cX9_feed 6 _ := hX
  revert hf
  show J X Y 6 Q 0 [(0, .ref (AD Y 0)), (1, .int v1), (2, .int v2), (3, .int v3), (4, .int v4), (5, .int v5)] [] G (f_X9_feed v1 v2 v3 v4 v5 G = some (r, G'))
  unfold f_X9_feed
  refine J_aload_n 0 hX dX9_feed_0 fz0 rfl ?_
  refine J_getR (b := 53) hX dX9_feed_1 lf_X9_37 sk_0 rfl (by decide) rfl ?_
  refine J_getI hX dX9_feed_4 lf_X9_76 sk_53 rfl ?_
  refine J_sipush hX dX9_feed_7 cs_780 ?_
  refine J_icmp_le (tgt := 15) hX dX9_feed_10 rfl ?_ ?_
  · refine J_aload_n 0 hX dX9_feed_15 fz0 rfl ?_
    refine J_getR (b := 53) hX dX9_feed_16 lf_X9_37 sk_0 rfl (by decide) rfl ?_
    refine J_iload_n 1 hX dX9_feed_19 fz1 rfl ?_
    refine J_callVV (As := [.int v1]) (st := []) (b := 53) hX mv_X9_80 sk_53 rfl rfl rfl (Nat.le_of_ble_eq_true rfl) (Nat.le_of_ble_eq_true rfl) (Nat.le_of_ble_eq_true rfl) dX9_feed_20 (fun G1 h => ok_X7_addFour  h) fun G20 => ?_
    refine J_aload_n 0 hX dX9_feed_23 fz0 rfl ?_
    refine J_getR (b := 53) hX dX9_feed_24 lf_X9_37 sk_0 rfl (by decide) rfl ?_
    refine J_iload_n 2 hX dX9_feed_27 fz2 rfl ?_
    refine J_callVV (As := [.int v2]) (st := []) (b := 53) hX mv_X9_80 sk_53 rfl rfl rfl (Nat.le_of_ble_eq_true rfl) (Nat.le_of_ble_eq_true rfl) (Nat.le_of_ble_eq_true rfl) dX9_feed_28 (fun G1 h => ok_X7_addFour  h) fun G28 => ?_
    refine J_aload_n 0 hX dX9_feed_31 fz0 rfl ?_
    refine J_getR (b := 53) hX dX9_feed_32 lf_X9_37 sk_0 rfl (by decide) rfl ?_
    refine J_iload_n 3 hX dX9_feed_35 fz3 rfl ?_
    refine J_callVV (As := [.int v3]) (st := []) (b := 53) hX mv_X9_80 sk_53 rfl rfl rfl (Nat.le_of_ble_eq_true rfl) (Nat.le_of_ble_eq_true rfl) (Nat.le_of_ble_eq_true rfl) dX9_feed_36 (fun G1 h => ok_X7_addFour  h) fun G36 => ?_
    refine J_aload_n 0 hX dX9_feed_39 fz0 rfl ?_
    refine J_getR (b := 53) hX dX9_feed_40 lf_X9_37 sk_0 rfl (by decide) rfl ?_
    refine J_iload 4 hX dX9_feed_43 rfl ?_
    refine J_callVV (As := [.int v4]) (st := []) (b := 53) hX mv_X9_80 sk_53 rfl rfl rfl (Nat.le_of_ble_eq_true rfl) (Nat.le_of_ble_eq_true rfl) (Nat.le_of_ble_eq_true rfl) dX9_feed_45 (fun G1 h => ok_X7_addFour  h) fun G45 => ?_
    refine J_aload_n 0 hX dX9_feed_48 fz0 rfl ?_
    refine J_getR (b := 53) hX dX9_feed_49 lf_X9_37 sk_0 rfl (by decide) rfl ?_
    refine J_iload 5 hX dX9_feed_52 rfl ?_
    refine J_callVV (As := [.int v5]) (st := []) (b := 53) hX mv_X9_80 sk_53 rfl rfl rfl (Nat.le_of_ble_eq_true rfl) (Nat.le_of_ble_eq_true rfl) (Nat.le_of_ble_eq_true rfl) dX9_feed_54 (fun G1 h => ok_X7_addFour  h) fun G54 => ?_
    refine J_aload_n 0 hX dX9_feed_57 fz0 rfl ?_
    refine J_getR (b := 53) hX dX9_feed_58 lf_X9_37 sk_0 rfl (by decide) rfl ?_
    refine J_getI hX dX9_feed_61 lf_X9_76 sk_53 rfl ?_
    exact J_retI hR dX9_feed_64
  · refine J_iconst hX dX9_feed_13 cim_1 ?_
    exact J_retI hR dX9_feed_14
set_option maxHeartbeats 4000000 in
set_option maxRecDepth 100000 in
theorem ok_X9_end {Y : DX} {v1 : Int32}  {G : GM} {r : Int32} {G' : GM} (hf : f_X9_end v1 G = some (r, G')) : OkI Y 1 M_X9_end [.ref (AD Y 0), .int v1] G r G' := by
  refine okI_of (lv0 := [(0, .ref (AD Y 0)), (1, .int v1)]) (by decide +kernel) rfl (Nat.le_of_ble_eq_true rfl) ?_
  intro X Q hX hR
  have hX : CXok X Y RX9 cX9_end 2 _ := hX
  revert hf
  show J X Y 2 Q 0 [(0, .ref (AD Y 0)), (1, .int v1)] [] G (f_X9_end v1 G = some (r, G'))
  unfold f_X9_end
  refine J_iload_n 1 hX dX9_end_0 fz1 rfl ?_
  refine J_if_lt (tgt := 15) hX dX9_end_1 rfl ?_ ?_
  · refine J_iconst hX dX9_end_15 cim_1 ?_
    exact J_retI hR dX9_end_16
  · refine J_iload_n 1 hX dX9_end_4 fz1 rfl ?_
    refine J_aload_n 0 hX dX9_end_5 fz0 rfl ?_
    refine J_getR (b := 53) hX dX9_end_6 lf_X9_37 sk_0 rfl (by decide) rfl ?_
    refine J_getI hX dX9_end_9 lf_X9_76 sk_53 rfl ?_
    refine J_icmp_le (tgt := 17) hX dX9_end_12 rfl ?_ ?_
    · refine J_aload_n 0 hX dX9_end_17 fz0 rfl ?_
      refine J_getR (b := 53) hX dX9_end_18 lf_X9_37 sk_0 rfl (by decide) rfl ?_
      refine J_iload_n 1 hX dX9_end_21 fz1 rfl ?_
      refine J_putI hX dX9_end_22 lf_X9_76 lpt_6_1 sk_53 rfl fun G22 => ?_
      refine J_iload_n 1 hX dX9_end_25 fz1 rfl ?_
      exact J_retI hR dX9_end_26
    · refine J_iconst hX dX9_end_15 cim_1 ?_
      exact J_retI hR dX9_end_16
set_option maxHeartbeats 4000000 in
set_option maxRecDepth 100000 in
theorem ok_X9_hall {Y : DX}   {G : GM} {r : Int32} {G' : GM} (hf : f_X9_hall  G = some (r, G')) : OkI Y 25 M_X9_hall [.ref (AD Y 0)] G r G' := by
  refine okI_of (lv0 := [(0, .ref (AD Y 0))]) (by decide +kernel) rfl (Nat.le_of_ble_eq_true rfl) ?_
  intro X Q hX hR
  have hX : CXok X Y RX9 cX9_hall 2 _ := hX
  revert hf
  show J X Y 2 Q 0 [(0, .ref (AD Y 0))] [] G (f_X9_hall  G = some (r, G'))
  have K47 : ∀ (G : GM), J X Y 2 Q 47 [(0, .ref (AD Y 0))] [] G (k_X9_hall_47  G = some (r, G')) := by
    intro G
    unfold k_X9_hall_47
    refine J_aload_n 0 hX dX9_hall_47 fz0 rfl ?_
    refine J_getR (b := 53) hX dX9_hall_48 lf_X9_37 sk_0 rfl (by decide) rfl ?_
    refine J_iconst hX dX9_hall_51 ci_0 ?_
    refine J_putI hX dX9_hall_52 lf_X9_76 lpt_6_1 sk_53 rfl fun G52 => ?_
    refine J_aload_n 0 hX dX9_hall_55 fz0 rfl ?_
    refine J_getR (b := 53) hX dX9_hall_56 lf_X9_37 sk_0 rfl (by decide) rfl ?_
    refine J_getI hX dX9_hall_59 lf_X9_95 sk_53 rfl ?_
    refine J_if_eq (tgt := 68) hX dX9_hall_62 rfl ?_ ?_
    · refine J_aload_n 0 hX dX9_hall_68 fz0 rfl ?_
      refine J_getR (b := 47) hX dX9_hall_69 lf_X9_30 sk_0 rfl (by decide) rfl ?_
      refine J_aload_n 0 hX dX9_hall_72 fz0 rfl ?_
      refine J_getNext hX dX9_hall_73 lf_X9_16 fun hw73 => ?_
      refine J_getR (b := ((nx G52) + 1)) hX dX9_hall_76 lf_X9_98 hw73 rfl (by decide) rfl ?_
      refine J_aload_n 0 hX dX9_hall_79 fz0 rfl ?_
      refine J_getR (b := 53) hX dX9_hall_80 lf_X9_37 sk_0 rfl (by decide) rfl ?_
      refine J_getI hX dX9_hall_83 lf_X9_102 sk_53 rfl ?_
      refine J_aload_n 0 hX dX9_hall_86 fz0 rfl ?_
      refine J_getNext hX dX9_hall_87 lf_X9_16 fun hw87 => ?_
      refine J_getR (b := ((nx G52) + 20)) hX dX9_hall_90 lf_X9_105 hw87 rfl (by decide) rfl ?_
      refine J_callVV (As := [.ref (AD Y ((nx G52) + 1)), .int (gI G52 53 8), .ref (AD Y ((nx G52) + 20))]) (st := []) (b := 47) hX mv_X9_108 sk_47 rfl rfl rfl (Nat.le_of_ble_eq_true rfl) (Nat.le_of_ble_eq_true rfl) (Nat.le_of_ble_eq_true rfl) dX9_hall_93 (fun G1 h => ok_X2_mixCalls sk_47 (tp_4_0 hw73) (tp_4_8 hw87) h) fun G93 => ?_
      refine J_aload_n 0 hX dX9_hall_96 fz0 rfl ?_
      refine J_getNext hX dX9_hall_97 lf_X9_16 fun hw97 => ?_
      refine J_callVV (As := []) (st := []) (b := (nx G93)) hX mv_X9_112 hw97 rfl rfl rfl (Nat.le_of_ble_eq_true rfl) (Nat.le_of_ble_eq_true rfl) (Nat.le_of_ble_eq_true rfl) dX9_hall_100 (fun G1 h => ok_X5_noteTurns hw97 h) fun G100 => ?_
      refine J_aload_n 0 hX dX9_hall_103 fz0 rfl ?_
      refine J_getNow hX dX9_hall_104 lf_X9_10 fun hw104 => ?_
      refine J_astore_n (lv' := [(1, .ref (AD Y (nw G100))), (0, .ref (AD Y 0))]) hX dX9_hall_107 fz1 (Nat.le_of_ble_eq_true rfl) rfl ?_
      refine J_aload_n 1 hX dX9_hall_108 fz0 rfl ?_
      refine J_aload_n 1 hX dX9_hall_109 fz0 rfl ?_
      refine J_getNext hX dX9_hall_110 lf_X9_16 fun hw110 => ?_
      refine J_putNow hX dX9_hall_113 lf_X9_10 lpt_8_0 hw110 fun G113 => ?_
      refine J_aload_n 1 hX dX9_hall_116 fz0 rfl ?_
      refine J_aload_n 0 hX dX9_hall_117 fz1 rfl ?_
      refine J_putNext hX dX9_hall_118 lf_X9_16 lpt_8_1 hw104 fun G118 => ?_
      refine J_aload_n 1 hX dX9_hall_121 fz0 rfl ?_
      refine J_getNow hX dX9_hall_122 lf_X9_10 fun hw122 => ?_
      refine J_getI hX dX9_hall_125 lf_X9_115 hw122 rfl ?_
      exact J_retI hR dX9_hall_128
    · refine J_bipush hX dX9_hall_65 cbm_4 ?_
      exact J_retI hR dX9_hall_67
  have K13 : ∀  (n : Nat) (v1 : Int32) (G : GM), J X Y 2 Q 13 [(0, .ref (AD Y 0)), (1, .int v1)] [] G (wl1 n (lp_X9_hall_13 ) v1 G = some (r, G')) := by
    refine wl1_ind (R := fun v1 G φ => J X Y 2 Q 13 [(0, .ref (AD Y 0)), (1, .int v1)] [] G φ) (fun _ G φ h => J_no h) ?_
    intro kc13 hk13 v1 G
    unfold lp_X9_hall_13
    refine J_iload_n 1 hX dX9_hall_13 fz1 rfl ?_
    refine J_sipush hX dX9_hall_14 cs_800 ?_
    refine J_icmp_ge (tgt := 47) hX dX9_hall_17 rfl ?_ ?_
    · refine J_sub (lv' := [(0, .ref (AD Y 0))]) [0] rfl ?_
      exact K47 G
    · refine J_aload_n 0 hX dX9_hall_20 fz0 rfl ?_
      refine J_getR (b := 53) hX dX9_hall_21 lf_X9_37 sk_0 rfl (by decide) rfl ?_
      refine J_callVI (As := []) (st := []) (b := 53) hX mv_X9_88 sk_53 rfl rfl rfl (Nat.le_of_ble_eq_true rfl) (Nat.le_of_ble_eq_true rfl) (Nat.le_of_ble_eq_true rfl) dX9_hall_24 (fun r G1 h => ok_X7_hasLine  h) fun r24 G24 => ?_
      refine J_if_eq (tgt := 47) hX dX9_hall_27 rfl ?_ ?_
      · refine J_sub (lv' := [(0, .ref (AD Y 0))]) [0] rfl ?_
        exact K47 G24
      · refine J_aload_n 0 hX dX9_hall_30 fz0 rfl ?_
        refine J_getR (b := 53) hX dX9_hall_31 lf_X9_37 sk_0 rfl (by decide) rfl ?_
        refine J_aload_n 0 hX dX9_hall_34 fz0 rfl ?_
        refine J_getNext hX dX9_hall_35 lf_X9_16 fun hw35 => ?_
        refine J_callVV (As := [.ref (AD Y (nx G24))]) (st := []) (b := 53) hX mv_X9_92 sk_53 rfl rfl rfl (Nat.le_of_ble_eq_true rfl) (Nat.le_of_ble_eq_true rfl) (Nat.le_of_ble_eq_true rfl) dX9_hall_38 (fun G1 h => ok_X7_readLine hw35 h) fun G38 => ?_
        refine J_iinc (lv' := [(1, .int (v1 + (1 : Int32))), (0, .ref (AD Y 0))]) 1 hX dX9_hall_41 rfl ci_1 (Nat.le_of_ble_eq_true rfl) rfl ?_
        refine J_goto (tgt := 13) hX dX9_hall_44 rfl ?_
        refine J_sub (lv' := [(0, .ref (AD Y 0)), (1, .int (v1 + (1 : Int32)))]) [1, 0] rfl ?_
        exact hk13 (v1 + (1 : Int32)) G38
  unfold f_X9_hall
  refine J_aload_n 0 hX dX9_hall_0 fz0 rfl ?_
  refine J_getR (b := 53) hX dX9_hall_1 lf_X9_37 sk_0 rfl (by decide) rfl ?_
  refine J_aload_n 0 hX dX9_hall_4 fz0 rfl ?_
  refine J_getNext hX dX9_hall_5 lf_X9_16 fun hw5 => ?_
  refine J_callVV (As := [.ref (AD Y (nx G))]) (st := []) (b := 53) hX mv_X9_84 sk_53 rfl rfl rfl (Nat.le_of_ble_eq_true rfl) (Nat.le_of_ble_eq_true rfl) (Nat.le_of_ble_eq_true rfl) dX9_hall_8 (fun G1 h => ok_X7_begin hw5 h) fun G8 => ?_
  refine J_iconst hX dX9_hall_11 ci_0 ?_
  refine J_istore_n (lv' := [(1, .int (0 : Int32)), (0, .ref (AD Y 0))]) hX dX9_hall_12 fz1 (Nat.le_of_ble_eq_true rfl) rfl ?_
  refine J_sub (lv' := [(0, .ref (AD Y 0)), (1, .int (0 : Int32))]) [1, 0] rfl ?_
  exact K13  FU (0 : Int32) G8
set_option maxHeartbeats 4000000 in
set_option maxRecDepth 100000 in
theorem ok_X9_fault {Y : DX} {v1 : Int32}  {G : GM} {r : Int32} {G' : GM} (hf : f_X9_fault v1 G = some (r, G')) : OkI Y 1 M_X9_fault [.ref (AD Y 0), .int v1] G r G' := by
  refine okI_of (lv0 := [(0, .ref (AD Y 0)), (1, .int v1)]) (by decide +kernel) rfl (Nat.le_of_ble_eq_true rfl) ?_
  intro X Q hX hR
  have hX : CXok X Y RX9 cX9_fault 2 _ := hX
  revert hf
  show J X Y 2 Q 0 [(0, .ref (AD Y 0)), (1, .int v1)] [] G (f_X9_fault v1 G = some (r, G'))
  unfold f_X9_fault
  refine J_iload_n 1 hX dX9_fault_0 fz1 rfl ?_
  refine J_if_ne (tgt := 12) hX dX9_fault_1 rfl ?_ ?_
  · refine J_iload_n 1 hX dX9_fault_12 fz1 rfl ?_
    refine J_iconst hX dX9_fault_13 ci_1 ?_
    refine J_icmp_ne (tgt := 27) hX dX9_fault_14 rfl ?_ ?_
    · refine J_iconst hX dX9_fault_27 cim_1 ?_
      exact J_retI hR dX9_fault_28
    · refine J_aload_n 0 hX dX9_fault_17 fz0 rfl ?_
      refine J_getR (b := 53) hX dX9_fault_18 lf_X9_37 sk_0 rfl (by decide) rfl ?_
      refine J_getI hX dX9_fault_21 lf_X9_118 sk_53 rfl ?_
      refine J_goto (tgt := 28) hX dX9_fault_24 rfl ?_
      exact J_retI hR dX9_fault_28
  · refine J_aload_n 0 hX dX9_fault_4 fz0 rfl ?_
    refine J_getR (b := 53) hX dX9_fault_5 lf_X9_37 sk_0 rfl (by decide) rfl ?_
    refine J_getI hX dX9_fault_8 lf_X9_95 sk_53 rfl ?_
    exact J_retI hR dX9_fault_11
set_option maxHeartbeats 4000000 in
set_option maxRecDepth 100000 in
theorem ok_X9_isHall {Y : DX}   {G : GM} {r : Int32} {G' : GM} (hf : f_X9_isHall  G = some (r, G')) : OkI Y 1 M_X9_isHall [.ref (AD Y 0)] G r G' := by
  refine okZ_of (lv0 := [(0, .ref (AD Y 0))]) (by decide +kernel) rfl (Nat.le_of_ble_eq_true rfl) ?_
  intro X Q hX hR
  have hX : CXok X Y RX9 cX9_isHall 1 _ := hX
  revert hf
  show J X Y 1 Q 0 [(0, .ref (AD Y 0))] [] G (f_X9_isHall  G = some (r, G'))
  unfold f_X9_isHall
  refine J_aload_n 0 hX dX9_isHall_0 fz0 rfl ?_
  refine J_getNow hX dX9_isHall_1 lf_X9_10 fun hw1 => ?_
  refine J_getI hX dX9_isHall_4 lf_X9_115 hw1 rfl ?_
  refine J_if_le (tgt := 14) hX dX9_isHall_7 rfl ?_ ?_
  · refine J_iconst hX dX9_isHall_14 ci_0 ?_
    exact J_retZ hR (by decide) dX9_isHall_15
  · refine J_iconst hX dX9_isHall_10 ci_1 ?_
    refine J_goto (tgt := 15) hX dX9_isHall_11 rfl ?_
    exact J_retZ hR (by decide) dX9_isHall_15
set_option maxHeartbeats 4000000 in
set_option maxRecDepth 100000 in
theorem ok_X9_isColumn {Y : DX} {v1 : Int32}  {G : GM} {r : Int32} {G' : GM} (hf : f_X9_isColumn v1 G = some (r, G')) : OkI Y 2 M_X9_isColumn [.ref (AD Y 0), .int v1] G r G' := by
  refine okZ_of (lv0 := [(0, .ref (AD Y 0)), (1, .int v1)]) (by decide +kernel) rfl (Nat.le_of_ble_eq_true rfl) ?_
  intro X Q hX hR
  have hX : CXok X Y RX9 cX9_isColumn 2 _ := hX
  revert hf
  show J X Y 2 Q 0 [(0, .ref (AD Y 0)), (1, .int v1)] [] G (f_X9_isColumn v1 G = some (r, G'))
  unfold f_X9_isColumn
  refine J_aload_n 0 hX dX9_isColumn_0 fz0 rfl ?_
  refine J_callVI (As := []) (st := []) (b := 0) hX mv_X9_133 sk_0 rfl rfl rfl (Nat.le_of_ble_eq_true rfl) (Nat.le_of_ble_eq_true rfl) (Nat.le_of_ble_eq_true rfl) dX9_isColumn_1 (fun r G1 h => ok_X9_isHall  h) fun r1 G1 => ?_
  refine J_if_eq (tgt := 29) hX dX9_isColumn_4 rfl ?_ ?_
  · refine J_iconst hX dX9_isColumn_29 ci_0 ?_
    exact J_retZ hR (by decide) dX9_isColumn_30
  · refine J_iload_n 1 hX dX9_isColumn_7 fz1 rfl ?_
    refine J_if_lt (tgt := 29) hX dX9_isColumn_8 rfl ?_ ?_
    · refine J_iconst hX dX9_isColumn_29 ci_0 ?_
      exact J_retZ hR (by decide) dX9_isColumn_30
    · refine J_iload_n 1 hX dX9_isColumn_11 fz1 rfl ?_
      refine J_aload_n 0 hX dX9_isColumn_12 fz0 rfl ?_
      refine J_getNow hX dX9_isColumn_13 lf_X9_10 fun hw13 => ?_
      refine J_getR (b := ((nw G1) + 1)) hX dX9_isColumn_16 lf_X9_98 hw13 rfl (by decide) rfl ?_
      refine J_getI hX dX9_isColumn_19 lf_X9_159 (tp_4_0 hw13) rfl ?_
      refine J_icmp_ge (tgt := 29) hX dX9_isColumn_22 rfl ?_ ?_
      · refine J_iconst hX dX9_isColumn_29 ci_0 ?_
        exact J_retZ hR (by decide) dX9_isColumn_30
      · refine J_iconst hX dX9_isColumn_25 ci_1 ?_
        refine J_goto (tgt := 30) hX dX9_isColumn_26 rfl ?_
        exact J_retZ hR (by decide) dX9_isColumn_30
set_option maxHeartbeats 4000000 in
set_option maxRecDepth 100000 in
theorem ok_X9_column {Y : DX} {v1 : Int32} {v2 : Int32}  {G : GM} {r : Int32} {G' : GM} (hf : f_X9_column v1 v2 G = some (r, G')) : OkI Y 3 M_X9_column [.ref (AD Y 0), .int v1, .int v2] G r G' := by
  refine okI_of (lv0 := [(0, .ref (AD Y 0)), (1, .int v1), (2, .int v2)]) (by decide +kernel) rfl (Nat.le_of_ble_eq_true rfl) ?_
  intro X Q hX hR
  have hX : CXok X Y RX9 cX9_column 3 _ := hX
  revert hf
  show J X Y 3 Q 0 [(0, .ref (AD Y 0)), (1, .int v1), (2, .int v2)] [] G (f_X9_column v1 v2 G = some (r, G'))
  unfold f_X9_column
  refine J_aload_n 0 hX dX9_column_0 fz0 rfl ?_
  refine J_iload_n 1 hX dX9_column_1 fz1 rfl ?_
  refine J_callVI (As := [.int v1]) (st := []) (b := 0) hX mv_X9_121 sk_0 rfl rfl rfl (Nat.le_of_ble_eq_true rfl) (Nat.le_of_ble_eq_true rfl) (Nat.le_of_ble_eq_true rfl) dX9_column_2 (fun r G1 h => ok_X9_isColumn  h) fun r2 G2 => ?_
  refine J_if_eq (tgt := 17) hX dX9_column_5 rfl ?_ ?_
  · refine J_bipush hX dX9_column_17 cbm_2 ?_
    exact J_retI hR dX9_column_19
  · refine J_iload_n 2 hX dX9_column_8 fz2 rfl ?_
    refine J_if_lt (tgt := 17) hX dX9_column_9 rfl ?_ ?_
    · refine J_bipush hX dX9_column_17 cbm_2 ?_
      exact J_retI hR dX9_column_19
    · refine J_iload_n 2 hX dX9_column_12 fz2 rfl ?_
      refine J_iconst hX dX9_column_13 ci_1 ?_
      refine J_icmp_le (tgt := 20) hX dX9_column_14 rfl ?_ ?_
      · refine J_iload_n 2 hX dX9_column_20 fz2 rfl ?_
        refine J_if_ne (tgt := 39) hX dX9_column_21 rfl ?_ ?_
        · refine J_aload_n 0 hX dX9_column_39 fz0 rfl ?_
          refine J_getNow hX dX9_column_40 lf_X9_10 fun hw40 => ?_
          refine J_getR (b := ((nw G2) + 1)) hX dX9_column_43 lf_X9_98 hw40 rfl (by decide) rfl ?_
          refine J_getR (b := ((nw G2) + 2)) hX dX9_column_46 lf_X9_130 (tp_4_0 hw40) rfl (by decide) rfl ?_
          refine J_iload_n 1 hX dX9_column_49 fz1 rfl ?_
          refine J_iald hX dX9_column_50 (tp_3_4 (tp_4_0 hw40)) (tl_3_4 (tp_4_0 hw40)) ?_
          exact J_retI hR dX9_column_51
        · refine J_aload_n 0 hX dX9_column_24 fz0 rfl ?_
          refine J_getNow hX dX9_column_25 lf_X9_10 fun hw25 => ?_
          refine J_getR (b := ((nw G2) + 1)) hX dX9_column_28 lf_X9_98 hw25 rfl (by decide) rfl ?_
          refine J_getR (b := ((nw G2) + 3)) hX dX9_column_31 lf_X9_125 (tp_4_0 hw25) rfl (by decide) rfl ?_
          refine J_iload_n 1 hX dX9_column_34 fz1 rfl ?_
          refine J_iald hX dX9_column_35 (tp_3_5 (tp_4_0 hw25)) (tl_3_5 (tp_4_0 hw25)) ?_
          refine J_goto (tgt := 51) hX dX9_column_36 rfl ?_
          exact J_retI hR dX9_column_51
      · refine J_bipush hX dX9_column_17 cbm_2 ?_
        exact J_retI hR dX9_column_19
set_option maxHeartbeats 4000000 in
set_option maxRecDepth 100000 in
theorem ok_X9_numbers {Y : DX}   {G : GM} {r : Int32} {G' : GM} (hf : f_X9_numbers  G = some (r, G')) : OkI Y 2 M_X9_numbers [.ref (AD Y 0)] G r G' := by
  refine okI_of (lv0 := [(0, .ref (AD Y 0))]) (by decide +kernel) rfl (Nat.le_of_ble_eq_true rfl) ?_
  intro X Q hX hR
  have hX : CXok X Y RX9 cX9_numbers 1 _ := hX
  revert hf
  show J X Y 1 Q 0 [(0, .ref (AD Y 0))] [] G (f_X9_numbers  G = some (r, G'))
  unfold f_X9_numbers
  refine J_aload_n 0 hX dX9_numbers_0 fz0 rfl ?_
  refine J_callVI (As := []) (st := []) (b := 0) hX mv_X9_133 sk_0 rfl rfl rfl (Nat.le_of_ble_eq_true rfl) (Nat.le_of_ble_eq_true rfl) (Nat.le_of_ble_eq_true rfl) dX9_numbers_1 (fun r G1 h => ok_X9_isHall  h) fun r1 G1 => ?_
  refine J_if_eq (tgt := 20) hX dX9_numbers_4 rfl ?_ ?_
  · refine J_bipush hX dX9_numbers_20 cbm_2 ?_
    exact J_retI hR dX9_numbers_22
  · refine J_aload_n 0 hX dX9_numbers_7 fz0 rfl ?_
    refine J_getNow hX dX9_numbers_8 lf_X9_10 fun hw8 => ?_
    refine J_getR (b := ((nw G1) + 1)) hX dX9_numbers_11 lf_X9_98 hw8 rfl (by decide) rfl ?_
    refine J_getI hX dX9_numbers_14 lf_X9_136 (tp_4_0 hw8) rfl ?_
    refine J_goto (tgt := 22) hX dX9_numbers_17 rfl ?_
    exact J_retI hR dX9_numbers_22
set_option maxHeartbeats 4000000 in
set_option maxRecDepth 100000 in
theorem ok_X9_plans {Y : DX}   {G : GM} {r : Int32} {G' : GM} (hf : f_X9_plans  G = some (r, G')) : OkI Y 2 M_X9_plans [.ref (AD Y 0)] G r G' := by
  refine okI_of (lv0 := [(0, .ref (AD Y 0))]) (by decide +kernel) rfl (Nat.le_of_ble_eq_true rfl) ?_
  intro X Q hX hR
  have hX : CXok X Y RX9 cX9_plans 1 _ := hX
  revert hf
  show J X Y 1 Q 0 [(0, .ref (AD Y 0))] [] G (f_X9_plans  G = some (r, G'))
  unfold f_X9_plans
  refine J_aload_n 0 hX dX9_plans_0 fz0 rfl ?_
  refine J_callVI (As := []) (st := []) (b := 0) hX mv_X9_133 sk_0 rfl rfl rfl (Nat.le_of_ble_eq_true rfl) (Nat.le_of_ble_eq_true rfl) (Nat.le_of_ble_eq_true rfl) dX9_plans_1 (fun r G1 h => ok_X9_isHall  h) fun r1 G1 => ?_
  refine J_if_eq (tgt := 20) hX dX9_plans_4 rfl ?_ ?_
  · refine J_bipush hX dX9_plans_20 cbm_2 ?_
    exact J_retI hR dX9_plans_22
  · refine J_aload_n 0 hX dX9_plans_7 fz0 rfl ?_
    refine J_getNow hX dX9_plans_8 lf_X9_10 fun hw8 => ?_
    refine J_getR (b := ((nw G1) + 1)) hX dX9_plans_11 lf_X9_98 hw8 rfl (by decide) rfl ?_
    refine J_getI hX dX9_plans_14 lf_X9_139 (tp_4_0 hw8) rfl ?_
    refine J_goto (tgt := 22) hX dX9_plans_17 rfl ?_
    exact J_retI hR dX9_plans_22
set_option maxHeartbeats 4000000 in
set_option maxRecDepth 100000 in
theorem ok_X9_isCard {Y : DX} {v1 : Int32}  {G : GM} {r : Int32} {G' : GM} (hf : f_X9_isCard v1 G = some (r, G')) : OkI Y 2 M_X9_isCard [.ref (AD Y 0), .int v1] G r G' := by
  refine okZ_of (lv0 := [(0, .ref (AD Y 0)), (1, .int v1)]) (by decide +kernel) rfl (Nat.le_of_ble_eq_true rfl) ?_
  intro X Q hX hR
  have hX : CXok X Y RX9 cX9_isCard 2 _ := hX
  revert hf
  show J X Y 2 Q 0 [(0, .ref (AD Y 0)), (1, .int v1)] [] G (f_X9_isCard v1 G = some (r, G'))
  unfold f_X9_isCard
  refine J_aload_n 0 hX dX9_isCard_0 fz0 rfl ?_
  refine J_callVI (As := []) (st := []) (b := 0) hX mv_X9_133 sk_0 rfl rfl rfl (Nat.le_of_ble_eq_true rfl) (Nat.le_of_ble_eq_true rfl) (Nat.le_of_ble_eq_true rfl) dX9_isCard_1 (fun r G1 h => ok_X9_isHall  h) fun r1 G1 => ?_
  refine J_if_eq (tgt := 29) hX dX9_isCard_4 rfl ?_ ?_
  · refine J_iconst hX dX9_isCard_29 ci_0 ?_
    exact J_retZ hR (by decide) dX9_isCard_30
  · refine J_iload_n 1 hX dX9_isCard_7 fz1 rfl ?_
    refine J_if_lt (tgt := 29) hX dX9_isCard_8 rfl ?_ ?_
    · refine J_iconst hX dX9_isCard_29 ci_0 ?_
      exact J_retZ hR (by decide) dX9_isCard_30
    · refine J_iload_n 1 hX dX9_isCard_11 fz1 rfl ?_
      refine J_aload_n 0 hX dX9_isCard_12 fz0 rfl ?_
      refine J_getNow hX dX9_isCard_13 lf_X9_10 fun hw13 => ?_
      refine J_getR (b := ((nw G1) + 1)) hX dX9_isCard_16 lf_X9_98 hw13 rfl (by decide) rfl ?_
      refine J_getI hX dX9_isCard_19 lf_X9_200 (tp_4_0 hw13) rfl ?_
      refine J_icmp_ge (tgt := 29) hX dX9_isCard_22 rfl ?_ ?_
      · refine J_iconst hX dX9_isCard_29 ci_0 ?_
        exact J_retZ hR (by decide) dX9_isCard_30
      · refine J_iconst hX dX9_isCard_25 ci_1 ?_
        refine J_goto (tgt := 30) hX dX9_isCard_26 rfl ?_
        exact J_retZ hR (by decide) dX9_isCard_30
set_option maxHeartbeats 4000000 in
set_option maxRecDepth 100000 in
theorem ok_X9_plan {Y : DX} {v1 : Int32} {v2 : Int32} {v3 : Int32}  {G : GM} {r : Int32} {G' : GM} (hf : f_X9_plan v1 v2 v3 G = some (r, G')) : OkI Y 10 M_X9_plan [.ref (AD Y 0), .int v1, .int v2, .int v3] G r G' := by
  refine okI_of (lv0 := [(0, .ref (AD Y 0)), (1, .int v1), (2, .int v2), (3, .int v3)]) (by decide +kernel) rfl (Nat.le_of_ble_eq_true rfl) ?_
  intro X Q hX hR
  have hX : CXok X Y RX9 cX9_plan 4 _ := hX
  revert hf
  show J X Y 4 Q 0 [(0, .ref (AD Y 0)), (1, .int v1), (2, .int v2), (3, .int v3)] [] G (f_X9_plan v1 v2 v3 G = some (r, G'))
  unfold f_X9_plan
  refine J_aload_n 0 hX dX9_plan_0 fz0 rfl ?_
  refine J_iload_n 2 hX dX9_plan_1 fz2 rfl ?_
  refine J_callVI (As := [.int v2]) (st := []) (b := 0) hX mv_X9_142 sk_0 rfl rfl rfl (Nat.le_of_ble_eq_true rfl) (Nat.le_of_ble_eq_true rfl) (Nat.le_of_ble_eq_true rfl) dX9_plan_2 (fun r G1 h => ok_X9_isCard  h) fun r2 G2 => ?_
  refine J_if_eq (tgt := 16) hX dX9_plan_5 rfl ?_ ?_
  · refine J_bipush hX dX9_plan_16 cbm_2 ?_
    exact J_retI hR dX9_plan_18
  · refine J_aload_n 0 hX dX9_plan_8 fz0 rfl ?_
    refine J_iload_n 3 hX dX9_plan_9 fz3 rfl ?_
    refine J_callVI (As := [.int v3]) (st := []) (b := 0) hX mv_X9_121 sk_0 rfl rfl rfl (Nat.le_of_ble_eq_true rfl) (Nat.le_of_ble_eq_true rfl) (Nat.le_of_ble_eq_true rfl) dX9_plan_10 (fun r G1 h => ok_X9_isColumn  h) fun r10 G10 => ?_
    refine J_if_ne (tgt := 19) hX dX9_plan_13 rfl ?_ ?_
    · refine J_iload_n 1 hX dX9_plan_19 fz1 rfl ?_
      refine J_if_lt (tgt := 37) hX dX9_plan_20 rfl ?_ ?_
      · refine J_iconst hX dX9_plan_37 cim_1 ?_
        exact J_retI hR dX9_plan_38
      · refine J_iload_n 1 hX dX9_plan_23 fz1 rfl ?_
        refine J_aload_n 0 hX dX9_plan_24 fz0 rfl ?_
        refine J_getNow hX dX9_plan_25 lf_X9_10 fun hw25 => ?_
        refine J_getR (b := ((nw G10) + 1)) hX dX9_plan_28 lf_X9_98 hw25 rfl (by decide) rfl ?_
        refine J_getI hX dX9_plan_31 lf_X9_139 (tp_4_0 hw25) rfl ?_
        refine J_icmp_lt (tgt := 39) hX dX9_plan_34 rfl ?_ ?_
        · refine J_aload_n 0 hX dX9_plan_39 fz0 rfl ?_
          refine J_getR (b := 47) hX dX9_plan_40 lf_X9_30 sk_0 rfl (by decide) rfl ?_
          refine J_aload_n 0 hX dX9_plan_43 fz0 rfl ?_
          refine J_getNow hX dX9_plan_44 lf_X9_10 fun hw44 => ?_
          refine J_getR (b := ((nw G10) + 1)) hX dX9_plan_47 lf_X9_98 hw44 rfl (by decide) rfl ?_
          refine J_iload_n 1 hX dX9_plan_50 fz1 rfl ?_
          refine J_iload_n 2 hX dX9_plan_51 fz2 rfl ?_
          refine J_iload_n 3 hX dX9_plan_52 fz3 rfl ?_
          refine J_callVI (As := [.ref (AD Y ((nw G10) + 1)), .int v1, .int v2, .int v3]) (st := []) (b := 47) hX mv_X9_145 sk_47 rfl rfl rfl (Nat.le_of_ble_eq_true rfl) (Nat.le_of_ble_eq_true rfl) (Nat.le_of_ble_eq_true rfl) dX9_plan_53 (fun r G1 h => ok_X2_planned sk_47 (tp_4_0 hw44) h) fun r53 G53 => ?_
          exact J_retI hR dX9_plan_56
        · refine J_iconst hX dX9_plan_37 cim_1 ?_
          exact J_retI hR dX9_plan_38
    · refine J_bipush hX dX9_plan_16 cbm_2 ?_
      exact J_retI hR dX9_plan_18
set_option maxHeartbeats 4000000 in
set_option maxRecDepth 100000 in
theorem ok_X9_layouts {Y : DX} {v1 : Int32}  {G : GM} {r : Int32} {G' : GM} (hf : f_X9_layouts v1 G = some (r, G')) : OkI Y 7 M_X9_layouts [.ref (AD Y 0), .int v1] G r G' := by
  refine okI_of (lv0 := [(0, .ref (AD Y 0)), (1, .int v1)]) (by decide +kernel) rfl (Nat.le_of_ble_eq_true rfl) ?_
  intro X Q hX hR
  have hX : CXok X Y RX9 cX9_layouts 7 _ := hX
  revert hf
  show J X Y 7 Q 0 [(0, .ref (AD Y 0)), (1, .int v1)] [] G (f_X9_layouts v1 G = some (r, G'))
  have K66 : ∀ (v2 : Nat) (hk_v2 : SHk v2 = 3) (n : Nat) (v3 : Int32) (v4 : Int32) (G : GM), J X Y 7 Q 66 [(0, .ref (AD Y 0)), (1, .int v1), (2, .ref (AD Y v2)), (3, .int v3), (4, .int v4)] [] G (wl2 n (lp_X9_layouts_66 v1 v2) v3 v4 G = some (r, G')) := by
    intro v2 hk_v2
    refine wl2_ind (R := fun v3 v4 G φ => J X Y 7 Q 66 [(0, .ref (AD Y 0)), (1, .int v1), (2, .ref (AD Y v2)), (3, .int v3), (4, .int v4)] [] G φ) (fun _ _ G φ h => J_no h) ?_
    intro kc66 hk66 v3 v4 G
    unfold lp_X9_layouts_66
    refine J_iload 4 hX dX9_layouts_66 rfl ?_
    refine J_aload_n 2 hX dX9_layouts_68 fz2 rfl ?_
    refine J_getI hX dX9_layouts_69 lf_X9_159 hk_v2 rfl ?_
    refine J_icmp_ge (tgt := 124) hX dX9_layouts_72 rfl ?_ ?_
    · refine J_aload_n 2 hX dX9_layouts_124 fz2 rfl ?_
      refine J_getR (b := (v2 + 6)) hX dX9_layouts_125 lf_X9_175 hk_v2 rfl (by decide) rfl ?_
      refine J_aload_n 2 hX dX9_layouts_128 fz2 rfl ?_
      refine J_getI hX dX9_layouts_129 lf_X9_166 hk_v2 rfl ?_
      refine J_iload_n 3 hX dX9_layouts_132 fz3 rfl ?_
      refine J_callSI (As := [.ref (AD Y (v2 + 6)), .int (gI G v2 1), .int v3]) (st := []) hX ms_X9_179 rfl rfl (Nat.le_of_ble_eq_true rfl) (Nat.le_of_ble_eq_true rfl) (Nat.le_of_ble_eq_true rfl) dX9_layouts_133 (fun r G1 h => ok_X6_waysOf 4 (tp_3_11 hk_v2) h) fun r133 G133 => ?_
      exact J_retI hR dX9_layouts_136
    · refine J_aload_n 0 hX dX9_layouts_75 fz0 rfl ?_
      refine J_getR (b := 62) hX dX9_layouts_76 lf_X9_44 sk_0 rfl (by decide) rfl ?_
      refine J_iload_n 1 hX dX9_layouts_79 fz1 rfl ?_
      refine J_iload 4 hX dX9_layouts_80 rfl ?_
      refine J_callVJ (As := [.int v1, .int v4]) (st := []) (b := 62) hX mv_X9_162 sk_62 rfl rfl rfl (Nat.le_of_ble_eq_true rfl) (Nat.le_of_ble_eq_true rfl) (Nat.le_of_ble_eq_true rfl) dX9_layouts_82 (fun r G1 h => ok_X8_valueAt  h) fun r82 G82 => ?_
      refine J_lstore (lv' := [(5, .long r82), (0, .ref (AD Y 0)), (1, .int v1), (2, .ref (AD Y v2)), (3, .int v3), (4, .int v4)]) hX dX9_layouts_85 (Nat.le_of_ble_eq_true rfl) rfl ?_
      refine J_lload 0 hX dX9_layouts_87 rfl ?_
      refine J_lconst hX dX9_layouts_89 fy0 ?_
      refine J_lcmp hX dX9_layouts_90 ?_
      refine J_if_lt (tgt := 105) hX dX9_layouts_91 rfl ?_ ?_
      · refine J_iconst hX dX9_layouts_105 ci_0 ?_
        exact J_retI hR dX9_layouts_106
      · refine J_lload 0 hX dX9_layouts_94 rfl ?_
        refine J_aload_n 3 hX dX9_layouts_96 fz2 rfl ?_
        refine J_getI hX dX9_layouts_97 lf_X9_166 hk_v2 rfl ?_
        refine J_i2l hX dX9_layouts_100 ?_
        refine J_lcmp hX dX9_layouts_101 ?_
        refine J_if_le (tgt := 107) hX dX9_layouts_102 rfl ?_ ?_
        · refine J_iload_n 4 hX dX9_layouts_107 fz3 rfl ?_
          refine J_iload 5 hX dX9_layouts_108 rfl ?_
          refine J_lload 0 hX dX9_layouts_110 rfl ?_
          refine J_l2i hX dX9_layouts_112 ?_
          refine J_callSI (As := [.int v4, .int (r82.toInt32)]) (st := [.int v3]) hX ms_X9_169 rfl rfl (Nat.le_of_ble_eq_true rfl) (Nat.le_of_ble_eq_true rfl) (Nat.le_of_ble_eq_true rfl) dX9_layouts_113 (fun r G1 h => ok_X6_packed  h) fun r113 G113 => ?_
          refine J_iadd hX dX9_layouts_116 ?_
          refine J_lt (mk := Value.int) fun x117 => ?_
          refine J_istore_n (lv' := [(3, .int x117), (5, .long r82), (0, .ref (AD Y 0)), (1, .int v1), (2, .ref (AD Y v2)), (4, .int v4)]) hX dX9_layouts_117 fz3 (Nat.le_of_ble_eq_true rfl) rfl ?_
          refine J_iinc (lv' := [(4, .int (v4 + (1 : Int32))), (3, .int x117), (5, .long r82), (0, .ref (AD Y 0)), (1, .int v1), (2, .ref (AD Y v2))]) 5 hX dX9_layouts_118 rfl ci_1 (Nat.le_of_ble_eq_true rfl) rfl ?_
          refine J_goto (tgt := 66) hX dX9_layouts_121 rfl ?_
          refine J_sub (lv' := [(0, .ref (AD Y 0)), (1, .int v1), (2, .ref (AD Y v2)), (3, .int x117), (4, .int (v4 + (1 : Int32)))]) [3, 4, 5, 1, 0] rfl ?_
          exact hk66 x117 (v4 + (1 : Int32)) G113
        · refine J_iconst hX dX9_layouts_105 ci_0 ?_
          exact J_retI hR dX9_layouts_106
  unfold f_X9_layouts
  refine J_aload_n 0 hX dX9_layouts_0 fz0 rfl ?_
  refine J_callVI (As := []) (st := []) (b := 0) hX mv_X9_133 sk_0 rfl rfl rfl (Nat.le_of_ble_eq_true rfl) (Nat.le_of_ble_eq_true rfl) (Nat.le_of_ble_eq_true rfl) dX9_layouts_1 (fun r G1 h => ok_X9_isHall  h) fun r1 G1 => ?_
  refine J_if_eq (tgt := 18) hX dX9_layouts_4 rfl ?_ ?_
  · refine J_bipush hX dX9_layouts_18 cbm_2 ?_
    exact J_retI hR dX9_layouts_20
  · refine J_aload_n 0 hX dX9_layouts_7 fz0 rfl ?_
    refine J_getR (b := 62) hX dX9_layouts_8 lf_X9_44 sk_0 rfl (by decide) rfl ?_
    refine J_iload_n 1 hX dX9_layouts_11 fz1 rfl ?_
    refine J_callVI (As := [.int v1]) (st := []) (b := 62) hX mv_X9_149 sk_62 rfl rfl rfl (Nat.le_of_ble_eq_true rfl) (Nat.le_of_ble_eq_true rfl) (Nat.le_of_ble_eq_true rfl) dX9_layouts_12 (fun r G1 h => ok_X8_isSlot  h) fun r12 G12 => ?_
    refine J_if_ne (tgt := 21) hX dX9_layouts_15 rfl ?_ ?_
    · refine J_aload_n 0 hX dX9_layouts_21 fz0 rfl ?_
      refine J_getR (b := 62) hX dX9_layouts_22 lf_X9_44 sk_0 rfl (by decide) rfl ?_
      refine J_iload_n 1 hX dX9_layouts_25 fz1 rfl ?_
      refine J_callVI (As := [.int v1]) (st := []) (b := 62) hX mv_X9_152 sk_62 rfl rfl rfl (Nat.le_of_ble_eq_true rfl) (Nat.le_of_ble_eq_true rfl) (Nat.le_of_ble_eq_true rfl) dX9_layouts_26 (fun r G1 h => ok_X8_hasRow  h) fun r26 G26 => ?_
      refine J_if_ne (tgt := 35) hX dX9_layouts_29 rfl ?_ ?_
      · refine J_aload_n 0 hX dX9_layouts_35 fz0 rfl ?_
        refine J_getNow hX dX9_layouts_36 lf_X9_10 fun hw36 => ?_
        refine J_getR (b := ((nw G26) + 1)) hX dX9_layouts_39 lf_X9_98 hw36 rfl (by decide) rfl ?_
        refine J_astore_n (lv' := [(2, .ref (AD Y ((nw G26) + 1))), (0, .ref (AD Y 0)), (1, .int v1)]) hX dX9_layouts_42 fz2 (Nat.le_of_ble_eq_true rfl) rfl ?_
        refine J_aload_n 1 hX dX9_layouts_43 fz0 rfl ?_
        refine J_getR (b := 62) hX dX9_layouts_44 lf_X9_44 sk_0 rfl (by decide) rfl ?_
        refine J_iload_n 2 hX dX9_layouts_47 fz1 rfl ?_
        refine J_callVI (As := [.int v1]) (st := []) (b := 62) hX mv_X9_155 sk_62 rfl rfl rfl (Nat.le_of_ble_eq_true rfl) (Nat.le_of_ble_eq_true rfl) (Nat.le_of_ble_eq_true rfl) dX9_layouts_48 (fun r G1 h => ok_X8_lengthOf  h) fun r48 G48 => ?_
        refine J_aload_n 0 hX dX9_layouts_51 fz2 rfl ?_
        refine J_getI hX dX9_layouts_52 lf_X9_159 (tp_4_0 hw36) rfl ?_
        refine J_icmp_eq (tgt := 61) hX dX9_layouts_55 rfl ?_ ?_
        · refine J_iconst hX dX9_layouts_61 ci_0 ?_
          refine J_istore_n (lv' := [(3, .int (0 : Int32)), (2, .ref (AD Y ((nw G26) + 1))), (0, .ref (AD Y 0)), (1, .int v1)]) hX dX9_layouts_62 fz3 (Nat.le_of_ble_eq_true rfl) rfl ?_
          refine J_iconst hX dX9_layouts_63 ci_0 ?_
          refine J_istore (lv' := [(4, .int (0 : Int32)), (3, .int (0 : Int32)), (2, .ref (AD Y ((nw G26) + 1))), (0, .ref (AD Y 0)), (1, .int v1)]) hX dX9_layouts_64 (Nat.le_of_ble_eq_true rfl) rfl ?_
          refine J_sub (lv' := [(0, .ref (AD Y 0)), (1, .int v1), (2, .ref (AD Y ((nw G26) + 1))), (3, .int (0 : Int32)), (4, .int (0 : Int32))]) [3, 4, 2, 1, 0] rfl ?_
          exact K66 ((nw G26) + 1) (tp_4_0 hw36) FU (0 : Int32) (0 : Int32) G48
        · refine J_bipush hX dX9_layouts_58 cbm_7 ?_
          exact J_retI hR dX9_layouts_60
      · refine J_bipush hX dX9_layouts_32 cbm_6 ?_
        exact J_retI hR dX9_layouts_34
    · refine J_bipush hX dX9_layouts_18 cbm_2 ?_
      exact J_retI hR dX9_layouts_20
set_option maxHeartbeats 4000000 in
set_option maxRecDepth 100000 in
theorem ok_X9_isSerial {Y : DX} {v1 : Int32}  {G : GM} {r : Int32} {G' : GM} (hf : f_X9_isSerial v1 G = some (r, G')) : OkI Y 2 M_X9_isSerial [.ref (AD Y 0), .int v1] G r G' := by
  refine okZ_of (lv0 := [(0, .ref (AD Y 0)), (1, .int v1)]) (by decide +kernel) rfl (Nat.le_of_ble_eq_true rfl) ?_
  intro X Q hX hR
  have hX : CXok X Y RX9 cX9_isSerial 2 _ := hX
  revert hf
  show J X Y 2 Q 0 [(0, .ref (AD Y 0)), (1, .int v1)] [] G (f_X9_isSerial v1 G = some (r, G'))
  unfold f_X9_isSerial
  refine J_aload_n 0 hX dX9_isSerial_0 fz0 rfl ?_
  refine J_callVI (As := []) (st := []) (b := 0) hX mv_X9_133 sk_0 rfl rfl rfl (Nat.le_of_ble_eq_true rfl) (Nat.le_of_ble_eq_true rfl) (Nat.le_of_ble_eq_true rfl) dX9_isSerial_1 (fun r G1 h => ok_X9_isHall  h) fun r1 G1 => ?_
  refine J_if_eq (tgt := 22) hX dX9_isSerial_4 rfl ?_ ?_
  · refine J_iconst hX dX9_isSerial_22 ci_0 ?_
    exact J_retZ hR (by decide) dX9_isSerial_23
  · refine J_iload_n 1 hX dX9_isSerial_7 fz1 rfl ?_
    refine J_if_lt (tgt := 22) hX dX9_isSerial_8 rfl ?_ ?_
    · refine J_iconst hX dX9_isSerial_22 ci_0 ?_
      exact J_retZ hR (by decide) dX9_isSerial_23
    · refine J_iload_n 1 hX dX9_isSerial_11 fz1 rfl ?_
      refine J_sipush hX dX9_isSerial_12 cs_9999 ?_
      refine J_icmp_gt (tgt := 22) hX dX9_isSerial_15 rfl ?_ ?_
      · refine J_iconst hX dX9_isSerial_22 ci_0 ?_
        exact J_retZ hR (by decide) dX9_isSerial_23
      · refine J_iconst hX dX9_isSerial_18 ci_1 ?_
        refine J_goto (tgt := 23) hX dX9_isSerial_19 rfl ?_
        exact J_retZ hR (by decide) dX9_isSerial_23
set_option maxHeartbeats 4000000 in
set_option maxRecDepth 100000 in
theorem ok_X9_made {Y : DX} {v1 : Int32}  {G : GM} {r : Int32} {G' : GM} (hf : f_X9_made v1 G = some (r, G')) : OkI Y 3 M_X9_made [.ref (AD Y 0), .int v1] G r G' := by
  refine okI_of (lv0 := [(0, .ref (AD Y 0)), (1, .int v1)]) (by decide +kernel) rfl (Nat.le_of_ble_eq_true rfl) ?_
  intro X Q hX hR
  have hX : CXok X Y RX9 cX9_made 2 _ := hX
  revert hf
  show J X Y 2 Q 0 [(0, .ref (AD Y 0)), (1, .int v1)] [] G (f_X9_made v1 G = some (r, G'))
  unfold f_X9_made
  refine J_aload_n 0 hX dX9_made_0 fz0 rfl ?_
  refine J_iload_n 1 hX dX9_made_1 fz1 rfl ?_
  refine J_callVI (As := [.int v1]) (st := []) (b := 0) hX mv_X9_183 sk_0 rfl rfl rfl (Nat.le_of_ble_eq_true rfl) (Nat.le_of_ble_eq_true rfl) (Nat.le_of_ble_eq_true rfl) dX9_made_2 (fun r G1 h => ok_X9_isSerial  h) fun r2 G2 => ?_
  refine J_if_eq (tgt := 26) hX dX9_made_5 rfl ?_ ?_
  · refine J_bipush hX dX9_made_26 cbm_2 ?_
    exact J_retI hR dX9_made_28
  · refine J_aload_n 0 hX dX9_made_8 fz0 rfl ?_
    refine J_getR (b := 47) hX dX9_made_9 lf_X9_30 sk_0 rfl (by decide) rfl ?_
    refine J_aload_n 0 hX dX9_made_12 fz0 rfl ?_
    refine J_getNow hX dX9_made_13 lf_X9_10 fun hw13 => ?_
    refine J_getR (b := ((nw G2) + 1)) hX dX9_made_16 lf_X9_98 hw13 rfl (by decide) rfl ?_
    refine J_iload_n 1 hX dX9_made_19 fz1 rfl ?_
    refine J_callVI (As := [.ref (AD Y ((nw G2) + 1)), .int v1]) (st := []) (b := 47) hX mv_X9_186 sk_47 rfl rfl rfl (Nat.le_of_ble_eq_true rfl) (Nat.le_of_ble_eq_true rfl) (Nat.le_of_ble_eq_true rfl) dX9_made_20 (fun r G1 h => ok_X2_drawnPlan sk_47 (tp_4_0 hw13) h) fun r20 G20 => ?_
    refine J_goto (tgt := 28) hX dX9_made_23 rfl ?_
    exact J_retI hR dX9_made_28
set_option maxHeartbeats 4000000 in
set_option maxRecDepth 100000 in
theorem ok_X9_cell {Y : DX} {v1 : Int32} {v2 : Int32} {v3 : Int32} {v4 : Int32}  {G : GM} {r : Int32} {G' : GM} (hf : f_X9_cell v1 v2 v3 v4 G = some (r, G')) : OkI Y 10 M_X9_cell [.ref (AD Y 0), .int v1, .int v2, .int v3, .int v4] G r G' := by
  refine okI_of (lv0 := [(0, .ref (AD Y 0)), (1, .int v1), (2, .int v2), (3, .int v3), (4, .int v4)]) (by decide +kernel) rfl (Nat.le_of_ble_eq_true rfl) ?_
  intro X Q hX hR
  have hX : CXok X Y RX9 cX9_cell 5 _ := hX
  revert hf
  show J X Y 5 Q 0 [(0, .ref (AD Y 0)), (1, .int v1), (2, .int v2), (3, .int v3), (4, .int v4)] [] G (f_X9_cell v1 v2 v3 v4 G = some (r, G'))
  unfold f_X9_cell
  refine J_aload_n 0 hX dX9_cell_0 fz0 rfl ?_
  refine J_iload_n 1 hX dX9_cell_1 fz1 rfl ?_
  refine J_callVI (As := [.int v1]) (st := []) (b := 0) hX mv_X9_183 sk_0 rfl rfl rfl (Nat.le_of_ble_eq_true rfl) (Nat.le_of_ble_eq_true rfl) (Nat.le_of_ble_eq_true rfl) dX9_cell_2 (fun r G1 h => ok_X9_isSerial  h) fun r2 G2 => ?_
  refine J_if_eq (tgt := 43) hX dX9_cell_5 rfl ?_ ?_
  · refine J_bipush hX dX9_cell_43 cbm_2 ?_
    exact J_retI hR dX9_cell_45
  · refine J_aload_n 0 hX dX9_cell_8 fz0 rfl ?_
    refine J_iload_n 2 hX dX9_cell_9 fz2 rfl ?_
    refine J_callVI (As := [.int v2]) (st := []) (b := 0) hX mv_X9_142 sk_0 rfl rfl rfl (Nat.le_of_ble_eq_true rfl) (Nat.le_of_ble_eq_true rfl) (Nat.le_of_ble_eq_true rfl) dX9_cell_10 (fun r G1 h => ok_X9_isCard  h) fun r10 G10 => ?_
    refine J_if_eq (tgt := 43) hX dX9_cell_13 rfl ?_ ?_
    · refine J_bipush hX dX9_cell_43 cbm_2 ?_
      exact J_retI hR dX9_cell_45
    · refine J_iload_n 3 hX dX9_cell_16 fz3 rfl ?_
      refine J_if_lt (tgt := 43) hX dX9_cell_17 rfl ?_ ?_
      · refine J_bipush hX dX9_cell_43 cbm_2 ?_
        exact J_retI hR dX9_cell_45
      · refine J_iload_n 3 hX dX9_cell_20 fz3 rfl ?_
        refine J_aload_n 0 hX dX9_cell_21 fz0 rfl ?_
        refine J_getNow hX dX9_cell_22 lf_X9_10 fun hw22 => ?_
        refine J_getR (b := ((nw G10) + 1)) hX dX9_cell_25 lf_X9_98 hw22 rfl (by decide) rfl ?_
        refine J_getI hX dX9_cell_28 lf_X9_166 (tp_4_0 hw22) rfl ?_
        refine J_icmp_ge (tgt := 43) hX dX9_cell_31 rfl ?_ ?_
        · refine J_bipush hX dX9_cell_43 cbm_2 ?_
          exact J_retI hR dX9_cell_45
        · refine J_aload_n 0 hX dX9_cell_34 fz0 rfl ?_
          refine J_iload 4 hX dX9_cell_35 rfl ?_
          refine J_callVI (As := [.int v4]) (st := []) (b := 0) hX mv_X9_121 sk_0 rfl rfl rfl (Nat.le_of_ble_eq_true rfl) (Nat.le_of_ble_eq_true rfl) (Nat.le_of_ble_eq_true rfl) dX9_cell_37 (fun r G1 h => ok_X9_isColumn  h) fun r37 G37 => ?_
          refine J_if_ne (tgt := 46) hX dX9_cell_40 rfl ?_ ?_
          · refine J_aload_n 0 hX dX9_cell_46 fz0 rfl ?_
            refine J_getR (b := 47) hX dX9_cell_47 lf_X9_30 sk_0 rfl (by decide) rfl ?_
            refine J_aload_n 0 hX dX9_cell_50 fz0 rfl ?_
            refine J_getNow hX dX9_cell_51 lf_X9_10 fun hw51 => ?_
            refine J_getR (b := ((nw G37) + 1)) hX dX9_cell_54 lf_X9_98 hw51 rfl (by decide) rfl ?_
            refine J_iload_n 1 hX dX9_cell_57 fz1 rfl ?_
            refine J_aload_n 0 hX dX9_cell_58 fz0 rfl ?_
            refine J_getR (b := 74) hX dX9_cell_59 lf_X9_55 sk_0 rfl (by decide) rfl ?_
            refine J_callVV (As := [.ref (AD Y ((nw G37) + 1)), .int v1, .ref (AD Y 74)]) (st := []) (b := 47) hX mv_X9_190 sk_47 rfl rfl rfl (Nat.le_of_ble_eq_true rfl) (Nat.le_of_ble_eq_true rfl) (Nat.le_of_ble_eq_true rfl) dX9_cell_62 (fun G1 h => ok_X2_deal sk_47 (tp_4_0 hw51) sk_74 h) fun G62 => ?_
            refine J_aload_n 0 hX dX9_cell_65 fz0 rfl ?_
            refine J_getR (b := 74) hX dX9_cell_66 lf_X9_55 sk_0 rfl (by decide) rfl ?_
            refine J_aload_n 0 hX dX9_cell_69 fz0 rfl ?_
            refine J_getNow hX dX9_cell_70 lf_X9_10 fun hw70 => ?_
            refine J_getR (b := ((nw G62) + 1)) hX dX9_cell_73 lf_X9_98 hw70 rfl (by decide) rfl ?_
            refine J_iload_n 2 hX dX9_cell_76 fz2 rfl ?_
            refine J_iload_n 3 hX dX9_cell_77 fz3 rfl ?_
            refine J_iload 4 hX dX9_cell_78 rfl ?_
            refine J_callVI (As := [.int v2, .int v3, .int v4]) (st := [.ref (AD Y 74)]) (b := ((nw G62) + 1)) hX mv_X9_193 (tp_4_0 hw70) rfl rfl rfl (Nat.le_of_ble_eq_true rfl) (Nat.le_of_ble_eq_true rfl) (Nat.le_of_ble_eq_true rfl) dX9_cell_80 (fun r G1 h => ok_X4_placeOf (tp_4_0 hw70) h) fun r80 G80 => ?_
            refine J_iald hX dX9_cell_83 sk_74 ln_74 ?_
            exact J_retI hR dX9_cell_84
          · refine J_bipush hX dX9_cell_43 cbm_2 ?_
            exact J_retI hR dX9_cell_45
set_option maxHeartbeats 4000000 in
set_option maxRecDepth 100000 in
theorem ok_X9_isNumber {Y : DX} {v1 : Int32}  {G : GM} {r : Int32} {G' : GM} (hf : f_X9_isNumber v1 G = some (r, G')) : OkI Y 2 M_X9_isNumber [.ref (AD Y 0), .int v1] G r G' := by
  refine okZ_of (lv0 := [(0, .ref (AD Y 0)), (1, .int v1)]) (by decide +kernel) rfl (Nat.le_of_ble_eq_true rfl) ?_
  intro X Q hX hR
  have hX : CXok X Y RX9 cX9_isNumber 2 _ := hX
  revert hf
  show J X Y 2 Q 0 [(0, .ref (AD Y 0)), (1, .int v1)] [] G (f_X9_isNumber v1 G = some (r, G'))
  unfold f_X9_isNumber
  refine J_aload_n 0 hX dX9_isNumber_0 fz0 rfl ?_
  refine J_callVI (As := []) (st := []) (b := 0) hX mv_X9_133 sk_0 rfl rfl rfl (Nat.le_of_ble_eq_true rfl) (Nat.le_of_ble_eq_true rfl) (Nat.le_of_ble_eq_true rfl) dX9_isNumber_1 (fun r G1 h => ok_X9_isHall  h) fun r1 G1 => ?_
  refine J_if_eq (tgt := 30) hX dX9_isNumber_4 rfl ?_ ?_
  · refine J_iconst hX dX9_isNumber_30 ci_0 ?_
    exact J_retZ hR (by decide) dX9_isNumber_31
  · refine J_iload_n 1 hX dX9_isNumber_7 fz1 rfl ?_
    refine J_iconst hX dX9_isNumber_8 ci_1 ?_
    refine J_icmp_lt (tgt := 30) hX dX9_isNumber_9 rfl ?_ ?_
    · refine J_iconst hX dX9_isNumber_30 ci_0 ?_
      exact J_retZ hR (by decide) dX9_isNumber_31
    · refine J_iload_n 1 hX dX9_isNumber_12 fz1 rfl ?_
      refine J_aload_n 0 hX dX9_isNumber_13 fz0 rfl ?_
      refine J_getNow hX dX9_isNumber_14 lf_X9_10 fun hw14 => ?_
      refine J_getR (b := ((nw G1) + 1)) hX dX9_isNumber_17 lf_X9_98 hw14 rfl (by decide) rfl ?_
      refine J_getI hX dX9_isNumber_20 lf_X9_136 (tp_4_0 hw14) rfl ?_
      refine J_icmp_gt (tgt := 30) hX dX9_isNumber_23 rfl ?_ ?_
      · refine J_iconst hX dX9_isNumber_30 ci_0 ?_
        exact J_retZ hR (by decide) dX9_isNumber_31
      · refine J_iconst hX dX9_isNumber_26 ci_1 ?_
        refine J_goto (tgt := 31) hX dX9_isNumber_27 rfl ?_
        exact J_retZ hR (by decide) dX9_isNumber_31
set_option maxHeartbeats 4000000 in
set_option maxRecDepth 100000 in
theorem ok_X9_where {Y : DX} {v1 : Int32} {v2 : Int32}  {G : GM} {r : Int32} {G' : GM} (hf : f_X9_where v1 v2 G = some (r, G')) : OkI Y 10 M_X9_where [.ref (AD Y 0), .int v1, .int v2] G r G' := by
  refine okI_of (lv0 := [(0, .ref (AD Y 0)), (1, .int v1), (2, .int v2)]) (by decide +kernel) rfl (Nat.le_of_ble_eq_true rfl) ?_
  intro X Q hX hR
  have hX : CXok X Y RX9 cX9_where 6 _ := hX
  revert hf
  show J X Y 6 Q 0 [(0, .ref (AD Y 0)), (1, .int v1), (2, .int v2)] [] G (f_X9_where v1 v2 G = some (r, G'))
  have K40 : ∀  (n : Nat) (v3 : Int32) (G : GM), J X Y 6 Q 40 [(0, .ref (AD Y 0)), (2, .int v2), (3, .int v3)] [] G (wl1 n (lp_X9_where_40 v1 v2) v3 G = some (r, G')) := by
    refine wl1_ind (R := fun v3 G φ => J X Y 6 Q 40 [(0, .ref (AD Y 0)), (2, .int v2), (3, .int v3)] [] G φ) (fun _ G φ h => J_no h) ?_
    intro kc40 hk40 v3 G
    unfold lp_X9_where_40
    have K57 : ∀ (v3 : Int32) (n : Nat) (v4 : Int32) (G : GM), J X Y 6 Q 57 [(0, .ref (AD Y 0)), (2, .int v2), (3, .int v3), (4, .int v4)] [] G (wl1 n (lp_X9_where_57 v1 v2 v3 kc40) v4 G = some (r, G')) := by
      intro v3
      refine wl1_ind (R := fun v4 G φ => J X Y 6 Q 57 [(0, .ref (AD Y 0)), (2, .int v2), (3, .int v3), (4, .int v4)] [] G φ) (fun _ G φ h => J_no h) ?_
      intro kc57 hk57 v4 G
      unfold lp_X9_where_57
      have K75 : ∀ (v4 : Int32) (n : Nat) (v5 : Int32) (G : GM), J X Y 6 Q 75 [(0, .ref (AD Y 0)), (2, .int v2), (3, .int v3), (4, .int v4), (5, .int v5)] [] G (wl1 n (lp_X9_where_75 v1 v2 v3 v4 kc40 kc57) v5 G = some (r, G')) := by
        intro v4
        refine wl1_ind (R := fun v5 G φ => J X Y 6 Q 75 [(0, .ref (AD Y 0)), (2, .int v2), (3, .int v3), (4, .int v4), (5, .int v5)] [] G φ) (fun _ G φ h => J_no h) ?_
        intro kc75 hk75 v5 G
        unfold lp_X9_where_75
        refine J_iload 4 hX dX9_where_75 rfl ?_
        refine J_aload_n 0 hX dX9_where_77 fz0 rfl ?_
        refine J_getNow hX dX9_where_78 lf_X9_10 fun hw78 => ?_
        refine J_getR (b := ((nw G) + 1)) hX dX9_where_81 lf_X9_98 hw78 rfl (by decide) rfl ?_
        refine J_getI hX dX9_where_84 lf_X9_159 (tp_4_0 hw78) rfl ?_
        refine J_icmp_ge (tgt := 134) hX dX9_where_87 rfl ?_ ?_
        · refine J_iinc (lv' := [(4, .int (v4 + (1 : Int32))), (0, .ref (AD Y 0)), (2, .int v2), (3, .int v3), (5, .int v5)]) 3 hX dX9_where_134 rfl ci_1 (Nat.le_of_ble_eq_true rfl) rfl ?_
          refine J_goto (tgt := 57) hX dX9_where_137 rfl ?_
          refine J_sub (lv' := [(0, .ref (AD Y 0)), (2, .int v2), (3, .int v3), (4, .int (v4 + (1 : Int32)))]) [1, 2, 3, 0] rfl ?_
          exact hk57 (v4 + (1 : Int32)) G
        · refine J_aload_n 0 hX dX9_where_90 fz0 rfl ?_
          refine J_getR (b := 74) hX dX9_where_91 lf_X9_55 sk_0 rfl (by decide) rfl ?_
          refine J_aload_n 0 hX dX9_where_94 fz0 rfl ?_
          refine J_getNow hX dX9_where_95 lf_X9_10 fun hw95 => ?_
          refine J_getR (b := ((nw G) + 1)) hX dX9_where_98 lf_X9_98 hw95 rfl (by decide) rfl ?_
          refine J_iload_n 2 hX dX9_where_101 fz3 rfl ?_
          refine J_iload 3 hX dX9_where_102 rfl ?_
          refine J_iload 4 hX dX9_where_104 rfl ?_
          refine J_callVI (As := [.int v3, .int v4, .int v5]) (st := [.ref (AD Y 74)]) (b := ((nw G) + 1)) hX mv_X9_193 (tp_4_0 hw95) rfl rfl rfl (Nat.le_of_ble_eq_true rfl) (Nat.le_of_ble_eq_true rfl) (Nat.le_of_ble_eq_true rfl) dX9_where_106 (fun r G1 h => ok_X4_placeOf (tp_4_0 hw95) h) fun r106 G106 => ?_
          refine J_iald hX dX9_where_109 sk_74 ln_74 ?_
          refine J_iload_n 1 hX dX9_where_110 fz2 rfl ?_
          refine J_icmp_ne (tgt := 128) hX dX9_where_111 rfl ?_ ?_
          · refine J_iinc (lv' := [(5, .int (v5 + (1 : Int32))), (0, .ref (AD Y 0)), (2, .int v2), (3, .int v3), (4, .int v4)]) 4 hX dX9_where_128 rfl ci_1 (Nat.le_of_ble_eq_true rfl) rfl ?_
            refine J_goto (tgt := 75) hX dX9_where_131 rfl ?_
            refine J_sub (lv' := [(0, .ref (AD Y 0)), (2, .int v2), (3, .int v3), (4, .int v4), (5, .int (v5 + (1 : Int32)))]) [1, 2, 3, 4, 0] rfl ?_
            exact hk75 (v5 + (1 : Int32)) G106
          · refine J_bipush hX dX9_where_114 cb_100 ?_
            refine J_iload_n 2 hX dX9_where_116 fz3 rfl ?_
            refine J_imul hX dX9_where_117 ?_
            refine J_bipush hX dX9_where_118 cb_10 ?_
            refine J_iload 3 hX dX9_where_120 rfl ?_
            refine J_imul hX dX9_where_122 ?_
            refine J_iadd hX dX9_where_123 ?_
            refine J_iload 4 hX dX9_where_124 rfl ?_
            refine J_iadd hX dX9_where_126 ?_
            exact J_retI hR dX9_where_127
      refine J_iload 3 hX dX9_where_57 rfl ?_
      refine J_aload_n 0 hX dX9_where_59 fz0 rfl ?_
      refine J_getNow hX dX9_where_60 lf_X9_10 fun hw60 => ?_
      refine J_getR (b := ((nw G) + 1)) hX dX9_where_63 lf_X9_98 hw60 rfl (by decide) rfl ?_
      refine J_getI hX dX9_where_66 lf_X9_166 (tp_4_0 hw60) rfl ?_
      refine J_icmp_ge (tgt := 140) hX dX9_where_69 rfl ?_ ?_
      · refine J_iinc (lv' := [(3, .int (v3 + (1 : Int32))), (0, .ref (AD Y 0)), (2, .int v2), (4, .int v4)]) 2 hX dX9_where_140 rfl ci_1 (Nat.le_of_ble_eq_true rfl) rfl ?_
        refine J_goto (tgt := 40) hX dX9_where_143 rfl ?_
        refine J_sub (lv' := [(0, .ref (AD Y 0)), (2, .int v2), (3, .int (v3 + (1 : Int32)))]) [1, 2, 0] rfl ?_
        exact hk40 (v3 + (1 : Int32)) G
      · refine J_iconst hX dX9_where_72 ci_0 ?_
        refine J_istore (lv' := [(5, .int (0 : Int32)), (0, .ref (AD Y 0)), (2, .int v2), (3, .int v3), (4, .int v4)]) hX dX9_where_73 (Nat.le_of_ble_eq_true rfl) rfl ?_
        refine J_sub (lv' := [(0, .ref (AD Y 0)), (2, .int v2), (3, .int v3), (4, .int v4), (5, .int (0 : Int32))]) [1, 2, 3, 4, 0] rfl ?_
        exact K75 v4 FU (0 : Int32) G
    refine J_iload_n 2 hX dX9_where_40 fz3 rfl ?_
    refine J_aload_n 0 hX dX9_where_41 fz0 rfl ?_
    refine J_getNow hX dX9_where_42 lf_X9_10 fun hw42 => ?_
    refine J_getR (b := ((nw G) + 1)) hX dX9_where_45 lf_X9_98 hw42 rfl (by decide) rfl ?_
    refine J_getI hX dX9_where_48 lf_X9_200 (tp_4_0 hw42) rfl ?_
    refine J_icmp_ge (tgt := 146) hX dX9_where_51 rfl ?_ ?_
    · refine J_bipush hX dX9_where_146 cbm_2 ?_
      exact J_retI hR dX9_where_148
    · refine J_iconst hX dX9_where_54 ci_0 ?_
      refine J_istore (lv' := [(4, .int (0 : Int32)), (0, .ref (AD Y 0)), (2, .int v2), (3, .int v3)]) hX dX9_where_55 (Nat.le_of_ble_eq_true rfl) rfl ?_
      refine J_sub (lv' := [(0, .ref (AD Y 0)), (2, .int v2), (3, .int v3), (4, .int (0 : Int32))]) [1, 2, 3, 0] rfl ?_
      exact K57 v3 FU (0 : Int32) G
  unfold f_X9_where
  refine J_aload_n 0 hX dX9_where_0 fz0 rfl ?_
  refine J_iload_n 1 hX dX9_where_1 fz1 rfl ?_
  refine J_callVI (As := [.int v1]) (st := []) (b := 0) hX mv_X9_183 sk_0 rfl rfl rfl (Nat.le_of_ble_eq_true rfl) (Nat.le_of_ble_eq_true rfl) (Nat.le_of_ble_eq_true rfl) dX9_where_2 (fun r G1 h => ok_X9_isSerial  h) fun r2 G2 => ?_
  refine J_if_eq (tgt := 16) hX dX9_where_5 rfl ?_ ?_
  · refine J_bipush hX dX9_where_16 cbm_2 ?_
    exact J_retI hR dX9_where_18
  · refine J_aload_n 0 hX dX9_where_8 fz0 rfl ?_
    refine J_iload_n 2 hX dX9_where_9 fz2 rfl ?_
    refine J_callVI (As := [.int v2]) (st := []) (b := 0) hX mv_X9_197 sk_0 rfl rfl rfl (Nat.le_of_ble_eq_true rfl) (Nat.le_of_ble_eq_true rfl) (Nat.le_of_ble_eq_true rfl) dX9_where_10 (fun r G1 h => ok_X9_isNumber  h) fun r10 G10 => ?_
    refine J_if_ne (tgt := 19) hX dX9_where_13 rfl ?_ ?_
    · refine J_aload_n 0 hX dX9_where_19 fz0 rfl ?_
      refine J_getR (b := 47) hX dX9_where_20 lf_X9_30 sk_0 rfl (by decide) rfl ?_
      refine J_aload_n 0 hX dX9_where_23 fz0 rfl ?_
      refine J_getNow hX dX9_where_24 lf_X9_10 fun hw24 => ?_
      refine J_getR (b := ((nw G10) + 1)) hX dX9_where_27 lf_X9_98 hw24 rfl (by decide) rfl ?_
      refine J_iload_n 1 hX dX9_where_30 fz1 rfl ?_
      refine J_aload_n 0 hX dX9_where_31 fz0 rfl ?_
      refine J_getR (b := 74) hX dX9_where_32 lf_X9_55 sk_0 rfl (by decide) rfl ?_
      refine J_callVV (As := [.ref (AD Y ((nw G10) + 1)), .int v1, .ref (AD Y 74)]) (st := []) (b := 47) hX mv_X9_190 sk_47 rfl rfl rfl (Nat.le_of_ble_eq_true rfl) (Nat.le_of_ble_eq_true rfl) (Nat.le_of_ble_eq_true rfl) dX9_where_35 (fun G1 h => ok_X2_deal sk_47 (tp_4_0 hw24) sk_74 h) fun G35 => ?_
      refine J_iconst hX dX9_where_38 ci_0 ?_
      refine J_istore_n (lv' := [(3, .int (0 : Int32)), (0, .ref (AD Y 0)), (1, .int v1), (2, .int v2)]) hX dX9_where_39 fz3 (Nat.le_of_ble_eq_true rfl) rfl ?_
      refine J_sub (lv' := [(0, .ref (AD Y 0)), (2, .int v2), (3, .int (0 : Int32))]) [1, 3, 0] rfl ?_
      exact K40  FU (0 : Int32) G35
    · refine J_bipush hX dX9_where_16 cbm_2 ?_
      exact J_retI hR dX9_where_18
set_option maxHeartbeats 4000000 in
set_option maxRecDepth 100000 in
theorem ok_X9_same {Y : DX} {v1 : Int32} {v2 : Int32}  {G : GM} {r : Int32} {G' : GM} (hf : f_X9_same v1 v2 G = some (r, G')) : OkI Y 10 M_X9_same [.ref (AD Y 0), .int v1, .int v2] G r G' := by
  refine okI_of (lv0 := [(0, .ref (AD Y 0)), (1, .int v1), (2, .int v2)]) (by decide +kernel) rfl (Nat.le_of_ble_eq_true rfl) ?_
  intro X Q hX hR
  have hX : CXok X Y RX9 cX9_same 3 _ := hX
  revert hf
  show J X Y 3 Q 0 [(0, .ref (AD Y 0)), (1, .int v1), (2, .int v2)] [] G (f_X9_same v1 v2 G = some (r, G'))
  unfold f_X9_same
  refine J_aload_n 0 hX dX9_same_0 fz0 rfl ?_
  refine J_iload_n 1 hX dX9_same_1 fz1 rfl ?_
  refine J_callVI (As := [.int v1]) (st := []) (b := 0) hX mv_X9_183 sk_0 rfl rfl rfl (Nat.le_of_ble_eq_true rfl) (Nat.le_of_ble_eq_true rfl) (Nat.le_of_ble_eq_true rfl) dX9_same_2 (fun r G1 h => ok_X9_isSerial  h) fun r2 G2 => ?_
  refine J_if_eq (tgt := 16) hX dX9_same_5 rfl ?_ ?_
  · refine J_bipush hX dX9_same_16 cbm_2 ?_
    exact J_retI hR dX9_same_18
  · refine J_aload_n 0 hX dX9_same_8 fz0 rfl ?_
    refine J_iload_n 2 hX dX9_same_9 fz2 rfl ?_
    refine J_callVI (As := [.int v2]) (st := []) (b := 0) hX mv_X9_183 sk_0 rfl rfl rfl (Nat.le_of_ble_eq_true rfl) (Nat.le_of_ble_eq_true rfl) (Nat.le_of_ble_eq_true rfl) dX9_same_10 (fun r G1 h => ok_X9_isSerial  h) fun r10 G10 => ?_
    refine J_if_ne (tgt := 19) hX dX9_same_13 rfl ?_ ?_
    · refine J_aload_n 0 hX dX9_same_19 fz0 rfl ?_
      refine J_getR (b := 47) hX dX9_same_20 lf_X9_30 sk_0 rfl (by decide) rfl ?_
      refine J_aload_n 0 hX dX9_same_23 fz0 rfl ?_
      refine J_getNow hX dX9_same_24 lf_X9_10 fun hw24 => ?_
      refine J_getR (b := ((nw G10) + 1)) hX dX9_same_27 lf_X9_98 hw24 rfl (by decide) rfl ?_
      refine J_iload_n 1 hX dX9_same_30 fz1 rfl ?_
      refine J_aload_n 0 hX dX9_same_31 fz0 rfl ?_
      refine J_getR (b := 74) hX dX9_same_32 lf_X9_55 sk_0 rfl (by decide) rfl ?_
      refine J_callVV (As := [.ref (AD Y ((nw G10) + 1)), .int v1, .ref (AD Y 74)]) (st := []) (b := 47) hX mv_X9_190 sk_47 rfl rfl rfl (Nat.le_of_ble_eq_true rfl) (Nat.le_of_ble_eq_true rfl) (Nat.le_of_ble_eq_true rfl) dX9_same_35 (fun G1 h => ok_X2_deal sk_47 (tp_4_0 hw24) sk_74 h) fun G35 => ?_
      refine J_aload_n 0 hX dX9_same_38 fz0 rfl ?_
      refine J_getR (b := 47) hX dX9_same_39 lf_X9_30 sk_0 rfl (by decide) rfl ?_
      refine J_aload_n 0 hX dX9_same_42 fz0 rfl ?_
      refine J_getNow hX dX9_same_43 lf_X9_10 fun hw43 => ?_
      refine J_getR (b := ((nw G35) + 1)) hX dX9_same_46 lf_X9_98 hw43 rfl (by decide) rfl ?_
      refine J_iload_n 2 hX dX9_same_49 fz2 rfl ?_
      refine J_aload_n 0 hX dX9_same_50 fz0 rfl ?_
      refine J_getR (b := 75) hX dX9_same_51 lf_X9_59 sk_0 rfl (by decide) rfl ?_
      refine J_callVV (As := [.ref (AD Y ((nw G35) + 1)), .int v2, .ref (AD Y 75)]) (st := []) (b := 47) hX mv_X9_190 sk_47 rfl rfl rfl (Nat.le_of_ble_eq_true rfl) (Nat.le_of_ble_eq_true rfl) (Nat.le_of_ble_eq_true rfl) dX9_same_54 (fun G1 h => ok_X2_deal sk_47 (tp_4_0 hw43) sk_75 h) fun G54 => ?_
      refine J_aload_n 0 hX dX9_same_57 fz0 rfl ?_
      refine J_getR (b := 74) hX dX9_same_58 lf_X9_55 sk_0 rfl (by decide) rfl ?_
      refine J_aload_n 0 hX dX9_same_61 fz0 rfl ?_
      refine J_getR (b := 75) hX dX9_same_62 lf_X9_59 sk_0 rfl (by decide) rfl ?_
      refine J_callSI (As := [.ref (AD Y 74), .ref (AD Y 75)]) (st := []) hX ms_X9_203 rfl rfl (Nat.le_of_ble_eq_true rfl) (Nat.le_of_ble_eq_true rfl) (Nat.le_of_ble_eq_true rfl) dX9_same_65 (fun r G1 h => ok_X9_areSame sk_74 sk_75 h) fun r65 G65 => ?_
      refine J_if_eq (tgt := 75) hX dX9_same_68 rfl ?_ ?_
      · refine J_iconst hX dX9_same_75 ci_0 ?_
        exact J_retI hR dX9_same_76
      · refine J_iconst hX dX9_same_71 ci_1 ?_
        refine J_goto (tgt := 76) hX dX9_same_72 rfl ?_
        exact J_retI hR dX9_same_76
    · refine J_bipush hX dX9_same_16 cbm_2 ?_
      exact J_retI hR dX9_same_18
set_option maxHeartbeats 4000000 in
set_option maxRecDepth 100000 in
theorem ok_X9_alike {Y : DX} {v1 : Int32} {v2 : Int32} {v3 : Int32} {v4 : Int32}  {G : GM} {r : Int32} {G' : GM} (hf : f_X9_alike v1 v2 v3 v4 G = some (r, G')) : OkI Y 10 M_X9_alike [.ref (AD Y 0), .int v1, .int v2, .int v3, .int v4] G r G' := by
  refine okI_of (lv0 := [(0, .ref (AD Y 0)), (1, .int v1), (2, .int v2), (3, .int v3), (4, .int v4)]) (by decide +kernel) rfl (Nat.le_of_ble_eq_true rfl) ?_
  intro X Q hX hR
  have hX : CXok X Y RX9 cX9_alike 5 _ := hX
  revert hf
  show J X Y 5 Q 0 [(0, .ref (AD Y 0)), (1, .int v1), (2, .int v2), (3, .int v3), (4, .int v4)] [] G (f_X9_alike v1 v2 v3 v4 G = some (r, G'))
  unfold f_X9_alike
  refine J_aload_n 0 hX dX9_alike_0 fz0 rfl ?_
  refine J_iload_n 1 hX dX9_alike_1 fz1 rfl ?_
  refine J_callVI (As := [.int v1]) (st := []) (b := 0) hX mv_X9_183 sk_0 rfl rfl rfl (Nat.le_of_ble_eq_true rfl) (Nat.le_of_ble_eq_true rfl) (Nat.le_of_ble_eq_true rfl) dX9_alike_2 (fun r G1 h => ok_X9_isSerial  h) fun r2 G2 => ?_
  refine J_if_eq (tgt := 33) hX dX9_alike_5 rfl ?_ ?_
  · refine J_bipush hX dX9_alike_33 cbm_2 ?_
    exact J_retI hR dX9_alike_35
  · refine J_aload_n 0 hX dX9_alike_8 fz0 rfl ?_
    refine J_iload_n 2 hX dX9_alike_9 fz2 rfl ?_
    refine J_callVI (As := [.int v2]) (st := []) (b := 0) hX mv_X9_142 sk_0 rfl rfl rfl (Nat.le_of_ble_eq_true rfl) (Nat.le_of_ble_eq_true rfl) (Nat.le_of_ble_eq_true rfl) dX9_alike_10 (fun r G1 h => ok_X9_isCard  h) fun r10 G10 => ?_
    refine J_if_eq (tgt := 33) hX dX9_alike_13 rfl ?_ ?_
    · refine J_bipush hX dX9_alike_33 cbm_2 ?_
      exact J_retI hR dX9_alike_35
    · refine J_aload_n 0 hX dX9_alike_16 fz0 rfl ?_
      refine J_iload_n 3 hX dX9_alike_17 fz3 rfl ?_
      refine J_callVI (As := [.int v3]) (st := []) (b := 0) hX mv_X9_183 sk_0 rfl rfl rfl (Nat.le_of_ble_eq_true rfl) (Nat.le_of_ble_eq_true rfl) (Nat.le_of_ble_eq_true rfl) dX9_alike_18 (fun r G1 h => ok_X9_isSerial  h) fun r18 G18 => ?_
      refine J_if_eq (tgt := 33) hX dX9_alike_21 rfl ?_ ?_
      · refine J_bipush hX dX9_alike_33 cbm_2 ?_
        exact J_retI hR dX9_alike_35
      · refine J_aload_n 0 hX dX9_alike_24 fz0 rfl ?_
        refine J_iload 4 hX dX9_alike_25 rfl ?_
        refine J_callVI (As := [.int v4]) (st := []) (b := 0) hX mv_X9_142 sk_0 rfl rfl rfl (Nat.le_of_ble_eq_true rfl) (Nat.le_of_ble_eq_true rfl) (Nat.le_of_ble_eq_true rfl) dX9_alike_27 (fun r G1 h => ok_X9_isCard  h) fun r27 G27 => ?_
        refine J_if_ne (tgt := 36) hX dX9_alike_30 rfl ?_ ?_
        · refine J_aload_n 0 hX dX9_alike_36 fz0 rfl ?_
          refine J_getR (b := 47) hX dX9_alike_37 lf_X9_30 sk_0 rfl (by decide) rfl ?_
          refine J_aload_n 0 hX dX9_alike_40 fz0 rfl ?_
          refine J_getNow hX dX9_alike_41 lf_X9_10 fun hw41 => ?_
          refine J_getR (b := ((nw G27) + 1)) hX dX9_alike_44 lf_X9_98 hw41 rfl (by decide) rfl ?_
          refine J_iload_n 1 hX dX9_alike_47 fz1 rfl ?_
          refine J_aload_n 0 hX dX9_alike_48 fz0 rfl ?_
          refine J_getR (b := 74) hX dX9_alike_49 lf_X9_55 sk_0 rfl (by decide) rfl ?_
          refine J_callVV (As := [.ref (AD Y ((nw G27) + 1)), .int v1, .ref (AD Y 74)]) (st := []) (b := 47) hX mv_X9_190 sk_47 rfl rfl rfl (Nat.le_of_ble_eq_true rfl) (Nat.le_of_ble_eq_true rfl) (Nat.le_of_ble_eq_true rfl) dX9_alike_52 (fun G1 h => ok_X2_deal sk_47 (tp_4_0 hw41) sk_74 h) fun G52 => ?_
          refine J_aload_n 0 hX dX9_alike_55 fz0 rfl ?_
          refine J_getR (b := 47) hX dX9_alike_56 lf_X9_30 sk_0 rfl (by decide) rfl ?_
          refine J_aload_n 0 hX dX9_alike_59 fz0 rfl ?_
          refine J_getNow hX dX9_alike_60 lf_X9_10 fun hw60 => ?_
          refine J_getR (b := ((nw G52) + 1)) hX dX9_alike_63 lf_X9_98 hw60 rfl (by decide) rfl ?_
          refine J_iload_n 3 hX dX9_alike_66 fz3 rfl ?_
          refine J_aload_n 0 hX dX9_alike_67 fz0 rfl ?_
          refine J_getR (b := 75) hX dX9_alike_68 lf_X9_59 sk_0 rfl (by decide) rfl ?_
          refine J_callVV (As := [.ref (AD Y ((nw G52) + 1)), .int v3, .ref (AD Y 75)]) (st := []) (b := 47) hX mv_X9_190 sk_47 rfl rfl rfl (Nat.le_of_ble_eq_true rfl) (Nat.le_of_ble_eq_true rfl) (Nat.le_of_ble_eq_true rfl) dX9_alike_71 (fun G1 h => ok_X2_deal sk_47 (tp_4_0 hw60) sk_75 h) fun G71 => ?_
          refine J_aload_n 0 hX dX9_alike_74 fz0 rfl ?_
          refine J_getNow hX dX9_alike_75 lf_X9_10 fun hw75 => ?_
          refine J_getR (b := ((nw G71) + 1)) hX dX9_alike_78 lf_X9_98 hw75 rfl (by decide) rfl ?_
          refine J_aload_n 0 hX dX9_alike_81 fz0 rfl ?_
          refine J_getR (b := 74) hX dX9_alike_82 lf_X9_55 sk_0 rfl (by decide) rfl ?_
          refine J_iload_n 2 hX dX9_alike_85 fz2 rfl ?_
          refine J_callVJ (As := [.ref (AD Y 74), .int v2]) (st := []) (b := ((nw G71) + 1)) hX mv_X9_207 (tp_4_0 hw75) rfl rfl rfl (Nat.le_of_ble_eq_true rfl) (Nat.le_of_ble_eq_true rfl) (Nat.le_of_ble_eq_true rfl) dX9_alike_86 (fun r G1 h => ok_X4_numbersOf (tp_4_0 hw75) sk_74 h) fun r86 G86 => ?_
          refine J_aload_n 0 hX dX9_alike_89 fz0 rfl ?_
          refine J_getNow hX dX9_alike_90 lf_X9_10 fun hw90 => ?_
          refine J_getR (b := ((nw G86) + 1)) hX dX9_alike_93 lf_X9_98 hw90 rfl (by decide) rfl ?_
          refine J_aload_n 0 hX dX9_alike_96 fz0 rfl ?_
          refine J_getR (b := 75) hX dX9_alike_97 lf_X9_59 sk_0 rfl (by decide) rfl ?_
          refine J_iload 4 hX dX9_alike_100 rfl ?_
          refine J_callVJ (As := [.ref (AD Y 75), .int v4]) (st := [.long r86]) (b := ((nw G86) + 1)) hX mv_X9_207 (tp_4_0 hw90) rfl rfl rfl (Nat.le_of_ble_eq_true rfl) (Nat.le_of_ble_eq_true rfl) (Nat.le_of_ble_eq_true rfl) dX9_alike_102 (fun r G1 h => ok_X4_numbersOf (tp_4_0 hw90) sk_75 h) fun r102 G102 => ?_
          refine J_land hX dX9_alike_105 ?_
          refine J_callSI (As := [.long (r86 &&& r102)]) (st := []) hX ms_X9_211 rfl rfl (Nat.le_of_ble_eq_true rfl) (Nat.le_of_ble_eq_true rfl) (Nat.le_of_ble_eq_true rfl) dX9_alike_106 (fun r G1 h => ok_J13_bitCount_95d88  h) fun r106 G106 => ?_
          exact J_retI hR dX9_alike_109
        · refine J_bipush hX dX9_alike_33 cbm_2 ?_
          exact J_retI hR dX9_alike_35
set_option maxHeartbeats 4000000 in
set_option maxRecDepth 100000 in
theorem ok_X9_sell {Y : DX} {v1 : Int32}  {G : GM} {r : Int32} {G' : GM} (hf : f_X9_sell v1 G = some (r, G')) : OkI Y 10 M_X9_sell [.ref (AD Y 0), .int v1] G r G' := by
  refine okI_of (lv0 := [(0, .ref (AD Y 0)), (1, .int v1)]) (by decide +kernel) rfl (Nat.le_of_ble_eq_true rfl) ?_
  intro X Q hX hR
  have hX : CXok X Y RX9 cX9_sell 2 _ := hX
  revert hf
  show J X Y 2 Q 0 [(0, .ref (AD Y 0)), (1, .int v1)] [] G (f_X9_sell v1 G = some (r, G'))
  unfold f_X9_sell
  refine J_aload_n 0 hX dX9_sell_0 fz0 rfl ?_
  refine J_iload_n 1 hX dX9_sell_1 fz1 rfl ?_
  refine J_callVI (As := [.int v1]) (st := []) (b := 0) hX mv_X9_183 sk_0 rfl rfl rfl (Nat.le_of_ble_eq_true rfl) (Nat.le_of_ble_eq_true rfl) (Nat.le_of_ble_eq_true rfl) dX9_sell_2 (fun r G1 h => ok_X9_isSerial  h) fun r2 G2 => ?_
  refine J_if_ne (tgt := 11) hX dX9_sell_5 rfl ?_ ?_
  · refine J_aload_n 0 hX dX9_sell_11 fz0 rfl ?_
    refine J_getNow hX dX9_sell_12 lf_X9_10 fun hw12 => ?_
    refine J_getI hX dX9_sell_15 lf_X9_217 hw12 rfl ?_
    refine J_bipush hX dX9_sell_18 cb_8 ?_
    refine J_icmp_lt (tgt := 26) hX dX9_sell_20 rfl ?_ ?_
    · refine J_aload_n 0 hX dX9_sell_26 fz0 rfl ?_
      refine J_getR (b := 47) hX dX9_sell_27 lf_X9_30 sk_0 rfl (by decide) rfl ?_
      refine J_aload_n 0 hX dX9_sell_30 fz0 rfl ?_
      refine J_getNow hX dX9_sell_31 lf_X9_10 fun hw31 => ?_
      refine J_getR (b := ((nw G2) + 1)) hX dX9_sell_34 lf_X9_98 hw31 rfl (by decide) rfl ?_
      refine J_iload_n 1 hX dX9_sell_37 fz1 rfl ?_
      refine J_aload_n 0 hX dX9_sell_38 fz0 rfl ?_
      refine J_getR (b := 74) hX dX9_sell_39 lf_X9_55 sk_0 rfl (by decide) rfl ?_
      refine J_callVV (As := [.ref (AD Y ((nw G2) + 1)), .int v1, .ref (AD Y 74)]) (st := []) (b := 47) hX mv_X9_190 sk_47 rfl rfl rfl (Nat.le_of_ble_eq_true rfl) (Nat.le_of_ble_eq_true rfl) (Nat.le_of_ble_eq_true rfl) dX9_sell_42 (fun G1 h => ok_X2_deal sk_47 (tp_4_0 hw31) sk_74 h) fun G42 => ?_
      refine J_aload_n 0 hX dX9_sell_45 fz0 rfl ?_
      refine J_getNow hX dX9_sell_46 lf_X9_10 fun hw46 => ?_
      refine J_aload_n 0 hX dX9_sell_49 fz0 rfl ?_
      refine J_getR (b := 74) hX dX9_sell_50 lf_X9_55 sk_0 rfl (by decide) rfl ?_
      refine J_callVI (As := [.ref (AD Y 74)]) (st := []) (b := (nw G42)) hX mv_X9_220 hw46 rfl rfl rfl (Nat.le_of_ble_eq_true rfl) (Nat.le_of_ble_eq_true rfl) (Nat.le_of_ble_eq_true rfl) dX9_sell_53 (fun r G1 h => ok_X5_hasSold hw46 sk_74 h) fun r53 G53 => ?_
      refine J_if_eq (tgt := 62) hX dX9_sell_56 rfl ?_ ?_
      · refine J_aload_n 0 hX dX9_sell_62 fz0 rfl ?_
        refine J_getNow hX dX9_sell_63 lf_X9_10 fun hw63 => ?_
        refine J_iload_n 1 hX dX9_sell_66 fz1 rfl ?_
        refine J_aload_n 0 hX dX9_sell_67 fz0 rfl ?_
        refine J_getR (b := 74) hX dX9_sell_68 lf_X9_55 sk_0 rfl (by decide) rfl ?_
        refine J_callVV (As := [.int v1, .ref (AD Y 74)]) (st := []) (b := (nw G53)) hX mv_X9_224 hw63 rfl rfl rfl (Nat.le_of_ble_eq_true rfl) (Nat.le_of_ble_eq_true rfl) (Nat.le_of_ble_eq_true rfl) dX9_sell_71 (fun G1 h => ok_X5_addSold hw63 sk_74 h) fun G71 => ?_
        refine J_aload_n 0 hX dX9_sell_74 fz0 rfl ?_
        refine J_getNow hX dX9_sell_75 lf_X9_10 fun hw75 => ?_
        refine J_getI hX dX9_sell_78 lf_X9_217 hw75 rfl ?_
        exact J_retI hR dX9_sell_81
      · refine J_bipush hX dX9_sell_59 cbm_5 ?_
        exact J_retI hR dX9_sell_61
    · refine J_bipush hX dX9_sell_23 cbm_3 ?_
      exact J_retI hR dX9_sell_25
  · refine J_bipush hX dX9_sell_8 cbm_2 ?_
    exact J_retI hR dX9_sell_10
set_option maxHeartbeats 4000000 in
set_option maxRecDepth 100000 in
theorem ok_X9_unsell {Y : DX}   {G : GM} {r : Int32} {G' : GM} (hf : f_X9_unsell  G = some (r, G')) : OkI Y 2 M_X9_unsell [.ref (AD Y 0)] G r G' := by
  refine okI_of (lv0 := [(0, .ref (AD Y 0))]) (by decide +kernel) rfl (Nat.le_of_ble_eq_true rfl) ?_
  intro X Q hX hR
  have hX : CXok X Y RX9 cX9_unsell 1 _ := hX
  revert hf
  show J X Y 1 Q 0 [(0, .ref (AD Y 0))] [] G (f_X9_unsell  G = some (r, G'))
  unfold f_X9_unsell
  refine J_aload_n 0 hX dX9_unsell_0 fz0 rfl ?_
  refine J_callVI (As := []) (st := []) (b := 0) hX mv_X9_133 sk_0 rfl rfl rfl (Nat.le_of_ble_eq_true rfl) (Nat.le_of_ble_eq_true rfl) (Nat.le_of_ble_eq_true rfl) dX9_unsell_1 (fun r G1 h => ok_X9_isHall  h) fun r1 G1 => ?_
  refine J_if_ne (tgt := 10) hX dX9_unsell_4 rfl ?_ ?_
  · refine J_aload_n 0 hX dX9_unsell_10 fz0 rfl ?_
    refine J_getNow hX dX9_unsell_11 lf_X9_10 fun hw11 => ?_
    refine J_getI hX dX9_unsell_14 lf_X9_217 hw11 rfl ?_
    refine J_iconst hX dX9_unsell_17 ci_1 ?_
    refine J_icmp_ge (tgt := 23) hX dX9_unsell_18 rfl ?_ ?_
    · refine J_aload_n 0 hX dX9_unsell_23 fz0 rfl ?_
      refine J_getNow hX dX9_unsell_24 lf_X9_10 fun hw24 => ?_
      refine J_dup hX dX9_unsell_27 rfl ?_
      refine J_getI hX dX9_unsell_28 lf_X9_217 hw24 rfl ?_
      refine J_iconst hX dX9_unsell_31 ci_1 ?_
      refine J_isub hX dX9_unsell_32 ?_
      refine J_putI hX dX9_unsell_33 lf_X9_217 lpt_4_5 hw24 rfl fun G33 => ?_
      refine J_iconst hX dX9_unsell_36 ci_1 ?_
      exact J_retI hR dX9_unsell_37
    · refine J_iconst hX dX9_unsell_21 ci_0 ?_
      exact J_retI hR dX9_unsell_22
  · refine J_bipush hX dX9_unsell_7 cbm_2 ?_
    exact J_retI hR dX9_unsell_9
set_option maxHeartbeats 4000000 in
set_option maxRecDepth 100000 in
theorem ok_X9_isPlace {Y : DX} {v1 : Int32}  {G : GM} {r : Int32} {G' : GM} (hf : f_X9_isPlace v1 G = some (r, G')) : OkI Y 2 M_X9_isPlace [.ref (AD Y 0), .int v1] G r G' := by
  refine okZ_of (lv0 := [(0, .ref (AD Y 0)), (1, .int v1)]) (by decide +kernel) rfl (Nat.le_of_ble_eq_true rfl) ?_
  intro X Q hX hR
  have hX : CXok X Y RX9 cX9_isPlace 2 _ := hX
  revert hf
  show J X Y 2 Q 0 [(0, .ref (AD Y 0)), (1, .int v1)] [] G (f_X9_isPlace v1 G = some (r, G'))
  unfold f_X9_isPlace
  refine J_aload_n 0 hX dX9_isPlace_0 fz0 rfl ?_
  refine J_callVI (As := []) (st := []) (b := 0) hX mv_X9_133 sk_0 rfl rfl rfl (Nat.le_of_ble_eq_true rfl) (Nat.le_of_ble_eq_true rfl) (Nat.le_of_ble_eq_true rfl) dX9_isPlace_1 (fun r G1 h => ok_X9_isHall  h) fun r1 G1 => ?_
  refine J_if_eq (tgt := 26) hX dX9_isPlace_4 rfl ?_ ?_
  · refine J_iconst hX dX9_isPlace_26 ci_0 ?_
    exact J_retZ hR (by decide) dX9_isPlace_27
  · refine J_iload_n 1 hX dX9_isPlace_7 fz1 rfl ?_
    refine J_if_lt (tgt := 26) hX dX9_isPlace_8 rfl ?_ ?_
    · refine J_iconst hX dX9_isPlace_26 ci_0 ?_
      exact J_retZ hR (by decide) dX9_isPlace_27
    · refine J_iload_n 1 hX dX9_isPlace_11 fz1 rfl ?_
      refine J_aload_n 0 hX dX9_isPlace_12 fz0 rfl ?_
      refine J_getNow hX dX9_isPlace_13 lf_X9_10 fun hw13 => ?_
      refine J_getI hX dX9_isPlace_16 lf_X9_217 hw13 rfl ?_
      refine J_icmp_ge (tgt := 26) hX dX9_isPlace_19 rfl ?_ ?_
      · refine J_iconst hX dX9_isPlace_26 ci_0 ?_
        exact J_retZ hR (by decide) dX9_isPlace_27
      · refine J_iconst hX dX9_isPlace_22 ci_1 ?_
        refine J_goto (tgt := 27) hX dX9_isPlace_23 rfl ?_
        exact J_retZ hR (by decide) dX9_isPlace_27
set_option maxHeartbeats 4000000 in
set_option maxRecDepth 100000 in
theorem ok_X9_sold {Y : DX} {v1 : Int32}  {G : GM} {r : Int32} {G' : GM} (hf : f_X9_sold v1 G = some (r, G')) : OkI Y 3 M_X9_sold [.ref (AD Y 0), .int v1] G r G' := by
  refine okI_of (lv0 := [(0, .ref (AD Y 0)), (1, .int v1)]) (by decide +kernel) rfl (Nat.le_of_ble_eq_true rfl) ?_
  intro X Q hX hR
  have hX : CXok X Y RX9 cX9_sold 2 _ := hX
  revert hf
  show J X Y 2 Q 0 [(0, .ref (AD Y 0)), (1, .int v1)] [] G (f_X9_sold v1 G = some (r, G'))
  unfold f_X9_sold
  refine J_aload_n 0 hX dX9_sold_0 fz0 rfl ?_
  refine J_iload_n 1 hX dX9_sold_1 fz1 rfl ?_
  refine J_callVI (As := [.int v1]) (st := []) (b := 0) hX mv_X9_228 sk_0 rfl rfl rfl (Nat.le_of_ble_eq_true rfl) (Nat.le_of_ble_eq_true rfl) (Nat.le_of_ble_eq_true rfl) dX9_sold_2 (fun r G1 h => ok_X9_isPlace  h) fun r2 G2 => ?_
  refine J_if_eq (tgt := 20) hX dX9_sold_5 rfl ?_ ?_
  · refine J_iconst hX dX9_sold_20 cim_1 ?_
    exact J_retI hR dX9_sold_21
  · refine J_aload_n 0 hX dX9_sold_8 fz0 rfl ?_
    refine J_getNow hX dX9_sold_9 lf_X9_10 fun hw9 => ?_
    refine J_getR (b := ((nw G2) + 10)) hX dX9_sold_12 lf_X9_231 hw9 rfl (by decide) rfl ?_
    refine J_iload_n 1 hX dX9_sold_15 fz1 rfl ?_
    refine J_iald hX dX9_sold_16 (tp_4_6 hw9) (tl_4_6 hw9) ?_
    refine J_goto (tgt := 21) hX dX9_sold_17 rfl ?_
    exact J_retI hR dX9_sold_21
set_option maxHeartbeats 4000000 in
set_option maxRecDepth 100000 in
theorem ok_X9_caller {Y : DX} {v1 : Int32}  {G : GM} {r : Int32} {G' : GM} (hf : f_X9_caller v1 G = some (r, G')) : OkI Y 4 M_X9_caller [.ref (AD Y 0), .int v1] G r G' := by
  refine okI_of (lv0 := [(0, .ref (AD Y 0)), (1, .int v1)]) (by decide +kernel) rfl (Nat.le_of_ble_eq_true rfl) ?_
  intro X Q hX hR
  have hX : CXok X Y RX9 cX9_caller 2 _ := hX
  revert hf
  show J X Y 2 Q 0 [(0, .ref (AD Y 0)), (1, .int v1)] [] G (f_X9_caller v1 G = some (r, G'))
  unfold f_X9_caller
  refine J_aload_n 0 hX dX9_caller_0 fz0 rfl ?_
  refine J_callVI (As := []) (st := []) (b := 0) hX mv_X9_133 sk_0 rfl rfl rfl (Nat.le_of_ble_eq_true rfl) (Nat.le_of_ble_eq_true rfl) (Nat.le_of_ble_eq_true rfl) dX9_caller_1 (fun r G1 h => ok_X9_isHall  h) fun r1 G1 => ?_
  refine J_if_eq (tgt := 17) hX dX9_caller_4 rfl ?_ ?_
  · refine J_bipush hX dX9_caller_17 cbm_2 ?_
    exact J_retI hR dX9_caller_19
  · refine J_iload_n 1 hX dX9_caller_7 fz1 rfl ?_
    refine J_if_lt (tgt := 17) hX dX9_caller_8 rfl ?_ ?_
    · refine J_bipush hX dX9_caller_17 cbm_2 ?_
      exact J_retI hR dX9_caller_19
    · refine J_iload_n 1 hX dX9_caller_11 fz1 rfl ?_
      refine J_ldc hX dX9_caller_12 lc_X9_234 ?_
      refine J_icmp_le (tgt := 20) hX dX9_caller_14 rfl ?_ ?_
      · refine J_aload_n 0 hX dX9_caller_20 fz0 rfl ?_
        refine J_getR (b := 47) hX dX9_caller_21 lf_X9_30 sk_0 rfl (by decide) rfl ?_
        refine J_aload_n 0 hX dX9_caller_24 fz0 rfl ?_
        refine J_getNow hX dX9_caller_25 lf_X9_10 fun hw25 => ?_
        refine J_getR (b := ((nw G1) + 1)) hX dX9_caller_28 lf_X9_98 hw25 rfl (by decide) rfl ?_
        refine J_iload_n 1 hX dX9_caller_31 fz1 rfl ?_
        refine J_aload_n 0 hX dX9_caller_32 fz0 rfl ?_
        refine J_getNow hX dX9_caller_33 lf_X9_10 fun hw33 => ?_
        refine J_getR (b := ((nw G1) + 20)) hX dX9_caller_36 lf_X9_105 hw33 rfl (by decide) rfl ?_
        refine J_callVV (As := [.ref (AD Y ((nw G1) + 1)), .int v1, .ref (AD Y ((nw G1) + 20))]) (st := []) (b := 47) hX mv_X9_108 sk_47 rfl rfl rfl (Nat.le_of_ble_eq_true rfl) (Nat.le_of_ble_eq_true rfl) (Nat.le_of_ble_eq_true rfl) dX9_caller_39 (fun G1 h => ok_X2_mixCalls sk_47 (tp_4_0 hw25) (tp_4_8 hw33) h) fun G39 => ?_
        refine J_aload_n 0 hX dX9_caller_42 fz0 rfl ?_
        refine J_getNow hX dX9_caller_43 lf_X9_10 fun hw43 => ?_
        refine J_callVV (As := []) (st := []) (b := (nw G39)) hX mv_X9_112 hw43 rfl rfl rfl (Nat.le_of_ble_eq_true rfl) (Nat.le_of_ble_eq_true rfl) (Nat.le_of_ble_eq_true rfl) dX9_caller_46 (fun G1 h => ok_X5_noteTurns hw43 h) fun G46 => ?_
        refine J_iconst hX dX9_caller_49 ci_0 ?_
        exact J_retI hR dX9_caller_50
      · refine J_bipush hX dX9_caller_17 cbm_2 ?_
        exact J_retI hR dX9_caller_19
set_option maxHeartbeats 4000000 in
set_option maxRecDepth 100000 in
theorem ok_X9_isEachNumberOnce {Y : DX} {v1 : Int32}  {G : GM} {r : Int32} {G' : GM} (hf : f_X9_isEachNumberOnce v1 G = some (r, G')) : OkI Y 6 M_X9_isEachNumberOnce [.ref (AD Y 0), .int v1] G r G' := by
  refine okZ_of (lv0 := [(0, .ref (AD Y 0)), (1, .int v1)]) (by decide +kernel) rfl (Nat.le_of_ble_eq_true rfl) ?_
  intro X Q hX hR
  have hX : CXok X Y RX9 cX9_isEachNumberOnce 7 _ := hX
  revert hf
  show J X Y 7 Q 0 [(0, .ref (AD Y 0)), (1, .int v1)] [] G (f_X9_isEachNumberOnce v1 G = some (r, G'))
  have K28 : ∀  (n : Nat) (v2 : Int64) (v4 : Int32) (G : GM), J X Y 7 Q 28 [(0, .ref (AD Y 0)), (1, .int v1), (2, .long v2), (4, .int v4)] [] G (wl2 n (lp_X9_isEachNumberOnce_28 v1) v2 v4 G = some (r, G')) := by
    refine wl2_ind (R := fun v2 v4 G φ => J X Y 7 Q 28 [(0, .ref (AD Y 0)), (1, .int v1), (2, .long v2), (4, .int v4)] [] G φ) (fun _ _ G φ h => J_no h) ?_
    intro kc28 hk28 v2 v4 G
    unfold lp_X9_isEachNumberOnce_28
    refine J_iload 3 hX dX9_isEachNumberOnce_28 rfl ?_
    refine J_aload_n 0 hX dX9_isEachNumberOnce_30 fz0 rfl ?_
    refine J_getNow hX dX9_isEachNumberOnce_31 lf_X9_10 fun hw31 => ?_
    refine J_getR (b := ((nw G) + 1)) hX dX9_isEachNumberOnce_34 lf_X9_98 hw31 rfl (by decide) rfl ?_
    refine J_getI hX dX9_isEachNumberOnce_37 lf_X9_136 (tp_4_0 hw31) rfl ?_
    refine J_icmp_ge (tgt := 107) hX dX9_isEachNumberOnce_40 rfl ?_ ?_
    · refine J_iconst hX dX9_isEachNumberOnce_107 ci_1 ?_
      exact J_retZ hR (by decide) dX9_isEachNumberOnce_108
    · refine J_aload_n 0 hX dX9_isEachNumberOnce_43 fz0 rfl ?_
      refine J_getR (b := 62) hX dX9_isEachNumberOnce_44 lf_X9_44 sk_0 rfl (by decide) rfl ?_
      refine J_iload_n 1 hX dX9_isEachNumberOnce_47 fz1 rfl ?_
      refine J_iload 3 hX dX9_isEachNumberOnce_48 rfl ?_
      refine J_callVJ (As := [.int v1, .int v4]) (st := []) (b := 62) hX mv_X9_162 sk_62 rfl rfl rfl (Nat.le_of_ble_eq_true rfl) (Nat.le_of_ble_eq_true rfl) (Nat.le_of_ble_eq_true rfl) dX9_isEachNumberOnce_50 (fun r G1 h => ok_X8_valueAt  h) fun r50 G50 => ?_
      refine J_lstore (lv' := [(5, .long r50), (0, .ref (AD Y 0)), (1, .int v1), (2, .long v2), (4, .int v4)]) hX dX9_isEachNumberOnce_53 (Nat.le_of_ble_eq_true rfl) rfl ?_
      refine J_lload 0 hX dX9_isEachNumberOnce_55 rfl ?_
      refine J_lconst hX dX9_isEachNumberOnce_57 fy1 ?_
      refine J_lcmp hX dX9_isEachNumberOnce_58 ?_
      refine J_if_lt (tgt := 91) hX dX9_isEachNumberOnce_59 rfl ?_ ?_
      · refine J_iconst hX dX9_isEachNumberOnce_91 ci_0 ?_
        exact J_retZ hR (by decide) dX9_isEachNumberOnce_92
      · refine J_lload 0 hX dX9_isEachNumberOnce_62 rfl ?_
        refine J_aload_n 1 hX dX9_isEachNumberOnce_64 fz0 rfl ?_
        refine J_getNow hX dX9_isEachNumberOnce_65 lf_X9_10 fun hw65 => ?_
        refine J_getR (b := ((nw G50) + 1)) hX dX9_isEachNumberOnce_68 lf_X9_98 hw65 rfl (by decide) rfl ?_
        refine J_getI hX dX9_isEachNumberOnce_71 lf_X9_136 (tp_4_0 hw65) rfl ?_
        refine J_i2l hX dX9_isEachNumberOnce_74 ?_
        refine J_lcmp hX dX9_isEachNumberOnce_75 ?_
        refine J_if_gt (tgt := 91) hX dX9_isEachNumberOnce_76 rfl ?_ ?_
        · refine J_iconst hX dX9_isEachNumberOnce_91 ci_0 ?_
          exact J_retZ hR (by decide) dX9_isEachNumberOnce_92
        · refine J_lload_n 3 hX dX9_isEachNumberOnce_79 fz2 rfl ?_
          refine J_lload 0 hX dX9_isEachNumberOnce_80 rfl ?_
          refine J_l2i hX dX9_isEachNumberOnce_82 ?_
          refine J_lshr hX dX9_isEachNumberOnce_83 ?_
          refine J_lconst hX dX9_isEachNumberOnce_84 fy1 ?_
          refine J_land hX dX9_isEachNumberOnce_85 ?_
          refine J_lconst hX dX9_isEachNumberOnce_86 fy1 ?_
          refine J_lcmp hX dX9_isEachNumberOnce_87 ?_
          refine J_if_ne (tgt := 93) hX dX9_isEachNumberOnce_88 rfl ?_ ?_
          · refine J_lload_n 3 hX dX9_isEachNumberOnce_93 fz2 rfl ?_
            refine J_lconst hX dX9_isEachNumberOnce_94 fy1 ?_
            refine J_lload 0 hX dX9_isEachNumberOnce_95 rfl ?_
            refine J_l2i hX dX9_isEachNumberOnce_97 ?_
            refine J_lshl hX dX9_isEachNumberOnce_98 ?_
            refine J_lor hX dX9_isEachNumberOnce_99 ?_
            refine J_lt (mk := Value.long) fun x100 => ?_
            refine J_lstore_n (lv' := [(2, .long x100), (5, .long r50), (0, .ref (AD Y 0)), (1, .int v1), (4, .int v4)]) hX dX9_isEachNumberOnce_100 fz2 (Nat.le_of_ble_eq_true rfl) rfl ?_
            refine J_iinc (lv' := [(4, .int (v4 + (1 : Int32))), (2, .long x100), (5, .long r50), (0, .ref (AD Y 0)), (1, .int v1)]) 4 hX dX9_isEachNumberOnce_101 rfl ci_1 (Nat.le_of_ble_eq_true rfl) rfl ?_
            refine J_goto (tgt := 28) hX dX9_isEachNumberOnce_104 rfl ?_
            refine J_sub (lv' := [(0, .ref (AD Y 0)), (1, .int v1), (2, .long x100), (4, .int (v4 + (1 : Int32)))]) [3, 4, 1, 0] rfl ?_
            exact hk28 x100 (v4 + (1 : Int32)) G50
          · refine J_iconst hX dX9_isEachNumberOnce_91 ci_0 ?_
            exact J_retZ hR (by decide) dX9_isEachNumberOnce_92
  unfold f_X9_isEachNumberOnce
  refine J_aload_n 0 hX dX9_isEachNumberOnce_0 fz0 rfl ?_
  refine J_getR (b := 62) hX dX9_isEachNumberOnce_1 lf_X9_44 sk_0 rfl (by decide) rfl ?_
  refine J_iload_n 1 hX dX9_isEachNumberOnce_4 fz1 rfl ?_
  refine J_callVI (As := [.int v1]) (st := []) (b := 62) hX mv_X9_155 sk_62 rfl rfl rfl (Nat.le_of_ble_eq_true rfl) (Nat.le_of_ble_eq_true rfl) (Nat.le_of_ble_eq_true rfl) dX9_isEachNumberOnce_5 (fun r G1 h => ok_X8_lengthOf  h) fun r5 G5 => ?_
  refine J_aload_n 0 hX dX9_isEachNumberOnce_8 fz0 rfl ?_
  refine J_getNow hX dX9_isEachNumberOnce_9 lf_X9_10 fun hw9 => ?_
  refine J_getR (b := ((nw G5) + 1)) hX dX9_isEachNumberOnce_12 lf_X9_98 hw9 rfl (by decide) rfl ?_
  refine J_getI hX dX9_isEachNumberOnce_15 lf_X9_136 (tp_4_0 hw9) rfl ?_
  refine J_icmp_eq (tgt := 23) hX dX9_isEachNumberOnce_18 rfl ?_ ?_
  · refine J_lconst hX dX9_isEachNumberOnce_23 fy0 ?_
    refine J_lstore_n (lv' := [(2, .long (0 : Int64)), (0, .ref (AD Y 0)), (1, .int v1)]) hX dX9_isEachNumberOnce_24 fz2 (Nat.le_of_ble_eq_true rfl) rfl ?_
    refine J_iconst hX dX9_isEachNumberOnce_25 ci_0 ?_
    refine J_istore (lv' := [(4, .int (0 : Int32)), (2, .long (0 : Int64)), (0, .ref (AD Y 0)), (1, .int v1)]) hX dX9_isEachNumberOnce_26 (Nat.le_of_ble_eq_true rfl) rfl ?_
    refine J_sub (lv' := [(0, .ref (AD Y 0)), (1, .int v1), (2, .long (0 : Int64)), (4, .int (0 : Int32))]) [2, 3, 1, 0] rfl ?_
    exact K28  FU (0 : Int64) (0 : Int32) G5
  · refine J_iconst hX dX9_isEachNumberOnce_21 ci_0 ?_
    exact J_retZ hR (by decide) dX9_isEachNumberOnce_22
set_option maxHeartbeats 4000000 in
set_option maxRecDepth 100000 in
theorem ok_X9_calls {Y : DX} {v1 : Int32}  {G : GM} {r : Int32} {G' : GM} (hf : f_X9_calls v1 G = some (r, G')) : OkI Y 7 M_X9_calls [.ref (AD Y 0), .int v1] G r G' := by
  refine okI_of (lv0 := [(0, .ref (AD Y 0)), (1, .int v1)]) (by decide +kernel) rfl (Nat.le_of_ble_eq_true rfl) ?_
  intro X Q hX hR
  have hX : CXok X Y RX9 cX9_calls 3 _ := hX
  revert hf
  show J X Y 3 Q 0 [(0, .ref (AD Y 0)), (1, .int v1)] [] G (f_X9_calls v1 G = some (r, G'))
  have K48 : ∀  (n : Nat) (v2 : Int32) (G : GM), J X Y 3 Q 48 [(0, .ref (AD Y 0)), (1, .int v1), (2, .int v2)] [] G (wl1 n (lp_X9_calls_48 v1) v2 G = some (r, G')) := by
    refine wl1_ind (R := fun v2 G φ => J X Y 3 Q 48 [(0, .ref (AD Y 0)), (1, .int v1), (2, .int v2)] [] G φ) (fun _ G φ h => J_no h) ?_
    intro kc48 hk48 v2 G
    unfold lp_X9_calls_48
    refine J_iload_n 2 hX dX9_calls_48 fz2 rfl ?_
    refine J_aload_n 0 hX dX9_calls_49 fz0 rfl ?_
    refine J_getNow hX dX9_calls_50 lf_X9_10 fun hw50 => ?_
    refine J_getR (b := ((nw G) + 1)) hX dX9_calls_53 lf_X9_98 hw50 rfl (by decide) rfl ?_
    refine J_getI hX dX9_calls_56 lf_X9_136 (tp_4_0 hw50) rfl ?_
    refine J_icmp_ge (tgt := 87) hX dX9_calls_59 rfl ?_ ?_
    · refine J_aload_n 0 hX dX9_calls_87 fz0 rfl ?_
      refine J_getNow hX dX9_calls_88 lf_X9_10 fun hw88 => ?_
      refine J_callVV (As := []) (st := []) (b := (nw G)) hX mv_X9_112 hw88 rfl rfl rfl (Nat.le_of_ble_eq_true rfl) (Nat.le_of_ble_eq_true rfl) (Nat.le_of_ble_eq_true rfl) dX9_calls_91 (fun G1 h => ok_X5_noteTurns hw88 h) fun G91 => ?_
      refine J_iconst hX dX9_calls_94 ci_0 ?_
      exact J_retI hR dX9_calls_95
    · refine J_aload_n 0 hX dX9_calls_62 fz0 rfl ?_
      refine J_getNow hX dX9_calls_63 lf_X9_10 fun hw63 => ?_
      refine J_getR (b := ((nw G) + 20)) hX dX9_calls_66 lf_X9_105 hw63 rfl (by decide) rfl ?_
      refine J_iload_n 2 hX dX9_calls_69 fz2 rfl ?_
      refine J_aload_n 0 hX dX9_calls_70 fz0 rfl ?_
      refine J_getR (b := 62) hX dX9_calls_71 lf_X9_44 sk_0 rfl (by decide) rfl ?_
      refine J_iload_n 1 hX dX9_calls_74 fz1 rfl ?_
      refine J_iload_n 2 hX dX9_calls_75 fz2 rfl ?_
      refine J_callVJ (As := [.int v1, .int v2]) (st := [.int v2, .ref (AD Y ((nw G) + 20))]) (b := 62) hX mv_X9_162 sk_62 rfl rfl rfl (Nat.le_of_ble_eq_true rfl) (Nat.le_of_ble_eq_true rfl) (Nat.le_of_ble_eq_true rfl) dX9_calls_76 (fun r G1 h => ok_X8_valueAt  h) fun r76 G76 => ?_
      refine J_l2i hX dX9_calls_79 ?_
      refine J_iast hX dX9_calls_80 (tp_4_8 hw63) (tl_4_8 hw63) fun G80 => ?_
      refine J_iinc (lv' := [(2, .int (v2 + (1 : Int32))), (0, .ref (AD Y 0)), (1, .int v1)]) 2 hX dX9_calls_81 rfl ci_1 (Nat.le_of_ble_eq_true rfl) rfl ?_
      refine J_goto (tgt := 48) hX dX9_calls_84 rfl ?_
      refine J_sub (lv' := [(0, .ref (AD Y 0)), (1, .int v1), (2, .int (v2 + (1 : Int32)))]) [1, 2, 0] rfl ?_
      exact hk48 (v2 + (1 : Int32)) G80
  unfold f_X9_calls
  refine J_aload_n 0 hX dX9_calls_0 fz0 rfl ?_
  refine J_callVI (As := []) (st := []) (b := 0) hX mv_X9_133 sk_0 rfl rfl rfl (Nat.le_of_ble_eq_true rfl) (Nat.le_of_ble_eq_true rfl) (Nat.le_of_ble_eq_true rfl) dX9_calls_1 (fun r G1 h => ok_X9_isHall  h) fun r1 G1 => ?_
  refine J_if_eq (tgt := 18) hX dX9_calls_4 rfl ?_ ?_
  · refine J_bipush hX dX9_calls_18 cbm_2 ?_
    exact J_retI hR dX9_calls_20
  · refine J_aload_n 0 hX dX9_calls_7 fz0 rfl ?_
    refine J_getR (b := 62) hX dX9_calls_8 lf_X9_44 sk_0 rfl (by decide) rfl ?_
    refine J_iload_n 1 hX dX9_calls_11 fz1 rfl ?_
    refine J_callVI (As := [.int v1]) (st := []) (b := 62) hX mv_X9_149 sk_62 rfl rfl rfl (Nat.le_of_ble_eq_true rfl) (Nat.le_of_ble_eq_true rfl) (Nat.le_of_ble_eq_true rfl) dX9_calls_12 (fun r G1 h => ok_X8_isSlot  h) fun r12 G12 => ?_
    refine J_if_ne (tgt := 21) hX dX9_calls_15 rfl ?_ ?_
    · refine J_aload_n 0 hX dX9_calls_21 fz0 rfl ?_
      refine J_getR (b := 62) hX dX9_calls_22 lf_X9_44 sk_0 rfl (by decide) rfl ?_
      refine J_iload_n 1 hX dX9_calls_25 fz1 rfl ?_
      refine J_callVI (As := [.int v1]) (st := []) (b := 62) hX mv_X9_152 sk_62 rfl rfl rfl (Nat.le_of_ble_eq_true rfl) (Nat.le_of_ble_eq_true rfl) (Nat.le_of_ble_eq_true rfl) dX9_calls_26 (fun r G1 h => ok_X8_hasRow  h) fun r26 G26 => ?_
      refine J_if_ne (tgt := 35) hX dX9_calls_29 rfl ?_ ?_
      · refine J_aload_n 0 hX dX9_calls_35 fz0 rfl ?_
        refine J_iload_n 1 hX dX9_calls_36 fz1 rfl ?_
        refine J_callVI (As := [.int v1]) (st := []) (b := 0) hX mv_X9_235 sk_0 rfl rfl rfl (Nat.le_of_ble_eq_true rfl) (Nat.le_of_ble_eq_true rfl) (Nat.le_of_ble_eq_true rfl) dX9_calls_37 (fun r G1 h => ok_X9_isEachNumberOnce  h) fun r37 G37 => ?_
        refine J_if_ne (tgt := 46) hX dX9_calls_40 rfl ?_ ?_
        · refine J_iconst hX dX9_calls_46 ci_0 ?_
          refine J_istore_n (lv' := [(2, .int (0 : Int32)), (0, .ref (AD Y 0)), (1, .int v1)]) hX dX9_calls_47 fz2 (Nat.le_of_ble_eq_true rfl) rfl ?_
          refine J_sub (lv' := [(0, .ref (AD Y 0)), (1, .int v1), (2, .int (0 : Int32))]) [1, 2, 0] rfl ?_
          exact K48  FU (0 : Int32) G37
        · refine J_bipush hX dX9_calls_43 cbm_2 ?_
          exact J_retI hR dX9_calls_45
      · refine J_bipush hX dX9_calls_32 cbm_6 ?_
        exact J_retI hR dX9_calls_34
    · refine J_bipush hX dX9_calls_18 cbm_2 ?_
      exact J_retI hR dX9_calls_20
set_option maxHeartbeats 4000000 in
set_option maxRecDepth 100000 in
theorem ok_X9_call {Y : DX} {v1 : Int32}  {G : GM} {r : Int32} {G' : GM} (hf : f_X9_call v1 G = some (r, G')) : OkI Y 2 M_X9_call [.ref (AD Y 0), .int v1] G r G' := by
  refine okI_of (lv0 := [(0, .ref (AD Y 0)), (1, .int v1)]) (by decide +kernel) rfl (Nat.le_of_ble_eq_true rfl) ?_
  intro X Q hX hR
  have hX : CXok X Y RX9 cX9_call 2 _ := hX
  revert hf
  show J X Y 2 Q 0 [(0, .ref (AD Y 0)), (1, .int v1)] [] G (f_X9_call v1 G = some (r, G'))
  unfold f_X9_call
  refine J_aload_n 0 hX dX9_call_0 fz0 rfl ?_
  refine J_callVI (As := []) (st := []) (b := 0) hX mv_X9_133 sk_0 rfl rfl rfl (Nat.le_of_ble_eq_true rfl) (Nat.le_of_ble_eq_true rfl) (Nat.le_of_ble_eq_true rfl) dX9_call_1 (fun r G1 h => ok_X9_isHall  h) fun r1 G1 => ?_
  refine J_if_eq (tgt := 37) hX dX9_call_4 rfl ?_ ?_
  · refine J_iconst hX dX9_call_37 cim_1 ?_
    exact J_retI hR dX9_call_38
  · refine J_iload_n 1 hX dX9_call_7 fz1 rfl ?_
    refine J_if_lt (tgt := 37) hX dX9_call_8 rfl ?_ ?_
    · refine J_iconst hX dX9_call_37 cim_1 ?_
      exact J_retI hR dX9_call_38
    · refine J_iload_n 1 hX dX9_call_11 fz1 rfl ?_
      refine J_aload_n 0 hX dX9_call_12 fz0 rfl ?_
      refine J_getNow hX dX9_call_13 lf_X9_10 fun hw13 => ?_
      refine J_getR (b := ((nw G1) + 1)) hX dX9_call_16 lf_X9_98 hw13 rfl (by decide) rfl ?_
      refine J_getI hX dX9_call_19 lf_X9_136 (tp_4_0 hw13) rfl ?_
      refine J_icmp_ge (tgt := 37) hX dX9_call_22 rfl ?_ ?_
      · refine J_iconst hX dX9_call_37 cim_1 ?_
        exact J_retI hR dX9_call_38
      · refine J_aload_n 0 hX dX9_call_25 fz0 rfl ?_
        refine J_getNow hX dX9_call_26 lf_X9_10 fun hw26 => ?_
        refine J_getR (b := ((nw G1) + 20)) hX dX9_call_29 lf_X9_105 hw26 rfl (by decide) rfl ?_
        refine J_iload_n 1 hX dX9_call_32 fz1 rfl ?_
        refine J_iald hX dX9_call_33 (tp_4_8 hw26) (tl_4_8 hw26) ?_
        refine J_goto (tgt := 38) hX dX9_call_34 rfl ?_
        exact J_retI hR dX9_call_38
set_option maxHeartbeats 4000000 in
set_option maxRecDepth 100000 in
theorem ok_X9_called {Y : DX} {v1 : Int32}  {G : GM} {r : Int32} {G' : GM} (hf : f_X9_called v1 G = some (r, G')) : OkI Y 3 M_X9_called [.ref (AD Y 0), .int v1] G r G' := by
  refine okI_of (lv0 := [(0, .ref (AD Y 0)), (1, .int v1)]) (by decide +kernel) rfl (Nat.le_of_ble_eq_true rfl) ?_
  intro X Q hX hR
  have hX : CXok X Y RX9 cX9_called 2 _ := hX
  revert hf
  show J X Y 2 Q 0 [(0, .ref (AD Y 0)), (1, .int v1)] [] G (f_X9_called v1 G = some (r, G'))
  unfold f_X9_called
  refine J_aload_n 0 hX dX9_called_0 fz0 rfl ?_
  refine J_iload_n 1 hX dX9_called_1 fz1 rfl ?_
  refine J_callVI (As := [.int v1]) (st := []) (b := 0) hX mv_X9_197 sk_0 rfl rfl rfl (Nat.le_of_ble_eq_true rfl) (Nat.le_of_ble_eq_true rfl) (Nat.le_of_ble_eq_true rfl) dX9_called_2 (fun r G1 h => ok_X9_isNumber  h) fun r2 G2 => ?_
  refine J_if_eq (tgt := 20) hX dX9_called_5 rfl ?_ ?_
  · refine J_bipush hX dX9_called_20 cbm_2 ?_
    exact J_retI hR dX9_called_22
  · refine J_aload_n 0 hX dX9_called_8 fz0 rfl ?_
    refine J_getNow hX dX9_called_9 lf_X9_10 fun hw9 => ?_
    refine J_getR (b := ((nw G2) + 21)) hX dX9_called_12 lf_X9_238 hw9 rfl (by decide) rfl ?_
    refine J_iload_n 1 hX dX9_called_15 fz1 rfl ?_
    refine J_iald hX dX9_called_16 (tp_4_9 hw9) (tl_4_9 hw9) ?_
    refine J_goto (tgt := 22) hX dX9_called_17 rfl ?_
    exact J_retI hR dX9_called_22
set_option maxHeartbeats 4000000 in
set_option maxRecDepth 100000 in
theorem ok_X9_cardOf {Y : DX} {v1 : Int32} {v2 : Int32}  {G : GM} {r : Nat} {G' : GM} (hf : f_X9_cardOf v1 v2 G = some (r, G')) : OkR Y 10 M_X9_cardOf [.ref (AD Y 0), .int v1, .int v2] G r G' := by
  refine okR_of (lv0 := [(0, .ref (AD Y 0)), (1, .int v1), (2, .int v2)]) (by decide +kernel) rfl (Nat.le_of_ble_eq_true rfl) ?_
  intro X Q hX hR
  have hX : CXok X Y RX9 cX9_cardOf 3 _ := hX
  revert hf
  show J X Y 3 Q 0 [(0, .ref (AD Y 0)), (1, .int v1), (2, .int v2)] [] G (f_X9_cardOf v1 v2 G = some (r, G'))
  unfold f_X9_cardOf
  refine J_aload_n 0 hX dX9_cardOf_0 fz0 rfl ?_
  refine J_getR (b := 47) hX dX9_cardOf_1 lf_X9_30 sk_0 rfl (by decide) rfl ?_
  refine J_aload_n 0 hX dX9_cardOf_4 fz0 rfl ?_
  refine J_getNow hX dX9_cardOf_5 lf_X9_10 fun hw5 => ?_
  refine J_getR (b := ((nw G) + 1)) hX dX9_cardOf_8 lf_X9_98 hw5 rfl (by decide) rfl ?_
  refine J_iload_n 1 hX dX9_cardOf_11 fz1 rfl ?_
  refine J_aload_n 0 hX dX9_cardOf_12 fz0 rfl ?_
  refine J_getR (b := 74) hX dX9_cardOf_13 lf_X9_55 sk_0 rfl (by decide) rfl ?_
  refine J_callVV (As := [.ref (AD Y ((nw G) + 1)), .int v1, .ref (AD Y 74)]) (st := []) (b := 47) hX mv_X9_190 sk_47 rfl rfl rfl (Nat.le_of_ble_eq_true rfl) (Nat.le_of_ble_eq_true rfl) (Nat.le_of_ble_eq_true rfl) dX9_cardOf_16 (fun G1 h => ok_X2_deal sk_47 (tp_4_0 hw5) sk_74 h) fun G16 => ?_
  refine J_aload_n 0 hX dX9_cardOf_19 fz0 rfl ?_
  refine J_getR (b := 71) hX dX9_cardOf_20 lf_X9_51 sk_0 rfl (by decide) rfl ?_
  refine J_aload_n 0 hX dX9_cardOf_23 fz0 rfl ?_
  refine J_getNow hX dX9_cardOf_24 lf_X9_10 fun hw24 => ?_
  refine J_getR (b := ((nw G16) + 1)) hX dX9_cardOf_27 lf_X9_98 hw24 rfl (by decide) rfl ?_
  refine J_aload_n 0 hX dX9_cardOf_30 fz0 rfl ?_
  refine J_getR (b := 74) hX dX9_cardOf_31 lf_X9_55 sk_0 rfl (by decide) rfl ?_
  refine J_iload_n 2 hX dX9_cardOf_34 fz2 rfl ?_
  refine J_aload_n 0 hX dX9_cardOf_35 fz0 rfl ?_
  refine J_getNow hX dX9_cardOf_36 lf_X9_10 fun hw36 => ?_
  refine J_getR (b := ((nw G16) + 21)) hX dX9_cardOf_39 lf_X9_238 hw36 rfl (by decide) rfl ?_
  refine J_callVV (As := [.ref (AD Y ((nw G16) + 1)), .ref (AD Y 74), .int v2, .ref (AD Y ((nw G16) + 21))]) (st := []) (b := 71) hX mv_X9_396 sk_71 rfl rfl rfl (Nat.le_of_ble_eq_true rfl) (Nat.le_of_ble_eq_true rfl) (Nat.le_of_ble_eq_true rfl) dX9_cardOf_42 (fun G1 h => ok_X0_look (tp_4_0 hw24) sk_74 (tp_4_9 hw36) h) fun G42 => ?_
  refine J_aload_n 0 hX dX9_cardOf_45 fz0 rfl ?_
  refine J_getR (b := 71) hX dX9_cardOf_46 lf_X9_51 sk_0 rfl (by decide) rfl ?_
  exact J_retR hR dX9_cardOf_49
set_option maxHeartbeats 4000000 in
set_option maxRecDepth 100000 in
theorem ok_X9_isTime {Y : DX} {v1 : Int32}  {G : GM} {r : Int32} {G' : GM} (hf : f_X9_isTime v1 G = some (r, G')) : OkI Y 2 M_X9_isTime [.ref (AD Y 0), .int v1] G r G' := by
  refine okZ_of (lv0 := [(0, .ref (AD Y 0)), (1, .int v1)]) (by decide +kernel) rfl (Nat.le_of_ble_eq_true rfl) ?_
  intro X Q hX hR
  have hX : CXok X Y RX9 cX9_isTime 2 _ := hX
  revert hf
  show J X Y 2 Q 0 [(0, .ref (AD Y 0)), (1, .int v1)] [] G (f_X9_isTime v1 G = some (r, G'))
  unfold f_X9_isTime
  refine J_aload_n 0 hX dX9_isTime_0 fz0 rfl ?_
  refine J_callVI (As := []) (st := []) (b := 0) hX mv_X9_133 sk_0 rfl rfl rfl (Nat.le_of_ble_eq_true rfl) (Nat.le_of_ble_eq_true rfl) (Nat.le_of_ble_eq_true rfl) dX9_isTime_1 (fun r G1 h => ok_X9_isHall  h) fun r1 G1 => ?_
  refine J_if_eq (tgt := 29) hX dX9_isTime_4 rfl ?_ ?_
  · refine J_iconst hX dX9_isTime_29 ci_0 ?_
    exact J_retZ hR (by decide) dX9_isTime_30
  · refine J_iload_n 1 hX dX9_isTime_7 fz1 rfl ?_
    refine J_if_lt (tgt := 29) hX dX9_isTime_8 rfl ?_ ?_
    · refine J_iconst hX dX9_isTime_29 ci_0 ?_
      exact J_retZ hR (by decide) dX9_isTime_30
    · refine J_iload_n 1 hX dX9_isTime_11 fz1 rfl ?_
      refine J_aload_n 0 hX dX9_isTime_12 fz0 rfl ?_
      refine J_getNow hX dX9_isTime_13 lf_X9_10 fun hw13 => ?_
      refine J_getR (b := ((nw G1) + 1)) hX dX9_isTime_16 lf_X9_98 hw13 rfl (by decide) rfl ?_
      refine J_getI hX dX9_isTime_19 lf_X9_136 (tp_4_0 hw13) rfl ?_
      refine J_icmp_gt (tgt := 29) hX dX9_isTime_22 rfl ?_ ?_
      · refine J_iconst hX dX9_isTime_29 ci_0 ?_
        exact J_retZ hR (by decide) dX9_isTime_30
      · refine J_iconst hX dX9_isTime_25 ci_1 ?_
        refine J_goto (tgt := 30) hX dX9_isTime_26 rfl ?_
        exact J_retZ hR (by decide) dX9_isTime_30
set_option maxHeartbeats 4000000 in
set_option maxRecDepth 100000 in
theorem ok_X9_daubs {Y : DX} {v1 : Int32} {v2 : Int32} {v3 : Int32}  {G : GM} {r : Int32} {G' : GM} (hf : f_X9_daubs v1 v2 v3 G = some (r, G')) : OkI Y 11 M_X9_daubs [.ref (AD Y 0), .int v1, .int v2, .int v3] G r G' := by
  refine okI_of (lv0 := [(0, .ref (AD Y 0)), (1, .int v1), (2, .int v2), (3, .int v3)]) (by decide +kernel) rfl (Nat.le_of_ble_eq_true rfl) ?_
  intro X Q hX hR
  have hX : CXok X Y RX9 cX9_daubs 4 _ := hX
  revert hf
  show J X Y 4 Q 0 [(0, .ref (AD Y 0)), (1, .int v1), (2, .int v2), (3, .int v3)] [] G (f_X9_daubs v1 v2 v3 G = some (r, G'))
  unfold f_X9_daubs
  refine J_aload_n 0 hX dX9_daubs_0 fz0 rfl ?_
  refine J_iload_n 1 hX dX9_daubs_1 fz1 rfl ?_
  refine J_callVI (As := [.int v1]) (st := []) (b := 0) hX mv_X9_183 sk_0 rfl rfl rfl (Nat.le_of_ble_eq_true rfl) (Nat.le_of_ble_eq_true rfl) (Nat.le_of_ble_eq_true rfl) dX9_daubs_2 (fun r G1 h => ok_X9_isSerial  h) fun r2 G2 => ?_
  refine J_if_eq (tgt := 24) hX dX9_daubs_5 rfl ?_ ?_
  · refine J_bipush hX dX9_daubs_24 cbm_2 ?_
    exact J_retI hR dX9_daubs_26
  · refine J_aload_n 0 hX dX9_daubs_8 fz0 rfl ?_
    refine J_iload_n 2 hX dX9_daubs_9 fz2 rfl ?_
    refine J_callVI (As := [.int v2]) (st := []) (b := 0) hX mv_X9_142 sk_0 rfl rfl rfl (Nat.le_of_ble_eq_true rfl) (Nat.le_of_ble_eq_true rfl) (Nat.le_of_ble_eq_true rfl) dX9_daubs_10 (fun r G1 h => ok_X9_isCard  h) fun r10 G10 => ?_
    refine J_if_eq (tgt := 24) hX dX9_daubs_13 rfl ?_ ?_
    · refine J_bipush hX dX9_daubs_24 cbm_2 ?_
      exact J_retI hR dX9_daubs_26
    · refine J_aload_n 0 hX dX9_daubs_16 fz0 rfl ?_
      refine J_iload_n 3 hX dX9_daubs_17 fz3 rfl ?_
      refine J_callVI (As := [.int v3]) (st := []) (b := 0) hX mv_X9_241 sk_0 rfl rfl rfl (Nat.le_of_ble_eq_true rfl) (Nat.le_of_ble_eq_true rfl) (Nat.le_of_ble_eq_true rfl) dX9_daubs_18 (fun r G1 h => ok_X9_isTime  h) fun r18 G18 => ?_
      refine J_if_ne (tgt := 27) hX dX9_daubs_21 rfl ?_ ?_
      · refine J_aload_n 0 hX dX9_daubs_27 fz0 rfl ?_
        refine J_iload_n 1 hX dX9_daubs_28 fz1 rfl ?_
        refine J_iload_n 2 hX dX9_daubs_29 fz2 rfl ?_
        refine J_callVR (As := [.int v1, .int v2]) (st := []) (b := 0) hX mv_X9_244 sk_0 rfl rfl rfl (Nat.le_of_ble_eq_true rfl) (Nat.le_of_ble_eq_true rfl) (Nat.le_of_ble_eq_true rfl) dX9_daubs_30 (fun r G1 h => ok_X9_cardOf  h) fun r30 G30 he30 => ?_
        obtain rfl := ret_X9_cardOf he30
        refine J_iload_n 3 hX dX9_daubs_33 fz3 rfl ?_
        refine J_callVI (As := [.int v3]) (st := []) (b := 71) hX mv_X9_248 sk_71 rfl rfl rfl (Nat.le_of_ble_eq_true rfl) (Nat.le_of_ble_eq_true rfl) (Nat.le_of_ble_eq_true rfl) dX9_daubs_34 (fun r G1 h => ok_X0_daubedBy  h) fun r34 G34 => ?_
        exact J_retI hR dX9_daubs_37
      · refine J_bipush hX dX9_daubs_24 cbm_2 ?_
        exact J_retI hR dX9_daubs_26
set_option maxHeartbeats 4000000 in
set_option maxRecDepth 100000 in
theorem ok_X9_full {Y : DX} {v1 : Int32} {v2 : Int32} {v3 : Int32}  {G : GM} {r : Int32} {G' : GM} (hf : f_X9_full v1 v2 v3 G = some (r, G')) : OkI Y 11 M_X9_full [.ref (AD Y 0), .int v1, .int v2, .int v3] G r G' := by
  refine okI_of (lv0 := [(0, .ref (AD Y 0)), (1, .int v1), (2, .int v2), (3, .int v3)]) (by decide +kernel) rfl (Nat.le_of_ble_eq_true rfl) ?_
  intro X Q hX hR
  have hX : CXok X Y RX9 cX9_full 4 _ := hX
  revert hf
  show J X Y 4 Q 0 [(0, .ref (AD Y 0)), (1, .int v1), (2, .int v2), (3, .int v3)] [] G (f_X9_full v1 v2 v3 G = some (r, G'))
  unfold f_X9_full
  refine J_aload_n 0 hX dX9_full_0 fz0 rfl ?_
  refine J_iload_n 1 hX dX9_full_1 fz1 rfl ?_
  refine J_callVI (As := [.int v1]) (st := []) (b := 0) hX mv_X9_183 sk_0 rfl rfl rfl (Nat.le_of_ble_eq_true rfl) (Nat.le_of_ble_eq_true rfl) (Nat.le_of_ble_eq_true rfl) dX9_full_2 (fun r G1 h => ok_X9_isSerial  h) fun r2 G2 => ?_
  refine J_if_eq (tgt := 24) hX dX9_full_5 rfl ?_ ?_
  · refine J_bipush hX dX9_full_24 cbm_2 ?_
    exact J_retI hR dX9_full_26
  · refine J_aload_n 0 hX dX9_full_8 fz0 rfl ?_
    refine J_iload_n 2 hX dX9_full_9 fz2 rfl ?_
    refine J_callVI (As := [.int v2]) (st := []) (b := 0) hX mv_X9_142 sk_0 rfl rfl rfl (Nat.le_of_ble_eq_true rfl) (Nat.le_of_ble_eq_true rfl) (Nat.le_of_ble_eq_true rfl) dX9_full_10 (fun r G1 h => ok_X9_isCard  h) fun r10 G10 => ?_
    refine J_if_eq (tgt := 24) hX dX9_full_13 rfl ?_ ?_
    · refine J_bipush hX dX9_full_24 cbm_2 ?_
      exact J_retI hR dX9_full_26
    · refine J_aload_n 0 hX dX9_full_16 fz0 rfl ?_
      refine J_iload_n 3 hX dX9_full_17 fz3 rfl ?_
      refine J_callVI (As := [.int v3]) (st := []) (b := 0) hX mv_X9_241 sk_0 rfl rfl rfl (Nat.le_of_ble_eq_true rfl) (Nat.le_of_ble_eq_true rfl) (Nat.le_of_ble_eq_true rfl) dX9_full_18 (fun r G1 h => ok_X9_isTime  h) fun r18 G18 => ?_
      refine J_if_ne (tgt := 27) hX dX9_full_21 rfl ?_ ?_
      · refine J_aload_n 0 hX dX9_full_27 fz0 rfl ?_
        refine J_iload_n 1 hX dX9_full_28 fz1 rfl ?_
        refine J_iload_n 2 hX dX9_full_29 fz2 rfl ?_
        refine J_callVR (As := [.int v1, .int v2]) (st := []) (b := 0) hX mv_X9_244 sk_0 rfl rfl rfl (Nat.le_of_ble_eq_true rfl) (Nat.le_of_ble_eq_true rfl) (Nat.le_of_ble_eq_true rfl) dX9_full_30 (fun r G1 h => ok_X9_cardOf  h) fun r30 G30 he30 => ?_
        obtain rfl := ret_X9_cardOf he30
        refine J_iload_n 3 hX dX9_full_33 fz3 rfl ?_
        refine J_callVI (As := [.int v3]) (st := []) (b := 71) hX mv_X9_251 sk_71 rfl rfl rfl (Nat.le_of_ble_eq_true rfl) (Nat.le_of_ble_eq_true rfl) (Nat.le_of_ble_eq_true rfl) dX9_full_34 (fun r G1 h => ok_X0_fullRowsBy  h) fun r34 G34 => ?_
        exact J_retI hR dX9_full_37
      · refine J_bipush hX dX9_full_24 cbm_2 ?_
        exact J_retI hR dX9_full_26
set_option maxHeartbeats 4000000 in
set_option maxRecDepth 100000 in
theorem ok_X9_isKind {Y : DX} {v1 : Int32}  {G : GM} {r : Int32} {G' : GM} (hf : f_X9_isKind v1 G = some (r, G')) : OkI Y 2 M_X9_isKind [.ref (AD Y 0), .int v1] G r G' := by
  refine okZ_of (lv0 := [(0, .ref (AD Y 0)), (1, .int v1)]) (by decide +kernel) rfl (Nat.le_of_ble_eq_true rfl) ?_
  intro X Q hX hR
  have hX : CXok X Y RX9 cX9_isKind 2 _ := hX
  revert hf
  show J X Y 2 Q 0 [(0, .ref (AD Y 0)), (1, .int v1)] [] G (f_X9_isKind v1 G = some (r, G'))
  unfold f_X9_isKind
  refine J_aload_n 0 hX dX9_isKind_0 fz0 rfl ?_
  refine J_callVI (As := []) (st := []) (b := 0) hX mv_X9_133 sk_0 rfl rfl rfl (Nat.le_of_ble_eq_true rfl) (Nat.le_of_ble_eq_true rfl) (Nat.le_of_ble_eq_true rfl) dX9_isKind_1 (fun r G1 h => ok_X9_isHall  h) fun r1 G1 => ?_
  refine J_if_eq (tgt := 20) hX dX9_isKind_4 rfl ?_ ?_
  · refine J_iconst hX dX9_isKind_20 ci_0 ?_
    exact J_retZ hR (by decide) dX9_isKind_21
  · refine J_iload_n 1 hX dX9_isKind_7 fz1 rfl ?_
    refine J_if_lt (tgt := 20) hX dX9_isKind_8 rfl ?_ ?_
    · refine J_iconst hX dX9_isKind_20 ci_0 ?_
      exact J_retZ hR (by decide) dX9_isKind_21
    · refine J_iload_n 1 hX dX9_isKind_11 fz1 rfl ?_
      refine J_iconst hX dX9_isKind_12 ci_3 ?_
      refine J_icmp_ge (tgt := 20) hX dX9_isKind_13 rfl ?_ ?_
      · refine J_iconst hX dX9_isKind_20 ci_0 ?_
        exact J_retZ hR (by decide) dX9_isKind_21
      · refine J_iconst hX dX9_isKind_16 ci_1 ?_
        refine J_goto (tgt := 21) hX dX9_isKind_17 rfl ?_
        exact J_retZ hR (by decide) dX9_isKind_21
set_option maxHeartbeats 4000000 in
set_option maxRecDepth 100000 in
theorem ok_X9_lacks {Y : DX} {v1 : Int32} {v2 : Int32} {v3 : Int32} {v4 : Int32}  {G : GM} {r : Int32} {G' : GM} (hf : f_X9_lacks v1 v2 v3 v4 G = some (r, G')) : OkI Y 11 M_X9_lacks [.ref (AD Y 0), .int v1, .int v2, .int v3, .int v4] G r G' := by
  refine okI_of (lv0 := [(0, .ref (AD Y 0)), (1, .int v1), (2, .int v2), (3, .int v3), (4, .int v4)]) (by decide +kernel) rfl (Nat.le_of_ble_eq_true rfl) ?_
  intro X Q hX hR
  have hX : CXok X Y RX9 cX9_lacks 5 _ := hX
  revert hf
  show J X Y 5 Q 0 [(0, .ref (AD Y 0)), (1, .int v1), (2, .int v2), (3, .int v3), (4, .int v4)] [] G (f_X9_lacks v1 v2 v3 v4 G = some (r, G'))
  unfold f_X9_lacks
  refine J_aload_n 0 hX dX9_lacks_0 fz0 rfl ?_
  refine J_iload_n 1 hX dX9_lacks_1 fz1 rfl ?_
  refine J_callVI (As := [.int v1]) (st := []) (b := 0) hX mv_X9_183 sk_0 rfl rfl rfl (Nat.le_of_ble_eq_true rfl) (Nat.le_of_ble_eq_true rfl) (Nat.le_of_ble_eq_true rfl) dX9_lacks_2 (fun r G1 h => ok_X9_isSerial  h) fun r2 G2 => ?_
  refine J_if_eq (tgt := 33) hX dX9_lacks_5 rfl ?_ ?_
  · refine J_bipush hX dX9_lacks_33 cbm_2 ?_
    exact J_retI hR dX9_lacks_35
  · refine J_aload_n 0 hX dX9_lacks_8 fz0 rfl ?_
    refine J_iload_n 2 hX dX9_lacks_9 fz2 rfl ?_
    refine J_callVI (As := [.int v2]) (st := []) (b := 0) hX mv_X9_142 sk_0 rfl rfl rfl (Nat.le_of_ble_eq_true rfl) (Nat.le_of_ble_eq_true rfl) (Nat.le_of_ble_eq_true rfl) dX9_lacks_10 (fun r G1 h => ok_X9_isCard  h) fun r10 G10 => ?_
    refine J_if_eq (tgt := 33) hX dX9_lacks_13 rfl ?_ ?_
    · refine J_bipush hX dX9_lacks_33 cbm_2 ?_
      exact J_retI hR dX9_lacks_35
    · refine J_aload_n 0 hX dX9_lacks_16 fz0 rfl ?_
      refine J_iload_n 3 hX dX9_lacks_17 fz3 rfl ?_
      refine J_callVI (As := [.int v3]) (st := []) (b := 0) hX mv_X9_254 sk_0 rfl rfl rfl (Nat.le_of_ble_eq_true rfl) (Nat.le_of_ble_eq_true rfl) (Nat.le_of_ble_eq_true rfl) dX9_lacks_18 (fun r G1 h => ok_X9_isKind  h) fun r18 G18 => ?_
      refine J_if_eq (tgt := 33) hX dX9_lacks_21 rfl ?_ ?_
      · refine J_bipush hX dX9_lacks_33 cbm_2 ?_
        exact J_retI hR dX9_lacks_35
      · refine J_aload_n 0 hX dX9_lacks_24 fz0 rfl ?_
        refine J_iload 4 hX dX9_lacks_25 rfl ?_
        refine J_callVI (As := [.int v4]) (st := []) (b := 0) hX mv_X9_241 sk_0 rfl rfl rfl (Nat.le_of_ble_eq_true rfl) (Nat.le_of_ble_eq_true rfl) (Nat.le_of_ble_eq_true rfl) dX9_lacks_27 (fun r G1 h => ok_X9_isTime  h) fun r27 G27 => ?_
        refine J_if_ne (tgt := 36) hX dX9_lacks_30 rfl ?_ ?_
        · refine J_aload_n 0 hX dX9_lacks_36 fz0 rfl ?_
          refine J_iload_n 1 hX dX9_lacks_37 fz1 rfl ?_
          refine J_iload_n 2 hX dX9_lacks_38 fz2 rfl ?_
          refine J_callVR (As := [.int v1, .int v2]) (st := []) (b := 0) hX mv_X9_244 sk_0 rfl rfl rfl (Nat.le_of_ble_eq_true rfl) (Nat.le_of_ble_eq_true rfl) (Nat.le_of_ble_eq_true rfl) dX9_lacks_39 (fun r G1 h => ok_X9_cardOf  h) fun r39 G39 he39 => ?_
          obtain rfl := ret_X9_cardOf he39
          refine J_iload_n 3 hX dX9_lacks_42 fz3 rfl ?_
          refine J_iload 4 hX dX9_lacks_43 rfl ?_
          refine J_callVI (As := [.int v3, .int v4]) (st := []) (b := 71) hX mv_X9_257 sk_71 rfl rfl rfl (Nat.le_of_ble_eq_true rfl) (Nat.le_of_ble_eq_true rfl) (Nat.le_of_ble_eq_true rfl) dX9_lacks_45 (fun r G1 h => ok_X0_lackOf  h) fun r45 G45 => ?_
          exact J_retI hR dX9_lacks_48
        · refine J_bipush hX dX9_lacks_33 cbm_2 ?_
          exact J_retI hR dX9_lacks_35
set_option maxHeartbeats 4000000 in
set_option maxRecDepth 100000 in
theorem ok_X9_done {Y : DX} {v1 : Int32} {v2 : Int32} {v3 : Int32}  {G : GM} {r : Int32} {G' : GM} (hf : f_X9_done v1 v2 v3 G = some (r, G')) : OkI Y 11 M_X9_done [.ref (AD Y 0), .int v1, .int v2, .int v3] G r G' := by
  refine okI_of (lv0 := [(0, .ref (AD Y 0)), (1, .int v1), (2, .int v2), (3, .int v3)]) (by decide +kernel) rfl (Nat.le_of_ble_eq_true rfl) ?_
  intro X Q hX hR
  have hX : CXok X Y RX9 cX9_done 4 _ := hX
  revert hf
  show J X Y 4 Q 0 [(0, .ref (AD Y 0)), (1, .int v1), (2, .int v2), (3, .int v3)] [] G (f_X9_done v1 v2 v3 G = some (r, G'))
  unfold f_X9_done
  refine J_aload_n 0 hX dX9_done_0 fz0 rfl ?_
  refine J_iload_n 1 hX dX9_done_1 fz1 rfl ?_
  refine J_callVI (As := [.int v1]) (st := []) (b := 0) hX mv_X9_183 sk_0 rfl rfl rfl (Nat.le_of_ble_eq_true rfl) (Nat.le_of_ble_eq_true rfl) (Nat.le_of_ble_eq_true rfl) dX9_done_2 (fun r G1 h => ok_X9_isSerial  h) fun r2 G2 => ?_
  refine J_if_eq (tgt := 24) hX dX9_done_5 rfl ?_ ?_
  · refine J_bipush hX dX9_done_24 cbm_2 ?_
    exact J_retI hR dX9_done_26
  · refine J_aload_n 0 hX dX9_done_8 fz0 rfl ?_
    refine J_iload_n 2 hX dX9_done_9 fz2 rfl ?_
    refine J_callVI (As := [.int v2]) (st := []) (b := 0) hX mv_X9_142 sk_0 rfl rfl rfl (Nat.le_of_ble_eq_true rfl) (Nat.le_of_ble_eq_true rfl) (Nat.le_of_ble_eq_true rfl) dX9_done_10 (fun r G1 h => ok_X9_isCard  h) fun r10 G10 => ?_
    refine J_if_eq (tgt := 24) hX dX9_done_13 rfl ?_ ?_
    · refine J_bipush hX dX9_done_24 cbm_2 ?_
      exact J_retI hR dX9_done_26
    · refine J_aload_n 0 hX dX9_done_16 fz0 rfl ?_
      refine J_iload_n 3 hX dX9_done_17 fz3 rfl ?_
      refine J_callVI (As := [.int v3]) (st := []) (b := 0) hX mv_X9_254 sk_0 rfl rfl rfl (Nat.le_of_ble_eq_true rfl) (Nat.le_of_ble_eq_true rfl) (Nat.le_of_ble_eq_true rfl) dX9_done_18 (fun r G1 h => ok_X9_isKind  h) fun r18 G18 => ?_
      refine J_if_ne (tgt := 27) hX dX9_done_21 rfl ?_ ?_
      · refine J_aload_n 0 hX dX9_done_27 fz0 rfl ?_
        refine J_iload_n 1 hX dX9_done_28 fz1 rfl ?_
        refine J_iload_n 2 hX dX9_done_29 fz2 rfl ?_
        refine J_callVR (As := [.int v1, .int v2]) (st := []) (b := 0) hX mv_X9_244 sk_0 rfl rfl rfl (Nat.le_of_ble_eq_true rfl) (Nat.le_of_ble_eq_true rfl) (Nat.le_of_ble_eq_true rfl) dX9_done_30 (fun r G1 h => ok_X9_cardOf  h) fun r30 G30 he30 => ?_
        obtain rfl := ret_X9_cardOf he30
        refine J_iload_n 3 hX dX9_done_33 fz3 rfl ?_
        refine J_callVI (As := [.int v3]) (st := []) (b := 71) hX mv_X9_260 sk_71 rfl rfl rfl (Nat.le_of_ble_eq_true rfl) (Nat.le_of_ble_eq_true rfl) (Nat.le_of_ble_eq_true rfl) dX9_done_34 (fun r G1 h => ok_X0_turnOf  h) fun r34 G34 => ?_
        exact J_retI hR dX9_done_37
      · refine J_bipush hX dX9_done_24 cbm_2 ?_
        exact J_retI hR dX9_done_26
set_option maxHeartbeats 4000000 in
set_option maxRecDepth 100000 in
theorem ok_X9_claim {Y : DX} {v1 : Int32} {v2 : Int32} {v3 : Int32} {v4 : Int32}  {G : GM} {r : Int32} {G' : GM} (hf : f_X9_claim v1 v2 v3 v4 G = some (r, G')) : OkI Y 11 M_X9_claim [.ref (AD Y 0), .int v1, .int v2, .int v3, .int v4] G r G' := by
  refine okI_of (lv0 := [(0, .ref (AD Y 0)), (1, .int v1), (2, .int v2), (3, .int v3), (4, .int v4)]) (by decide +kernel) rfl (Nat.le_of_ble_eq_true rfl) ?_
  intro X Q hX hR
  have hX : CXok X Y RX9 cX9_claim 6 _ := hX
  revert hf
  show J X Y 6 Q 0 [(0, .ref (AD Y 0)), (1, .int v1), (2, .int v2), (3, .int v3), (4, .int v4)] [] G (f_X9_claim v1 v2 v3 v4 G = some (r, G'))
  unfold f_X9_claim
  refine J_aload_n 0 hX dX9_claim_0 fz0 rfl ?_
  refine J_iload_n 1 hX dX9_claim_1 fz1 rfl ?_
  refine J_callVI (As := [.int v1]) (st := []) (b := 0) hX mv_X9_183 sk_0 rfl rfl rfl (Nat.le_of_ble_eq_true rfl) (Nat.le_of_ble_eq_true rfl) (Nat.le_of_ble_eq_true rfl) dX9_claim_2 (fun r G1 h => ok_X9_isSerial  h) fun r2 G2 => ?_
  refine J_if_eq (tgt := 38) hX dX9_claim_5 rfl ?_ ?_
  · refine J_bipush hX dX9_claim_38 cbm_2 ?_
    exact J_retI hR dX9_claim_40
  · refine J_aload_n 0 hX dX9_claim_8 fz0 rfl ?_
    refine J_iload_n 2 hX dX9_claim_9 fz2 rfl ?_
    refine J_callVI (As := [.int v2]) (st := []) (b := 0) hX mv_X9_142 sk_0 rfl rfl rfl (Nat.le_of_ble_eq_true rfl) (Nat.le_of_ble_eq_true rfl) (Nat.le_of_ble_eq_true rfl) dX9_claim_10 (fun r G1 h => ok_X9_isCard  h) fun r10 G10 => ?_
    refine J_if_eq (tgt := 38) hX dX9_claim_13 rfl ?_ ?_
    · refine J_bipush hX dX9_claim_38 cbm_2 ?_
      exact J_retI hR dX9_claim_40
    · refine J_aload_n 0 hX dX9_claim_16 fz0 rfl ?_
      refine J_iload_n 3 hX dX9_claim_17 fz3 rfl ?_
      refine J_callVI (As := [.int v3]) (st := []) (b := 0) hX mv_X9_254 sk_0 rfl rfl rfl (Nat.le_of_ble_eq_true rfl) (Nat.le_of_ble_eq_true rfl) (Nat.le_of_ble_eq_true rfl) dX9_claim_18 (fun r G1 h => ok_X9_isKind  h) fun r18 G18 => ?_
      refine J_if_eq (tgt := 38) hX dX9_claim_21 rfl ?_ ?_
      · refine J_bipush hX dX9_claim_38 cbm_2 ?_
        exact J_retI hR dX9_claim_40
      · refine J_aload_n 0 hX dX9_claim_24 fz0 rfl ?_
        refine J_iload 4 hX dX9_claim_25 rfl ?_
        refine J_callVI (As := [.int v4]) (st := []) (b := 0) hX mv_X9_241 sk_0 rfl rfl rfl (Nat.le_of_ble_eq_true rfl) (Nat.le_of_ble_eq_true rfl) (Nat.le_of_ble_eq_true rfl) dX9_claim_27 (fun r G1 h => ok_X9_isTime  h) fun r27 G27 => ?_
        refine J_if_eq (tgt := 38) hX dX9_claim_30 rfl ?_ ?_
        · refine J_bipush hX dX9_claim_38 cbm_2 ?_
          exact J_retI hR dX9_claim_40
        · refine J_iload 4 hX dX9_claim_33 rfl ?_
          refine J_if_ne (tgt := 41) hX dX9_claim_35 rfl ?_ ?_
          · refine J_aload_n 0 hX dX9_claim_41 fz0 rfl ?_
            refine J_iload_n 1 hX dX9_claim_42 fz1 rfl ?_
            refine J_iload_n 2 hX dX9_claim_43 fz2 rfl ?_
            refine J_callVR (As := [.int v1, .int v2]) (st := []) (b := 0) hX mv_X9_244 sk_0 rfl rfl rfl (Nat.le_of_ble_eq_true rfl) (Nat.le_of_ble_eq_true rfl) (Nat.le_of_ble_eq_true rfl) dX9_claim_44 (fun r G1 h => ok_X9_cardOf  h) fun r44 G44 he44 => ?_
            obtain rfl := ret_X9_cardOf he44
            refine J_iload_n 3 hX dX9_claim_47 fz3 rfl ?_
            refine J_callVI (As := [.int v3]) (st := []) (b := 71) hX mv_X9_260 sk_71 rfl rfl rfl (Nat.le_of_ble_eq_true rfl) (Nat.le_of_ble_eq_true rfl) (Nat.le_of_ble_eq_true rfl) dX9_claim_48 (fun r G1 h => ok_X0_turnOf  h) fun r48 G48 => ?_
            refine J_istore (lv' := [(5, .int r48), (0, .ref (AD Y 0)), (1, .int v1), (2, .int v2), (3, .int v3), (4, .int v4)]) hX dX9_claim_51 (Nat.le_of_ble_eq_true rfl) rfl ?_
            refine J_iload 0 hX dX9_claim_53 rfl ?_
            refine J_iconst hX dX9_claim_55 cim_1 ?_
            refine J_icmp_eq (tgt := 66) hX dX9_claim_56 rfl ?_ ?_
            · refine J_iconst hX dX9_claim_66 ci_1 ?_
              exact J_retI hR dX9_claim_67
            · refine J_iload 0 hX dX9_claim_59 rfl ?_
              refine J_iload 5 hX dX9_claim_61 rfl ?_
              refine J_icmp_le (tgt := 68) hX dX9_claim_63 rfl ?_ ?_
              · refine J_iload 0 hX dX9_claim_68 rfl ?_
                refine J_iload 5 hX dX9_claim_70 rfl ?_
                refine J_icmp_ne (tgt := 79) hX dX9_claim_72 rfl ?_ ?_
                · refine J_iconst hX dX9_claim_79 ci_2 ?_
                  exact J_retI hR dX9_claim_80
                · refine J_iconst hX dX9_claim_75 ci_0 ?_
                  refine J_goto (tgt := 80) hX dX9_claim_76 rfl ?_
                  exact J_retI hR dX9_claim_80
              · refine J_iconst hX dX9_claim_66 ci_1 ?_
                exact J_retI hR dX9_claim_67
          · refine J_bipush hX dX9_claim_38 cbm_2 ?_
            exact J_retI hR dX9_claim_40
set_option maxHeartbeats 4000000 in
set_option maxRecDepth 100000 in
theorem ok_X9_soldCard {Y : DX} {v1 : Int32} {v2 : Int32} {v3 : Nat} (h3 : SHk v3 = 10) {G : GM} {r : Nat} {G' : GM} (hf : f_X9_soldCard v1 v2 v3 G = some (r, G')) : OkR Y 3 M_X9_soldCard [.ref (AD Y 0), .int v1, .int v2, .ref (AD Y v3)] G r G' := by
  refine okR_of (lv0 := [(0, .ref (AD Y 0)), (1, .int v1), (2, .int v2), (3, .ref (AD Y v3))]) (by decide +kernel) rfl (Nat.le_of_ble_eq_true rfl) ?_
  intro X Q hX hR
  have hX : CXok X Y RX9 cX9_soldCard 4 _ := hX
  revert hf
  show J X Y 4 Q 0 [(0, .ref (AD Y 0)), (1, .int v1), (2, .int v2), (3, .ref (AD Y v3))] [] G (f_X9_soldCard v1 v2 v3 G = some (r, G'))
  have K33 : ∀ (G : GM), J X Y 4 Q 33 [(0, .ref (AD Y 0))] [] G (k_X9_soldCard_33 v1 v2 v3 G = some (r, G')) := by
    intro G
    unfold k_X9_soldCard_33
    refine J_aload_n 0 hX dX9_soldCard_33 fz0 rfl ?_
    refine J_getR (b := 71) hX dX9_soldCard_34 lf_X9_51 sk_0 rfl (by decide) rfl ?_
    exact J_retR hR dX9_soldCard_37
  unfold f_X9_soldCard
  refine J_aload_n 0 hX dX9_soldCard_0 fz0 rfl ?_
  refine J_iload_n 1 hX dX9_soldCard_1 fz1 rfl ?_
  refine J_callVI (As := [.int v1]) (st := []) (b := 0) hX mv_X9_228 sk_0 rfl rfl rfl (Nat.le_of_ble_eq_true rfl) (Nat.le_of_ble_eq_true rfl) (Nat.le_of_ble_eq_true rfl) dX9_soldCard_2 (fun r G1 h => ok_X9_isPlace  h) fun r2 G2 => ?_
  refine J_if_eq (tgt := 33) hX dX9_soldCard_5 rfl ?_ ?_
  · refine J_sub (lv' := [(0, .ref (AD Y 0))]) [0] rfl ?_
    exact K33 G2
  · refine J_aload_n 0 hX dX9_soldCard_8 fz0 rfl ?_
    refine J_getR (b := 71) hX dX9_soldCard_9 lf_X9_51 sk_0 rfl (by decide) rfl ?_
    refine J_aload_n 0 hX dX9_soldCard_12 fz0 rfl ?_
    refine J_getNow hX dX9_soldCard_13 lf_X9_10 fun hw13 => ?_
    refine J_getR (b := ((nw G2) + 1)) hX dX9_soldCard_16 lf_X9_98 hw13 rfl (by decide) rfl ?_
    refine J_aload_n 0 hX dX9_soldCard_19 fz0 rfl ?_
    refine J_getNow hX dX9_soldCard_20 lf_X9_10 fun hw20 => ?_
    refine J_getR (b := ((nw G2) + 11)) hX dX9_soldCard_23 lf_X9_400 hw20 rfl (by decide) rfl ?_
    refine J_iload_n 1 hX dX9_soldCard_26 fz1 rfl ?_
    refine J_aald (b := ((nw G2) + 12 + v1.toNatClampNeg)) hX dX9_soldCard_27 (tp_4_7 hw20) (by decide) (tl_4_7 hw20) (p0_14 (tp_4_7 hw20)) fun hi27 => ?_
    refine J_iload_n 2 hX dX9_soldCard_28 fz2 rfl ?_
    refine J_aload_n 3 hX dX9_soldCard_29 fz3 rfl ?_
    refine J_callVV (As := [.ref (AD Y ((nw G2) + 1)), .ref (AD Y ((nw G2) + 12 + v1.toNatClampNeg)), .int v2, .ref (AD Y v3)]) (st := []) (b := 71) hX mv_X9_396 sk_71 rfl rfl rfl (Nat.le_of_ble_eq_true rfl) (Nat.le_of_ble_eq_true rfl) (Nat.le_of_ble_eq_true rfl) dX9_soldCard_30 (fun G1 h => ok_X0_look (tp_4_0 hw13) (st_el hw20 hi27).1 h3 h) fun G30 => ?_
    refine J_sub (lv' := [(0, .ref (AD Y 0))]) [0] rfl ?_
    exact K33 G30
set_option maxHeartbeats 4000000 in
set_option maxRecDepth 100000 in
theorem ok_X9_firstTurnOf {Y : DX} {v1 : Int32} {v2 : Int32} {v3 : Nat} (h3 : SHk v3 = 10) {G : GM} {r : Int32} {G' : GM} (hf : f_X9_firstTurnOf v1 v2 v3 G = some (r, G')) : OkI Y 4 M_X9_firstTurnOf [.ref (AD Y 0), .int v1, .int v2, .ref (AD Y v3)] G r G' := by
  refine okI_of (lv0 := [(0, .ref (AD Y 0)), (1, .int v1), (2, .int v2), (3, .ref (AD Y v3))]) (by decide +kernel) rfl (Nat.le_of_ble_eq_true rfl) ?_
  intro X Q hX hR
  have hX : CXok X Y RX9 cX9_firstTurnOf 7 _ := hX
  revert hf
  show J X Y 7 Q 0 [(0, .ref (AD Y 0)), (1, .int v1), (2, .int v2), (3, .ref (AD Y v3))] [] G (f_X9_firstTurnOf v1 v2 v3 G = some (r, G'))
  have K6 : ∀  (n : Nat) (v4 : Int32) (v5 : Int32) (G : GM), J X Y 7 Q 6 [(0, .ref (AD Y 0)), (1, .int v1), (2, .int v2), (3, .ref (AD Y v3)), (4, .int v4), (5, .int v5)] [] G (wl2 n (lp_X9_firstTurnOf_6 v1 v2 v3) v4 v5 G = some (r, G')) := by
    refine wl2_ind (R := fun v4 v5 G φ => J X Y 7 Q 6 [(0, .ref (AD Y 0)), (1, .int v1), (2, .int v2), (3, .ref (AD Y v3)), (4, .int v4), (5, .int v5)] [] G φ) (fun _ _ G φ h => J_no h) ?_
    intro kc6 hk6 v4 v5 G
    unfold lp_X9_firstTurnOf_6
    have K54 : ∀ (v5 : Int32) (v6 : Int32) (G : GM), J X Y 7 Q 54 [(0, .ref (AD Y 0)), (1, .int v1), (2, .int v2), (3, .ref (AD Y v3)), (5, .int v5), (6, .int v6)] [] G (k_X9_firstTurnOf_54 v1 v2 v3 v5 v6 kc6 G = some (r, G')) := by
      intro v5 v6 G
      unfold k_X9_firstTurnOf_54
      refine J_iload 5 hX dX9_firstTurnOf_54 rfl ?_
      refine J_istore (lv' := [(4, .int v6), (0, .ref (AD Y 0)), (1, .int v1), (2, .int v2), (3, .ref (AD Y v3)), (5, .int v5), (6, .int v6)]) hX dX9_firstTurnOf_56 (Nat.le_of_ble_eq_true rfl) rfl ?_
      refine J_iinc (lv' := [(5, .int (v5 + (1 : Int32))), (4, .int v6), (0, .ref (AD Y 0)), (1, .int v1), (2, .int v2), (3, .ref (AD Y v3)), (6, .int v6)]) 5 hX dX9_firstTurnOf_58 rfl ci_1 (Nat.le_of_ble_eq_true rfl) rfl ?_
      refine J_goto (tgt := 6) hX dX9_firstTurnOf_61 rfl ?_
      refine J_sub (lv' := [(0, .ref (AD Y 0)), (1, .int v1), (2, .int v2), (3, .ref (AD Y v3)), (4, .int v6), (5, .int (v5 + (1 : Int32)))]) [2, 3, 4, 5, 1, 0] rfl ?_
      exact hk6 v6 (v5 + (1 : Int32)) G
    refine J_iload 5 hX dX9_firstTurnOf_6 rfl ?_
    refine J_aload_n 0 hX dX9_firstTurnOf_8 fz0 rfl ?_
    refine J_getNow hX dX9_firstTurnOf_9 lf_X9_10 fun hw9 => ?_
    refine J_getR (b := ((nw G) + 1)) hX dX9_firstTurnOf_12 lf_X9_98 hw9 rfl (by decide) rfl ?_
    refine J_getI hX dX9_firstTurnOf_15 lf_X9_200 (tp_4_0 hw9) rfl ?_
    refine J_icmp_ge (tgt := 64) hX dX9_firstTurnOf_18 rfl ?_ ?_
    · refine J_iload 4 hX dX9_firstTurnOf_64 rfl ?_
      exact J_retI hR dX9_firstTurnOf_66
    · refine J_aload_n 0 hX dX9_firstTurnOf_21 fz0 rfl ?_
      refine J_iload_n 1 hX dX9_firstTurnOf_22 fz1 rfl ?_
      refine J_iload 5 hX dX9_firstTurnOf_23 rfl ?_
      refine J_aload_n 3 hX dX9_firstTurnOf_25 fz3 rfl ?_
      refine J_callVR (As := [.int v1, .int v5, .ref (AD Y v3)]) (st := []) (b := 0) hX mv_X9_301 sk_0 rfl rfl rfl (Nat.le_of_ble_eq_true rfl) (Nat.le_of_ble_eq_true rfl) (Nat.le_of_ble_eq_true rfl) dX9_firstTurnOf_26 (fun r G1 h => ok_X9_soldCard h3 h) fun r26 G26 he26 => ?_
      obtain rfl := ret_X9_soldCard he26
      refine J_iload_n 2 hX dX9_firstTurnOf_29 fz2 rfl ?_
      refine J_callVI (As := [.int v2]) (st := []) (b := 71) hX mv_X9_260 sk_71 rfl rfl rfl (Nat.le_of_ble_eq_true rfl) (Nat.le_of_ble_eq_true rfl) (Nat.le_of_ble_eq_true rfl) dX9_firstTurnOf_30 (fun r G1 h => ok_X0_turnOf  h) fun r30 G30 => ?_
      refine J_istore (lv' := [(6, .int r30), (0, .ref (AD Y 0)), (1, .int v1), (2, .int v2), (3, .ref (AD Y v3)), (4, .int v4), (5, .int v5)]) hX dX9_firstTurnOf_33 (Nat.le_of_ble_eq_true rfl) rfl ?_
      refine J_iload 0 hX dX9_firstTurnOf_35 rfl ?_
      refine J_iconst hX dX9_firstTurnOf_37 cim_1 ?_
      refine J_icmp_eq (tgt := 58) hX dX9_firstTurnOf_38 rfl ?_ ?_
      · refine J_iinc (lv' := [(5, .int (v5 + (1 : Int32))), (6, .int r30), (0, .ref (AD Y 0)), (1, .int v1), (2, .int v2), (3, .ref (AD Y v3)), (4, .int v4)]) 6 hX dX9_firstTurnOf_58 rfl ci_1 (Nat.le_of_ble_eq_true rfl) rfl ?_
        refine J_goto (tgt := 6) hX dX9_firstTurnOf_61 rfl ?_
        refine J_sub (lv' := [(0, .ref (AD Y 0)), (1, .int v1), (2, .int v2), (3, .ref (AD Y v3)), (4, .int v4), (5, .int (v5 + (1 : Int32)))]) [2, 3, 4, 5, 6, 0] rfl ?_
        exact hk6 v4 (v5 + (1 : Int32)) G30
      · refine J_iload 5 hX dX9_firstTurnOf_41 rfl ?_
        refine J_iconst hX dX9_firstTurnOf_43 cim_1 ?_
        refine J_icmp_eq (tgt := 54) hX dX9_firstTurnOf_44 rfl ?_ ?_
        · refine J_sub (lv' := [(0, .ref (AD Y 0)), (1, .int v1), (2, .int v2), (3, .ref (AD Y v3)), (5, .int v5), (6, .int r30)]) [1, 2, 3, 4, 6, 0] rfl ?_
          exact K54 v5 r30 G30
        · refine J_iload 0 hX dX9_firstTurnOf_47 rfl ?_
          refine J_iload 5 hX dX9_firstTurnOf_49 rfl ?_
          refine J_icmp_ge (tgt := 58) hX dX9_firstTurnOf_51 rfl ?_ ?_
          · refine J_iinc (lv' := [(5, .int (v5 + (1 : Int32))), (6, .int r30), (0, .ref (AD Y 0)), (1, .int v1), (2, .int v2), (3, .ref (AD Y v3)), (4, .int v4)]) 6 hX dX9_firstTurnOf_58 rfl ci_1 (Nat.le_of_ble_eq_true rfl) rfl ?_
            refine J_goto (tgt := 6) hX dX9_firstTurnOf_61 rfl ?_
            refine J_sub (lv' := [(0, .ref (AD Y 0)), (1, .int v1), (2, .int v2), (3, .ref (AD Y v3)), (4, .int v4), (5, .int (v5 + (1 : Int32)))]) [2, 3, 4, 5, 6, 0] rfl ?_
            exact hk6 v4 (v5 + (1 : Int32)) G30
          · refine J_sub (lv' := [(0, .ref (AD Y 0)), (1, .int v1), (2, .int v2), (3, .ref (AD Y v3)), (5, .int v5), (6, .int r30)]) [1, 2, 3, 4, 6, 0] rfl ?_
            exact K54 v5 r30 G30
  unfold f_X9_firstTurnOf
  refine J_iconst hX dX9_firstTurnOf_0 cim_1 ?_
  refine J_istore (lv' := [(4, .int (-1 : Int32)), (0, .ref (AD Y 0)), (1, .int v1), (2, .int v2), (3, .ref (AD Y v3))]) hX dX9_firstTurnOf_1 (Nat.le_of_ble_eq_true rfl) rfl ?_
  refine J_iconst hX dX9_firstTurnOf_3 ci_0 ?_
  refine J_istore (lv' := [(5, .int (0 : Int32)), (4, .int (-1 : Int32)), (0, .ref (AD Y 0)), (1, .int v1), (2, .int v2), (3, .ref (AD Y v3))]) hX dX9_firstTurnOf_4 (Nat.le_of_ble_eq_true rfl) rfl ?_
  refine J_sub (lv' := [(0, .ref (AD Y 0)), (1, .int v1), (2, .int v2), (3, .ref (AD Y v3)), (4, .int (-1 : Int32)), (5, .int (0 : Int32))]) [2, 3, 4, 5, 1, 0] rfl ?_
  exact K6  FU (-1 : Int32) (0 : Int32) G
set_option maxHeartbeats 4000000 in
set_option maxRecDepth 100000 in
theorem ok_X9_firstTurn {Y : DX} {v1 : Int32} {v2 : Nat} (h2 : SHk v2 = 10) {G : GM} {r : Int32} {G' : GM} (hf : f_X9_firstTurn v1 v2 G = some (r, G')) : OkI Y 5 M_X9_firstTurn [.ref (AD Y 0), .int v1, .ref (AD Y v2)] G r G' := by
  refine okI_of (lv0 := [(0, .ref (AD Y 0)), (1, .int v1), (2, .ref (AD Y v2))]) (by decide +kernel) rfl (Nat.le_of_ble_eq_true rfl) ?_
  intro X Q hX hR
  have hX : CXok X Y RX9 cX9_firstTurn 6 _ := hX
  revert hf
  show J X Y 6 Q 0 [(0, .ref (AD Y 0)), (1, .int v1), (2, .ref (AD Y v2))] [] G (f_X9_firstTurn v1 v2 G = some (r, G'))
  have K5 : ∀  (n : Nat) (v3 : Int32) (v4 : Int32) (G : GM), J X Y 6 Q 5 [(0, .ref (AD Y 0)), (1, .int v1), (2, .ref (AD Y v2)), (3, .int v3), (4, .int v4)] [] G (wl2 n (lp_X9_firstTurn_5 v1 v2) v3 v4 G = some (r, G')) := by
    refine wl2_ind (R := fun v3 v4 G φ => J X Y 6 Q 5 [(0, .ref (AD Y 0)), (1, .int v1), (2, .ref (AD Y v2)), (3, .int v3), (4, .int v4)] [] G φ) (fun _ _ G φ h => J_no h) ?_
    intro kc5 hk5 v3 v4 G
    unfold lp_X9_firstTurn_5
    have K44 : ∀ (v4 : Int32) (v5 : Int32) (G : GM), J X Y 6 Q 44 [(0, .ref (AD Y 0)), (1, .int v1), (2, .ref (AD Y v2)), (4, .int v4), (5, .int v5)] [] G (k_X9_firstTurn_44 v1 v2 v4 v5 kc5 G = some (r, G')) := by
      intro v4 v5 G
      unfold k_X9_firstTurn_44
      refine J_iload 4 hX dX9_firstTurn_44 rfl ?_
      refine J_istore_n (lv' := [(3, .int v5), (0, .ref (AD Y 0)), (1, .int v1), (2, .ref (AD Y v2)), (4, .int v4), (5, .int v5)]) hX dX9_firstTurn_46 fz3 (Nat.le_of_ble_eq_true rfl) rfl ?_
      refine J_iinc (lv' := [(4, .int (v4 + (1 : Int32))), (3, .int v5), (0, .ref (AD Y 0)), (1, .int v1), (2, .ref (AD Y v2)), (5, .int v5)]) 4 hX dX9_firstTurn_47 rfl ci_1 (Nat.le_of_ble_eq_true rfl) rfl ?_
      refine J_goto (tgt := 5) hX dX9_firstTurn_50 rfl ?_
      refine J_sub (lv' := [(0, .ref (AD Y 0)), (1, .int v1), (2, .ref (AD Y v2)), (3, .int v5), (4, .int (v4 + (1 : Int32)))]) [2, 3, 4, 1, 0] rfl ?_
      exact hk5 v5 (v4 + (1 : Int32)) G
    refine J_iload 4 hX dX9_firstTurn_5 rfl ?_
    refine J_aload_n 0 hX dX9_firstTurn_7 fz0 rfl ?_
    refine J_getNow hX dX9_firstTurn_8 lf_X9_10 fun hw8 => ?_
    refine J_getI hX dX9_firstTurn_11 lf_X9_217 hw8 rfl ?_
    refine J_icmp_ge (tgt := 53) hX dX9_firstTurn_14 rfl ?_ ?_
    · refine J_iload_n 3 hX dX9_firstTurn_53 fz3 rfl ?_
      exact J_retI hR dX9_firstTurn_54
    · refine J_aload_n 0 hX dX9_firstTurn_17 fz0 rfl ?_
      refine J_iload 4 hX dX9_firstTurn_18 rfl ?_
      refine J_iload_n 1 hX dX9_firstTurn_20 fz1 rfl ?_
      refine J_aload_n 2 hX dX9_firstTurn_21 fz2 rfl ?_
      refine J_callVI (As := [.int v4, .int v1, .ref (AD Y v2)]) (st := []) (b := 0) hX mv_X9_298 sk_0 rfl rfl rfl (Nat.le_of_ble_eq_true rfl) (Nat.le_of_ble_eq_true rfl) (Nat.le_of_ble_eq_true rfl) dX9_firstTurn_22 (fun r G1 h => ok_X9_firstTurnOf h2 h) fun r22 G22 => ?_
      refine J_istore (lv' := [(5, .int r22), (0, .ref (AD Y 0)), (1, .int v1), (2, .ref (AD Y v2)), (3, .int v3), (4, .int v4)]) hX dX9_firstTurn_25 (Nat.le_of_ble_eq_true rfl) rfl ?_
      refine J_iload 0 hX dX9_firstTurn_27 rfl ?_
      refine J_iconst hX dX9_firstTurn_29 cim_1 ?_
      refine J_icmp_eq (tgt := 47) hX dX9_firstTurn_30 rfl ?_ ?_
      · refine J_iinc (lv' := [(4, .int (v4 + (1 : Int32))), (5, .int r22), (0, .ref (AD Y 0)), (1, .int v1), (2, .ref (AD Y v2)), (3, .int v3)]) 5 hX dX9_firstTurn_47 rfl ci_1 (Nat.le_of_ble_eq_true rfl) rfl ?_
        refine J_goto (tgt := 5) hX dX9_firstTurn_50 rfl ?_
        refine J_sub (lv' := [(0, .ref (AD Y 0)), (1, .int v1), (2, .ref (AD Y v2)), (3, .int v3), (4, .int (v4 + (1 : Int32)))]) [2, 3, 4, 5, 0] rfl ?_
        exact hk5 v3 (v4 + (1 : Int32)) G22
      · refine J_iload_n 4 hX dX9_firstTurn_33 fz3 rfl ?_
        refine J_iconst hX dX9_firstTurn_34 cim_1 ?_
        refine J_icmp_eq (tgt := 44) hX dX9_firstTurn_35 rfl ?_ ?_
        · refine J_sub (lv' := [(0, .ref (AD Y 0)), (1, .int v1), (2, .ref (AD Y v2)), (4, .int v4), (5, .int r22)]) [1, 2, 3, 5, 0] rfl ?_
          exact K44 v4 r22 G22
        · refine J_iload 0 hX dX9_firstTurn_38 rfl ?_
          refine J_iload_n 4 hX dX9_firstTurn_40 fz3 rfl ?_
          refine J_icmp_ge (tgt := 47) hX dX9_firstTurn_41 rfl ?_ ?_
          · refine J_iinc (lv' := [(4, .int (v4 + (1 : Int32))), (5, .int r22), (0, .ref (AD Y 0)), (1, .int v1), (2, .ref (AD Y v2)), (3, .int v3)]) 5 hX dX9_firstTurn_47 rfl ci_1 (Nat.le_of_ble_eq_true rfl) rfl ?_
            refine J_goto (tgt := 5) hX dX9_firstTurn_50 rfl ?_
            refine J_sub (lv' := [(0, .ref (AD Y 0)), (1, .int v1), (2, .ref (AD Y v2)), (3, .int v3), (4, .int (v4 + (1 : Int32)))]) [2, 3, 4, 5, 0] rfl ?_
            exact hk5 v3 (v4 + (1 : Int32)) G22
          · refine J_sub (lv' := [(0, .ref (AD Y 0)), (1, .int v1), (2, .ref (AD Y v2)), (4, .int v4), (5, .int r22)]) [1, 2, 3, 5, 0] rfl ?_
            exact K44 v4 r22 G22
  unfold f_X9_firstTurn
  refine J_iconst hX dX9_firstTurn_0 cim_1 ?_
  refine J_istore_n (lv' := [(3, .int (-1 : Int32)), (0, .ref (AD Y 0)), (1, .int v1), (2, .ref (AD Y v2))]) hX dX9_firstTurn_1 fz3 (Nat.le_of_ble_eq_true rfl) rfl ?_
  refine J_iconst hX dX9_firstTurn_2 ci_0 ?_
  refine J_istore (lv' := [(4, .int (0 : Int32)), (3, .int (-1 : Int32)), (0, .ref (AD Y 0)), (1, .int v1), (2, .ref (AD Y v2))]) hX dX9_firstTurn_3 (Nat.le_of_ble_eq_true rfl) rfl ?_
  refine J_sub (lv' := [(0, .ref (AD Y 0)), (1, .int v1), (2, .ref (AD Y v2)), (3, .int (-1 : Int32)), (4, .int (0 : Int32))]) [2, 3, 4, 1, 0] rfl ?_
  exact K5  FU (-1 : Int32) (0 : Int32) G
set_option maxHeartbeats 4000000 in
set_option maxRecDepth 100000 in
theorem ok_X9_first {Y : DX} {v1 : Int32}  {G : GM} {r : Int32} {G' : GM} (hf : f_X9_first v1 G = some (r, G')) : OkI Y 6 M_X9_first [.ref (AD Y 0), .int v1] G r G' := by
  refine okI_of (lv0 := [(0, .ref (AD Y 0)), (1, .int v1)]) (by decide +kernel) rfl (Nat.le_of_ble_eq_true rfl) ?_
  intro X Q hX hR
  have hX : CXok X Y RX9 cX9_first 2 _ := hX
  revert hf
  show J X Y 2 Q 0 [(0, .ref (AD Y 0)), (1, .int v1)] [] G (f_X9_first v1 G = some (r, G'))
  unfold f_X9_first
  refine J_aload_n 0 hX dX9_first_0 fz0 rfl ?_
  refine J_iload_n 1 hX dX9_first_1 fz1 rfl ?_
  refine J_callVI (As := [.int v1]) (st := []) (b := 0) hX mv_X9_254 sk_0 rfl rfl rfl (Nat.le_of_ble_eq_true rfl) (Nat.le_of_ble_eq_true rfl) (Nat.le_of_ble_eq_true rfl) dX9_first_2 (fun r G1 h => ok_X9_isKind  h) fun r2 G2 => ?_
  refine J_if_eq (tgt := 23) hX dX9_first_5 rfl ?_ ?_
  · refine J_bipush hX dX9_first_23 cbm_2 ?_
    exact J_retI hR dX9_first_25
  · refine J_aload_n 0 hX dX9_first_8 fz0 rfl ?_
    refine J_iload_n 1 hX dX9_first_9 fz1 rfl ?_
    refine J_aload_n 0 hX dX9_first_10 fz0 rfl ?_
    refine J_getNow hX dX9_first_11 lf_X9_10 fun hw11 => ?_
    refine J_getR (b := ((nw G2) + 21)) hX dX9_first_14 lf_X9_238 hw11 rfl (by decide) rfl ?_
    refine J_callVI (As := [.int v1, .ref (AD Y ((nw G2) + 21))]) (st := []) (b := 0) hX mv_X9_263 sk_0 rfl rfl rfl (Nat.le_of_ble_eq_true rfl) (Nat.le_of_ble_eq_true rfl) (Nat.le_of_ble_eq_true rfl) dX9_first_17 (fun r G1 h => ok_X9_firstTurn (tp_4_9 hw11) h) fun r17 G17 => ?_
    refine J_goto (tgt := 25) hX dX9_first_20 rfl ?_
    exact J_retI hR dX9_first_25
set_option maxHeartbeats 4000000 in
set_option maxRecDepth 100000 in
theorem ok_X9_hasFirst {Y : DX} {v1 : Int32} {v2 : Int32} {v3 : Int32} {v4 : Int32}  {G : GM} {r : Int32} {G' : GM} (hf : f_X9_hasFirst v1 v2 v3 v4 G = some (r, G')) : OkI Y 4 M_X9_hasFirst [.ref (AD Y 0), .int v1, .int v2, .int v3, .int v4] G r G' := by
  refine okZ_of (lv0 := [(0, .ref (AD Y 0)), (1, .int v1), (2, .int v2), (3, .int v3), (4, .int v4)]) (by decide +kernel) rfl (Nat.le_of_ble_eq_true rfl) ?_
  intro X Q hX hR
  have hX : CXok X Y RX9 cX9_hasFirst 5 _ := hX
  revert hf
  show J X Y 5 Q 0 [(0, .ref (AD Y 0)), (1, .int v1), (2, .int v2), (3, .int v3), (4, .int v4)] [] G (f_X9_hasFirst v1 v2 v3 v4 G = some (r, G'))
  unfold f_X9_hasFirst
  refine J_iload 4 hX dX9_hasFirst_0 rfl ?_
  refine J_iconst hX dX9_hasFirst_2 cim_1 ?_
  refine J_icmp_eq (tgt := 32) hX dX9_hasFirst_3 rfl ?_ ?_
  · refine J_iconst hX dX9_hasFirst_32 ci_0 ?_
    exact J_retZ hR (by decide) dX9_hasFirst_33
  · refine J_aload_n 0 hX dX9_hasFirst_6 fz0 rfl ?_
    refine J_iload_n 1 hX dX9_hasFirst_7 fz1 rfl ?_
    refine J_iload_n 2 hX dX9_hasFirst_8 fz2 rfl ?_
    refine J_aload_n 0 hX dX9_hasFirst_9 fz0 rfl ?_
    refine J_getNow hX dX9_hasFirst_10 lf_X9_10 fun hw10 => ?_
    refine J_getR (b := ((nw G) + 21)) hX dX9_hasFirst_13 lf_X9_238 hw10 rfl (by decide) rfl ?_
    refine J_callVR (As := [.int v1, .int v2, .ref (AD Y ((nw G) + 21))]) (st := []) (b := 0) hX mv_X9_301 sk_0 rfl rfl rfl (Nat.le_of_ble_eq_true rfl) (Nat.le_of_ble_eq_true rfl) (Nat.le_of_ble_eq_true rfl) dX9_hasFirst_16 (fun r G1 h => ok_X9_soldCard (tp_4_9 hw10) h) fun r16 G16 he16 => ?_
    obtain rfl := ret_X9_soldCard he16
    refine J_iload_n 3 hX dX9_hasFirst_19 fz3 rfl ?_
    refine J_callVI (As := [.int v3]) (st := []) (b := 71) hX mv_X9_260 sk_71 rfl rfl rfl (Nat.le_of_ble_eq_true rfl) (Nat.le_of_ble_eq_true rfl) (Nat.le_of_ble_eq_true rfl) dX9_hasFirst_20 (fun r G1 h => ok_X0_turnOf  h) fun r20 G20 => ?_
    refine J_iload 4 hX dX9_hasFirst_23 rfl ?_
    refine J_icmp_ne (tgt := 32) hX dX9_hasFirst_25 rfl ?_ ?_
    · refine J_iconst hX dX9_hasFirst_32 ci_0 ?_
      exact J_retZ hR (by decide) dX9_hasFirst_33
    · refine J_iconst hX dX9_hasFirst_28 ci_1 ?_
      refine J_goto (tgt := 33) hX dX9_hasFirst_29 rfl ?_
      exact J_retZ hR (by decide) dX9_hasFirst_33
set_option maxHeartbeats 4000000 in
set_option maxRecDepth 100000 in
theorem ok_X9_winnersAt {Y : DX} {v1 : Int32} {v2 : Int32} {v3 : Nat} (h3 : SHk v3 = 10) {G : GM} {r : Int32} {G' : GM} (hf : f_X9_winnersAt v1 v2 v3 G = some (r, G')) : OkI Y 4 M_X9_winnersAt [.ref (AD Y 0), .int v1, .int v2, .ref (AD Y v3)] G r G' := by
  refine okI_of (lv0 := [(0, .ref (AD Y 0)), (1, .int v1), (2, .int v2), (3, .ref (AD Y v3))]) (by decide +kernel) rfl (Nat.le_of_ble_eq_true rfl) ?_
  intro X Q hX hR
  have hX : CXok X Y RX9 cX9_winnersAt 7 _ := hX
  revert hf
  show J X Y 7 Q 0 [(0, .ref (AD Y 0)), (1, .int v1), (2, .int v2), (3, .ref (AD Y v3))] [] G (f_X9_winnersAt v1 v2 v3 G = some (r, G'))
  have K6 : ∀  (n : Nat) (v4 : Int32) (v5 : Int32) (G : GM), J X Y 7 Q 6 [(0, .ref (AD Y 0)), (1, .int v1), (2, .int v2), (3, .ref (AD Y v3)), (4, .int v4), (5, .int v5)] [] G (wl2 n (lp_X9_winnersAt_6 v1 v2 v3) v4 v5 G = some (r, G')) := by
    refine wl2_ind (R := fun v4 v5 G φ => J X Y 7 Q 6 [(0, .ref (AD Y 0)), (1, .int v1), (2, .int v2), (3, .ref (AD Y v3)), (4, .int v4), (5, .int v5)] [] G φ) (fun _ _ G φ h => J_no h) ?_
    intro kc6 hk6 v4 v5 G
    unfold lp_X9_winnersAt_6
    have K26 : ∀ (v5 : Int32) (n : Nat) (v4 : Int32) (v6 : Int32) (G : GM), J X Y 7 Q 26 [(0, .ref (AD Y 0)), (1, .int v1), (2, .int v2), (3, .ref (AD Y v3)), (4, .int v4), (5, .int v5), (6, .int v6)] [] G (wl2 n (lp_X9_winnersAt_26 v1 v2 v3 v5 kc6) v4 v6 G = some (r, G')) := by
      intro v5
      refine wl2_ind (R := fun v4 v6 G φ => J X Y 7 Q 26 [(0, .ref (AD Y 0)), (1, .int v1), (2, .int v2), (3, .ref (AD Y v3)), (4, .int v4), (5, .int v5), (6, .int v6)] [] G φ) (fun _ _ G φ h => J_no h) ?_
      intro kc26 hk26 v4 v6 G
      unfold lp_X9_winnersAt_26
      refine J_iload 6 hX dX9_winnersAt_26 rfl ?_
      refine J_aload_n 0 hX dX9_winnersAt_28 fz0 rfl ?_
      refine J_getNow hX dX9_winnersAt_29 lf_X9_10 fun hw29 => ?_
      refine J_getR (b := ((nw G) + 1)) hX dX9_winnersAt_32 lf_X9_98 hw29 rfl (by decide) rfl ?_
      refine J_getI hX dX9_winnersAt_35 lf_X9_200 (tp_4_0 hw29) rfl ?_
      refine J_icmp_ge (tgt := 67) hX dX9_winnersAt_38 rfl ?_ ?_
      · refine J_iinc (lv' := [(5, .int (v5 + (1 : Int32))), (0, .ref (AD Y 0)), (1, .int v1), (2, .int v2), (3, .ref (AD Y v3)), (4, .int v4), (6, .int v6)]) 5 hX dX9_winnersAt_67 rfl ci_1 (Nat.le_of_ble_eq_true rfl) rfl ?_
        refine J_goto (tgt := 6) hX dX9_winnersAt_70 rfl ?_
        refine J_sub (lv' := [(0, .ref (AD Y 0)), (1, .int v1), (2, .int v2), (3, .ref (AD Y v3)), (4, .int v4), (5, .int (v5 + (1 : Int32)))]) [1, 2, 3, 4, 5, 0] rfl ?_
        exact hk6 v4 (v5 + (1 : Int32)) G
      · refine J_aload_n 0 hX dX9_winnersAt_41 fz0 rfl ?_
        refine J_iload 5 hX dX9_winnersAt_42 rfl ?_
        refine J_iload 6 hX dX9_winnersAt_44 rfl ?_
        refine J_aload_n 3 hX dX9_winnersAt_46 fz3 rfl ?_
        refine J_callVR (As := [.int v5, .int v6, .ref (AD Y v3)]) (st := []) (b := 0) hX mv_X9_301 sk_0 rfl rfl rfl (Nat.le_of_ble_eq_true rfl) (Nat.le_of_ble_eq_true rfl) (Nat.le_of_ble_eq_true rfl) dX9_winnersAt_47 (fun r G1 h => ok_X9_soldCard h3 h) fun r47 G47 he47 => ?_
        obtain rfl := ret_X9_soldCard he47
        refine J_iload_n 1 hX dX9_winnersAt_50 fz1 rfl ?_
        refine J_callVI (As := [.int v1]) (st := []) (b := 71) hX mv_X9_260 sk_71 rfl rfl rfl (Nat.le_of_ble_eq_true rfl) (Nat.le_of_ble_eq_true rfl) (Nat.le_of_ble_eq_true rfl) dX9_winnersAt_51 (fun r G1 h => ok_X0_turnOf  h) fun r51 G51 => ?_
        refine J_iload_n 2 hX dX9_winnersAt_54 fz2 rfl ?_
        refine J_icmp_ne (tgt := 61) hX dX9_winnersAt_55 rfl ?_ ?_
        · refine J_iinc (lv' := [(6, .int (v6 + (1 : Int32))), (0, .ref (AD Y 0)), (1, .int v1), (2, .int v2), (3, .ref (AD Y v3)), (4, .int v4), (5, .int v5)]) 6 hX dX9_winnersAt_61 rfl ci_1 (Nat.le_of_ble_eq_true rfl) rfl ?_
          refine J_goto (tgt := 26) hX dX9_winnersAt_64 rfl ?_
          refine J_sub (lv' := [(0, .ref (AD Y 0)), (1, .int v1), (2, .int v2), (3, .ref (AD Y v3)), (4, .int v4), (5, .int v5), (6, .int (v6 + (1 : Int32)))]) [1, 2, 3, 4, 5, 6, 0] rfl ?_
          exact hk26 v4 (v6 + (1 : Int32)) G51
        · refine J_iinc (lv' := [(4, .int (v4 + (1 : Int32))), (0, .ref (AD Y 0)), (1, .int v1), (2, .int v2), (3, .ref (AD Y v3)), (5, .int v5), (6, .int v6)]) 4 hX dX9_winnersAt_58 rfl ci_1 (Nat.le_of_ble_eq_true rfl) rfl ?_
          refine J_iinc (lv' := [(6, .int (v6 + (1 : Int32))), (4, .int (v4 + (1 : Int32))), (0, .ref (AD Y 0)), (1, .int v1), (2, .int v2), (3, .ref (AD Y v3)), (5, .int v5)]) 6 hX dX9_winnersAt_61 rfl ci_1 (Nat.le_of_ble_eq_true rfl) rfl ?_
          refine J_goto (tgt := 26) hX dX9_winnersAt_64 rfl ?_
          refine J_sub (lv' := [(0, .ref (AD Y 0)), (1, .int v1), (2, .int v2), (3, .ref (AD Y v3)), (4, .int (v4 + (1 : Int32))), (5, .int v5), (6, .int (v6 + (1 : Int32)))]) [2, 3, 4, 5, 1, 6, 0] rfl ?_
          exact hk26 (v4 + (1 : Int32)) (v6 + (1 : Int32)) G51
    refine J_iload 5 hX dX9_winnersAt_6 rfl ?_
    refine J_aload_n 0 hX dX9_winnersAt_8 fz0 rfl ?_
    refine J_getNow hX dX9_winnersAt_9 lf_X9_10 fun hw9 => ?_
    refine J_getI hX dX9_winnersAt_12 lf_X9_217 hw9 rfl ?_
    refine J_icmp_ge (tgt := 73) hX dX9_winnersAt_15 rfl ?_ ?_
    · refine J_iload 4 hX dX9_winnersAt_73 rfl ?_
      exact J_retI hR dX9_winnersAt_75
    · refine J_iload_n 2 hX dX9_winnersAt_18 fz2 rfl ?_
      refine J_iconst hX dX9_winnersAt_19 cim_1 ?_
      refine J_icmp_eq (tgt := 73) hX dX9_winnersAt_20 rfl ?_ ?_
      · refine J_iload 4 hX dX9_winnersAt_73 rfl ?_
        exact J_retI hR dX9_winnersAt_75
      · refine J_iconst hX dX9_winnersAt_23 ci_0 ?_
        refine J_istore (lv' := [(6, .int (0 : Int32)), (0, .ref (AD Y 0)), (1, .int v1), (2, .int v2), (3, .ref (AD Y v3)), (4, .int v4), (5, .int v5)]) hX dX9_winnersAt_24 (Nat.le_of_ble_eq_true rfl) rfl ?_
        refine J_sub (lv' := [(0, .ref (AD Y 0)), (1, .int v1), (2, .int v2), (3, .ref (AD Y v3)), (4, .int v4), (5, .int v5), (6, .int (0 : Int32))]) [1, 2, 3, 4, 5, 6, 0] rfl ?_
        exact K26 v5 FU v4 (0 : Int32) G
  unfold f_X9_winnersAt
  refine J_iconst hX dX9_winnersAt_0 ci_0 ?_
  refine J_istore (lv' := [(4, .int (0 : Int32)), (0, .ref (AD Y 0)), (1, .int v1), (2, .int v2), (3, .ref (AD Y v3))]) hX dX9_winnersAt_1 (Nat.le_of_ble_eq_true rfl) rfl ?_
  refine J_iconst hX dX9_winnersAt_3 ci_0 ?_
  refine J_istore (lv' := [(5, .int (0 : Int32)), (4, .int (0 : Int32)), (0, .ref (AD Y 0)), (1, .int v1), (2, .int v2), (3, .ref (AD Y v3))]) hX dX9_winnersAt_4 (Nat.le_of_ble_eq_true rfl) rfl ?_
  refine J_sub (lv' := [(0, .ref (AD Y 0)), (1, .int v1), (2, .int v2), (3, .ref (AD Y v3)), (4, .int (0 : Int32)), (5, .int (0 : Int32))]) [2, 3, 4, 5, 1, 0] rfl ?_
  exact K6  FU (0 : Int32) (0 : Int32) G
set_option maxHeartbeats 4000000 in
set_option maxRecDepth 100000 in
theorem ok_X9_winner {Y : DX} {v1 : Int32} {v2 : Int32}  {G : GM} {r : Int32} {G' : GM} (hf : f_X9_winner v1 v2 G = some (r, G')) : OkI Y 6 M_X9_winner [.ref (AD Y 0), .int v1, .int v2] G r G' := by
  refine okI_of (lv0 := [(0, .ref (AD Y 0)), (1, .int v1), (2, .int v2)]) (by decide +kernel) rfl (Nat.le_of_ble_eq_true rfl) ?_
  intro X Q hX hR
  have hX : CXok X Y RX9 cX9_winner 7 _ := hX
  revert hf
  show J X Y 7 Q 0 [(0, .ref (AD Y 0)), (1, .int v1), (2, .int v2)] [] G (f_X9_winner v1 v2 G = some (r, G'))
  have K54 : ∀ (v3 : Int32) (n : Nat) (v4 : Int32) (v5 : Int32) (G : GM), J X Y 7 Q 54 [(0, .ref (AD Y 0)), (1, .int v1), (2, .int v2), (3, .int v3), (4, .int v4), (5, .int v5)] [] G (wl2 n (lp_X9_winner_54 v1 v2 v3) v4 v5 G = some (r, G')) := by
    intro v3
    refine wl2_ind (R := fun v4 v5 G φ => J X Y 7 Q 54 [(0, .ref (AD Y 0)), (1, .int v1), (2, .int v2), (3, .int v3), (4, .int v4), (5, .int v5)] [] G φ) (fun _ _ G φ h => J_no h) ?_
    intro kc54 hk54 v4 v5 G
    unfold lp_X9_winner_54
    have K69 : ∀ (v5 : Int32) (n : Nat) (v4 : Int32) (v6 : Int32) (G : GM), J X Y 7 Q 69 [(0, .ref (AD Y 0)), (1, .int v1), (2, .int v2), (3, .int v3), (4, .int v4), (5, .int v5), (6, .int v6)] [] G (wl2 n (lp_X9_winner_69 v1 v2 v3 v5 kc54) v4 v6 G = some (r, G')) := by
      intro v5
      refine wl2_ind (R := fun v4 v6 G φ => J X Y 7 Q 69 [(0, .ref (AD Y 0)), (1, .int v1), (2, .int v2), (3, .int v3), (4, .int v4), (5, .int v5), (6, .int v6)] [] G φ) (fun _ _ G φ h => J_no h) ?_
      intro kc69 hk69 v4 v6 G
      unfold lp_X9_winner_69
      refine J_iload 6 hX dX9_winner_69 rfl ?_
      refine J_aload_n 0 hX dX9_winner_71 fz0 rfl ?_
      refine J_getNow hX dX9_winner_72 lf_X9_10 fun hw72 => ?_
      refine J_getR (b := ((nw G) + 1)) hX dX9_winner_75 lf_X9_98 hw72 rfl (by decide) rfl ?_
      refine J_getI hX dX9_winner_78 lf_X9_200 (tp_4_0 hw72) rfl ?_
      refine J_icmp_ge (tgt := 121) hX dX9_winner_81 rfl ?_ ?_
      · refine J_iinc (lv' := [(5, .int (v5 + (1 : Int32))), (0, .ref (AD Y 0)), (1, .int v1), (2, .int v2), (3, .int v3), (4, .int v4), (6, .int v6)]) 5 hX dX9_winner_121 rfl ci_1 (Nat.le_of_ble_eq_true rfl) rfl ?_
        refine J_goto (tgt := 54) hX dX9_winner_124 rfl ?_
        refine J_sub (lv' := [(0, .ref (AD Y 0)), (1, .int v1), (2, .int v2), (3, .int v3), (4, .int v4), (5, .int (v5 + (1 : Int32)))]) [1, 2, 3, 4, 5, 0] rfl ?_
        exact hk54 v4 (v5 + (1 : Int32)) G
      · refine J_aload_n 0 hX dX9_winner_84 fz0 rfl ?_
        refine J_iload 5 hX dX9_winner_85 rfl ?_
        refine J_iload 6 hX dX9_winner_87 rfl ?_
        refine J_iload_n 1 hX dX9_winner_89 fz1 rfl ?_
        refine J_iload_n 3 hX dX9_winner_90 fz3 rfl ?_
        refine J_callVI (As := [.int v5, .int v6, .int v1, .int v3]) (st := []) (b := 0) hX mv_X9_271 sk_0 rfl rfl rfl (Nat.le_of_ble_eq_true rfl) (Nat.le_of_ble_eq_true rfl) (Nat.le_of_ble_eq_true rfl) dX9_winner_91 (fun r G1 h => ok_X9_hasFirst  h) fun r91 G91 => ?_
        refine J_if_eq (tgt := 115) hX dX9_winner_94 rfl ?_ ?_
        · refine J_iinc (lv' := [(6, .int (v6 + (1 : Int32))), (0, .ref (AD Y 0)), (1, .int v1), (2, .int v2), (3, .int v3), (4, .int v4), (5, .int v5)]) 6 hX dX9_winner_115 rfl ci_1 (Nat.le_of_ble_eq_true rfl) rfl ?_
          refine J_goto (tgt := 69) hX dX9_winner_118 rfl ?_
          refine J_sub (lv' := [(0, .ref (AD Y 0)), (1, .int v1), (2, .int v2), (3, .int v3), (4, .int v4), (5, .int v5), (6, .int (v6 + (1 : Int32)))]) [1, 2, 3, 4, 5, 6, 0] rfl ?_
          exact hk69 v4 (v6 + (1 : Int32)) G91
        · refine J_iload 4 hX dX9_winner_97 rfl ?_
          refine J_iload_n 2 hX dX9_winner_99 fz2 rfl ?_
          refine J_icmp_ne (tgt := 112) hX dX9_winner_100 rfl ?_ ?_
          · refine J_iinc (lv' := [(4, .int (v4 + (1 : Int32))), (0, .ref (AD Y 0)), (1, .int v1), (2, .int v2), (3, .int v3), (5, .int v5), (6, .int v6)]) 4 hX dX9_winner_112 rfl ci_1 (Nat.le_of_ble_eq_true rfl) rfl ?_
            refine J_iinc (lv' := [(6, .int (v6 + (1 : Int32))), (4, .int (v4 + (1 : Int32))), (0, .ref (AD Y 0)), (1, .int v1), (2, .int v2), (3, .int v3), (5, .int v5)]) 6 hX dX9_winner_115 rfl ci_1 (Nat.le_of_ble_eq_true rfl) rfl ?_
            refine J_goto (tgt := 69) hX dX9_winner_118 rfl ?_
            refine J_sub (lv' := [(0, .ref (AD Y 0)), (1, .int v1), (2, .int v2), (3, .int v3), (4, .int (v4 + (1 : Int32))), (5, .int v5), (6, .int (v6 + (1 : Int32)))]) [2, 3, 4, 5, 1, 6, 0] rfl ?_
            exact hk69 (v4 + (1 : Int32)) (v6 + (1 : Int32)) G91
          · refine J_bipush hX dX9_winner_103 cb_10 ?_
            refine J_iload 5 hX dX9_winner_105 rfl ?_
            refine J_imul hX dX9_winner_107 ?_
            refine J_iload 6 hX dX9_winner_108 rfl ?_
            refine J_iadd hX dX9_winner_110 ?_
            exact J_retI hR dX9_winner_111
    refine J_iload 5 hX dX9_winner_54 rfl ?_
    refine J_aload_n 0 hX dX9_winner_56 fz0 rfl ?_
    refine J_getNow hX dX9_winner_57 lf_X9_10 fun hw57 => ?_
    refine J_getI hX dX9_winner_60 lf_X9_217 hw57 rfl ?_
    refine J_icmp_ge (tgt := 127) hX dX9_winner_63 rfl ?_ ?_
    · refine J_iconst hX dX9_winner_127 cim_1 ?_
      exact J_retI hR dX9_winner_128
    · refine J_iconst hX dX9_winner_66 ci_0 ?_
      refine J_istore (lv' := [(6, .int (0 : Int32)), (0, .ref (AD Y 0)), (1, .int v1), (2, .int v2), (3, .int v3), (4, .int v4), (5, .int v5)]) hX dX9_winner_67 (Nat.le_of_ble_eq_true rfl) rfl ?_
      refine J_sub (lv' := [(0, .ref (AD Y 0)), (1, .int v1), (2, .int v2), (3, .int v3), (4, .int v4), (5, .int v5), (6, .int (0 : Int32))]) [1, 2, 3, 4, 5, 6, 0] rfl ?_
      exact K69 v5 FU v4 (0 : Int32) G
  unfold f_X9_winner
  refine J_aload_n 0 hX dX9_winner_0 fz0 rfl ?_
  refine J_iload_n 1 hX dX9_winner_1 fz1 rfl ?_
  refine J_callVI (As := [.int v1]) (st := []) (b := 0) hX mv_X9_254 sk_0 rfl rfl rfl (Nat.le_of_ble_eq_true rfl) (Nat.le_of_ble_eq_true rfl) (Nat.le_of_ble_eq_true rfl) dX9_winner_2 (fun r G1 h => ok_X9_isKind  h) fun r2 G2 => ?_
  refine J_if_eq (tgt := 13) hX dX9_winner_5 rfl ?_ ?_
  · refine J_bipush hX dX9_winner_13 cbm_2 ?_
    exact J_retI hR dX9_winner_15
  · refine J_iload_n 2 hX dX9_winner_8 fz2 rfl ?_
    refine J_iconst hX dX9_winner_9 cim_1 ?_
    refine J_icmp_ge (tgt := 16) hX dX9_winner_10 rfl ?_ ?_
    · refine J_aload_n 0 hX dX9_winner_16 fz0 rfl ?_
      refine J_iload_n 1 hX dX9_winner_17 fz1 rfl ?_
      refine J_aload_n 0 hX dX9_winner_18 fz0 rfl ?_
      refine J_getNow hX dX9_winner_19 lf_X9_10 fun hw19 => ?_
      refine J_getR (b := ((nw G2) + 21)) hX dX9_winner_22 lf_X9_238 hw19 rfl (by decide) rfl ?_
      refine J_callVI (As := [.int v1, .ref (AD Y ((nw G2) + 21))]) (st := []) (b := 0) hX mv_X9_263 sk_0 rfl rfl rfl (Nat.le_of_ble_eq_true rfl) (Nat.le_of_ble_eq_true rfl) (Nat.le_of_ble_eq_true rfl) dX9_winner_25 (fun r G1 h => ok_X9_firstTurn (tp_4_9 hw19) h) fun r25 G25 => ?_
      refine J_istore_n (lv' := [(3, .int r25), (0, .ref (AD Y 0)), (1, .int v1), (2, .int v2)]) hX dX9_winner_28 fz3 (Nat.le_of_ble_eq_true rfl) rfl ?_
      refine J_iload_n 3 hX dX9_winner_29 fz2 rfl ?_
      refine J_iconst hX dX9_winner_30 cim_1 ?_
      refine J_icmp_ne (tgt := 48) hX dX9_winner_31 rfl ?_ ?_
      · refine J_iconst hX dX9_winner_48 ci_0 ?_
        refine J_istore (lv' := [(4, .int (0 : Int32)), (3, .int r25), (0, .ref (AD Y 0)), (1, .int v1), (2, .int v2)]) hX dX9_winner_49 (Nat.le_of_ble_eq_true rfl) rfl ?_
        refine J_iconst hX dX9_winner_51 ci_0 ?_
        refine J_istore (lv' := [(5, .int (0 : Int32)), (4, .int (0 : Int32)), (3, .int r25), (0, .ref (AD Y 0)), (1, .int v1), (2, .int v2)]) hX dX9_winner_52 (Nat.le_of_ble_eq_true rfl) rfl ?_
        refine J_sub (lv' := [(0, .ref (AD Y 0)), (1, .int v1), (2, .int v2), (3, .int r25), (4, .int (0 : Int32)), (5, .int (0 : Int32))]) [3, 4, 5, 2, 1, 0] rfl ?_
        exact K54 r25 FU (0 : Int32) (0 : Int32) G25
      · refine J_aload_n 1 hX dX9_winner_34 fz0 rfl ?_
        refine J_iload_n 2 hX dX9_winner_35 fz1 rfl ?_
        refine J_iload_n 0 hX dX9_winner_36 fz3 rfl ?_
        refine J_aload_n 1 hX dX9_winner_37 fz0 rfl ?_
        refine J_getNow hX dX9_winner_38 lf_X9_10 fun hw38 => ?_
        refine J_getR (b := ((nw G25) + 21)) hX dX9_winner_41 lf_X9_238 hw38 rfl (by decide) rfl ?_
        refine J_callVI (As := [.int v1, .int r25, .ref (AD Y ((nw G25) + 21))]) (st := []) (b := 0) hX mv_X9_267 sk_0 rfl rfl rfl (Nat.le_of_ble_eq_true rfl) (Nat.le_of_ble_eq_true rfl) (Nat.le_of_ble_eq_true rfl) dX9_winner_44 (fun r G1 h => ok_X9_winnersAt (tp_4_9 hw38) h) fun r44 G44 => ?_
        exact J_retI hR dX9_winner_47
    · refine J_bipush hX dX9_winner_13 cbm_2 ?_
      exact J_retI hR dX9_winner_15
set_option maxHeartbeats 4000000 in
set_option maxRecDepth 100000 in
theorem ok_X9_partOf {Y : DX} {v0 : Int32} {v1 : Int32}  {G : GM} {r : Int32} {G' : GM} (hf : f_X9_partOf v0 v1 G = some (r, G')) : OkI Y 1 M_X9_partOf [.int v0, .int v1] G r G' := by
  refine okI_of (lv0 := [(0, .int v0), (1, .int v1)]) (by decide +kernel) rfl (Nat.le_of_ble_eq_true rfl) ?_
  intro X Q hX hR
  have hX : CXok X Y RX9 cX9_partOf 2 _ := hX
  revert hf
  show J X Y 2 Q 0 [(0, .int v0), (1, .int v1)] [] G (f_X9_partOf v0 v1 G = some (r, G'))
  unfold f_X9_partOf
  refine J_iload_n 1 hX dX9_partOf_0 fz1 rfl ?_
  refine J_iconst hX dX9_partOf_1 ci_1 ?_
  refine J_icmp_ge (tgt := 9) hX dX9_partOf_2 rfl ?_ ?_
  · refine J_iload_n 0 hX dX9_partOf_9 fz0 rfl ?_
    refine J_iload_n 1 hX dX9_partOf_10 fz1 rfl ?_
    refine J_idiv hX dX9_partOf_11 ?_
    exact J_retI hR dX9_partOf_12
  · refine J_iconst hX dX9_partOf_5 ci_0 ?_
    refine J_goto (tgt := 12) hX dX9_partOf_6 rfl ?_
    exact J_retI hR dX9_partOf_12
set_option maxHeartbeats 4000000 in
set_option maxRecDepth 100000 in
theorem ok_X9_prize {Y : DX} {v1 : Int32} {v2 : Int32}  {G : GM} {r : Int32} {G' : GM} (hf : f_X9_prize v1 v2 G = some (r, G')) : OkI Y 6 M_X9_prize [.ref (AD Y 0), .int v1, .int v2] G r G' := by
  refine okI_of (lv0 := [(0, .ref (AD Y 0)), (1, .int v1), (2, .int v2)]) (by decide +kernel) rfl (Nat.le_of_ble_eq_true rfl) ?_
  intro X Q hX hR
  have hX : CXok X Y RX9 cX9_prize 5 _ := hX
  revert hf
  show J X Y 5 Q 0 [(0, .ref (AD Y 0)), (1, .int v1), (2, .int v2)] [] G (f_X9_prize v1 v2 G = some (r, G'))
  unfold f_X9_prize
  refine J_aload_n 0 hX dX9_prize_0 fz0 rfl ?_
  refine J_iload_n 1 hX dX9_prize_1 fz1 rfl ?_
  refine J_callVI (As := [.int v1]) (st := []) (b := 0) hX mv_X9_254 sk_0 rfl rfl rfl (Nat.le_of_ble_eq_true rfl) (Nat.le_of_ble_eq_true rfl) (Nat.le_of_ble_eq_true rfl) dX9_prize_2 (fun r G1 h => ok_X9_isKind  h) fun r2 G2 => ?_
  refine J_if_eq (tgt := 17) hX dX9_prize_5 rfl ?_ ?_
  · refine J_bipush hX dX9_prize_17 cbm_2 ?_
    exact J_retI hR dX9_prize_19
  · refine J_iload_n 2 hX dX9_prize_8 fz2 rfl ?_
    refine J_if_lt (tgt := 17) hX dX9_prize_9 rfl ?_ ?_
    · refine J_bipush hX dX9_prize_17 cbm_2 ?_
      exact J_retI hR dX9_prize_19
    · refine J_iload_n 2 hX dX9_prize_12 fz2 rfl ?_
      refine J_iconst hX dX9_prize_13 ci_1 ?_
      refine J_icmp_le (tgt := 20) hX dX9_prize_14 rfl ?_ ?_
      · refine J_aload_n 0 hX dX9_prize_20 fz0 rfl ?_
        refine J_iload_n 1 hX dX9_prize_21 fz1 rfl ?_
        refine J_aload_n 0 hX dX9_prize_22 fz0 rfl ?_
        refine J_iload_n 1 hX dX9_prize_23 fz1 rfl ?_
        refine J_aload_n 0 hX dX9_prize_24 fz0 rfl ?_
        refine J_getNow hX dX9_prize_25 lf_X9_10 fun hw25 => ?_
        refine J_getR (b := ((nw G2) + 21)) hX dX9_prize_28 lf_X9_238 hw25 rfl (by decide) rfl ?_
        refine J_callVI (As := [.int v1, .ref (AD Y ((nw G2) + 21))]) (st := [.int v1, .ref (AD Y 0)]) (b := 0) hX mv_X9_263 sk_0 rfl rfl rfl (Nat.le_of_ble_eq_true rfl) (Nat.le_of_ble_eq_true rfl) (Nat.le_of_ble_eq_true rfl) dX9_prize_31 (fun r G1 h => ok_X9_firstTurn (tp_4_9 hw25) h) fun r31 G31 => ?_
        refine J_aload_n 0 hX dX9_prize_34 fz0 rfl ?_
        refine J_getNow hX dX9_prize_35 lf_X9_10 fun hw35 => ?_
        refine J_getR (b := ((nw G31) + 21)) hX dX9_prize_38 lf_X9_238 hw35 rfl (by decide) rfl ?_
        refine J_callVI (As := [.int v1, .int r31, .ref (AD Y ((nw G31) + 21))]) (st := []) (b := 0) hX mv_X9_267 sk_0 rfl rfl rfl (Nat.le_of_ble_eq_true rfl) (Nat.le_of_ble_eq_true rfl) (Nat.le_of_ble_eq_true rfl) dX9_prize_41 (fun r G1 h => ok_X9_winnersAt (tp_4_9 hw35) h) fun r41 G41 => ?_
        refine J_istore_n (lv' := [(3, .int r41), (0, .ref (AD Y 0)), (1, .int v1), (2, .int v2)]) hX dX9_prize_44 fz3 (Nat.le_of_ble_eq_true rfl) rfl ?_
        refine J_aload_n 1 hX dX9_prize_45 fz0 rfl ?_
        refine J_getNow hX dX9_prize_46 lf_X9_10 fun hw46 => ?_
        refine J_getR (b := ((nw G41) + 9)) hX dX9_prize_49 lf_X9_275 hw46 rfl (by decide) rfl ?_
        refine J_iload_n 2 hX dX9_prize_52 fz1 rfl ?_
        refine J_iald hX dX9_prize_53 (tp_4_2 hw46) (tl_4_2 hw46) ?_
        refine J_iload_n 0 hX dX9_prize_54 fz3 rfl ?_
        refine J_callSI (As := [.int (gI G41 ((nw G41) + 9) v1.toNatClampNeg), .int r41]) (st := []) hX ms_X9_278 rfl rfl (Nat.le_of_ble_eq_true rfl) (Nat.le_of_ble_eq_true rfl) (Nat.le_of_ble_eq_true rfl) dX9_prize_55 (fun r G1 h => ok_X9_partOf  h) fun r55 G55 => ?_
        refine J_istore (lv' := [(4, .int r55), (3, .int r41), (0, .ref (AD Y 0)), (1, .int v1), (2, .int v2)]) hX dX9_prize_58 (Nat.le_of_ble_eq_true rfl) rfl ?_
        refine J_iload_n 4 hX dX9_prize_60 fz2 rfl ?_
        refine J_if_ne (tgt := 69) hX dX9_prize_61 rfl ?_ ?_
        · refine J_aload_n 2 hX dX9_prize_69 fz0 rfl ?_
          refine J_getNow hX dX9_prize_70 lf_X9_10 fun hw70 => ?_
          refine J_getR (b := ((nw G55) + 9)) hX dX9_prize_73 lf_X9_275 hw70 rfl (by decide) rfl ?_
          refine J_iload_n 3 hX dX9_prize_76 fz1 rfl ?_
          refine J_iald hX dX9_prize_77 (tp_4_2 hw70) (tl_4_2 hw70) ?_
          refine J_iload 0 hX dX9_prize_78 rfl ?_
          refine J_iload_n 1 hX dX9_prize_80 fz3 rfl ?_
          refine J_imul hX dX9_prize_81 ?_
          refine J_isub hX dX9_prize_82 ?_
          exact J_retI hR dX9_prize_83
        · refine J_iload 0 hX dX9_prize_64 rfl ?_
          refine J_goto (tgt := 83) hX dX9_prize_66 rfl ?_
          exact J_retI hR dX9_prize_83
      · refine J_bipush hX dX9_prize_17 cbm_2 ?_
        exact J_retI hR dX9_prize_19
set_option maxHeartbeats 4000000 in
set_option maxRecDepth 100000 in
theorem ok_X9_jackpotPart {Y : DX} {v1 : Int32}  {G : GM} {r : Int32} {G' : GM} (hf : f_X9_jackpotPart v1 G = some (r, G')) : OkI Y 5 M_X9_jackpotPart [.ref (AD Y 0), .int v1] G r G' := by
  refine okI_of (lv0 := [(0, .ref (AD Y 0)), (1, .int v1)]) (by decide +kernel) rfl (Nat.le_of_ble_eq_true rfl) ?_
  intro X Q hX hR
  have hX : CXok X Y RX9 cX9_jackpotPart 2 _ := hX
  revert hf
  show J X Y 2 Q 0 [(0, .ref (AD Y 0)), (1, .int v1)] [] G (f_X9_jackpotPart v1 G = some (r, G'))
  unfold f_X9_jackpotPart
  refine J_iload_n 1 hX dX9_jackpotPart_0 fz1 rfl ?_
  refine J_iconst hX dX9_jackpotPart_1 cim_1 ?_
  refine J_icmp_eq (tgt := 16) hX dX9_jackpotPart_2 rfl ?_ ?_
  · refine J_iconst hX dX9_jackpotPart_16 ci_0 ?_
    exact J_retI hR dX9_jackpotPart_17
  · refine J_iload_n 1 hX dX9_jackpotPart_5 fz1 rfl ?_
    refine J_aload_n 0 hX dX9_jackpotPart_6 fz0 rfl ?_
    refine J_getNow hX dX9_jackpotPart_7 lf_X9_10 fun hw7 => ?_
    refine J_getI hX dX9_jackpotPart_10 lf_X9_284 hw7 rfl ?_
    refine J_icmp_le (tgt := 18) hX dX9_jackpotPart_13 rfl ?_ ?_
    · refine J_aload_n 0 hX dX9_jackpotPart_18 fz0 rfl ?_
      refine J_getNow hX dX9_jackpotPart_19 lf_X9_10 fun hw19 => ?_
      refine J_getI hX dX9_jackpotPart_22 lf_X9_295 hw19 rfl ?_
      refine J_aload_n 0 hX dX9_jackpotPart_25 fz0 rfl ?_
      refine J_iconst hX dX9_jackpotPart_26 ci_2 ?_
      refine J_iload_n 1 hX dX9_jackpotPart_27 fz1 rfl ?_
      refine J_aload_n 0 hX dX9_jackpotPart_28 fz0 rfl ?_
      refine J_getNow hX dX9_jackpotPart_29 lf_X9_10 fun hw29 => ?_
      refine J_getR (b := ((nw G) + 21)) hX dX9_jackpotPart_32 lf_X9_238 hw29 rfl (by decide) rfl ?_
      refine J_callVI (As := [.int (2 : Int32), .int v1, .ref (AD Y ((nw G) + 21))]) (st := [.int (gI G (nw G) 3)]) (b := 0) hX mv_X9_267 sk_0 rfl rfl rfl (Nat.le_of_ble_eq_true rfl) (Nat.le_of_ble_eq_true rfl) (Nat.le_of_ble_eq_true rfl) dX9_jackpotPart_35 (fun r G1 h => ok_X9_winnersAt (tp_4_9 hw29) h) fun r35 G35 => ?_
      refine J_callSI (As := [.int (gI G (nw G) 3), .int r35]) (st := []) hX ms_X9_278 rfl rfl (Nat.le_of_ble_eq_true rfl) (Nat.le_of_ble_eq_true rfl) (Nat.le_of_ble_eq_true rfl) dX9_jackpotPart_38 (fun r G1 h => ok_X9_partOf  h) fun r38 G38 => ?_
      exact J_retI hR dX9_jackpotPart_41
    · refine J_iconst hX dX9_jackpotPart_16 ci_0 ?_
      exact J_retI hR dX9_jackpotPart_17
set_option maxHeartbeats 4000000 in
set_option maxRecDepth 100000 in
theorem ok_X9_jackpot {Y : DX} {v1 : Int32}  {G : GM} {r : Int32} {G' : GM} (hf : f_X9_jackpot v1 G = some (r, G')) : OkI Y 6 M_X9_jackpot [.ref (AD Y 0), .int v1] G r G' := by
  refine okI_of (lv0 := [(0, .ref (AD Y 0)), (1, .int v1)]) (by decide +kernel) rfl (Nat.le_of_ble_eq_true rfl) ?_
  intro X Q hX hR
  have hX : CXok X Y RX9 cX9_jackpot 3 _ := hX
  revert hf
  show J X Y 3 Q 0 [(0, .ref (AD Y 0)), (1, .int v1)] [] G (f_X9_jackpot v1 G = some (r, G'))
  unfold f_X9_jackpot
  refine J_aload_n 0 hX dX9_jackpot_0 fz0 rfl ?_
  refine J_callVI (As := []) (st := []) (b := 0) hX mv_X9_133 sk_0 rfl rfl rfl (Nat.le_of_ble_eq_true rfl) (Nat.le_of_ble_eq_true rfl) (Nat.le_of_ble_eq_true rfl) dX9_jackpot_1 (fun r G1 h => ok_X9_isHall  h) fun r1 G1 => ?_
  refine J_if_eq (tgt := 16) hX dX9_jackpot_4 rfl ?_ ?_
  · refine J_bipush hX dX9_jackpot_16 cbm_2 ?_
    exact J_retI hR dX9_jackpot_18
  · refine J_iload_n 1 hX dX9_jackpot_7 fz1 rfl ?_
    refine J_if_lt (tgt := 16) hX dX9_jackpot_8 rfl ?_ ?_
    · refine J_bipush hX dX9_jackpot_16 cbm_2 ?_
      exact J_retI hR dX9_jackpot_18
    · refine J_iload_n 1 hX dX9_jackpot_11 fz1 rfl ?_
      refine J_iconst hX dX9_jackpot_12 ci_1 ?_
      refine J_icmp_le (tgt := 19) hX dX9_jackpot_13 rfl ?_ ?_
      · refine J_aload_n 0 hX dX9_jackpot_19 fz0 rfl ?_
        refine J_iconst hX dX9_jackpot_20 ci_2 ?_
        refine J_aload_n 0 hX dX9_jackpot_21 fz0 rfl ?_
        refine J_getNow hX dX9_jackpot_22 lf_X9_10 fun hw22 => ?_
        refine J_getR (b := ((nw G1) + 21)) hX dX9_jackpot_25 lf_X9_238 hw22 rfl (by decide) rfl ?_
        refine J_callVI (As := [.int (2 : Int32), .ref (AD Y ((nw G1) + 21))]) (st := []) (b := 0) hX mv_X9_263 sk_0 rfl rfl rfl (Nat.le_of_ble_eq_true rfl) (Nat.le_of_ble_eq_true rfl) (Nat.le_of_ble_eq_true rfl) dX9_jackpot_28 (fun r G1 h => ok_X9_firstTurn (tp_4_9 hw22) h) fun r28 G28 => ?_
        refine J_istore_n (lv' := [(2, .int r28), (0, .ref (AD Y 0)), (1, .int v1)]) hX dX9_jackpot_31 fz2 (Nat.le_of_ble_eq_true rfl) rfl ?_
        refine J_iload_n 2 hX dX9_jackpot_32 fz1 rfl ?_
        refine J_if_ne (tgt := 56) hX dX9_jackpot_33 rfl ?_ ?_
        · refine J_aload_n 1 hX dX9_jackpot_56 fz0 rfl ?_
          refine J_getNow hX dX9_jackpot_57 lf_X9_10 fun hw57 => ?_
          refine J_getI hX dX9_jackpot_60 lf_X9_284 hw57 rfl ?_
          refine J_if_eq (tgt := 71) hX dX9_jackpot_63 rfl ?_ ?_
          · refine J_iconst hX dX9_jackpot_71 cim_1 ?_
            refine J_goto (tgt := 88) hX dX9_jackpot_72 rfl ?_
            exact J_retI hR dX9_jackpot_88
          · refine J_iload_n 0 hX dX9_jackpot_66 fz2 rfl ?_
            refine J_iconst hX dX9_jackpot_67 cim_1 ?_
            refine J_icmp_ne (tgt := 75) hX dX9_jackpot_68 rfl ?_ ?_
            · refine J_iconst hX dX9_jackpot_75 ci_0 ?_
              refine J_iload_n 0 hX dX9_jackpot_76 fz2 rfl ?_
              refine J_aload_n 1 hX dX9_jackpot_77 fz0 rfl ?_
              refine J_getNow hX dX9_jackpot_78 lf_X9_10 fun hw78 => ?_
              refine J_getI hX dX9_jackpot_81 lf_X9_284 hw78 rfl ?_
              refine J_isub hX dX9_jackpot_84 ?_
              refine J_mmax hX dX9_jackpot_85 lm_X9_287 (Nat.le_of_ble_eq_true rfl) (Nat.le_of_ble_eq_true rfl) ?_
              exact J_retI hR dX9_jackpot_88
            · refine J_iconst hX dX9_jackpot_71 cim_1 ?_
              refine J_goto (tgt := 88) hX dX9_jackpot_72 rfl ?_
              exact J_retI hR dX9_jackpot_88
        · refine J_aload_n 1 hX dX9_jackpot_36 fz0 rfl ?_
          refine J_iload_n 0 hX dX9_jackpot_37 fz2 rfl ?_
          refine J_callVI (As := [.int r28]) (st := []) (b := 0) hX mv_X9_281 sk_0 rfl rfl rfl (Nat.le_of_ble_eq_true rfl) (Nat.le_of_ble_eq_true rfl) (Nat.le_of_ble_eq_true rfl) dX9_jackpot_38 (fun r G1 h => ok_X9_jackpotPart  h) fun r38 G38 => ?_
          refine J_aload_n 1 hX dX9_jackpot_41 fz0 rfl ?_
          refine J_iconst hX dX9_jackpot_42 ci_2 ?_
          refine J_iload_n 0 hX dX9_jackpot_43 fz2 rfl ?_
          refine J_aload_n 1 hX dX9_jackpot_44 fz0 rfl ?_
          refine J_getNow hX dX9_jackpot_45 lf_X9_10 fun hw45 => ?_
          refine J_getR (b := ((nw G38) + 21)) hX dX9_jackpot_48 lf_X9_238 hw45 rfl (by decide) rfl ?_
          refine J_callVI (As := [.int (2 : Int32), .int r28, .ref (AD Y ((nw G38) + 21))]) (st := [.int r38]) (b := 0) hX mv_X9_267 sk_0 rfl rfl rfl (Nat.le_of_ble_eq_true rfl) (Nat.le_of_ble_eq_true rfl) (Nat.le_of_ble_eq_true rfl) dX9_jackpot_51 (fun r G1 h => ok_X9_winnersAt (tp_4_9 hw45) h) fun r51 G51 => ?_
          refine J_imul hX dX9_jackpot_54 ?_
          exact J_retI hR dX9_jackpot_55
      · refine J_bipush hX dX9_jackpot_16 cbm_2 ?_
        exact J_retI hR dX9_jackpot_18
set_option maxHeartbeats 4000000 in
set_option maxRecDepth 100000 in
theorem ok_X9_winnerPart {Y : DX} {v1 : Int32} {v2 : Int32}  {G : GM} {r : Int32} {G' : GM} (hf : f_X9_winnerPart v1 v2 G = some (r, G')) : OkI Y 6 M_X9_winnerPart [.ref (AD Y 0), .int v1, .int v2] G r G' := by
  refine okI_of (lv0 := [(0, .ref (AD Y 0)), (1, .int v1), (2, .int v2)]) (by decide +kernel) rfl (Nat.le_of_ble_eq_true rfl) ?_
  intro X Q hX hR
  have hX : CXok X Y RX9 cX9_winnerPart 4 _ := hX
  revert hf
  show J X Y 4 Q 0 [(0, .ref (AD Y 0)), (1, .int v1), (2, .int v2)] [] G (f_X9_winnerPart v1 v2 G = some (r, G'))
  unfold f_X9_winnerPart
  refine J_aload_n 0 hX dX9_winnerPart_0 fz0 rfl ?_
  refine J_getNow hX dX9_winnerPart_1 lf_X9_10 fun hw1 => ?_
  refine J_getR (b := ((nw G) + 9)) hX dX9_winnerPart_4 lf_X9_275 hw1 rfl (by decide) rfl ?_
  refine J_iload_n 1 hX dX9_winnerPart_7 fz1 rfl ?_
  refine J_iald hX dX9_winnerPart_8 (tp_4_2 hw1) (tl_4_2 hw1) ?_
  refine J_aload_n 0 hX dX9_winnerPart_9 fz0 rfl ?_
  refine J_iload_n 1 hX dX9_winnerPart_10 fz1 rfl ?_
  refine J_iload_n 2 hX dX9_winnerPart_11 fz2 rfl ?_
  refine J_aload_n 0 hX dX9_winnerPart_12 fz0 rfl ?_
  refine J_getNow hX dX9_winnerPart_13 lf_X9_10 fun hw13 => ?_
  refine J_getR (b := ((nw G) + 21)) hX dX9_winnerPart_16 lf_X9_238 hw13 rfl (by decide) rfl ?_
  refine J_callVI (As := [.int v1, .int v2, .ref (AD Y ((nw G) + 21))]) (st := [.int (gI G ((nw G) + 9) v1.toNatClampNeg)]) (b := 0) hX mv_X9_267 sk_0 rfl rfl rfl (Nat.le_of_ble_eq_true rfl) (Nat.le_of_ble_eq_true rfl) (Nat.le_of_ble_eq_true rfl) dX9_winnerPart_19 (fun r G1 h => ok_X9_winnersAt (tp_4_9 hw13) h) fun r19 G19 => ?_
  refine J_callSI (As := [.int (gI G ((nw G) + 9) v1.toNatClampNeg), .int r19]) (st := []) hX ms_X9_278 rfl rfl (Nat.le_of_ble_eq_true rfl) (Nat.le_of_ble_eq_true rfl) (Nat.le_of_ble_eq_true rfl) dX9_winnerPart_22 (fun r G1 h => ok_X9_partOf  h) fun r22 G22 => ?_
  refine J_istore_n (lv' := [(3, .int r22), (0, .ref (AD Y 0)), (1, .int v1), (2, .int v2)]) hX dX9_winnerPart_25 fz3 (Nat.le_of_ble_eq_true rfl) rfl ?_
  refine J_iload_n 2 hX dX9_winnerPart_26 fz1 rfl ?_
  refine J_iconst hX dX9_winnerPart_27 ci_2 ?_
  refine J_icmp_ne (tgt := 41) hX dX9_winnerPart_28 rfl ?_ ?_
  · refine J_iload_n 0 hX dX9_winnerPart_41 fz3 rfl ?_
    exact J_retI hR dX9_winnerPart_42
  · refine J_iload_n 0 hX dX9_winnerPart_31 fz3 rfl ?_
    refine J_aload_n 1 hX dX9_winnerPart_32 fz0 rfl ?_
    refine J_iload_n 3 hX dX9_winnerPart_33 fz2 rfl ?_
    refine J_callVI (As := [.int v2]) (st := [.int r22]) (b := 0) hX mv_X9_281 sk_0 rfl rfl rfl (Nat.le_of_ble_eq_true rfl) (Nat.le_of_ble_eq_true rfl) (Nat.le_of_ble_eq_true rfl) dX9_winnerPart_34 (fun r G1 h => ok_X9_jackpotPart  h) fun r34 G34 => ?_
    refine J_iadd hX dX9_winnerPart_37 ?_
    refine J_goto (tgt := 42) hX dX9_winnerPart_38 rfl ?_
    exact J_retI hR dX9_winnerPart_42
set_option maxHeartbeats 4000000 in
set_option maxRecDepth 100000 in
theorem ok_X9_wins {Y : DX} {v1 : Int32}  {G : GM} {r : Int32} {G' : GM} (hf : f_X9_wins v1 G = some (r, G')) : OkI Y 7 M_X9_wins [.ref (AD Y 0), .int v1] G r G' := by
  refine okI_of (lv0 := [(0, .ref (AD Y 0)), (1, .int v1)]) (by decide +kernel) rfl (Nat.le_of_ble_eq_true rfl) ?_
  intro X Q hX hR
  have hX : CXok X Y RX9 cX9_wins 7 _ := hX
  revert hf
  show J X Y 7 Q 0 [(0, .ref (AD Y 0)), (1, .int v1)] [] G (f_X9_wins v1 G = some (r, G'))
  have K15 : ∀  (n : Nat) (v2 : Int32) (v3 : Int32) (G : GM), J X Y 7 Q 15 [(0, .ref (AD Y 0)), (1, .int v1), (2, .int v2), (3, .int v3)] [] G (wl2 n (lp_X9_wins_15 v1) v2 v3 G = some (r, G')) := by
    refine wl2_ind (R := fun v2 v3 G φ => J X Y 7 Q 15 [(0, .ref (AD Y 0)), (1, .int v1), (2, .int v2), (3, .int v3)] [] G φ) (fun _ _ G φ h => J_no h) ?_
    intro kc15 hk15 v2 v3 G
    unfold lp_X9_wins_15
    have K46 : ∀ (v3 : Int32) (v4 : Int32) (v5 : Int32) (n : Nat) (v2 : Int32) (v6 : Int32) (G : GM), J X Y 7 Q 46 [(0, .ref (AD Y 0)), (1, .int v1), (2, .int v2), (3, .int v3), (4, .int v4), (5, .int v5), (6, .int v6)] [] G (wl2 n (lp_X9_wins_46 v1 v3 v4 v5 kc15) v2 v6 G = some (r, G')) := by
      intro v3 v4 v5
      refine wl2_ind (R := fun v2 v6 G φ => J X Y 7 Q 46 [(0, .ref (AD Y 0)), (1, .int v1), (2, .int v2), (3, .int v3), (4, .int v4), (5, .int v5), (6, .int v6)] [] G φ) (fun _ _ G φ h => J_no h) ?_
      intro kc46 hk46 v2 v6 G
      unfold lp_X9_wins_46
      refine J_iload 6 hX dX9_wins_46 rfl ?_
      refine J_aload_n 0 hX dX9_wins_48 fz0 rfl ?_
      refine J_getNow hX dX9_wins_49 lf_X9_10 fun hw49 => ?_
      refine J_getR (b := ((nw G) + 1)) hX dX9_wins_52 lf_X9_98 hw49 rfl (by decide) rfl ?_
      refine J_getI hX dX9_wins_55 lf_X9_200 (tp_4_0 hw49) rfl ?_
      refine J_icmp_ge (tgt := 85) hX dX9_wins_58 rfl ?_ ?_
      · refine J_iinc (lv' := [(3, .int (v3 + (1 : Int32))), (0, .ref (AD Y 0)), (1, .int v1), (2, .int v2), (4, .int v4), (5, .int v5), (6, .int v6)]) 3 hX dX9_wins_85 rfl ci_1 (Nat.le_of_ble_eq_true rfl) rfl ?_
        refine J_goto (tgt := 15) hX dX9_wins_88 rfl ?_
        refine J_sub (lv' := [(0, .ref (AD Y 0)), (1, .int v1), (2, .int v2), (3, .int (v3 + (1 : Int32)))]) [1, 2, 3, 0] rfl ?_
        exact hk15 v2 (v3 + (1 : Int32)) G
      · refine J_aload_n 0 hX dX9_wins_61 fz0 rfl ?_
        refine J_iload_n 1 hX dX9_wins_62 fz1 rfl ?_
        refine J_iload 6 hX dX9_wins_63 rfl ?_
        refine J_iload_n 3 hX dX9_wins_65 fz3 rfl ?_
        refine J_iload 4 hX dX9_wins_66 rfl ?_
        refine J_callVI (As := [.int v1, .int v6, .int v3, .int v4]) (st := []) (b := 0) hX mv_X9_271 sk_0 rfl rfl rfl (Nat.le_of_ble_eq_true rfl) (Nat.le_of_ble_eq_true rfl) (Nat.le_of_ble_eq_true rfl) dX9_wins_68 (fun r G1 h => ok_X9_hasFirst  h) fun r68 G68 => ?_
        refine J_if_eq (tgt := 79) hX dX9_wins_71 rfl ?_ ?_
        · refine J_iinc (lv' := [(6, .int (v6 + (1 : Int32))), (0, .ref (AD Y 0)), (1, .int v1), (2, .int v2), (3, .int v3), (4, .int v4), (5, .int v5)]) 6 hX dX9_wins_79 rfl ci_1 (Nat.le_of_ble_eq_true rfl) rfl ?_
          refine J_goto (tgt := 46) hX dX9_wins_82 rfl ?_
          refine J_sub (lv' := [(0, .ref (AD Y 0)), (1, .int v1), (2, .int v2), (3, .int v3), (4, .int v4), (5, .int v5), (6, .int (v6 + (1 : Int32)))]) [1, 2, 3, 4, 5, 6, 0] rfl ?_
          exact hk46 v2 (v6 + (1 : Int32)) G68
        · refine J_iload_n 2 hX dX9_wins_74 fz2 rfl ?_
          refine J_iload 5 hX dX9_wins_75 rfl ?_
          refine J_iadd hX dX9_wins_77 ?_
          refine J_lt (mk := Value.int) fun x78 => ?_
          refine J_istore_n (lv' := [(2, .int x78), (0, .ref (AD Y 0)), (1, .int v1), (3, .int v3), (4, .int v4), (5, .int v5), (6, .int v6)]) hX dX9_wins_78 fz2 (Nat.le_of_ble_eq_true rfl) rfl ?_
          refine J_iinc (lv' := [(6, .int (v6 + (1 : Int32))), (2, .int x78), (0, .ref (AD Y 0)), (1, .int v1), (3, .int v3), (4, .int v4), (5, .int v5)]) 6 hX dX9_wins_79 rfl ci_1 (Nat.le_of_ble_eq_true rfl) rfl ?_
          refine J_goto (tgt := 46) hX dX9_wins_82 rfl ?_
          refine J_sub (lv' := [(0, .ref (AD Y 0)), (1, .int v1), (2, .int x78), (3, .int v3), (4, .int v4), (5, .int v5), (6, .int (v6 + (1 : Int32)))]) [2, 3, 1, 4, 5, 6, 0] rfl ?_
          exact hk46 x78 (v6 + (1 : Int32)) G68
    refine J_iload_n 3 hX dX9_wins_15 fz3 rfl ?_
    refine J_iconst hX dX9_wins_16 ci_3 ?_
    refine J_icmp_ge (tgt := 91) hX dX9_wins_17 rfl ?_ ?_
    · refine J_iload_n 2 hX dX9_wins_91 fz2 rfl ?_
      exact J_retI hR dX9_wins_92
    · refine J_aload_n 0 hX dX9_wins_20 fz0 rfl ?_
      refine J_iload_n 3 hX dX9_wins_21 fz3 rfl ?_
      refine J_aload_n 0 hX dX9_wins_22 fz0 rfl ?_
      refine J_getNow hX dX9_wins_23 lf_X9_10 fun hw23 => ?_
      refine J_getR (b := ((nw G) + 21)) hX dX9_wins_26 lf_X9_238 hw23 rfl (by decide) rfl ?_
      refine J_callVI (As := [.int v3, .ref (AD Y ((nw G) + 21))]) (st := []) (b := 0) hX mv_X9_263 sk_0 rfl rfl rfl (Nat.le_of_ble_eq_true rfl) (Nat.le_of_ble_eq_true rfl) (Nat.le_of_ble_eq_true rfl) dX9_wins_29 (fun r G1 h => ok_X9_firstTurn (tp_4_9 hw23) h) fun r29 G29 => ?_
      refine J_istore (lv' := [(4, .int r29), (0, .ref (AD Y 0)), (1, .int v1), (2, .int v2), (3, .int v3)]) hX dX9_wins_32 (Nat.le_of_ble_eq_true rfl) rfl ?_
      refine J_aload_n 1 hX dX9_wins_34 fz0 rfl ?_
      refine J_iload_n 4 hX dX9_wins_35 fz3 rfl ?_
      refine J_iload 0 hX dX9_wins_36 rfl ?_
      refine J_callVI (As := [.int v3, .int r29]) (st := []) (b := 0) hX mv_X9_292 sk_0 rfl rfl rfl (Nat.le_of_ble_eq_true rfl) (Nat.le_of_ble_eq_true rfl) (Nat.le_of_ble_eq_true rfl) dX9_wins_38 (fun r G1 h => ok_X9_winnerPart  h) fun r38 G38 => ?_
      refine J_istore (lv' := [(5, .int r38), (4, .int r29), (0, .ref (AD Y 0)), (1, .int v1), (2, .int v2), (3, .int v3)]) hX dX9_wins_41 (Nat.le_of_ble_eq_true rfl) rfl ?_
      refine J_iconst hX dX9_wins_43 ci_0 ?_
      refine J_istore (lv' := [(6, .int (0 : Int32)), (5, .int r38), (4, .int r29), (0, .ref (AD Y 0)), (1, .int v1), (2, .int v2), (3, .int v3)]) hX dX9_wins_44 (Nat.le_of_ble_eq_true rfl) rfl ?_
      refine J_sub (lv' := [(0, .ref (AD Y 0)), (1, .int v1), (2, .int v2), (3, .int v3), (4, .int r29), (5, .int r38), (6, .int (0 : Int32))]) [3, 4, 5, 6, 2, 1, 0] rfl ?_
      exact K46 v3 r29 r38 FU v2 (0 : Int32) G38
  unfold f_X9_wins
  refine J_aload_n 0 hX dX9_wins_0 fz0 rfl ?_
  refine J_iload_n 1 hX dX9_wins_1 fz1 rfl ?_
  refine J_callVI (As := [.int v1]) (st := []) (b := 0) hX mv_X9_228 sk_0 rfl rfl rfl (Nat.le_of_ble_eq_true rfl) (Nat.le_of_ble_eq_true rfl) (Nat.le_of_ble_eq_true rfl) dX9_wins_2 (fun r G1 h => ok_X9_isPlace  h) fun r2 G2 => ?_
  refine J_if_ne (tgt := 11) hX dX9_wins_5 rfl ?_ ?_
  · refine J_iconst hX dX9_wins_11 ci_0 ?_
    refine J_istore_n (lv' := [(2, .int (0 : Int32)), (0, .ref (AD Y 0)), (1, .int v1)]) hX dX9_wins_12 fz2 (Nat.le_of_ble_eq_true rfl) rfl ?_
    refine J_iconst hX dX9_wins_13 ci_0 ?_
    refine J_istore_n (lv' := [(3, .int (0 : Int32)), (2, .int (0 : Int32)), (0, .ref (AD Y 0)), (1, .int v1)]) hX dX9_wins_14 fz3 (Nat.le_of_ble_eq_true rfl) rfl ?_
    refine J_sub (lv' := [(0, .ref (AD Y 0)), (1, .int v1), (2, .int (0 : Int32)), (3, .int (0 : Int32))]) [2, 3, 1, 0] rfl ?_
    exact K15  FU (0 : Int32) (0 : Int32) G2
  · refine J_bipush hX dX9_wins_8 cbm_2 ?_
    exact J_retI hR dX9_wins_10
set_option maxHeartbeats 4000000 in
set_option maxRecDepth 100000 in
theorem ok_X9_wonInAll {Y : DX}   {G : GM} {r : Int64} {G' : GM} (hf : f_X9_wonInAll  G = some (r, G')) : OkJ Y 7 M_X9_wonInAll [.ref (AD Y 0)] G r G' := by
  refine okJ_of (lv0 := [(0, .ref (AD Y 0))]) (by decide +kernel) rfl (Nat.le_of_ble_eq_true rfl) ?_
  intro X Q hX hR
  have hX : CXok X Y RX9 cX9_wonInAll 5 _ := hX
  revert hf
  show J X Y 5 Q 0 [(0, .ref (AD Y 0))] [] G (f_X9_wonInAll  G = some (r, G'))
  have K4 : ∀  (n : Nat) (v1 : Int64) (v3 : Int32) (G : GM), J X Y 5 Q 4 [(0, .ref (AD Y 0)), (1, .long v1), (3, .int v3)] [] G (wl2 n (lp_X9_wonInAll_4 ) v1 v3 G = some (r, G')) := by
    refine wl2_ind (R := fun v1 v3 G φ => J X Y 5 Q 4 [(0, .ref (AD Y 0)), (1, .long v1), (3, .int v3)] [] G φ) (fun _ _ G φ h => J_no h) ?_
    intro kc4 hk4 v1 v3 G
    unfold lp_X9_wonInAll_4
    refine J_iload_n 2 hX dX9_wonInAll_4 fz3 rfl ?_
    refine J_iconst hX dX9_wonInAll_5 ci_3 ?_
    refine J_icmp_ge (tgt := 56) hX dX9_wonInAll_6 rfl ?_ ?_
    · refine J_lload_n 1 hX dX9_wonInAll_56 fz1 rfl ?_
      exact J_retJ hR dX9_wonInAll_57
    · refine J_aload_n 0 hX dX9_wonInAll_9 fz0 rfl ?_
      refine J_iload_n 2 hX dX9_wonInAll_10 fz3 rfl ?_
      refine J_aload_n 0 hX dX9_wonInAll_11 fz0 rfl ?_
      refine J_getNow hX dX9_wonInAll_12 lf_X9_10 fun hw12 => ?_
      refine J_getR (b := ((nw G) + 21)) hX dX9_wonInAll_15 lf_X9_238 hw12 rfl (by decide) rfl ?_
      refine J_callVI (As := [.int v3, .ref (AD Y ((nw G) + 21))]) (st := []) (b := 0) hX mv_X9_263 sk_0 rfl rfl rfl (Nat.le_of_ble_eq_true rfl) (Nat.le_of_ble_eq_true rfl) (Nat.le_of_ble_eq_true rfl) dX9_wonInAll_18 (fun r G1 h => ok_X9_firstTurn (tp_4_9 hw12) h) fun r18 G18 => ?_
      refine J_istore (lv' := [(4, .int r18), (0, .ref (AD Y 0)), (1, .long v1), (3, .int v3)]) hX dX9_wonInAll_21 (Nat.le_of_ble_eq_true rfl) rfl ?_
      refine J_lload_n 2 hX dX9_wonInAll_23 fz1 rfl ?_
      refine J_aload_n 1 hX dX9_wonInAll_24 fz0 rfl ?_
      refine J_iload_n 3 hX dX9_wonInAll_25 fz3 rfl ?_
      refine J_iload 0 hX dX9_wonInAll_26 rfl ?_
      refine J_callVI (As := [.int v3, .int r18]) (st := [.long v1]) (b := 0) hX mv_X9_292 sk_0 rfl rfl rfl (Nat.le_of_ble_eq_true rfl) (Nat.le_of_ble_eq_true rfl) (Nat.le_of_ble_eq_true rfl) dX9_wonInAll_28 (fun r G1 h => ok_X9_winnerPart  h) fun r28 G28 => ?_
      refine J_i2l hX dX9_wonInAll_31 ?_
      refine J_aload_n 1 hX dX9_wonInAll_32 fz0 rfl ?_
      refine J_iload_n 3 hX dX9_wonInAll_33 fz3 rfl ?_
      refine J_iload 0 hX dX9_wonInAll_34 rfl ?_
      refine J_aload_n 1 hX dX9_wonInAll_36 fz0 rfl ?_
      refine J_getNow hX dX9_wonInAll_37 lf_X9_10 fun hw37 => ?_
      refine J_getR (b := ((nw G28) + 21)) hX dX9_wonInAll_40 lf_X9_238 hw37 rfl (by decide) rfl ?_
      refine J_callVI (As := [.int v3, .int r18, .ref (AD Y ((nw G28) + 21))]) (st := [.long (r28.toInt64), .long v1]) (b := 0) hX mv_X9_267 sk_0 rfl rfl rfl (Nat.le_of_ble_eq_true rfl) (Nat.le_of_ble_eq_true rfl) (Nat.le_of_ble_eq_true rfl) dX9_wonInAll_43 (fun r G1 h => ok_X9_winnersAt (tp_4_9 hw37) h) fun r43 G43 => ?_
      refine J_i2l hX dX9_wonInAll_46 ?_
      refine J_lmul hX dX9_wonInAll_47 ?_
      refine J_ladd hX dX9_wonInAll_48 ?_
      refine J_lt (mk := Value.long) fun x49 => ?_
      refine J_lstore_n (lv' := [(1, .long x49), (4, .int r18), (0, .ref (AD Y 0)), (3, .int v3)]) hX dX9_wonInAll_49 fz1 (Nat.le_of_ble_eq_true rfl) rfl ?_
      refine J_iinc (lv' := [(3, .int (v3 + (1 : Int32))), (1, .long x49), (4, .int r18), (0, .ref (AD Y 0))]) 3 hX dX9_wonInAll_50 rfl ci_1 (Nat.le_of_ble_eq_true rfl) rfl ?_
      refine J_goto (tgt := 4) hX dX9_wonInAll_53 rfl ?_
      refine J_sub (lv' := [(0, .ref (AD Y 0)), (1, .long x49), (3, .int (v3 + (1 : Int32)))]) [3, 1, 0] rfl ?_
      exact hk4 x49 (v3 + (1 : Int32)) G43
  unfold f_X9_wonInAll
  refine J_lconst hX dX9_wonInAll_0 fy0 ?_
  refine J_lstore_n (lv' := [(1, .long (0 : Int64)), (0, .ref (AD Y 0))]) hX dX9_wonInAll_1 fz1 (Nat.le_of_ble_eq_true rfl) rfl ?_
  refine J_iconst hX dX9_wonInAll_2 ci_0 ?_
  refine J_istore_n (lv' := [(3, .int (0 : Int32)), (1, .long (0 : Int64)), (0, .ref (AD Y 0))]) hX dX9_wonInAll_3 fz3 (Nat.le_of_ble_eq_true rfl) rfl ?_
  refine J_sub (lv' := [(0, .ref (AD Y 0)), (1, .long (0 : Int64)), (3, .int (0 : Int32))]) [2, 1, 0] rfl ?_
  exact K4  FU (0 : Int64) (0 : Int32) G
set_option maxHeartbeats 4000000 in
set_option maxRecDepth 100000 in
theorem ok_X9_isUnlikeAhead {Y : DX} {v1 : Int32}  {G : GM} {r : Int32} {G' : GM} (hf : f_X9_isUnlikeAhead v1 G = some (r, G')) : OkI Y 2 M_X9_isUnlikeAhead [.ref (AD Y 0), .int v1] G r G' := by
  refine okZ_of (lv0 := [(0, .ref (AD Y 0)), (1, .int v1)]) (by decide +kernel) rfl (Nat.le_of_ble_eq_true rfl) ?_
  intro X Q hX hR
  have hX : CXok X Y RX9 cX9_isUnlikeAhead 3 _ := hX
  revert hf
  show J X Y 3 Q 0 [(0, .ref (AD Y 0)), (1, .int v1)] [] G (f_X9_isUnlikeAhead v1 G = some (r, G'))
  have K2 : ∀  (n : Nat) (v2 : Int32) (G : GM), J X Y 3 Q 2 [(0, .ref (AD Y 0)), (1, .int v1), (2, .int v2)] [] G (wl1 n (lp_X9_isUnlikeAhead_2 v1) v2 G = some (r, G')) := by
    refine wl1_ind (R := fun v2 G φ => J X Y 3 Q 2 [(0, .ref (AD Y 0)), (1, .int v1), (2, .int v2)] [] G φ) (fun _ G φ h => J_no h) ?_
    intro kc2 hk2 v2 G
    unfold lp_X9_isUnlikeAhead_2
    refine J_iload_n 2 hX dX9_isUnlikeAhead_2 fz2 rfl ?_
    refine J_iload_n 1 hX dX9_isUnlikeAhead_3 fz1 rfl ?_
    refine J_icmp_ge (tgt := 33) hX dX9_isUnlikeAhead_4 rfl ?_ ?_
    · refine J_iconst hX dX9_isUnlikeAhead_33 ci_1 ?_
      exact J_retZ hR (by decide) dX9_isUnlikeAhead_34
    · refine J_aload_n 0 hX dX9_isUnlikeAhead_7 fz0 rfl ?_
      refine J_getR (b := 76) hX dX9_isUnlikeAhead_8 lf_X9_64 sk_0 rfl (by decide) rfl ?_
      refine J_iload_n 2 hX dX9_isUnlikeAhead_11 fz2 rfl ?_
      refine J_aald (b := (77 + v2.toNatClampNeg)) hX dX9_isUnlikeAhead_12 sk_76 (by decide) ln_76 (p0_14 sk_76) fun hi12 => ?_
      refine J_aload_n 0 hX dX9_isUnlikeAhead_13 fz0 rfl ?_
      refine J_getR (b := 76) hX dX9_isUnlikeAhead_14 lf_X9_64 sk_0 rfl (by decide) rfl ?_
      refine J_iload_n 1 hX dX9_isUnlikeAhead_17 fz1 rfl ?_
      refine J_aald (b := (77 + v1.toNatClampNeg)) hX dX9_isUnlikeAhead_18 sk_76 (by decide) ln_76 (p0_14 sk_76) fun hi18 => ?_
      refine J_callSI (As := [.ref (AD Y (77 + v2.toNatClampNeg)), .ref (AD Y (77 + v1.toNatClampNeg))]) (st := []) hX ms_X9_203 rfl rfl (Nat.le_of_ble_eq_true rfl) (Nat.le_of_ble_eq_true rfl) (Nat.le_of_ble_eq_true rfl) dX9_isUnlikeAhead_19 (fun r G1 h => ok_X9_areSame (bk_el hi12).1 (bk_el hi18).1 h) fun r19 G19 => ?_
      refine J_if_eq (tgt := 27) hX dX9_isUnlikeAhead_22 rfl ?_ ?_
      · refine J_iinc (lv' := [(2, .int (v2 + (1 : Int32))), (0, .ref (AD Y 0)), (1, .int v1)]) 2 hX dX9_isUnlikeAhead_27 rfl ci_1 (Nat.le_of_ble_eq_true rfl) rfl ?_
        refine J_goto (tgt := 2) hX dX9_isUnlikeAhead_30 rfl ?_
        refine J_sub (lv' := [(0, .ref (AD Y 0)), (1, .int v1), (2, .int (v2 + (1 : Int32)))]) [1, 2, 0] rfl ?_
        exact hk2 (v2 + (1 : Int32)) G19
      · refine J_iconst hX dX9_isUnlikeAhead_25 ci_0 ?_
        exact J_retZ hR (by decide) dX9_isUnlikeAhead_26
  unfold f_X9_isUnlikeAhead
  refine J_iconst hX dX9_isUnlikeAhead_0 ci_0 ?_
  refine J_istore_n (lv' := [(2, .int (0 : Int32)), (0, .ref (AD Y 0)), (1, .int v1)]) hX dX9_isUnlikeAhead_1 fz2 (Nat.le_of_ble_eq_true rfl) rfl ?_
  refine J_sub (lv' := [(0, .ref (AD Y 0)), (1, .int v1), (2, .int (0 : Int32))]) [1, 2, 0] rfl ?_
  exact K2  FU (0 : Int32) G
set_option maxHeartbeats 4000000 in
set_option maxRecDepth 100000 in
theorem ok_X9_book {Y : DX} {v1 : Int32} {v2 : Int32}  {G : GM} {r : Int32} {G' : GM} (hf : f_X9_book v1 v2 G = some (r, G')) : OkI Y 10 M_X9_book [.ref (AD Y 0), .int v1, .int v2] G r G' := by
  refine okI_of (lv0 := [(0, .ref (AD Y 0)), (1, .int v1), (2, .int v2)]) (by decide +kernel) rfl (Nat.le_of_ble_eq_true rfl) ?_
  intro X Q hX hR
  have hX : CXok X Y RX9 cX9_book 6 _ := hX
  revert hf
  show J X Y 6 Q 0 [(0, .ref (AD Y 0)), (1, .int v1), (2, .int v2)] [] G (f_X9_book v1 v2 G = some (r, G'))
  have K95 : ∀ (v3 : Int32) (G : GM), J X Y 6 Q 95 [(0, .ref (AD Y 0)), (2, .int v2), (3, .int v3)] [] G (k_X9_book_95 v1 v2 v3 G = some (r, G')) := by
    intro v3 G
    unfold k_X9_book_95
    refine J_iload_n 1 hX dX9_book_95 fz2 rfl ?_
    refine J_if_lt (tgt := 113) hX dX9_book_96 rfl ?_ ?_
    · refine J_iconst hX dX9_book_113 cim_1 ?_
      exact J_retI hR dX9_book_114
    · refine J_iload_n 1 hX dX9_book_99 fz2 rfl ?_
      refine J_iload_n 2 hX dX9_book_100 fz3 rfl ?_
      refine J_icmp_ge (tgt := 113) hX dX9_book_101 rfl ?_ ?_
      · refine J_iconst hX dX9_book_113 cim_1 ?_
        exact J_retI hR dX9_book_114
      · refine J_aload_n 0 hX dX9_book_104 fz0 rfl ?_
        refine J_getR (b := 117) hX dX9_book_105 lf_X9_67 sk_0 rfl (by decide) rfl ?_
        refine J_iload_n 1 hX dX9_book_108 fz2 rfl ?_
        refine J_iald hX dX9_book_109 sk_117 ln_117 ?_
        refine J_goto (tgt := 114) hX dX9_book_110 rfl ?_
        exact J_retI hR dX9_book_114
  have K30 : ∀ (v4 : Int32) (n : Nat) (v3 : Int32) (v5 : Int32) (G : GM), J X Y 6 Q 30 [(0, .ref (AD Y 0)), (2, .int v2), (3, .int v3), (4, .int v4), (5, .int v5)] [] G (wl2 n (lp_X9_book_30 v1 v2 v4) v3 v5 G = some (r, G')) := by
    intro v4
    refine wl2_ind (R := fun v3 v5 G φ => J X Y 6 Q 30 [(0, .ref (AD Y 0)), (2, .int v2), (3, .int v3), (4, .int v4), (5, .int v5)] [] G φ) (fun _ _ G φ h => J_no h) ?_
    intro kc30 hk30 v3 v5 G
    unfold lp_X9_book_30
    refine J_iload 4 hX dX9_book_30 rfl ?_
    refine J_iload 3 hX dX9_book_32 rfl ?_
    refine J_icmp_gt (tgt := 95) hX dX9_book_34 rfl ?_ ?_
    · refine J_sub (lv' := [(0, .ref (AD Y 0)), (2, .int v2), (3, .int v3)]) [0, 1, 2] rfl ?_
      exact K95 v3 G
    · refine J_iload_n 2 hX dX9_book_37 fz3 rfl ?_
      refine J_iload_n 1 hX dX9_book_38 fz2 rfl ?_
      refine J_icmp_gt (tgt := 95) hX dX9_book_39 rfl ?_ ?_
      · refine J_sub (lv' := [(0, .ref (AD Y 0)), (2, .int v2), (3, .int v3)]) [0, 1, 2] rfl ?_
        exact K95 v3 G
      · refine J_iload_n 2 hX dX9_book_42 fz3 rfl ?_
        refine J_bipush hX dX9_book_43 cb_40 ?_
        refine J_icmp_ge (tgt := 95) hX dX9_book_45 rfl ?_ ?_
        · refine J_sub (lv' := [(0, .ref (AD Y 0)), (2, .int v2), (3, .int v3)]) [0, 1, 2] rfl ?_
          exact K95 v3 G
        · refine J_aload_n 0 hX dX9_book_48 fz0 rfl ?_
          refine J_getR (b := 47) hX dX9_book_49 lf_X9_30 sk_0 rfl (by decide) rfl ?_
          refine J_aload_n 0 hX dX9_book_52 fz0 rfl ?_
          refine J_getNow hX dX9_book_53 lf_X9_10 fun hw53 => ?_
          refine J_getR (b := ((nw G) + 1)) hX dX9_book_56 lf_X9_98 hw53 rfl (by decide) rfl ?_
          refine J_iload 4 hX dX9_book_59 rfl ?_
          refine J_aload_n 0 hX dX9_book_61 fz0 rfl ?_
          refine J_getR (b := 76) hX dX9_book_62 lf_X9_64 sk_0 rfl (by decide) rfl ?_
          refine J_iload_n 2 hX dX9_book_65 fz3 rfl ?_
          refine J_aald (b := (77 + v3.toNatClampNeg)) hX dX9_book_66 sk_76 (by decide) ln_76 (p0_14 sk_76) fun hi66 => ?_
          refine J_callVV (As := [.ref (AD Y ((nw G) + 1)), .int v5, .ref (AD Y (77 + v3.toNatClampNeg))]) (st := []) (b := 47) hX mv_X9_190 sk_47 rfl rfl rfl (Nat.le_of_ble_eq_true rfl) (Nat.le_of_ble_eq_true rfl) (Nat.le_of_ble_eq_true rfl) dX9_book_67 (fun G1 h => ok_X2_deal sk_47 (tp_4_0 hw53) (bk_el hi66).1 h) fun G67 => ?_
          refine J_aload_n 0 hX dX9_book_70 fz0 rfl ?_
          refine J_iload_n 2 hX dX9_book_71 fz3 rfl ?_
          refine J_callVI (As := [.int v3]) (st := []) (b := 0) hX mv_X9_308 sk_0 rfl rfl rfl (Nat.le_of_ble_eq_true rfl) (Nat.le_of_ble_eq_true rfl) (Nat.le_of_ble_eq_true rfl) dX9_book_72 (fun r G1 h => ok_X9_isUnlikeAhead  h) fun r72 G72 => ?_
          refine J_if_eq (tgt := 89) hX dX9_book_75 rfl ?_ ?_
          · refine J_iinc (lv' := [(5, .int (v5 + (1 : Int32))), (0, .ref (AD Y 0)), (2, .int v2), (3, .int v3), (4, .int v4)]) 4 hX dX9_book_89 rfl ci_1 (Nat.le_of_ble_eq_true rfl) rfl ?_
            refine J_goto (tgt := 30) hX dX9_book_92 rfl ?_
            refine J_sub (lv' := [(0, .ref (AD Y 0)), (2, .int v2), (3, .int v3), (4, .int v4), (5, .int (v5 + (1 : Int32)))]) [1, 2, 3, 4, 0] rfl ?_
            exact hk30 v3 (v5 + (1 : Int32)) G72
          · refine J_aload_n 0 hX dX9_book_78 fz0 rfl ?_
            refine J_getR (b := 117) hX dX9_book_79 lf_X9_67 sk_0 rfl (by decide) rfl ?_
            refine J_iload_n 2 hX dX9_book_82 fz3 rfl ?_
            refine J_iload 4 hX dX9_book_83 rfl ?_
            refine J_iast hX dX9_book_85 sk_117 ln_117 fun G85 => ?_
            refine J_iinc (lv' := [(3, .int (v3 + (1 : Int32))), (0, .ref (AD Y 0)), (2, .int v2), (4, .int v4), (5, .int v5)]) 2 hX dX9_book_86 rfl ci_1 (Nat.le_of_ble_eq_true rfl) rfl ?_
            refine J_iinc (lv' := [(5, .int (v5 + (1 : Int32))), (3, .int (v3 + (1 : Int32))), (0, .ref (AD Y 0)), (2, .int v2), (4, .int v4)]) 4 hX dX9_book_89 rfl ci_1 (Nat.le_of_ble_eq_true rfl) rfl ?_
            refine J_goto (tgt := 30) hX dX9_book_92 rfl ?_
            refine J_sub (lv' := [(0, .ref (AD Y 0)), (2, .int v2), (3, .int (v3 + (1 : Int32))), (4, .int v4), (5, .int (v5 + (1 : Int32)))]) [2, 3, 1, 4, 0] rfl ?_
            exact hk30 (v3 + (1 : Int32)) (v5 + (1 : Int32)) G85
  unfold f_X9_book
  refine J_aload_n 0 hX dX9_book_0 fz0 rfl ?_
  refine J_iload_n 1 hX dX9_book_1 fz1 rfl ?_
  refine J_callVI (As := [.int v1]) (st := []) (b := 0) hX mv_X9_183 sk_0 rfl rfl rfl (Nat.le_of_ble_eq_true rfl) (Nat.le_of_ble_eq_true rfl) (Nat.le_of_ble_eq_true rfl) dX9_book_2 (fun r G1 h => ok_X9_isSerial  h) fun r2 G2 => ?_
  refine J_if_ne (tgt := 11) hX dX9_book_5 rfl ?_ ?_
  · refine J_iconst hX dX9_book_11 ci_0 ?_
    refine J_istore_n (lv' := [(3, .int (0 : Int32)), (0, .ref (AD Y 0)), (1, .int v1), (2, .int v2)]) hX dX9_book_12 fz3 (Nat.le_of_ble_eq_true rfl) rfl ?_
    refine J_iload_n 2 hX dX9_book_13 fz1 rfl ?_
    refine J_bipush hX dX9_book_14 cb_40 ?_
    refine J_iadd hX dX9_book_16 ?_
    refine J_iconst hX dX9_book_17 ci_1 ?_
    refine J_isub hX dX9_book_18 ?_
    refine J_sipush hX dX9_book_19 cs_9999 ?_
    refine J_mmin hX dX9_book_22 lm_X9_305 (Nat.le_of_ble_eq_true rfl) (Nat.le_of_ble_eq_true rfl) ?_
    refine J_lt (mk := Value.int) fun x25 => ?_
    refine J_istore (lv' := [(4, .int x25), (3, .int (0 : Int32)), (0, .ref (AD Y 0)), (1, .int v1), (2, .int v2)]) hX dX9_book_25 (Nat.le_of_ble_eq_true rfl) rfl ?_
    refine J_iload_n 3 hX dX9_book_27 fz1 rfl ?_
    refine J_istore (lv' := [(5, .int v1), (4, .int x25), (3, .int (0 : Int32)), (0, .ref (AD Y 0)), (1, .int v1), (2, .int v2)]) hX dX9_book_28 (Nat.le_of_ble_eq_true rfl) rfl ?_
    refine J_sub (lv' := [(0, .ref (AD Y 0)), (2, .int v2), (3, .int (0 : Int32)), (4, .int x25), (5, .int v1)]) [3, 5, 2, 1, 0] rfl ?_
    exact K30 x25 FU (0 : Int32) v1 G2
  · refine J_bipush hX dX9_book_8 cbm_2 ?_
    exact J_retI hR dX9_book_10
set_option maxHeartbeats 4000000 in
set_option maxRecDepth 100000 in
theorem ok_X9_isShape {Y : DX} {v1 : Int32}  {G : GM} {r : Int32} {G' : GM} (hf : f_X9_isShape v1 G = some (r, G')) : OkI Y 6 M_X9_isShape [.ref (AD Y 0), .int v1] G r G' := by
  refine okZ_of (lv0 := [(0, .ref (AD Y 0)), (1, .int v1)]) (by decide +kernel) rfl (Nat.le_of_ble_eq_true rfl) ?_
  intro X Q hX hR
  have hX : CXok X Y RX9 cX9_isShape 5 _ := hX
  revert hf
  show J X Y 5 Q 0 [(0, .ref (AD Y 0)), (1, .int v1)] [] G (f_X9_isShape v1 G = some (r, G'))
  have K2 : ∀  (n : Nat) (v2 : Int32) (G : GM), J X Y 5 Q 2 [(0, .ref (AD Y 0)), (1, .int v1), (2, .int v2)] [] G (wl1 n (lp_X9_isShape_2 v1) v2 G = some (r, G')) := by
    refine wl1_ind (R := fun v2 G φ => J X Y 5 Q 2 [(0, .ref (AD Y 0)), (1, .int v1), (2, .int v2)] [] G φ) (fun _ G φ h => J_no h) ?_
    intro kc2 hk2 v2 G
    unfold lp_X9_isShape_2
    refine J_iload_n 2 hX dX9_isShape_2 fz2 rfl ?_
    refine J_aload_n 0 hX dX9_isShape_3 fz0 rfl ?_
    refine J_getR (b := 62) hX dX9_isShape_4 lf_X9_44 sk_0 rfl (by decide) rfl ?_
    refine J_iload_n 1 hX dX9_isShape_7 fz1 rfl ?_
    refine J_callVI (As := [.int v1]) (st := [.int v2]) (b := 62) hX mv_X9_155 sk_62 rfl rfl rfl (Nat.le_of_ble_eq_true rfl) (Nat.le_of_ble_eq_true rfl) (Nat.le_of_ble_eq_true rfl) dX9_isShape_8 (fun r G1 h => ok_X8_lengthOf  h) fun r8 G8 => ?_
    refine J_icmp_ge (tgt := 78) hX dX9_isShape_11 rfl ?_ ?_
    · refine J_iconst hX dX9_isShape_78 ci_1 ?_
      exact J_retZ hR (by decide) dX9_isShape_79
    · refine J_aload_n 0 hX dX9_isShape_14 fz0 rfl ?_
      refine J_getR (b := 62) hX dX9_isShape_15 lf_X9_44 sk_0 rfl (by decide) rfl ?_
      refine J_iload_n 1 hX dX9_isShape_18 fz1 rfl ?_
      refine J_iload_n 2 hX dX9_isShape_19 fz2 rfl ?_
      refine J_callVJ (As := [.int v1, .int v2]) (st := []) (b := 62) hX mv_X9_162 sk_62 rfl rfl rfl (Nat.le_of_ble_eq_true rfl) (Nat.le_of_ble_eq_true rfl) (Nat.le_of_ble_eq_true rfl) dX9_isShape_20 (fun r G1 h => ok_X8_valueAt  h) fun r20 G20 => ?_
      refine J_lstore_n (lv' := [(3, .long r20), (0, .ref (AD Y 0)), (1, .int v1), (2, .int v2)]) hX dX9_isShape_23 fz3 (Nat.le_of_ble_eq_true rfl) rfl ?_
      refine J_lload_n 0 hX dX9_isShape_24 fz3 rfl ?_
      refine J_lconst hX dX9_isShape_25 fy0 ?_
      refine J_lcmp hX dX9_isShape_26 ?_
      refine J_if_lt (tgt := 70) hX dX9_isShape_27 rfl ?_ ?_
      · refine J_iconst hX dX9_isShape_70 ci_0 ?_
        exact J_retZ hR (by decide) dX9_isShape_71
      · refine J_lload_n 0 hX dX9_isShape_30 fz3 rfl ?_
        refine J_ldc2 hX dX9_isShape_31 ll_X9_318 ?_
        refine J_ldivc hX dX9_isShape_34 (by decide) ?_
        refine J_aload_n 1 hX dX9_isShape_35 fz0 rfl ?_
        refine J_getNow hX dX9_isShape_36 lf_X9_10 fun hw36 => ?_
        refine J_getR (b := ((nw G20) + 1)) hX dX9_isShape_39 lf_X9_98 hw36 rfl (by decide) rfl ?_
        refine J_getI hX dX9_isShape_42 lf_X9_166 (tp_4_0 hw36) rfl ?_
        refine J_i2l hX dX9_isShape_45 ?_
        refine J_lcmp hX dX9_isShape_46 ?_
        refine J_if_ge (tgt := 70) hX dX9_isShape_47 rfl ?_ ?_
        · refine J_iconst hX dX9_isShape_70 ci_0 ?_
          exact J_retZ hR (by decide) dX9_isShape_71
        · refine J_lload_n 0 hX dX9_isShape_50 fz3 rfl ?_
          refine J_ldc2 hX dX9_isShape_51 ll_X9_318 ?_
          refine J_lremc hX dX9_isShape_54 (by decide) ?_
          refine J_aload_n 1 hX dX9_isShape_55 fz0 rfl ?_
          refine J_getNow hX dX9_isShape_56 lf_X9_10 fun hw56 => ?_
          refine J_getR (b := ((nw G20) + 1)) hX dX9_isShape_59 lf_X9_98 hw56 rfl (by decide) rfl ?_
          refine J_getI hX dX9_isShape_62 lf_X9_159 (tp_4_0 hw56) rfl ?_
          refine J_i2l hX dX9_isShape_65 ?_
          refine J_lcmp hX dX9_isShape_66 ?_
          refine J_if_lt (tgt := 72) hX dX9_isShape_67 rfl ?_ ?_
          · refine J_iinc (lv' := [(2, .int (v2 + (1 : Int32))), (3, .long r20), (0, .ref (AD Y 0)), (1, .int v1)]) 3 hX dX9_isShape_72 rfl ci_1 (Nat.le_of_ble_eq_true rfl) rfl ?_
            refine J_goto (tgt := 2) hX dX9_isShape_75 rfl ?_
            refine J_sub (lv' := [(0, .ref (AD Y 0)), (1, .int v1), (2, .int (v2 + (1 : Int32)))]) [2, 3, 0] rfl ?_
            exact hk2 (v2 + (1 : Int32)) G20
          · refine J_iconst hX dX9_isShape_70 ci_0 ?_
            exact J_retZ hR (by decide) dX9_isShape_71
  unfold f_X9_isShape
  refine J_iconst hX dX9_isShape_0 ci_0 ?_
  refine J_istore_n (lv' := [(2, .int (0 : Int32)), (0, .ref (AD Y 0)), (1, .int v1)]) hX dX9_isShape_1 fz2 (Nat.le_of_ble_eq_true rfl) rfl ?_
  refine J_sub (lv' := [(0, .ref (AD Y 0)), (1, .int v1), (2, .int (0 : Int32))]) [1, 2, 0] rfl ?_
  exact K2  FU (0 : Int32) G
set_option maxHeartbeats 4000000 in
set_option maxRecDepth 100000 in
theorem ok_X9_shapeTurn {Y : DX} {v2 : Int32}  {G : GM} {r : Int32} {G' : GM} (hf : f_X9_shapeTurn v2 G = some (r, G')) : OkI Y 6 M_X9_shapeTurn [.ref (AD Y 0), .ref (AD Y 71), .int v2] G r G' := by
  refine okI_of (lv0 := [(0, .ref (AD Y 0)), (1, .ref (AD Y 71)), (2, .int v2)]) (by decide +kernel) rfl (Nat.le_of_ble_eq_true rfl) ?_
  intro X Q hX hR
  have hX : CXok X Y RX9 cX9_shapeTurn 6 _ := hX
  revert hf
  show J X Y 6 Q 0 [(0, .ref (AD Y 0)), (1, .ref (AD Y 71)), (2, .int v2)] [] G (f_X9_shapeTurn v2 G = some (r, G'))
  have K5 : ∀  (n : Nat) (v3 : Int32) (v4 : Int32) (G : GM), J X Y 6 Q 5 [(0, .ref (AD Y 0)), (1, .ref (AD Y 71)), (2, .int v2), (3, .int v3), (4, .int v4)] [] G (wl2 n (lp_X9_shapeTurn_5 v2) v3 v4 G = some (r, G')) := by
    refine wl2_ind (R := fun v3 v4 G φ => J X Y 6 Q 5 [(0, .ref (AD Y 0)), (1, .ref (AD Y 71)), (2, .int v2), (3, .int v3), (4, .int v4)] [] G φ) (fun _ _ G φ h => J_no h) ?_
    intro kc5 hk5 v3 v4 G
    unfold lp_X9_shapeTurn_5
    refine J_iload 4 hX dX9_shapeTurn_5 rfl ?_
    refine J_aload_n 0 hX dX9_shapeTurn_7 fz0 rfl ?_
    refine J_getR (b := 62) hX dX9_shapeTurn_8 lf_X9_44 sk_0 rfl (by decide) rfl ?_
    refine J_iload_n 2 hX dX9_shapeTurn_11 fz2 rfl ?_
    refine J_callVI (As := [.int v2]) (st := [.int v4]) (b := 62) hX mv_X9_155 sk_62 rfl rfl rfl (Nat.le_of_ble_eq_true rfl) (Nat.le_of_ble_eq_true rfl) (Nat.le_of_ble_eq_true rfl) dX9_shapeTurn_12 (fun r G1 h => ok_X8_lengthOf  h) fun r12 G12 => ?_
    refine J_icmp_ge (tgt := 56) hX dX9_shapeTurn_15 rfl ?_ ?_
    · refine J_iload_n 3 hX dX9_shapeTurn_56 fz3 rfl ?_
      exact J_retI hR dX9_shapeTurn_57
    · refine J_aload_n 0 hX dX9_shapeTurn_18 fz0 rfl ?_
      refine J_getR (b := 62) hX dX9_shapeTurn_19 lf_X9_44 sk_0 rfl (by decide) rfl ?_
      refine J_iload_n 2 hX dX9_shapeTurn_22 fz2 rfl ?_
      refine J_iload 4 hX dX9_shapeTurn_23 rfl ?_
      refine J_callVJ (As := [.int v2, .int v4]) (st := []) (b := 62) hX mv_X9_162 sk_62 rfl rfl rfl (Nat.le_of_ble_eq_true rfl) (Nat.le_of_ble_eq_true rfl) (Nat.le_of_ble_eq_true rfl) dX9_shapeTurn_25 (fun r G1 h => ok_X8_valueAt  h) fun r25 G25 => ?_
      refine J_l2i hX dX9_shapeTurn_28 ?_
      refine J_lt (mk := Value.int) fun x29 => ?_
      refine J_istore (lv' := [(5, .int x29), (0, .ref (AD Y 0)), (1, .ref (AD Y 71)), (2, .int v2), (3, .int v3), (4, .int v4)]) hX dX9_shapeTurn_29 (Nat.le_of_ble_eq_true rfl) rfl ?_
      refine J_iload_n 4 hX dX9_shapeTurn_31 fz3 rfl ?_
      refine J_aload_n 2 hX dX9_shapeTurn_32 fz1 rfl ?_
      refine J_iload 0 hX dX9_shapeTurn_33 rfl ?_
      refine J_bipush hX dX9_shapeTurn_35 cb_10 ?_
      refine J_idivc hX dX9_shapeTurn_37 (by decide) ?_
      refine J_iload 0 hX dX9_shapeTurn_38 rfl ?_
      refine J_bipush hX dX9_shapeTurn_40 cb_10 ?_
      refine J_iremc hX dX9_shapeTurn_42 (by decide) ?_
      refine J_callVI (As := [.int (x29 / (10 : Int32)), .int (x29 - x29 / (10 : Int32) * (10 : Int32))]) (st := [.int v3]) (b := 71) hX mv_X9_320 sk_71 rfl rfl rfl (Nat.le_of_ble_eq_true rfl) (Nat.le_of_ble_eq_true rfl) (Nat.le_of_ble_eq_true rfl) dX9_shapeTurn_43 (fun r G1 h => ok_X0_turnAt  h) fun r43 G43 => ?_
      refine J_mmax hX dX9_shapeTurn_46 lm_X9_287 (Nat.le_of_ble_eq_true rfl) (Nat.le_of_ble_eq_true rfl) ?_
      refine J_lt (mk := Value.int) fun x49 => ?_
      refine J_istore_n (lv' := [(3, .int x49), (5, .int x29), (0, .ref (AD Y 0)), (1, .ref (AD Y 71)), (2, .int v2), (4, .int v4)]) hX dX9_shapeTurn_49 fz3 (Nat.le_of_ble_eq_true rfl) rfl ?_
      refine J_iinc (lv' := [(4, .int (v4 + (1 : Int32))), (3, .int x49), (5, .int x29), (0, .ref (AD Y 0)), (1, .ref (AD Y 71)), (2, .int v2)]) 5 hX dX9_shapeTurn_50 rfl ci_1 (Nat.le_of_ble_eq_true rfl) rfl ?_
      refine J_goto (tgt := 5) hX dX9_shapeTurn_53 rfl ?_
      refine J_sub (lv' := [(0, .ref (AD Y 0)), (1, .ref (AD Y 71)), (2, .int v2), (3, .int x49), (4, .int (v4 + (1 : Int32)))]) [3, 4, 5, 1, 0] rfl ?_
      exact hk5 x49 (v4 + (1 : Int32)) G43
  unfold f_X9_shapeTurn
  refine J_iconst hX dX9_shapeTurn_0 ci_0 ?_
  refine J_istore_n (lv' := [(3, .int (0 : Int32)), (0, .ref (AD Y 0)), (1, .ref (AD Y 71)), (2, .int v2)]) hX dX9_shapeTurn_1 fz3 (Nat.le_of_ble_eq_true rfl) rfl ?_
  refine J_iconst hX dX9_shapeTurn_2 ci_0 ?_
  refine J_istore (lv' := [(4, .int (0 : Int32)), (3, .int (0 : Int32)), (0, .ref (AD Y 0)), (1, .ref (AD Y 71)), (2, .int v2)]) hX dX9_shapeTurn_3 (Nat.le_of_ble_eq_true rfl) rfl ?_
  refine J_sub (lv' := [(0, .ref (AD Y 0)), (1, .ref (AD Y 71)), (2, .int v2), (3, .int (0 : Int32)), (4, .int (0 : Int32))]) [2, 3, 4, 1, 0] rfl ?_
  exact K5  FU (0 : Int32) (0 : Int32) G
set_option maxHeartbeats 4000000 in
set_option maxRecDepth 100000 in
theorem ok_X9_shaped {Y : DX} {v1 : Int32} {v2 : Int32} {v3 : Int32}  {G : GM} {r : Int32} {G' : GM} (hf : f_X9_shaped v1 v2 v3 G = some (r, G')) : OkI Y 11 M_X9_shaped [.ref (AD Y 0), .int v1, .int v2, .int v3] G r G' := by
  refine okI_of (lv0 := [(0, .ref (AD Y 0)), (1, .int v1), (2, .int v2), (3, .int v3)]) (by decide +kernel) rfl (Nat.le_of_ble_eq_true rfl) ?_
  intro X Q hX hR
  have hX : CXok X Y RX9 cX9_shaped 4 _ := hX
  revert hf
  show J X Y 4 Q 0 [(0, .ref (AD Y 0)), (1, .int v1), (2, .int v2), (3, .int v3)] [] G (f_X9_shaped v1 v2 v3 G = some (r, G'))
  unfold f_X9_shaped
  refine J_aload_n 0 hX dX9_shaped_0 fz0 rfl ?_
  refine J_iload_n 1 hX dX9_shaped_1 fz1 rfl ?_
  refine J_callVI (As := [.int v1]) (st := []) (b := 0) hX mv_X9_183 sk_0 rfl rfl rfl (Nat.le_of_ble_eq_true rfl) (Nat.le_of_ble_eq_true rfl) (Nat.le_of_ble_eq_true rfl) dX9_shaped_2 (fun r G1 h => ok_X9_isSerial  h) fun r2 G2 => ?_
  refine J_if_eq (tgt := 27) hX dX9_shaped_5 rfl ?_ ?_
  · refine J_bipush hX dX9_shaped_27 cbm_2 ?_
    exact J_retI hR dX9_shaped_29
  · refine J_aload_n 0 hX dX9_shaped_8 fz0 rfl ?_
    refine J_iload_n 2 hX dX9_shaped_9 fz2 rfl ?_
    refine J_callVI (As := [.int v2]) (st := []) (b := 0) hX mv_X9_142 sk_0 rfl rfl rfl (Nat.le_of_ble_eq_true rfl) (Nat.le_of_ble_eq_true rfl) (Nat.le_of_ble_eq_true rfl) dX9_shaped_10 (fun r G1 h => ok_X9_isCard  h) fun r10 G10 => ?_
    refine J_if_eq (tgt := 27) hX dX9_shaped_13 rfl ?_ ?_
    · refine J_bipush hX dX9_shaped_27 cbm_2 ?_
      exact J_retI hR dX9_shaped_29
    · refine J_aload_n 0 hX dX9_shaped_16 fz0 rfl ?_
      refine J_getR (b := 62) hX dX9_shaped_17 lf_X9_44 sk_0 rfl (by decide) rfl ?_
      refine J_iload_n 3 hX dX9_shaped_20 fz3 rfl ?_
      refine J_callVI (As := [.int v3]) (st := []) (b := 62) hX mv_X9_149 sk_62 rfl rfl rfl (Nat.le_of_ble_eq_true rfl) (Nat.le_of_ble_eq_true rfl) (Nat.le_of_ble_eq_true rfl) dX9_shaped_21 (fun r G1 h => ok_X8_isSlot  h) fun r21 G21 => ?_
      refine J_if_ne (tgt := 30) hX dX9_shaped_24 rfl ?_ ?_
      · refine J_aload_n 0 hX dX9_shaped_30 fz0 rfl ?_
        refine J_getR (b := 62) hX dX9_shaped_31 lf_X9_44 sk_0 rfl (by decide) rfl ?_
        refine J_iload_n 3 hX dX9_shaped_34 fz3 rfl ?_
        refine J_callVI (As := [.int v3]) (st := []) (b := 62) hX mv_X9_152 sk_62 rfl rfl rfl (Nat.le_of_ble_eq_true rfl) (Nat.le_of_ble_eq_true rfl) (Nat.le_of_ble_eq_true rfl) dX9_shaped_35 (fun r G1 h => ok_X8_hasRow  h) fun r35 G35 => ?_
        refine J_if_ne (tgt := 44) hX dX9_shaped_38 rfl ?_ ?_
        · refine J_aload_n 0 hX dX9_shaped_44 fz0 rfl ?_
          refine J_iload_n 3 hX dX9_shaped_45 fz3 rfl ?_
          refine J_callVI (As := [.int v3]) (st := []) (b := 0) hX mv_X9_311 sk_0 rfl rfl rfl (Nat.le_of_ble_eq_true rfl) (Nat.le_of_ble_eq_true rfl) (Nat.le_of_ble_eq_true rfl) dX9_shaped_46 (fun r G1 h => ok_X9_isShape  h) fun r46 G46 => ?_
          refine J_if_eq (tgt := 66) hX dX9_shaped_49 rfl ?_ ?_
          · refine J_bipush hX dX9_shaped_66 cbm_2 ?_
            exact J_retI hR dX9_shaped_68
          · refine J_aload_n 0 hX dX9_shaped_52 fz0 rfl ?_
            refine J_aload_n 0 hX dX9_shaped_53 fz0 rfl ?_
            refine J_iload_n 1 hX dX9_shaped_54 fz1 rfl ?_
            refine J_iload_n 2 hX dX9_shaped_55 fz2 rfl ?_
            refine J_callVR (As := [.int v1, .int v2]) (st := [.ref (AD Y 0)]) (b := 0) hX mv_X9_244 sk_0 rfl rfl rfl (Nat.le_of_ble_eq_true rfl) (Nat.le_of_ble_eq_true rfl) (Nat.le_of_ble_eq_true rfl) dX9_shaped_56 (fun r G1 h => ok_X9_cardOf  h) fun r56 G56 he56 => ?_
            obtain rfl := ret_X9_cardOf he56
            refine J_iload_n 3 hX dX9_shaped_59 fz3 rfl ?_
            refine J_callVI (As := [.ref (AD Y 71), .int v3]) (st := []) (b := 0) hX mv_X9_314 sk_0 rfl rfl rfl (Nat.le_of_ble_eq_true rfl) (Nat.le_of_ble_eq_true rfl) (Nat.le_of_ble_eq_true rfl) dX9_shaped_60 (fun r G1 h => ok_X9_shapeTurn  h) fun r60 G60 => ?_
            refine J_goto (tgt := 68) hX dX9_shaped_63 rfl ?_
            exact J_retI hR dX9_shaped_68
        · refine J_bipush hX dX9_shaped_41 cbm_6 ?_
          exact J_retI hR dX9_shaped_43
      · refine J_bipush hX dX9_shaped_27 cbm_2 ?_
        exact J_retI hR dX9_shaped_29
set_option maxHeartbeats 4000000 in
set_option maxRecDepth 100000 in
theorem ok_X9_shape {Y : DX} {v1 : Int32} {v2 : Int32}  {G : GM} {r : Int32} {G' : GM} (hf : f_X9_shape v1 v2 G = some (r, G')) : OkI Y 7 M_X9_shape [.ref (AD Y 0), .int v1, .int v2] G r G' := by
  refine okI_of (lv0 := [(0, .ref (AD Y 0)), (1, .int v1), (2, .int v2)]) (by decide +kernel) rfl (Nat.le_of_ble_eq_true rfl) ?_
  intro X Q hX hR
  have hX : CXok X Y RX9 cX9_shape 8 _ := hX
  revert hf
  show J X Y 8 Q 0 [(0, .ref (AD Y 0)), (1, .int v1), (2, .int v2)] [] G (f_X9_shape v1 v2 G = some (r, G'))
  have K63 : ∀  (n : Nat) (v3 : Int32) (v4 : Int32) (v5 : Int32) (G : GM), J X Y 8 Q 63 [(0, .ref (AD Y 0)), (1, .int v1), (2, .int v2), (3, .int v3), (4, .int v4), (5, .int v5)] [] G (wl3 n (lp_X9_shape_63 v1 v2) v3 v4 v5 G = some (r, G')) := by
    refine wl3_ind (R := fun v3 v4 v5 G φ => J X Y 8 Q 63 [(0, .ref (AD Y 0)), (1, .int v1), (2, .int v2), (3, .int v3), (4, .int v4), (5, .int v5)] [] G φ) (fun _ _ _ G φ h => J_no h) ?_
    intro kc63 hk63 v3 v4 v5 G
    unfold lp_X9_shape_63
    have K78 : ∀ (v5 : Int32) (n : Nat) (v3 : Int32) (v4 : Int32) (v6 : Int32) (G : GM), J X Y 8 Q 78 [(0, .ref (AD Y 0)), (1, .int v1), (2, .int v2), (3, .int v3), (4, .int v4), (5, .int v5), (6, .int v6)] [] G (wl3 n (lp_X9_shape_78 v1 v2 v5 kc63) v3 v4 v6 G = some (r, G')) := by
      intro v5
      refine wl3_ind (R := fun v3 v4 v6 G φ => J X Y 8 Q 78 [(0, .ref (AD Y 0)), (1, .int v1), (2, .int v2), (3, .int v3), (4, .int v4), (5, .int v5), (6, .int v6)] [] G φ) (fun _ _ _ G φ h => J_no h) ?_
      intro kc78 hk78 v3 v4 v6 G
      unfold lp_X9_shape_78
      have K126 : ∀ (v6 : Int32) (v7 : Int32) (G : GM), J X Y 8 Q 126 [(0, .ref (AD Y 0)), (1, .int v1), (2, .int v2), (5, .int v5), (6, .int v6), (7, .int v7)] [] G (k_X9_shape_126 v1 v2 v5 v6 v7 kc63 kc78 G = some (r, G')) := by
        intro v6 v7 G
        unfold k_X9_shape_126
        refine J_iload 5 hX dX9_shape_126 rfl ?_
        refine J_istore_n (lv' := [(3, .int v7), (0, .ref (AD Y 0)), (1, .int v1), (2, .int v2), (5, .int v5), (6, .int v6), (7, .int v7)]) hX dX9_shape_128 fz3 (Nat.le_of_ble_eq_true rfl) rfl ?_
        refine J_bipush hX dX9_shape_129 cb_10 ?_
        refine J_iload 4 hX dX9_shape_131 rfl ?_
        refine J_imul hX dX9_shape_133 ?_
        refine J_iload 5 hX dX9_shape_134 rfl ?_
        refine J_iadd hX dX9_shape_136 ?_
        refine J_lt (mk := Value.int) fun x137 => ?_
        refine J_istore (lv' := [(4, .int x137), (3, .int v7), (0, .ref (AD Y 0)), (1, .int v1), (2, .int v2), (5, .int v5), (6, .int v6), (7, .int v7)]) hX dX9_shape_137 (Nat.le_of_ble_eq_true rfl) rfl ?_
        refine J_iinc (lv' := [(6, .int (v6 + (1 : Int32))), (4, .int x137), (3, .int v7), (0, .ref (AD Y 0)), (1, .int v1), (2, .int v2), (5, .int v5), (7, .int v7)]) 6 hX dX9_shape_139 rfl ci_1 (Nat.le_of_ble_eq_true rfl) rfl ?_
        refine J_goto (tgt := 78) hX dX9_shape_142 rfl ?_
        refine J_sub (lv' := [(0, .ref (AD Y 0)), (1, .int v1), (2, .int v2), (3, .int v7), (4, .int x137), (5, .int v5), (6, .int (v6 + (1 : Int32)))]) [3, 4, 5, 2, 1, 6, 0] rfl ?_
        exact hk78 v7 x137 (v6 + (1 : Int32)) G
      refine J_iload 6 hX dX9_shape_78 rfl ?_
      refine J_aload_n 0 hX dX9_shape_80 fz0 rfl ?_
      refine J_getNow hX dX9_shape_81 lf_X9_10 fun hw81 => ?_
      refine J_getR (b := ((nw G) + 1)) hX dX9_shape_84 lf_X9_98 hw81 rfl (by decide) rfl ?_
      refine J_getI hX dX9_shape_87 lf_X9_200 (tp_4_0 hw81) rfl ?_
      refine J_icmp_ge (tgt := 145) hX dX9_shape_90 rfl ?_ ?_
      · refine J_iinc (lv' := [(5, .int (v5 + (1 : Int32))), (0, .ref (AD Y 0)), (1, .int v1), (2, .int v2), (3, .int v3), (4, .int v4), (6, .int v6)]) 5 hX dX9_shape_145 rfl ci_1 (Nat.le_of_ble_eq_true rfl) rfl ?_
        refine J_goto (tgt := 63) hX dX9_shape_148 rfl ?_
        refine J_sub (lv' := [(0, .ref (AD Y 0)), (1, .int v1), (2, .int v2), (3, .int v3), (4, .int v4), (5, .int (v5 + (1 : Int32)))]) [1, 2, 3, 4, 5, 0] rfl ?_
        exact hk63 v3 v4 (v5 + (1 : Int32)) G
      · refine J_aload_n 0 hX dX9_shape_93 fz0 rfl ?_
        refine J_aload_n 0 hX dX9_shape_94 fz0 rfl ?_
        refine J_iload 5 hX dX9_shape_95 rfl ?_
        refine J_iload 6 hX dX9_shape_97 rfl ?_
        refine J_aload_n 0 hX dX9_shape_99 fz0 rfl ?_
        refine J_getNow hX dX9_shape_100 lf_X9_10 fun hw100 => ?_
        refine J_getR (b := ((nw G) + 21)) hX dX9_shape_103 lf_X9_238 hw100 rfl (by decide) rfl ?_
        refine J_callVR (As := [.int v5, .int v6, .ref (AD Y ((nw G) + 21))]) (st := [.ref (AD Y 0)]) (b := 0) hX mv_X9_301 sk_0 rfl rfl rfl (Nat.le_of_ble_eq_true rfl) (Nat.le_of_ble_eq_true rfl) (Nat.le_of_ble_eq_true rfl) dX9_shape_106 (fun r G1 h => ok_X9_soldCard (tp_4_9 hw100) h) fun r106 G106 he106 => ?_
        obtain rfl := ret_X9_soldCard he106
        refine J_iload_n 1 hX dX9_shape_109 fz1 rfl ?_
        refine J_callVI (As := [.ref (AD Y 71), .int v1]) (st := []) (b := 0) hX mv_X9_314 sk_0 rfl rfl rfl (Nat.le_of_ble_eq_true rfl) (Nat.le_of_ble_eq_true rfl) (Nat.le_of_ble_eq_true rfl) dX9_shape_110 (fun r G1 h => ok_X9_shapeTurn  h) fun r110 G110 => ?_
        refine J_istore (lv' := [(7, .int r110), (0, .ref (AD Y 0)), (1, .int v1), (2, .int v2), (3, .int v3), (4, .int v4), (5, .int v5), (6, .int v6)]) hX dX9_shape_113 (Nat.le_of_ble_eq_true rfl) rfl ?_
        refine J_iload_n 4 hX dX9_shape_115 fz3 rfl ?_
        refine J_iconst hX dX9_shape_116 cim_1 ?_
        refine J_icmp_eq (tgt := 126) hX dX9_shape_117 rfl ?_ ?_
        · refine J_sub (lv' := [(0, .ref (AD Y 0)), (1, .int v1), (2, .int v2), (5, .int v5), (6, .int v6), (7, .int r110)]) [1, 2, 3, 6, 7, 0] rfl ?_
          exact K126 v6 r110 G110
        · refine J_iload 0 hX dX9_shape_120 rfl ?_
          refine J_iload_n 4 hX dX9_shape_122 fz3 rfl ?_
          refine J_icmp_ge (tgt := 139) hX dX9_shape_123 rfl ?_ ?_
          · refine J_iinc (lv' := [(6, .int (v6 + (1 : Int32))), (7, .int r110), (0, .ref (AD Y 0)), (1, .int v1), (2, .int v2), (3, .int v3), (4, .int v4), (5, .int v5)]) 7 hX dX9_shape_139 rfl ci_1 (Nat.le_of_ble_eq_true rfl) rfl ?_
            refine J_goto (tgt := 78) hX dX9_shape_142 rfl ?_
            refine J_sub (lv' := [(0, .ref (AD Y 0)), (1, .int v1), (2, .int v2), (3, .int v3), (4, .int v4), (5, .int v5), (6, .int (v6 + (1 : Int32)))]) [2, 3, 4, 5, 6, 7, 0] rfl ?_
            exact hk78 v3 v4 (v6 + (1 : Int32)) G110
          · refine J_sub (lv' := [(0, .ref (AD Y 0)), (1, .int v1), (2, .int v2), (5, .int v5), (6, .int v6), (7, .int r110)]) [1, 2, 3, 6, 7, 0] rfl ?_
            exact K126 v6 r110 G110
    refine J_iload 5 hX dX9_shape_63 rfl ?_
    refine J_aload_n 0 hX dX9_shape_65 fz0 rfl ?_
    refine J_getNow hX dX9_shape_66 lf_X9_10 fun hw66 => ?_
    refine J_getI hX dX9_shape_69 lf_X9_217 hw66 rfl ?_
    refine J_icmp_ge (tgt := 151) hX dX9_shape_72 rfl ?_ ?_
    · refine J_iload_n 2 hX dX9_shape_151 fz2 rfl ?_
      refine J_if_ne (tgt := 159) hX dX9_shape_152 rfl ?_ ?_
      · refine J_iload 4 hX dX9_shape_159 rfl ?_
        exact J_retI hR dX9_shape_161
      · refine J_iload_n 3 hX dX9_shape_155 fz3 rfl ?_
        refine J_goto (tgt := 161) hX dX9_shape_156 rfl ?_
        exact J_retI hR dX9_shape_161
    · refine J_iconst hX dX9_shape_75 ci_0 ?_
      refine J_istore (lv' := [(6, .int (0 : Int32)), (0, .ref (AD Y 0)), (1, .int v1), (2, .int v2), (3, .int v3), (4, .int v4), (5, .int v5)]) hX dX9_shape_76 (Nat.le_of_ble_eq_true rfl) rfl ?_
      refine J_sub (lv' := [(0, .ref (AD Y 0)), (1, .int v1), (2, .int v2), (3, .int v3), (4, .int v4), (5, .int v5), (6, .int (0 : Int32))]) [1, 2, 3, 4, 5, 6, 0] rfl ?_
      exact K78 v5 FU v3 v4 (0 : Int32) G
  unfold f_X9_shape
  refine J_aload_n 0 hX dX9_shape_0 fz0 rfl ?_
  refine J_callVI (As := []) (st := []) (b := 0) hX mv_X9_133 sk_0 rfl rfl rfl (Nat.le_of_ble_eq_true rfl) (Nat.le_of_ble_eq_true rfl) (Nat.le_of_ble_eq_true rfl) dX9_shape_1 (fun r G1 h => ok_X9_isHall  h) fun r1 G1 => ?_
  refine J_if_eq (tgt := 27) hX dX9_shape_4 rfl ?_ ?_
  · refine J_bipush hX dX9_shape_27 cbm_2 ?_
    exact J_retI hR dX9_shape_29
  · refine J_aload_n 0 hX dX9_shape_7 fz0 rfl ?_
    refine J_getR (b := 62) hX dX9_shape_8 lf_X9_44 sk_0 rfl (by decide) rfl ?_
    refine J_iload_n 1 hX dX9_shape_11 fz1 rfl ?_
    refine J_callVI (As := [.int v1]) (st := []) (b := 62) hX mv_X9_149 sk_62 rfl rfl rfl (Nat.le_of_ble_eq_true rfl) (Nat.le_of_ble_eq_true rfl) (Nat.le_of_ble_eq_true rfl) dX9_shape_12 (fun r G1 h => ok_X8_isSlot  h) fun r12 G12 => ?_
    refine J_if_eq (tgt := 27) hX dX9_shape_15 rfl ?_ ?_
    · refine J_bipush hX dX9_shape_27 cbm_2 ?_
      exact J_retI hR dX9_shape_29
    · refine J_iload_n 2 hX dX9_shape_18 fz2 rfl ?_
      refine J_if_lt (tgt := 27) hX dX9_shape_19 rfl ?_ ?_
      · refine J_bipush hX dX9_shape_27 cbm_2 ?_
        exact J_retI hR dX9_shape_29
      · refine J_iload_n 2 hX dX9_shape_22 fz2 rfl ?_
        refine J_iconst hX dX9_shape_23 ci_1 ?_
        refine J_icmp_le (tgt := 30) hX dX9_shape_24 rfl ?_ ?_
        · refine J_aload_n 0 hX dX9_shape_30 fz0 rfl ?_
          refine J_getR (b := 62) hX dX9_shape_31 lf_X9_44 sk_0 rfl (by decide) rfl ?_
          refine J_iload_n 1 hX dX9_shape_34 fz1 rfl ?_
          refine J_callVI (As := [.int v1]) (st := []) (b := 62) hX mv_X9_152 sk_62 rfl rfl rfl (Nat.le_of_ble_eq_true rfl) (Nat.le_of_ble_eq_true rfl) (Nat.le_of_ble_eq_true rfl) dX9_shape_35 (fun r G1 h => ok_X8_hasRow  h) fun r35 G35 => ?_
          refine J_if_ne (tgt := 44) hX dX9_shape_38 rfl ?_ ?_
          · refine J_aload_n 0 hX dX9_shape_44 fz0 rfl ?_
            refine J_iload_n 1 hX dX9_shape_45 fz1 rfl ?_
            refine J_callVI (As := [.int v1]) (st := []) (b := 0) hX mv_X9_311 sk_0 rfl rfl rfl (Nat.le_of_ble_eq_true rfl) (Nat.le_of_ble_eq_true rfl) (Nat.le_of_ble_eq_true rfl) dX9_shape_46 (fun r G1 h => ok_X9_isShape  h) fun r46 G46 => ?_
            refine J_if_ne (tgt := 55) hX dX9_shape_49 rfl ?_ ?_
            · refine J_iconst hX dX9_shape_55 cim_1 ?_
              refine J_istore_n (lv' := [(3, .int (-1 : Int32)), (0, .ref (AD Y 0)), (1, .int v1), (2, .int v2)]) hX dX9_shape_56 fz3 (Nat.le_of_ble_eq_true rfl) rfl ?_
              refine J_iconst hX dX9_shape_57 cim_1 ?_
              refine J_istore (lv' := [(4, .int (-1 : Int32)), (3, .int (-1 : Int32)), (0, .ref (AD Y 0)), (1, .int v1), (2, .int v2)]) hX dX9_shape_58 (Nat.le_of_ble_eq_true rfl) rfl ?_
              refine J_iconst hX dX9_shape_60 ci_0 ?_
              refine J_istore (lv' := [(5, .int (0 : Int32)), (4, .int (-1 : Int32)), (3, .int (-1 : Int32)), (0, .ref (AD Y 0)), (1, .int v1), (2, .int v2)]) hX dX9_shape_61 (Nat.le_of_ble_eq_true rfl) rfl ?_
              refine J_sub (lv' := [(0, .ref (AD Y 0)), (1, .int v1), (2, .int v2), (3, .int (-1 : Int32)), (4, .int (-1 : Int32)), (5, .int (0 : Int32))]) [3, 4, 5, 2, 1, 0] rfl ?_
              exact K63  FU (-1 : Int32) (-1 : Int32) (0 : Int32) G46
            · refine J_bipush hX dX9_shape_52 cbm_2 ?_
              exact J_retI hR dX9_shape_54
          · refine J_bipush hX dX9_shape_41 cbm_6 ?_
            exact J_retI hR dX9_shape_43
        · refine J_bipush hX dX9_shape_27 cbm_2 ?_
          exact J_retI hR dX9_shape_29
set_option maxHeartbeats 4000000 in
set_option maxRecDepth 100000 in
theorem ok_X9_corners {Y : DX} {v1 : Int32} {v2 : Int32}  {G : GM} {r : Int32} {G' : GM} (hf : f_X9_corners v1 v2 G = some (r, G')) : OkI Y 11 M_X9_corners [.ref (AD Y 0), .int v1, .int v2] G r G' := by
  refine okI_of (lv0 := [(0, .ref (AD Y 0)), (1, .int v1), (2, .int v2)]) (by decide +kernel) rfl (Nat.le_of_ble_eq_true rfl) ?_
  intro X Q hX hR
  have hX : CXok X Y RX9 cX9_corners 4 _ := hX
  revert hf
  show J X Y 4 Q 0 [(0, .ref (AD Y 0)), (1, .int v1), (2, .int v2)] [] G (f_X9_corners v1 v2 G = some (r, G'))
  unfold f_X9_corners
  refine J_aload_n 0 hX dX9_corners_0 fz0 rfl ?_
  refine J_iload_n 1 hX dX9_corners_1 fz1 rfl ?_
  refine J_callVI (As := [.int v1]) (st := []) (b := 0) hX mv_X9_183 sk_0 rfl rfl rfl (Nat.le_of_ble_eq_true rfl) (Nat.le_of_ble_eq_true rfl) (Nat.le_of_ble_eq_true rfl) dX9_corners_2 (fun r G1 h => ok_X9_isSerial  h) fun r2 G2 => ?_
  refine J_if_eq (tgt := 16) hX dX9_corners_5 rfl ?_ ?_
  · refine J_bipush hX dX9_corners_16 cbm_2 ?_
    exact J_retI hR dX9_corners_18
  · refine J_aload_n 0 hX dX9_corners_8 fz0 rfl ?_
    refine J_iload_n 2 hX dX9_corners_9 fz2 rfl ?_
    refine J_callVI (As := [.int v2]) (st := []) (b := 0) hX mv_X9_142 sk_0 rfl rfl rfl (Nat.le_of_ble_eq_true rfl) (Nat.le_of_ble_eq_true rfl) (Nat.le_of_ble_eq_true rfl) dX9_corners_10 (fun r G1 h => ok_X9_isCard  h) fun r10 G10 => ?_
    refine J_if_ne (tgt := 19) hX dX9_corners_13 rfl ?_ ?_
    · refine J_aload_n 0 hX dX9_corners_19 fz0 rfl ?_
      refine J_iload_n 1 hX dX9_corners_20 fz1 rfl ?_
      refine J_iload_n 2 hX dX9_corners_21 fz2 rfl ?_
      refine J_callVR (As := [.int v1, .int v2]) (st := []) (b := 0) hX mv_X9_244 sk_0 rfl rfl rfl (Nat.le_of_ble_eq_true rfl) (Nat.le_of_ble_eq_true rfl) (Nat.le_of_ble_eq_true rfl) dX9_corners_22 (fun r G1 h => ok_X9_cardOf  h) fun r22 G22 he22 => ?_
      obtain rfl := ret_X9_cardOf he22
      refine J_astore_n (lv' := [(3, .ref (AD Y 71)), (0, .ref (AD Y 0)), (1, .int v1), (2, .int v2)]) hX dX9_corners_25 fz3 (Nat.le_of_ble_eq_true rfl) rfl ?_
      refine J_aload_n 0 hX dX9_corners_26 fz3 rfl ?_
      refine J_iconst hX dX9_corners_27 ci_0 ?_
      refine J_callVI (As := [.int (0 : Int32)]) (st := []) (b := 71) hX mv_X9_323 sk_71 rfl rfl rfl (Nat.le_of_ble_eq_true rfl) (Nat.le_of_ble_eq_true rfl) (Nat.le_of_ble_eq_true rfl) dX9_corners_28 (fun r G1 h => ok_X0_endsTurn  h) fun r28 G28 => ?_
      refine J_aload_n 0 hX dX9_corners_31 fz3 rfl ?_
      refine J_aload_n 1 hX dX9_corners_32 fz0 rfl ?_
      refine J_getNow hX dX9_corners_33 lf_X9_10 fun hw33 => ?_
      refine J_getR (b := ((nw G28) + 1)) hX dX9_corners_36 lf_X9_98 hw33 rfl (by decide) rfl ?_
      refine J_getI hX dX9_corners_39 lf_X9_166 (tp_4_0 hw33) rfl ?_
      refine J_iconst hX dX9_corners_42 ci_1 ?_
      refine J_isub hX dX9_corners_43 ?_
      refine J_callVI (As := [.int ((gI G28 ((nw G28) + 1) 1) - (1 : Int32))]) (st := [.int r28]) (b := 71) hX mv_X9_323 sk_71 rfl rfl rfl (Nat.le_of_ble_eq_true rfl) (Nat.le_of_ble_eq_true rfl) (Nat.le_of_ble_eq_true rfl) dX9_corners_44 (fun r G1 h => ok_X0_endsTurn  h) fun r44 G44 => ?_
      refine J_mmax hX dX9_corners_47 lm_X9_287 (Nat.le_of_ble_eq_true rfl) (Nat.le_of_ble_eq_true rfl) ?_
      exact J_retI hR dX9_corners_50
    · refine J_bipush hX dX9_corners_16 cbm_2 ?_
      exact J_retI hR dX9_corners_18
set_option maxHeartbeats 4000000 in
set_option maxRecDepth 100000 in
theorem ok_X9_filled {Y : DX} {v1 : Int32} {v2 : Int32} {v3 : Int32}  {G : GM} {r : Int32} {G' : GM} (hf : f_X9_filled v1 v2 v3 G = some (r, G')) : OkI Y 11 M_X9_filled [.ref (AD Y 0), .int v1, .int v2, .int v3] G r G' := by
  refine okI_of (lv0 := [(0, .ref (AD Y 0)), (1, .int v1), (2, .int v2), (3, .int v3)]) (by decide +kernel) rfl (Nat.le_of_ble_eq_true rfl) ?_
  intro X Q hX hR
  have hX : CXok X Y RX9 cX9_filled 7 _ := hX
  revert hf
  show J X Y 7 Q 0 [(0, .ref (AD Y 0)), (1, .int v1), (2, .int v2), (3, .int v3)] [] G (f_X9_filled v1 v2 v3 G = some (r, G'))
  have K41 : ∀  (n : Nat) (v5 : Int32) (v6 : Int32) (G : GM), J X Y 7 Q 41 [(0, .ref (AD Y 0)), (3, .int v3), (4, .ref (AD Y 71)), (5, .int v5), (6, .int v6)] [] G (wl2 n (lp_X9_filled_41 v1 v2 v3) v5 v6 G = some (r, G')) := by
    refine wl2_ind (R := fun v5 v6 G φ => J X Y 7 Q 41 [(0, .ref (AD Y 0)), (3, .int v3), (4, .ref (AD Y 71)), (5, .int v5), (6, .int v6)] [] G φ) (fun _ _ G φ h => J_no h) ?_
    intro kc41 hk41 v5 v6 G
    unfold lp_X9_filled_41
    refine J_iload 4 hX dX9_filled_41 rfl ?_
    refine J_aload_n 0 hX dX9_filled_43 fz0 rfl ?_
    refine J_getNow hX dX9_filled_44 lf_X9_10 fun hw44 => ?_
    refine J_getR (b := ((nw G) + 1)) hX dX9_filled_47 lf_X9_98 hw44 rfl (by decide) rfl ?_
    refine J_getI hX dX9_filled_50 lf_X9_166 (tp_4_0 hw44) rfl ?_
    refine J_icmp_ge (tgt := 77) hX dX9_filled_53 rfl ?_ ?_
    · refine J_iload 3 hX dX9_filled_77 rfl ?_
      exact J_retI hR dX9_filled_79
    · refine J_iload 3 hX dX9_filled_56 rfl ?_
      refine J_aload 2 hX dX9_filled_58 rfl ?_
      refine J_iload 4 hX dX9_filled_60 rfl ?_
      refine J_iload_n 1 hX dX9_filled_62 fz3 rfl ?_
      refine J_callVI (As := [.int v6, .int v3]) (st := [.int v5]) (b := 71) hX mv_X9_320 sk_71 rfl rfl rfl (Nat.le_of_ble_eq_true rfl) (Nat.le_of_ble_eq_true rfl) (Nat.le_of_ble_eq_true rfl) dX9_filled_63 (fun r G1 h => ok_X0_turnAt  h) fun r63 G63 => ?_
      refine J_mmax hX dX9_filled_66 lm_X9_287 (Nat.le_of_ble_eq_true rfl) (Nat.le_of_ble_eq_true rfl) ?_
      refine J_lt (mk := Value.int) fun x69 => ?_
      refine J_istore (lv' := [(5, .int x69), (0, .ref (AD Y 0)), (3, .int v3), (4, .ref (AD Y 71)), (6, .int v6)]) hX dX9_filled_69 (Nat.le_of_ble_eq_true rfl) rfl ?_
      refine J_iinc (lv' := [(6, .int (v6 + (1 : Int32))), (5, .int x69), (0, .ref (AD Y 0)), (3, .int v3), (4, .ref (AD Y 71))]) 4 hX dX9_filled_71 rfl ci_1 (Nat.le_of_ble_eq_true rfl) rfl ?_
      refine J_goto (tgt := 41) hX dX9_filled_74 rfl ?_
      refine J_sub (lv' := [(0, .ref (AD Y 0)), (3, .int v3), (4, .ref (AD Y 71)), (5, .int x69), (6, .int (v6 + (1 : Int32)))]) [2, 3, 4, 1, 0] rfl ?_
      exact hk41 x69 (v6 + (1 : Int32)) G63
  unfold f_X9_filled
  refine J_aload_n 0 hX dX9_filled_0 fz0 rfl ?_
  refine J_iload_n 1 hX dX9_filled_1 fz1 rfl ?_
  refine J_callVI (As := [.int v1]) (st := []) (b := 0) hX mv_X9_183 sk_0 rfl rfl rfl (Nat.le_of_ble_eq_true rfl) (Nat.le_of_ble_eq_true rfl) (Nat.le_of_ble_eq_true rfl) dX9_filled_2 (fun r G1 h => ok_X9_isSerial  h) fun r2 G2 => ?_
  refine J_if_eq (tgt := 24) hX dX9_filled_5 rfl ?_ ?_
  · refine J_bipush hX dX9_filled_24 cbm_2 ?_
    exact J_retI hR dX9_filled_26
  · refine J_aload_n 0 hX dX9_filled_8 fz0 rfl ?_
    refine J_iload_n 2 hX dX9_filled_9 fz2 rfl ?_
    refine J_callVI (As := [.int v2]) (st := []) (b := 0) hX mv_X9_142 sk_0 rfl rfl rfl (Nat.le_of_ble_eq_true rfl) (Nat.le_of_ble_eq_true rfl) (Nat.le_of_ble_eq_true rfl) dX9_filled_10 (fun r G1 h => ok_X9_isCard  h) fun r10 G10 => ?_
    refine J_if_eq (tgt := 24) hX dX9_filled_13 rfl ?_ ?_
    · refine J_bipush hX dX9_filled_24 cbm_2 ?_
      exact J_retI hR dX9_filled_26
    · refine J_aload_n 0 hX dX9_filled_16 fz0 rfl ?_
      refine J_iload_n 3 hX dX9_filled_17 fz3 rfl ?_
      refine J_callVI (As := [.int v3]) (st := []) (b := 0) hX mv_X9_121 sk_0 rfl rfl rfl (Nat.le_of_ble_eq_true rfl) (Nat.le_of_ble_eq_true rfl) (Nat.le_of_ble_eq_true rfl) dX9_filled_18 (fun r G1 h => ok_X9_isColumn  h) fun r18 G18 => ?_
      refine J_if_ne (tgt := 27) hX dX9_filled_21 rfl ?_ ?_
      · refine J_aload_n 0 hX dX9_filled_27 fz0 rfl ?_
        refine J_iload_n 1 hX dX9_filled_28 fz1 rfl ?_
        refine J_iload_n 2 hX dX9_filled_29 fz2 rfl ?_
        refine J_callVR (As := [.int v1, .int v2]) (st := []) (b := 0) hX mv_X9_244 sk_0 rfl rfl rfl (Nat.le_of_ble_eq_true rfl) (Nat.le_of_ble_eq_true rfl) (Nat.le_of_ble_eq_true rfl) dX9_filled_30 (fun r G1 h => ok_X9_cardOf  h) fun r30 G30 he30 => ?_
        obtain rfl := ret_X9_cardOf he30
        refine J_astore (lv' := [(4, .ref (AD Y 71)), (0, .ref (AD Y 0)), (1, .int v1), (2, .int v2), (3, .int v3)]) hX dX9_filled_33 (Nat.le_of_ble_eq_true rfl) rfl ?_
        refine J_iconst hX dX9_filled_35 ci_0 ?_
        refine J_istore (lv' := [(5, .int (0 : Int32)), (4, .ref (AD Y 71)), (0, .ref (AD Y 0)), (1, .int v1), (2, .int v2), (3, .int v3)]) hX dX9_filled_36 (Nat.le_of_ble_eq_true rfl) rfl ?_
        refine J_iconst hX dX9_filled_38 ci_0 ?_
        refine J_istore (lv' := [(6, .int (0 : Int32)), (5, .int (0 : Int32)), (4, .ref (AD Y 71)), (0, .ref (AD Y 0)), (1, .int v1), (2, .int v2), (3, .int v3)]) hX dX9_filled_39 (Nat.le_of_ble_eq_true rfl) rfl ?_
        refine J_sub (lv' := [(0, .ref (AD Y 0)), (3, .int v3), (4, .ref (AD Y 71)), (5, .int (0 : Int32)), (6, .int (0 : Int32))]) [3, 6, 2, 1, 0] rfl ?_
        exact K41  FU (0 : Int32) (0 : Int32) G30
      · refine J_bipush hX dX9_filled_24 cbm_2 ?_
        exact J_retI hR dX9_filled_26
set_option maxHeartbeats 4000000 in
set_option maxRecDepth 100000 in
theorem ok_X9_last {Y : DX} {v1 : Int32} {v2 : Int32}  {G : GM} {r : Int32} {G' : GM} (hf : f_X9_last v1 v2 G = some (r, G')) : OkI Y 11 M_X9_last [.ref (AD Y 0), .int v1, .int v2] G r G' := by
  refine okI_of (lv0 := [(0, .ref (AD Y 0)), (1, .int v1), (2, .int v2)]) (by decide +kernel) rfl (Nat.le_of_ble_eq_true rfl) ?_
  intro X Q hX hR
  have hX : CXok X Y RX9 cX9_last 4 _ := hX
  revert hf
  show J X Y 4 Q 0 [(0, .ref (AD Y 0)), (1, .int v1), (2, .int v2)] [] G (f_X9_last v1 v2 G = some (r, G'))
  unfold f_X9_last
  refine J_aload_n 0 hX dX9_last_0 fz0 rfl ?_
  refine J_iload_n 1 hX dX9_last_1 fz1 rfl ?_
  refine J_callVI (As := [.int v1]) (st := []) (b := 0) hX mv_X9_183 sk_0 rfl rfl rfl (Nat.le_of_ble_eq_true rfl) (Nat.le_of_ble_eq_true rfl) (Nat.le_of_ble_eq_true rfl) dX9_last_2 (fun r G1 h => ok_X9_isSerial  h) fun r2 G2 => ?_
  refine J_if_eq (tgt := 16) hX dX9_last_5 rfl ?_ ?_
  · refine J_bipush hX dX9_last_16 cbm_2 ?_
    exact J_retI hR dX9_last_18
  · refine J_aload_n 0 hX dX9_last_8 fz0 rfl ?_
    refine J_iload_n 2 hX dX9_last_9 fz2 rfl ?_
    refine J_callVI (As := [.int v2]) (st := []) (b := 0) hX mv_X9_142 sk_0 rfl rfl rfl (Nat.le_of_ble_eq_true rfl) (Nat.le_of_ble_eq_true rfl) (Nat.le_of_ble_eq_true rfl) dX9_last_10 (fun r G1 h => ok_X9_isCard  h) fun r10 G10 => ?_
    refine J_if_ne (tgt := 19) hX dX9_last_13 rfl ?_ ?_
    · refine J_aload_n 0 hX dX9_last_19 fz0 rfl ?_
      refine J_iload_n 1 hX dX9_last_20 fz1 rfl ?_
      refine J_iload_n 2 hX dX9_last_21 fz2 rfl ?_
      refine J_callVR (As := [.int v1, .int v2]) (st := []) (b := 0) hX mv_X9_244 sk_0 rfl rfl rfl (Nat.le_of_ble_eq_true rfl) (Nat.le_of_ble_eq_true rfl) (Nat.le_of_ble_eq_true rfl) dX9_last_22 (fun r G1 h => ok_X9_cardOf  h) fun r22 G22 he22 => ?_
      obtain rfl := ret_X9_cardOf he22
      refine J_iconst hX dX9_last_25 ci_2 ?_
      refine J_callVI (As := [.int (2 : Int32)]) (st := []) (b := 71) hX mv_X9_260 sk_71 rfl rfl rfl (Nat.le_of_ble_eq_true rfl) (Nat.le_of_ble_eq_true rfl) (Nat.le_of_ble_eq_true rfl) dX9_last_26 (fun r G1 h => ok_X0_turnOf  h) fun r26 G26 => ?_
      refine J_istore_n (lv' := [(3, .int r26), (0, .ref (AD Y 0)), (1, .int v1), (2, .int v2)]) hX dX9_last_29 fz3 (Nat.le_of_ble_eq_true rfl) rfl ?_
      refine J_iload_n 0 hX dX9_last_30 fz3 rfl ?_
      refine J_iconst hX dX9_last_31 ci_1 ?_
      refine J_icmp_lt (tgt := 49) hX dX9_last_32 rfl ?_ ?_
      · refine J_bipush hX dX9_last_49 cbm_2 ?_
        refine J_goto (tgt := 65) hX dX9_last_51 rfl ?_
        exact J_retI hR dX9_last_65
      · refine J_iload_n 0 hX dX9_last_35 fz3 rfl ?_
        refine J_aload_n 1 hX dX9_last_36 fz0 rfl ?_
        refine J_getNow hX dX9_last_37 lf_X9_10 fun hw37 => ?_
        refine J_getR (b := ((nw G26) + 1)) hX dX9_last_40 lf_X9_98 hw37 rfl (by decide) rfl ?_
        refine J_getI hX dX9_last_43 lf_X9_136 (tp_4_0 hw37) rfl ?_
        refine J_icmp_le (tgt := 54) hX dX9_last_46 rfl ?_ ?_
        · refine J_aload_n 1 hX dX9_last_54 fz0 rfl ?_
          refine J_getNow hX dX9_last_55 lf_X9_10 fun hw55 => ?_
          refine J_getR (b := ((nw G26) + 20)) hX dX9_last_58 lf_X9_105 hw55 rfl (by decide) rfl ?_
          refine J_iload_n 0 hX dX9_last_61 fz3 rfl ?_
          refine J_iconst hX dX9_last_62 ci_1 ?_
          refine J_isub hX dX9_last_63 ?_
          refine J_iald hX dX9_last_64 (tp_4_8 hw55) (tl_4_8 hw55) ?_
          exact J_retI hR dX9_last_65
        · refine J_bipush hX dX9_last_49 cbm_2 ?_
          refine J_goto (tgt := 65) hX dX9_last_51 rfl ?_
          exact J_retI hR dX9_last_65
    · refine J_bipush hX dX9_last_16 cbm_2 ?_
      exact J_retI hR dX9_last_18
set_option maxHeartbeats 4000000 in
set_option maxRecDepth 100000 in
theorem ok_X9_sweat {Y : DX} {v1 : Int32} {v2 : Int32}  {G : GM} {r : Int32} {G' : GM} (hf : f_X9_sweat v1 v2 G = some (r, G')) : OkI Y 4 M_X9_sweat [.ref (AD Y 0), .int v1, .int v2] G r G' := by
  refine okI_of (lv0 := [(0, .ref (AD Y 0)), (1, .int v1), (2, .int v2)]) (by decide +kernel) rfl (Nat.le_of_ble_eq_true rfl) ?_
  intro X Q hX hR
  have hX : CXok X Y RX9 cX9_sweat 6 _ := hX
  revert hf
  show J X Y 6 Q 0 [(0, .ref (AD Y 0)), (1, .int v1), (2, .int v2)] [] G (f_X9_sweat v1 v2 G = some (r, G'))
  have K24 : ∀  (n : Nat) (v3 : Int32) (v4 : Int32) (G : GM), J X Y 6 Q 24 [(0, .ref (AD Y 0)), (1, .int v1), (2, .int v2), (3, .int v3), (4, .int v4)] [] G (wl2 n (lp_X9_sweat_24 v1 v2) v3 v4 G = some (r, G')) := by
    refine wl2_ind (R := fun v3 v4 G φ => J X Y 6 Q 24 [(0, .ref (AD Y 0)), (1, .int v1), (2, .int v2), (3, .int v3), (4, .int v4)] [] G φ) (fun _ _ G φ h => J_no h) ?_
    intro kc24 hk24 v3 v4 G
    unfold lp_X9_sweat_24
    have K39 : ∀ (v4 : Int32) (n : Nat) (v3 : Int32) (v5 : Int32) (G : GM), J X Y 6 Q 39 [(0, .ref (AD Y 0)), (1, .int v1), (2, .int v2), (3, .int v3), (4, .int v4), (5, .int v5)] [] G (wl2 n (lp_X9_sweat_39 v1 v2 v4 kc24) v3 v5 G = some (r, G')) := by
      intro v4
      refine wl2_ind (R := fun v3 v5 G φ => J X Y 6 Q 39 [(0, .ref (AD Y 0)), (1, .int v1), (2, .int v2), (3, .int v3), (4, .int v4), (5, .int v5)] [] G φ) (fun _ _ G φ h => J_no h) ?_
      intro kc39 hk39 v3 v5 G
      unfold lp_X9_sweat_39
      refine J_iload 5 hX dX9_sweat_39 rfl ?_
      refine J_aload_n 0 hX dX9_sweat_41 fz0 rfl ?_
      refine J_getNow hX dX9_sweat_42 lf_X9_10 fun hw42 => ?_
      refine J_getR (b := ((nw G) + 1)) hX dX9_sweat_45 lf_X9_98 hw42 rfl (by decide) rfl ?_
      refine J_getI hX dX9_sweat_48 lf_X9_200 (tp_4_0 hw42) rfl ?_
      refine J_icmp_ge (tgt := 87) hX dX9_sweat_51 rfl ?_ ?_
      · refine J_iinc (lv' := [(4, .int (v4 + (1 : Int32))), (0, .ref (AD Y 0)), (1, .int v1), (2, .int v2), (3, .int v3), (5, .int v5)]) 4 hX dX9_sweat_87 rfl ci_1 (Nat.le_of_ble_eq_true rfl) rfl ?_
        refine J_goto (tgt := 24) hX dX9_sweat_90 rfl ?_
        refine J_sub (lv' := [(0, .ref (AD Y 0)), (1, .int v1), (2, .int v2), (3, .int v3), (4, .int (v4 + (1 : Int32)))]) [1, 2, 3, 4, 0] rfl ?_
        exact hk24 v3 (v4 + (1 : Int32)) G
      · refine J_aload_n 0 hX dX9_sweat_54 fz0 rfl ?_
        refine J_iload 4 hX dX9_sweat_55 rfl ?_
        refine J_iload 5 hX dX9_sweat_57 rfl ?_
        refine J_aload_n 0 hX dX9_sweat_59 fz0 rfl ?_
        refine J_getNow hX dX9_sweat_60 lf_X9_10 fun hw60 => ?_
        refine J_getR (b := ((nw G) + 21)) hX dX9_sweat_63 lf_X9_238 hw60 rfl (by decide) rfl ?_
        refine J_callVR (As := [.int v4, .int v5, .ref (AD Y ((nw G) + 21))]) (st := []) (b := 0) hX mv_X9_301 sk_0 rfl rfl rfl (Nat.le_of_ble_eq_true rfl) (Nat.le_of_ble_eq_true rfl) (Nat.le_of_ble_eq_true rfl) dX9_sweat_66 (fun r G1 h => ok_X9_soldCard (tp_4_9 hw60) h) fun r66 G66 he66 => ?_
        obtain rfl := ret_X9_soldCard he66
        refine J_iload_n 1 hX dX9_sweat_69 fz1 rfl ?_
        refine J_iload_n 2 hX dX9_sweat_70 fz2 rfl ?_
        refine J_callVI (As := [.int v1, .int v2]) (st := []) (b := 71) hX mv_X9_257 sk_71 rfl rfl rfl (Nat.le_of_ble_eq_true rfl) (Nat.le_of_ble_eq_true rfl) (Nat.le_of_ble_eq_true rfl) dX9_sweat_71 (fun r G1 h => ok_X0_lackOf  h) fun r71 G71 => ?_
        refine J_iconst hX dX9_sweat_74 ci_1 ?_
        refine J_icmp_ne (tgt := 81) hX dX9_sweat_75 rfl ?_ ?_
        · refine J_iinc (lv' := [(5, .int (v5 + (1 : Int32))), (0, .ref (AD Y 0)), (1, .int v1), (2, .int v2), (3, .int v3), (4, .int v4)]) 5 hX dX9_sweat_81 rfl ci_1 (Nat.le_of_ble_eq_true rfl) rfl ?_
          refine J_goto (tgt := 39) hX dX9_sweat_84 rfl ?_
          refine J_sub (lv' := [(0, .ref (AD Y 0)), (1, .int v1), (2, .int v2), (3, .int v3), (4, .int v4), (5, .int (v5 + (1 : Int32)))]) [1, 2, 3, 4, 5, 0] rfl ?_
          exact hk39 v3 (v5 + (1 : Int32)) G71
        · refine J_iinc (lv' := [(3, .int (v3 + (1 : Int32))), (0, .ref (AD Y 0)), (1, .int v1), (2, .int v2), (4, .int v4), (5, .int v5)]) 3 hX dX9_sweat_78 rfl ci_1 (Nat.le_of_ble_eq_true rfl) rfl ?_
          refine J_iinc (lv' := [(5, .int (v5 + (1 : Int32))), (3, .int (v3 + (1 : Int32))), (0, .ref (AD Y 0)), (1, .int v1), (2, .int v2), (4, .int v4)]) 5 hX dX9_sweat_81 rfl ci_1 (Nat.le_of_ble_eq_true rfl) rfl ?_
          refine J_goto (tgt := 39) hX dX9_sweat_84 rfl ?_
          refine J_sub (lv' := [(0, .ref (AD Y 0)), (1, .int v1), (2, .int v2), (3, .int (v3 + (1 : Int32))), (4, .int v4), (5, .int (v5 + (1 : Int32)))]) [2, 3, 4, 1, 5, 0] rfl ?_
          exact hk39 (v3 + (1 : Int32)) (v5 + (1 : Int32)) G71
    refine J_iload 4 hX dX9_sweat_24 rfl ?_
    refine J_aload_n 0 hX dX9_sweat_26 fz0 rfl ?_
    refine J_getNow hX dX9_sweat_27 lf_X9_10 fun hw27 => ?_
    refine J_getI hX dX9_sweat_30 lf_X9_217 hw27 rfl ?_
    refine J_icmp_ge (tgt := 93) hX dX9_sweat_33 rfl ?_ ?_
    · refine J_iload_n 3 hX dX9_sweat_93 fz3 rfl ?_
      exact J_retI hR dX9_sweat_94
    · refine J_iconst hX dX9_sweat_36 ci_0 ?_
      refine J_istore (lv' := [(5, .int (0 : Int32)), (0, .ref (AD Y 0)), (1, .int v1), (2, .int v2), (3, .int v3), (4, .int v4)]) hX dX9_sweat_37 (Nat.le_of_ble_eq_true rfl) rfl ?_
      refine J_sub (lv' := [(0, .ref (AD Y 0)), (1, .int v1), (2, .int v2), (3, .int v3), (4, .int v4), (5, .int (0 : Int32))]) [1, 2, 3, 4, 5, 0] rfl ?_
      exact K39 v4 FU v3 (0 : Int32) G
  unfold f_X9_sweat
  refine J_aload_n 0 hX dX9_sweat_0 fz0 rfl ?_
  refine J_iload_n 1 hX dX9_sweat_1 fz1 rfl ?_
  refine J_callVI (As := [.int v1]) (st := []) (b := 0) hX mv_X9_254 sk_0 rfl rfl rfl (Nat.le_of_ble_eq_true rfl) (Nat.le_of_ble_eq_true rfl) (Nat.le_of_ble_eq_true rfl) dX9_sweat_2 (fun r G1 h => ok_X9_isKind  h) fun r2 G2 => ?_
  refine J_if_eq (tgt := 16) hX dX9_sweat_5 rfl ?_ ?_
  · refine J_bipush hX dX9_sweat_16 cbm_2 ?_
    exact J_retI hR dX9_sweat_18
  · refine J_aload_n 0 hX dX9_sweat_8 fz0 rfl ?_
    refine J_iload_n 2 hX dX9_sweat_9 fz2 rfl ?_
    refine J_callVI (As := [.int v2]) (st := []) (b := 0) hX mv_X9_241 sk_0 rfl rfl rfl (Nat.le_of_ble_eq_true rfl) (Nat.le_of_ble_eq_true rfl) (Nat.le_of_ble_eq_true rfl) dX9_sweat_10 (fun r G1 h => ok_X9_isTime  h) fun r10 G10 => ?_
    refine J_if_ne (tgt := 19) hX dX9_sweat_13 rfl ?_ ?_
    · refine J_iconst hX dX9_sweat_19 ci_0 ?_
      refine J_istore_n (lv' := [(3, .int (0 : Int32)), (0, .ref (AD Y 0)), (1, .int v1), (2, .int v2)]) hX dX9_sweat_20 fz3 (Nat.le_of_ble_eq_true rfl) rfl ?_
      refine J_iconst hX dX9_sweat_21 ci_0 ?_
      refine J_istore (lv' := [(4, .int (0 : Int32)), (3, .int (0 : Int32)), (0, .ref (AD Y 0)), (1, .int v1), (2, .int v2)]) hX dX9_sweat_22 (Nat.le_of_ble_eq_true rfl) rfl ?_
      refine J_sub (lv' := [(0, .ref (AD Y 0)), (1, .int v1), (2, .int v2), (3, .int (0 : Int32)), (4, .int (0 : Int32))]) [2, 3, 4, 1, 0] rfl ?_
      exact K24  FU (0 : Int32) (0 : Int32) G10
    · refine J_bipush hX dX9_sweat_16 cbm_2 ?_
      exact J_retI hR dX9_sweat_18
set_option maxHeartbeats 4000000 in
set_option maxRecDepth 100000 in
theorem ok_X9_nearest {Y : DX} {v1 : Int32} {v2 : Int32}  {G : GM} {r : Int32} {G' : GM} (hf : f_X9_nearest v1 v2 G = some (r, G')) : OkI Y 4 M_X9_nearest [.ref (AD Y 0), .int v1, .int v2] G r G' := by
  refine okI_of (lv0 := [(0, .ref (AD Y 0)), (1, .int v1), (2, .int v2)]) (by decide +kernel) rfl (Nat.le_of_ble_eq_true rfl) ?_
  intro X Q hX hR
  have hX : CXok X Y RX9 cX9_nearest 7 _ := hX
  revert hf
  show J X Y 7 Q 0 [(0, .ref (AD Y 0)), (1, .int v1), (2, .int v2)] [] G (f_X9_nearest v1 v2 G = some (r, G'))
  have K24 : ∀  (n : Nat) (v3 : Int32) (v4 : Int32) (G : GM), J X Y 7 Q 24 [(0, .ref (AD Y 0)), (1, .int v1), (2, .int v2), (3, .int v3), (4, .int v4)] [] G (wl2 n (lp_X9_nearest_24 v1 v2) v3 v4 G = some (r, G')) := by
    refine wl2_ind (R := fun v3 v4 G φ => J X Y 7 Q 24 [(0, .ref (AD Y 0)), (1, .int v1), (2, .int v2), (3, .int v3), (4, .int v4)] [] G φ) (fun _ _ G φ h => J_no h) ?_
    intro kc24 hk24 v3 v4 G
    unfold lp_X9_nearest_24
    have K39 : ∀ (v4 : Int32) (n : Nat) (v3 : Int32) (v5 : Int32) (G : GM), J X Y 7 Q 39 [(0, .ref (AD Y 0)), (1, .int v1), (2, .int v2), (3, .int v3), (4, .int v4), (5, .int v5)] [] G (wl2 n (lp_X9_nearest_39 v1 v2 v4 kc24) v3 v5 G = some (r, G')) := by
      intro v4
      refine wl2_ind (R := fun v3 v5 G φ => J X Y 7 Q 39 [(0, .ref (AD Y 0)), (1, .int v1), (2, .int v2), (3, .int v3), (4, .int v4), (5, .int v5)] [] G φ) (fun _ _ G φ h => J_no h) ?_
      intro kc39 hk39 v3 v5 G
      unfold lp_X9_nearest_39
      have K93 : ∀ (v5 : Int32) (v6 : Int32) (G : GM), J X Y 7 Q 93 [(0, .ref (AD Y 0)), (1, .int v1), (2, .int v2), (4, .int v4), (5, .int v5), (6, .int v6)] [] G (k_X9_nearest_93 v1 v2 v4 v5 v6 kc24 kc39 G = some (r, G')) := by
        intro v5 v6 G
        unfold k_X9_nearest_93
        refine J_iload 5 hX dX9_nearest_93 rfl ?_
        refine J_istore_n (lv' := [(3, .int v6), (0, .ref (AD Y 0)), (1, .int v1), (2, .int v2), (4, .int v4), (5, .int v5), (6, .int v6)]) hX dX9_nearest_95 fz3 (Nat.le_of_ble_eq_true rfl) rfl ?_
        refine J_iinc (lv' := [(5, .int (v5 + (1 : Int32))), (3, .int v6), (0, .ref (AD Y 0)), (1, .int v1), (2, .int v2), (4, .int v4), (6, .int v6)]) 5 hX dX9_nearest_96 rfl ci_1 (Nat.le_of_ble_eq_true rfl) rfl ?_
        refine J_goto (tgt := 39) hX dX9_nearest_99 rfl ?_
        refine J_sub (lv' := [(0, .ref (AD Y 0)), (1, .int v1), (2, .int v2), (3, .int v6), (4, .int v4), (5, .int (v5 + (1 : Int32)))]) [2, 3, 4, 1, 5, 0] rfl ?_
        exact hk39 v6 (v5 + (1 : Int32)) G
      refine J_iload 5 hX dX9_nearest_39 rfl ?_
      refine J_aload_n 0 hX dX9_nearest_41 fz0 rfl ?_
      refine J_getNow hX dX9_nearest_42 lf_X9_10 fun hw42 => ?_
      refine J_getR (b := ((nw G) + 1)) hX dX9_nearest_45 lf_X9_98 hw42 rfl (by decide) rfl ?_
      refine J_getI hX dX9_nearest_48 lf_X9_200 (tp_4_0 hw42) rfl ?_
      refine J_icmp_ge (tgt := 102) hX dX9_nearest_51 rfl ?_ ?_
      · refine J_iinc (lv' := [(4, .int (v4 + (1 : Int32))), (0, .ref (AD Y 0)), (1, .int v1), (2, .int v2), (3, .int v3), (5, .int v5)]) 4 hX dX9_nearest_102 rfl ci_1 (Nat.le_of_ble_eq_true rfl) rfl ?_
        refine J_goto (tgt := 24) hX dX9_nearest_105 rfl ?_
        refine J_sub (lv' := [(0, .ref (AD Y 0)), (1, .int v1), (2, .int v2), (3, .int v3), (4, .int (v4 + (1 : Int32)))]) [1, 2, 3, 4, 0] rfl ?_
        exact hk24 v3 (v4 + (1 : Int32)) G
      · refine J_aload_n 0 hX dX9_nearest_54 fz0 rfl ?_
        refine J_iload 4 hX dX9_nearest_55 rfl ?_
        refine J_iload 5 hX dX9_nearest_57 rfl ?_
        refine J_aload_n 0 hX dX9_nearest_59 fz0 rfl ?_
        refine J_getNow hX dX9_nearest_60 lf_X9_10 fun hw60 => ?_
        refine J_getR (b := ((nw G) + 21)) hX dX9_nearest_63 lf_X9_238 hw60 rfl (by decide) rfl ?_
        refine J_callVR (As := [.int v4, .int v5, .ref (AD Y ((nw G) + 21))]) (st := []) (b := 0) hX mv_X9_301 sk_0 rfl rfl rfl (Nat.le_of_ble_eq_true rfl) (Nat.le_of_ble_eq_true rfl) (Nat.le_of_ble_eq_true rfl) dX9_nearest_66 (fun r G1 h => ok_X9_soldCard (tp_4_9 hw60) h) fun r66 G66 he66 => ?_
        obtain rfl := ret_X9_soldCard he66
        refine J_iload_n 1 hX dX9_nearest_69 fz1 rfl ?_
        refine J_iload_n 2 hX dX9_nearest_70 fz2 rfl ?_
        refine J_callVI (As := [.int v1, .int v2]) (st := []) (b := 71) hX mv_X9_257 sk_71 rfl rfl rfl (Nat.le_of_ble_eq_true rfl) (Nat.le_of_ble_eq_true rfl) (Nat.le_of_ble_eq_true rfl) dX9_nearest_71 (fun r G1 h => ok_X0_lackOf  h) fun r71 G71 => ?_
        refine J_istore (lv' := [(6, .int r71), (0, .ref (AD Y 0)), (1, .int v1), (2, .int v2), (3, .int v3), (4, .int v4), (5, .int v5)]) hX dX9_nearest_74 (Nat.le_of_ble_eq_true rfl) rfl ?_
        refine J_iload 0 hX dX9_nearest_76 rfl ?_
        refine J_iconst hX dX9_nearest_78 cim_1 ?_
        refine J_icmp_eq (tgt := 96) hX dX9_nearest_79 rfl ?_ ?_
        · refine J_iinc (lv' := [(5, .int (v5 + (1 : Int32))), (6, .int r71), (0, .ref (AD Y 0)), (1, .int v1), (2, .int v2), (3, .int v3), (4, .int v4)]) 6 hX dX9_nearest_96 rfl ci_1 (Nat.le_of_ble_eq_true rfl) rfl ?_
          refine J_goto (tgt := 39) hX dX9_nearest_99 rfl ?_
          refine J_sub (lv' := [(0, .ref (AD Y 0)), (1, .int v1), (2, .int v2), (3, .int v3), (4, .int v4), (5, .int (v5 + (1 : Int32)))]) [2, 3, 4, 5, 6, 0] rfl ?_
          exact hk39 v3 (v5 + (1 : Int32)) G71
        · refine J_iload_n 4 hX dX9_nearest_82 fz3 rfl ?_
          refine J_iconst hX dX9_nearest_83 cim_1 ?_
          refine J_icmp_eq (tgt := 93) hX dX9_nearest_84 rfl ?_ ?_
          · refine J_sub (lv' := [(0, .ref (AD Y 0)), (1, .int v1), (2, .int v2), (4, .int v4), (5, .int v5), (6, .int r71)]) [1, 2, 3, 5, 6, 0] rfl ?_
            exact K93 v5 r71 G71
          · refine J_iload 0 hX dX9_nearest_87 rfl ?_
            refine J_iload_n 4 hX dX9_nearest_89 fz3 rfl ?_
            refine J_icmp_ge (tgt := 96) hX dX9_nearest_90 rfl ?_ ?_
            · refine J_iinc (lv' := [(5, .int (v5 + (1 : Int32))), (6, .int r71), (0, .ref (AD Y 0)), (1, .int v1), (2, .int v2), (3, .int v3), (4, .int v4)]) 6 hX dX9_nearest_96 rfl ci_1 (Nat.le_of_ble_eq_true rfl) rfl ?_
              refine J_goto (tgt := 39) hX dX9_nearest_99 rfl ?_
              refine J_sub (lv' := [(0, .ref (AD Y 0)), (1, .int v1), (2, .int v2), (3, .int v3), (4, .int v4), (5, .int (v5 + (1 : Int32)))]) [2, 3, 4, 5, 6, 0] rfl ?_
              exact hk39 v3 (v5 + (1 : Int32)) G71
            · refine J_sub (lv' := [(0, .ref (AD Y 0)), (1, .int v1), (2, .int v2), (4, .int v4), (5, .int v5), (6, .int r71)]) [1, 2, 3, 5, 6, 0] rfl ?_
              exact K93 v5 r71 G71
    refine J_iload 4 hX dX9_nearest_24 rfl ?_
    refine J_aload_n 0 hX dX9_nearest_26 fz0 rfl ?_
    refine J_getNow hX dX9_nearest_27 lf_X9_10 fun hw27 => ?_
    refine J_getI hX dX9_nearest_30 lf_X9_217 hw27 rfl ?_
    refine J_icmp_ge (tgt := 108) hX dX9_nearest_33 rfl ?_ ?_
    · refine J_iload_n 3 hX dX9_nearest_108 fz3 rfl ?_
      exact J_retI hR dX9_nearest_109
    · refine J_iconst hX dX9_nearest_36 ci_0 ?_
      refine J_istore (lv' := [(5, .int (0 : Int32)), (0, .ref (AD Y 0)), (1, .int v1), (2, .int v2), (3, .int v3), (4, .int v4)]) hX dX9_nearest_37 (Nat.le_of_ble_eq_true rfl) rfl ?_
      refine J_sub (lv' := [(0, .ref (AD Y 0)), (1, .int v1), (2, .int v2), (3, .int v3), (4, .int v4), (5, .int (0 : Int32))]) [1, 2, 3, 4, 5, 0] rfl ?_
      exact K39 v4 FU v3 (0 : Int32) G
  unfold f_X9_nearest
  refine J_aload_n 0 hX dX9_nearest_0 fz0 rfl ?_
  refine J_iload_n 1 hX dX9_nearest_1 fz1 rfl ?_
  refine J_callVI (As := [.int v1]) (st := []) (b := 0) hX mv_X9_254 sk_0 rfl rfl rfl (Nat.le_of_ble_eq_true rfl) (Nat.le_of_ble_eq_true rfl) (Nat.le_of_ble_eq_true rfl) dX9_nearest_2 (fun r G1 h => ok_X9_isKind  h) fun r2 G2 => ?_
  refine J_if_eq (tgt := 16) hX dX9_nearest_5 rfl ?_ ?_
  · refine J_bipush hX dX9_nearest_16 cbm_2 ?_
    exact J_retI hR dX9_nearest_18
  · refine J_aload_n 0 hX dX9_nearest_8 fz0 rfl ?_
    refine J_iload_n 2 hX dX9_nearest_9 fz2 rfl ?_
    refine J_callVI (As := [.int v2]) (st := []) (b := 0) hX mv_X9_241 sk_0 rfl rfl rfl (Nat.le_of_ble_eq_true rfl) (Nat.le_of_ble_eq_true rfl) (Nat.le_of_ble_eq_true rfl) dX9_nearest_10 (fun r G1 h => ok_X9_isTime  h) fun r10 G10 => ?_
    refine J_if_ne (tgt := 19) hX dX9_nearest_13 rfl ?_ ?_
    · refine J_iconst hX dX9_nearest_19 cim_1 ?_
      refine J_istore_n (lv' := [(3, .int (-1 : Int32)), (0, .ref (AD Y 0)), (1, .int v1), (2, .int v2)]) hX dX9_nearest_20 fz3 (Nat.le_of_ble_eq_true rfl) rfl ?_
      refine J_iconst hX dX9_nearest_21 ci_0 ?_
      refine J_istore (lv' := [(4, .int (0 : Int32)), (3, .int (-1 : Int32)), (0, .ref (AD Y 0)), (1, .int v1), (2, .int v2)]) hX dX9_nearest_22 (Nat.le_of_ble_eq_true rfl) rfl ?_
      refine J_sub (lv' := [(0, .ref (AD Y 0)), (1, .int v1), (2, .int v2), (3, .int (-1 : Int32)), (4, .int (0 : Int32))]) [2, 3, 4, 1, 0] rfl ?_
      exact K24  FU (-1 : Int32) (0 : Int32) G10
    · refine J_bipush hX dX9_nearest_16 cbm_2 ?_
      exact J_retI hR dX9_nearest_18
set_option maxHeartbeats 4000000 in
set_option maxRecDepth 100000 in
theorem ok_X9_daubTime {Y : DX} {v0 : Int32} {v1 : Int32} {v2 : Int32} {v3 : Int32}  {G : GM} {r : Int32} {G' : GM} (hf : f_X9_daubTime v0 v1 v2 v3 G = some (r, G')) : OkI Y 1 M_X9_daubTime [.int v0, .int v1, .int v2, .int v3] G r G' := by
  refine okI_of (lv0 := [(0, .int v0), (1, .int v1), (2, .int v2), (3, .int v3)]) (by decide +kernel) rfl (Nat.le_of_ble_eq_true rfl) ?_
  intro X Q hX hR
  have hX : CXok X Y RX9 cX9_daubTime 4 _ := hX
  revert hf
  show J X Y 4 Q 0 [(0, .int v0), (1, .int v1), (2, .int v2), (3, .int v3)] [] G (f_X9_daubTime v0 v1 v2 v3 G = some (r, G'))
  unfold f_X9_daubTime
  refine J_iload_n 3 hX dX9_daubTime_0 fz3 rfl ?_
  refine J_iconst hX dX9_daubTime_1 ci_1 ?_
  refine J_icmp_lt (tgt := 10) hX dX9_daubTime_2 rfl ?_ ?_
  · refine J_iload_n 0 hX dX9_daubTime_10 fz0 rfl ?_
    exact J_retI hR dX9_daubTime_11
  · refine J_iload_n 2 hX dX9_daubTime_5 fz2 rfl ?_
    refine J_iload_n 3 hX dX9_daubTime_6 fz3 rfl ?_
    refine J_icmp_gt (tgt := 12) hX dX9_daubTime_7 rfl ?_ ?_
    · refine J_iload_n 0 hX dX9_daubTime_12 fz0 rfl ?_
      refine J_iconst hX dX9_daubTime_13 ci_1 ?_
      refine J_isub hX dX9_daubTime_14 ?_
      refine J_iload_n 2 hX dX9_daubTime_15 fz2 rfl ?_
      refine J_imul hX dX9_daubTime_16 ?_
      refine J_iload_n 1 hX dX9_daubTime_17 fz1 rfl ?_
      refine J_iadd hX dX9_daubTime_18 ?_
      refine J_iload_n 3 hX dX9_daubTime_19 fz3 rfl ?_
      refine J_idiv hX dX9_daubTime_20 ?_
      refine J_iconst hX dX9_daubTime_21 ci_1 ?_
      refine J_iadd hX dX9_daubTime_22 ?_
      exact J_retI hR dX9_daubTime_23
    · refine J_iload_n 0 hX dX9_daubTime_10 fz0 rfl ?_
      exact J_retI hR dX9_daubTime_11
set_option maxHeartbeats 4000000 in
set_option maxRecDepth 100000 in
theorem ok_X9_slow {Y : DX} {v1 : Int32} {v2 : Int32} {v3 : Int32} {v4 : Int32}  {G : GM} {r : Int32} {G' : GM} (hf : f_X9_slow v1 v2 v3 v4 G = some (r, G')) : OkI Y 5 M_X9_slow [.ref (AD Y 0), .int v1, .int v2, .int v3, .int v4] G r G' := by
  refine okI_of (lv0 := [(0, .ref (AD Y 0)), (1, .int v1), (2, .int v2), (3, .int v3), (4, .int v4)]) (by decide +kernel) rfl (Nat.le_of_ble_eq_true rfl) ?_
  intro X Q hX hR
  have hX : CXok X Y RX9 cX9_slow 9 _ := hX
  revert hf
  show J X Y 9 Q 0 [(0, .ref (AD Y 0)), (1, .int v1), (2, .int v2), (3, .int v3), (4, .int v4)] [] G (f_X9_slow v1 v2 v3 v4 G = some (r, G'))
  have K60 : ∀  (n : Nat) (v5 : Int32) (v6 : Int32) (G : GM), J X Y 9 Q 60 [(0, .ref (AD Y 0)), (1, .int v1), (2, .int v2), (3, .int v3), (4, .int v4), (5, .int v5), (6, .int v6)] [] G (wl2 n (lp_X9_slow_60 v1 v2 v3 v4) v5 v6 G = some (r, G')) := by
    refine wl2_ind (R := fun v5 v6 G φ => J X Y 9 Q 60 [(0, .ref (AD Y 0)), (1, .int v1), (2, .int v2), (3, .int v3), (4, .int v4), (5, .int v5), (6, .int v6)] [] G φ) (fun _ _ G φ h => J_no h) ?_
    intro kc60 hk60 v5 v6 G
    unfold lp_X9_slow_60
    have K120 : ∀ (v6 : Int32) (s0 : Int32) (G : GM), J X Y 9 Q 120 [(0, .ref (AD Y 0)), (1, .int v1), (2, .int v2), (3, .int v3), (4, .int v4), (6, .int v6)] [.int s0] G (k_X9_slow_120 v1 v2 v3 v4 v6 s0 kc60 G = some (r, G')) := by
      intro v6 s0 G
      unfold k_X9_slow_120
      refine J_istore (lv' := [(5, .int s0), (0, .ref (AD Y 0)), (1, .int v1), (2, .int v2), (3, .int v3), (4, .int v4), (6, .int v6)]) hX dX9_slow_120 (Nat.le_of_ble_eq_true rfl) rfl ?_
      refine J_iinc (lv' := [(6, .int (v6 + (1 : Int32))), (5, .int s0), (0, .ref (AD Y 0)), (1, .int v1), (2, .int v2), (3, .int v3), (4, .int v4)]) 6 hX dX9_slow_122 rfl ci_1 (Nat.le_of_ble_eq_true rfl) rfl ?_
      refine J_goto (tgt := 60) hX dX9_slow_125 rfl ?_
      refine J_sub (lv' := [(0, .ref (AD Y 0)), (1, .int v1), (2, .int v2), (3, .int v3), (4, .int v4), (5, .int s0), (6, .int (v6 + (1 : Int32)))]) [2, 3, 4, 5, 6, 1, 0] rfl ?_
      exact hk60 s0 (v6 + (1 : Int32)) G
    refine J_iload 6 hX dX9_slow_60 rfl ?_
    refine J_iload_n 2 hX dX9_slow_62 fz2 rfl ?_
    refine J_icmp_ge (tgt := 128) hX dX9_slow_63 rfl ?_ ?_
    · refine J_iload 5 hX dX9_slow_128 rfl ?_
      exact J_retI hR dX9_slow_130
    · refine J_aload_n 0 hX dX9_slow_66 fz0 rfl ?_
      refine J_iload_n 1 hX dX9_slow_67 fz1 rfl ?_
      refine J_iload 6 hX dX9_slow_68 rfl ?_
      refine J_iadd hX dX9_slow_70 ?_
      refine J_iload 4 hX dX9_slow_71 rfl ?_
      refine J_aload_n 0 hX dX9_slow_73 fz0 rfl ?_
      refine J_getNow hX dX9_slow_74 lf_X9_10 fun hw74 => ?_
      refine J_getR (b := ((nw G) + 21)) hX dX9_slow_77 lf_X9_238 hw74 rfl (by decide) rfl ?_
      refine J_callVI (As := [.int (v1 + v6), .int v4, .ref (AD Y ((nw G) + 21))]) (st := []) (b := 0) hX mv_X9_298 sk_0 rfl rfl rfl (Nat.le_of_ble_eq_true rfl) (Nat.le_of_ble_eq_true rfl) (Nat.le_of_ble_eq_true rfl) dX9_slow_80 (fun r G1 h => ok_X9_firstTurnOf (tp_4_9 hw74) h) fun r80 G80 => ?_
      refine J_istore (lv' := [(7, .int r80), (0, .ref (AD Y 0)), (1, .int v1), (2, .int v2), (3, .int v3), (4, .int v4), (5, .int v5), (6, .int v6)]) hX dX9_slow_83 (Nat.le_of_ble_eq_true rfl) rfl ?_
      refine J_iload 0 hX dX9_slow_85 rfl ?_
      refine J_iconst hX dX9_slow_87 cim_1 ?_
      refine J_icmp_eq (tgt := 122) hX dX9_slow_88 rfl ?_ ?_
      · refine J_iinc (lv' := [(6, .int (v6 + (1 : Int32))), (7, .int r80), (0, .ref (AD Y 0)), (1, .int v1), (2, .int v2), (3, .int v3), (4, .int v4), (5, .int v5)]) 7 hX dX9_slow_122 rfl ci_1 (Nat.le_of_ble_eq_true rfl) rfl ?_
        refine J_goto (tgt := 60) hX dX9_slow_125 rfl ?_
        refine J_sub (lv' := [(0, .ref (AD Y 0)), (1, .int v1), (2, .int v2), (3, .int v3), (4, .int v4), (5, .int v5), (6, .int (v6 + (1 : Int32)))]) [2, 3, 4, 5, 6, 7, 0] rfl ?_
        exact hk60 v5 (v6 + (1 : Int32)) G80
      · refine J_iload 0 hX dX9_slow_91 rfl ?_
        refine J_iload 7 hX dX9_slow_93 rfl ?_
        refine J_iload_n 3 hX dX9_slow_95 fz2 rfl ?_
        refine J_iload_n 4 hX dX9_slow_96 fz3 rfl ?_
        refine J_callSI (As := [.int r80, .int v6, .int v2, .int v3]) (st := []) hX ms_X9_326 rfl rfl (Nat.le_of_ble_eq_true rfl) (Nat.le_of_ble_eq_true rfl) (Nat.le_of_ble_eq_true rfl) dX9_slow_97 (fun r G1 h => ok_X9_daubTime  h) fun r97 G97 => ?_
        refine J_istore (lv' := [(8, .int r97), (7, .int r80), (0, .ref (AD Y 0)), (1, .int v1), (2, .int v2), (3, .int v3), (4, .int v4), (5, .int v5), (6, .int v6)]) hX dX9_slow_100 (Nat.le_of_ble_eq_true rfl) rfl ?_
        refine J_iload 7 hX dX9_slow_102 rfl ?_
        refine J_iconst hX dX9_slow_104 cim_1 ?_
        refine J_icmp_ne (tgt := 113) hX dX9_slow_105 rfl ?_ ?_
        · refine J_iload 7 hX dX9_slow_113 rfl ?_
          refine J_iload 0 hX dX9_slow_115 rfl ?_
          refine J_mmin hX dX9_slow_117 lm_X9_305 (Nat.le_of_ble_eq_true rfl) (Nat.le_of_ble_eq_true rfl) ?_
          refine J_sub (lv' := [(0, .ref (AD Y 0)), (1, .int v1), (2, .int v2), (3, .int v3), (4, .int v4), (6, .int v6)]) [2, 3, 4, 5, 6, 8] rfl ?_
          exact K120 v6 (jmin v5 r97) G97
        · refine J_iload 0 hX dX9_slow_108 rfl ?_
          refine J_goto (tgt := 120) hX dX9_slow_110 rfl ?_
          refine J_sub (lv' := [(0, .ref (AD Y 0)), (1, .int v1), (2, .int v2), (3, .int v3), (4, .int v4), (6, .int v6)]) [2, 3, 4, 5, 6, 8] rfl ?_
          exact K120 v6 r97 G97
  unfold f_X9_slow
  refine J_aload_n 0 hX dX9_slow_0 fz0 rfl ?_
  refine J_iload 4 hX dX9_slow_1 rfl ?_
  refine J_callVI (As := [.int v4]) (st := []) (b := 0) hX mv_X9_254 sk_0 rfl rfl rfl (Nat.le_of_ble_eq_true rfl) (Nat.le_of_ble_eq_true rfl) (Nat.le_of_ble_eq_true rfl) dX9_slow_3 (fun r G1 h => ok_X9_isKind  h) fun r3 G3 => ?_
  refine J_if_eq (tgt := 31) hX dX9_slow_6 rfl ?_ ?_
  · refine J_bipush hX dX9_slow_31 cbm_2 ?_
    exact J_retI hR dX9_slow_33
  · refine J_iload_n 2 hX dX9_slow_9 fz2 rfl ?_
    refine J_iconst hX dX9_slow_10 ci_1 ?_
    refine J_icmp_lt (tgt := 31) hX dX9_slow_11 rfl ?_ ?_
    · refine J_bipush hX dX9_slow_31 cbm_2 ?_
      exact J_retI hR dX9_slow_33
    · refine J_iload_n 2 hX dX9_slow_14 fz2 rfl ?_
      refine J_bipush hX dX9_slow_15 cb_8 ?_
      refine J_icmp_gt (tgt := 31) hX dX9_slow_17 rfl ?_ ?_
      · refine J_bipush hX dX9_slow_31 cbm_2 ?_
        exact J_retI hR dX9_slow_33
      · refine J_iload_n 3 hX dX9_slow_20 fz3 rfl ?_
        refine J_iconst hX dX9_slow_21 ci_1 ?_
        refine J_icmp_lt (tgt := 31) hX dX9_slow_22 rfl ?_ ?_
        · refine J_bipush hX dX9_slow_31 cbm_2 ?_
          exact J_retI hR dX9_slow_33
        · refine J_iload_n 3 hX dX9_slow_25 fz3 rfl ?_
          refine J_bipush hX dX9_slow_26 cb_8 ?_
          refine J_icmp_le (tgt := 34) hX dX9_slow_28 rfl ?_ ?_
          · refine J_iload_n 1 hX dX9_slow_34 fz1 rfl ?_
            refine J_if_lt (tgt := 51) hX dX9_slow_35 rfl ?_ ?_
            · refine J_bipush hX dX9_slow_51 cbm_2 ?_
              exact J_retI hR dX9_slow_53
            · refine J_iload_n 1 hX dX9_slow_38 fz1 rfl ?_
              refine J_aload_n 0 hX dX9_slow_39 fz0 rfl ?_
              refine J_getNow hX dX9_slow_40 lf_X9_10 fun hw40 => ?_
              refine J_getI hX dX9_slow_43 lf_X9_217 hw40 rfl ?_
              refine J_iload_n 2 hX dX9_slow_46 fz2 rfl ?_
              refine J_isub hX dX9_slow_47 ?_
              refine J_icmp_le (tgt := 54) hX dX9_slow_48 rfl ?_ ?_
              · refine J_iconst hX dX9_slow_54 cim_1 ?_
                refine J_istore (lv' := [(5, .int (-1 : Int32)), (0, .ref (AD Y 0)), (1, .int v1), (2, .int v2), (3, .int v3), (4, .int v4)]) hX dX9_slow_55 (Nat.le_of_ble_eq_true rfl) rfl ?_
                refine J_iconst hX dX9_slow_57 ci_0 ?_
                refine J_istore (lv' := [(6, .int (0 : Int32)), (5, .int (-1 : Int32)), (0, .ref (AD Y 0)), (1, .int v1), (2, .int v2), (3, .int v3), (4, .int v4)]) hX dX9_slow_58 (Nat.le_of_ble_eq_true rfl) rfl ?_
                refine J_sub (lv' := [(0, .ref (AD Y 0)), (1, .int v1), (2, .int v2), (3, .int v3), (4, .int v4), (5, .int (-1 : Int32)), (6, .int (0 : Int32))]) [2, 3, 4, 5, 6, 1, 0] rfl ?_
                exact K60  FU (-1 : Int32) (0 : Int32) G3
              · refine J_bipush hX dX9_slow_51 cbm_2 ?_
                exact J_retI hR dX9_slow_53
          · refine J_bipush hX dX9_slow_31 cbm_2 ?_
            exact J_retI hR dX9_slow_33
set_option maxHeartbeats 4000000 in
set_option maxRecDepth 100000 in
theorem ok_X9_aheadOf {Y : DX} {v1 : Int32} {v2 : Int32} {v3 : Int32}  {G : GM} {r : Int32} {G' : GM} (hf : f_X9_aheadOf v1 v2 v3 G = some (r, G')) : OkI Y 5 M_X9_aheadOf [.ref (AD Y 0), .int v1, .int v2, .int v3] G r G' := by
  refine okI_of (lv0 := [(0, .ref (AD Y 0)), (1, .int v1), (2, .int v2), (3, .int v3)]) (by decide +kernel) rfl (Nat.le_of_ble_eq_true rfl) ?_
  intro X Q hX hR
  have hX : CXok X Y RX9 cX9_aheadOf 7 _ := hX
  revert hf
  show J X Y 7 Q 0 [(0, .ref (AD Y 0)), (1, .int v1), (2, .int v2), (3, .int v3)] [] G (f_X9_aheadOf v1 v2 v3 G = some (r, G'))
  have K6 : ∀  (n : Nat) (v4 : Int32) (v5 : Int32) (G : GM), J X Y 7 Q 6 [(0, .ref (AD Y 0)), (1, .int v1), (2, .int v2), (3, .int v3), (4, .int v4), (5, .int v5)] [] G (wl2 n (lp_X9_aheadOf_6 v1 v2 v3) v4 v5 G = some (r, G')) := by
    refine wl2_ind (R := fun v4 v5 G φ => J X Y 7 Q 6 [(0, .ref (AD Y 0)), (1, .int v1), (2, .int v2), (3, .int v3), (4, .int v4), (5, .int v5)] [] G φ) (fun _ _ G φ h => J_no h) ?_
    intro kc6 hk6 v4 v5 G
    unfold lp_X9_aheadOf_6
    refine J_iload 5 hX dX9_aheadOf_6 rfl ?_
    refine J_aload_n 0 hX dX9_aheadOf_8 fz0 rfl ?_
    refine J_getNow hX dX9_aheadOf_9 lf_X9_10 fun hw9 => ?_
    refine J_getI hX dX9_aheadOf_12 lf_X9_217 hw9 rfl ?_
    refine J_icmp_ge (tgt := 61) hX dX9_aheadOf_15 rfl ?_ ?_
    · refine J_iload 4 hX dX9_aheadOf_61 rfl ?_
      exact J_retI hR dX9_aheadOf_63
    · refine J_aload_n 0 hX dX9_aheadOf_18 fz0 rfl ?_
      refine J_iload 5 hX dX9_aheadOf_19 rfl ?_
      refine J_iload_n 3 hX dX9_aheadOf_21 fz3 rfl ?_
      refine J_aload_n 0 hX dX9_aheadOf_22 fz0 rfl ?_
      refine J_getNow hX dX9_aheadOf_23 lf_X9_10 fun hw23 => ?_
      refine J_getR (b := ((nw G) + 21)) hX dX9_aheadOf_26 lf_X9_238 hw23 rfl (by decide) rfl ?_
      refine J_callVI (As := [.int v5, .int v3, .ref (AD Y ((nw G) + 21))]) (st := []) (b := 0) hX mv_X9_298 sk_0 rfl rfl rfl (Nat.le_of_ble_eq_true rfl) (Nat.le_of_ble_eq_true rfl) (Nat.le_of_ble_eq_true rfl) dX9_aheadOf_29 (fun r G1 h => ok_X9_firstTurnOf (tp_4_9 hw23) h) fun r29 G29 => ?_
      refine J_istore (lv' := [(6, .int r29), (0, .ref (AD Y 0)), (1, .int v1), (2, .int v2), (3, .int v3), (4, .int v4), (5, .int v5)]) hX dX9_aheadOf_32 (Nat.le_of_ble_eq_true rfl) rfl ?_
      refine J_iload 0 hX dX9_aheadOf_34 rfl ?_
      refine J_iload_n 3 hX dX9_aheadOf_36 fz2 rfl ?_
      refine J_icmp_lt (tgt := 52) hX dX9_aheadOf_37 rfl ?_ ?_
      · refine J_iinc (lv' := [(4, .int (v4 + (1 : Int32))), (6, .int r29), (0, .ref (AD Y 0)), (1, .int v1), (2, .int v2), (3, .int v3), (5, .int v5)]) 5 hX dX9_aheadOf_52 rfl ci_1 (Nat.le_of_ble_eq_true rfl) rfl ?_
        refine J_iinc (lv' := [(5, .int (v5 + (1 : Int32))), (4, .int (v4 + (1 : Int32))), (6, .int r29), (0, .ref (AD Y 0)), (1, .int v1), (2, .int v2), (3, .int v3)]) 6 hX dX9_aheadOf_55 rfl ci_1 (Nat.le_of_ble_eq_true rfl) rfl ?_
        refine J_goto (tgt := 6) hX dX9_aheadOf_58 rfl ?_
        refine J_sub (lv' := [(0, .ref (AD Y 0)), (1, .int v1), (2, .int v2), (3, .int v3), (4, .int (v4 + (1 : Int32))), (5, .int (v5 + (1 : Int32)))]) [3, 4, 5, 6, 1, 0] rfl ?_
        exact hk6 (v4 + (1 : Int32)) (v5 + (1 : Int32)) G29
      · refine J_iload 0 hX dX9_aheadOf_40 rfl ?_
        refine J_iload_n 3 hX dX9_aheadOf_42 fz2 rfl ?_
        refine J_icmp_ne (tgt := 55) hX dX9_aheadOf_43 rfl ?_ ?_
        · refine J_iinc (lv' := [(5, .int (v5 + (1 : Int32))), (6, .int r29), (0, .ref (AD Y 0)), (1, .int v1), (2, .int v2), (3, .int v3), (4, .int v4)]) 6 hX dX9_aheadOf_55 rfl ci_1 (Nat.le_of_ble_eq_true rfl) rfl ?_
          refine J_goto (tgt := 6) hX dX9_aheadOf_58 rfl ?_
          refine J_sub (lv' := [(0, .ref (AD Y 0)), (1, .int v1), (2, .int v2), (3, .int v3), (4, .int v4), (5, .int (v5 + (1 : Int32)))]) [2, 3, 4, 5, 6, 0] rfl ?_
          exact hk6 v4 (v5 + (1 : Int32)) G29
        · refine J_iload 6 hX dX9_aheadOf_46 rfl ?_
          refine J_iload_n 2 hX dX9_aheadOf_48 fz1 rfl ?_
          refine J_icmp_ge (tgt := 55) hX dX9_aheadOf_49 rfl ?_ ?_
          · refine J_iinc (lv' := [(5, .int (v5 + (1 : Int32))), (6, .int r29), (0, .ref (AD Y 0)), (1, .int v1), (2, .int v2), (3, .int v3), (4, .int v4)]) 6 hX dX9_aheadOf_55 rfl ci_1 (Nat.le_of_ble_eq_true rfl) rfl ?_
            refine J_goto (tgt := 6) hX dX9_aheadOf_58 rfl ?_
            refine J_sub (lv' := [(0, .ref (AD Y 0)), (1, .int v1), (2, .int v2), (3, .int v3), (4, .int v4), (5, .int (v5 + (1 : Int32)))]) [2, 3, 4, 5, 6, 0] rfl ?_
            exact hk6 v4 (v5 + (1 : Int32)) G29
          · refine J_iinc (lv' := [(4, .int (v4 + (1 : Int32))), (6, .int r29), (0, .ref (AD Y 0)), (1, .int v1), (2, .int v2), (3, .int v3), (5, .int v5)]) 5 hX dX9_aheadOf_52 rfl ci_1 (Nat.le_of_ble_eq_true rfl) rfl ?_
            refine J_iinc (lv' := [(5, .int (v5 + (1 : Int32))), (4, .int (v4 + (1 : Int32))), (6, .int r29), (0, .ref (AD Y 0)), (1, .int v1), (2, .int v2), (3, .int v3)]) 6 hX dX9_aheadOf_55 rfl ci_1 (Nat.le_of_ble_eq_true rfl) rfl ?_
            refine J_goto (tgt := 6) hX dX9_aheadOf_58 rfl ?_
            refine J_sub (lv' := [(0, .ref (AD Y 0)), (1, .int v1), (2, .int v2), (3, .int v3), (4, .int (v4 + (1 : Int32))), (5, .int (v5 + (1 : Int32)))]) [3, 4, 5, 6, 1, 0] rfl ?_
            exact hk6 (v4 + (1 : Int32)) (v5 + (1 : Int32)) G29
  unfold f_X9_aheadOf
  refine J_iconst hX dX9_aheadOf_0 ci_0 ?_
  refine J_istore (lv' := [(4, .int (0 : Int32)), (0, .ref (AD Y 0)), (1, .int v1), (2, .int v2), (3, .int v3)]) hX dX9_aheadOf_1 (Nat.le_of_ble_eq_true rfl) rfl ?_
  refine J_iconst hX dX9_aheadOf_3 ci_0 ?_
  refine J_istore (lv' := [(5, .int (0 : Int32)), (4, .int (0 : Int32)), (0, .ref (AD Y 0)), (1, .int v1), (2, .int v2), (3, .int v3)]) hX dX9_aheadOf_4 (Nat.le_of_ble_eq_true rfl) rfl ?_
  refine J_sub (lv' := [(0, .ref (AD Y 0)), (1, .int v1), (2, .int v2), (3, .int v3), (4, .int (0 : Int32)), (5, .int (0 : Int32))]) [2, 3, 4, 5, 1, 0] rfl ?_
  exact K6  FU (0 : Int32) (0 : Int32) G
set_option maxHeartbeats 4000000 in
set_option maxRecDepth 100000 in
theorem ok_X9_race {Y : DX} {v1 : Int32} {v2 : Int32}  {G : GM} {r : Int32} {G' : GM} (hf : f_X9_race v1 v2 G = some (r, G')) : OkI Y 6 M_X9_race [.ref (AD Y 0), .int v1, .int v2] G r G' := by
  refine okI_of (lv0 := [(0, .ref (AD Y 0)), (1, .int v1), (2, .int v2)]) (by decide +kernel) rfl (Nat.le_of_ble_eq_true rfl) ?_
  intro X Q hX hR
  have hX : CXok X Y RX9 cX9_race 5 _ := hX
  revert hf
  show J X Y 5 Q 0 [(0, .ref (AD Y 0)), (1, .int v1), (2, .int v2)] [] G (f_X9_race v1 v2 G = some (r, G'))
  have K13 : ∀  (n : Nat) (v3 : Int32) (G : GM), J X Y 5 Q 13 [(0, .ref (AD Y 0)), (1, .int v1), (2, .int v2), (3, .int v3)] [] G (wl1 n (lp_X9_race_13 v1 v2) v3 G = some (r, G')) := by
    refine wl1_ind (R := fun v3 G φ => J X Y 5 Q 13 [(0, .ref (AD Y 0)), (1, .int v1), (2, .int v2), (3, .int v3)] [] G φ) (fun _ G φ h => J_no h) ?_
    intro kc13 hk13 v3 G
    unfold lp_X9_race_13
    refine J_iload_n 3 hX dX9_race_13 fz3 rfl ?_
    refine J_aload_n 0 hX dX9_race_14 fz0 rfl ?_
    refine J_getNow hX dX9_race_15 lf_X9_10 fun hw15 => ?_
    refine J_getI hX dX9_race_18 lf_X9_217 hw15 rfl ?_
    refine J_icmp_ge (tgt := 65) hX dX9_race_21 rfl ?_ ?_
    · refine J_iconst hX dX9_race_65 cim_1 ?_
      exact J_retI hR dX9_race_66
    · refine J_aload_n 0 hX dX9_race_24 fz0 rfl ?_
      refine J_iload_n 3 hX dX9_race_25 fz3 rfl ?_
      refine J_iload_n 1 hX dX9_race_26 fz1 rfl ?_
      refine J_aload_n 0 hX dX9_race_27 fz0 rfl ?_
      refine J_getNow hX dX9_race_28 lf_X9_10 fun hw28 => ?_
      refine J_getR (b := ((nw G) + 21)) hX dX9_race_31 lf_X9_238 hw28 rfl (by decide) rfl ?_
      refine J_callVI (As := [.int v3, .int v1, .ref (AD Y ((nw G) + 21))]) (st := []) (b := 0) hX mv_X9_298 sk_0 rfl rfl rfl (Nat.le_of_ble_eq_true rfl) (Nat.le_of_ble_eq_true rfl) (Nat.le_of_ble_eq_true rfl) dX9_race_34 (fun r G1 h => ok_X9_firstTurnOf (tp_4_9 hw28) h) fun r34 G34 => ?_
      refine J_istore (lv' := [(4, .int r34), (0, .ref (AD Y 0)), (1, .int v1), (2, .int v2), (3, .int v3)]) hX dX9_race_37 (Nat.le_of_ble_eq_true rfl) rfl ?_
      refine J_iload 0 hX dX9_race_39 rfl ?_
      refine J_iconst hX dX9_race_41 cim_1 ?_
      refine J_icmp_eq (tgt := 59) hX dX9_race_42 rfl ?_ ?_
      · refine J_iinc (lv' := [(3, .int (v3 + (1 : Int32))), (4, .int r34), (0, .ref (AD Y 0)), (1, .int v1), (2, .int v2)]) 4 hX dX9_race_59 rfl ci_1 (Nat.le_of_ble_eq_true rfl) rfl ?_
        refine J_goto (tgt := 13) hX dX9_race_62 rfl ?_
        refine J_sub (lv' := [(0, .ref (AD Y 0)), (1, .int v1), (2, .int v2), (3, .int (v3 + (1 : Int32)))]) [2, 3, 4, 0] rfl ?_
        exact hk13 (v3 + (1 : Int32)) G34
      · refine J_aload_n 1 hX dX9_race_45 fz0 rfl ?_
        refine J_iload_n 4 hX dX9_race_46 fz3 rfl ?_
        refine J_iload 0 hX dX9_race_47 rfl ?_
        refine J_iload_n 2 hX dX9_race_49 fz1 rfl ?_
        refine J_callVI (As := [.int v3, .int r34, .int v1]) (st := []) (b := 0) hX mv_X9_330 sk_0 rfl rfl rfl (Nat.le_of_ble_eq_true rfl) (Nat.le_of_ble_eq_true rfl) (Nat.le_of_ble_eq_true rfl) dX9_race_50 (fun r G1 h => ok_X9_aheadOf  h) fun r50 G50 => ?_
        refine J_iload_n 3 hX dX9_race_53 fz2 rfl ?_
        refine J_icmp_ne (tgt := 59) hX dX9_race_54 rfl ?_ ?_
        · refine J_iinc (lv' := [(3, .int (v3 + (1 : Int32))), (4, .int r34), (0, .ref (AD Y 0)), (1, .int v1), (2, .int v2)]) 4 hX dX9_race_59 rfl ci_1 (Nat.le_of_ble_eq_true rfl) rfl ?_
          refine J_goto (tgt := 13) hX dX9_race_62 rfl ?_
          refine J_sub (lv' := [(0, .ref (AD Y 0)), (1, .int v1), (2, .int v2), (3, .int (v3 + (1 : Int32)))]) [2, 3, 4, 0] rfl ?_
          exact hk13 (v3 + (1 : Int32)) G50
        · refine J_iload_n 4 hX dX9_race_57 fz3 rfl ?_
          exact J_retI hR dX9_race_58
  unfold f_X9_race
  refine J_aload_n 0 hX dX9_race_0 fz0 rfl ?_
  refine J_iload_n 1 hX dX9_race_1 fz1 rfl ?_
  refine J_callVI (As := [.int v1]) (st := []) (b := 0) hX mv_X9_254 sk_0 rfl rfl rfl (Nat.le_of_ble_eq_true rfl) (Nat.le_of_ble_eq_true rfl) (Nat.le_of_ble_eq_true rfl) dX9_race_2 (fun r G1 h => ok_X9_isKind  h) fun r2 G2 => ?_
  refine J_if_ne (tgt := 11) hX dX9_race_5 rfl ?_ ?_
  · refine J_iconst hX dX9_race_11 ci_0 ?_
    refine J_istore_n (lv' := [(3, .int (0 : Int32)), (0, .ref (AD Y 0)), (1, .int v1), (2, .int v2)]) hX dX9_race_12 fz3 (Nat.le_of_ble_eq_true rfl) rfl ?_
    refine J_sub (lv' := [(0, .ref (AD Y 0)), (1, .int v1), (2, .int v2), (3, .int (0 : Int32))]) [1, 2, 3, 0] rfl ?_
    exact K13  FU (0 : Int32) G2
  · refine J_bipush hX dX9_race_8 cbm_2 ?_
    exact J_retI hR dX9_race_10
set_option maxHeartbeats 4000000 in
set_option maxRecDepth 100000 in
theorem ok_X9_paidInAll {Y : DX} {v1 : Int32}  {G : GM} {r : Int64} {G' : GM} (hf : f_X9_paidInAll v1 G = some (r, G')) : OkJ Y 6 M_X9_paidInAll [.ref (AD Y 0), .int v1] G r G' := by
  refine okJ_of (lv0 := [(0, .ref (AD Y 0)), (1, .int v1)]) (by decide +kernel) rfl (Nat.le_of_ble_eq_true rfl) ?_
  intro X Q hX hR
  have hX : CXok X Y RX9 cX9_paidInAll 8 _ := hX
  revert hf
  show J X Y 8 Q 0 [(0, .ref (AD Y 0)), (1, .int v1)] [] G (f_X9_paidInAll v1 G = some (r, G'))
  have K22 : ∀ (v2 : Int32) (n : Nat) (v3 : Int64) (v5 : Int32) (G : GM), J X Y 8 Q 22 [(0, .ref (AD Y 0)), (1, .int v1), (2, .int v2), (3, .long v3), (5, .int v5)] [] G (wl2 n (lp_X9_paidInAll_22 v1 v2) v3 v5 G = some (r, G')) := by
    intro v2
    refine wl2_ind (R := fun v3 v5 G φ => J X Y 8 Q 22 [(0, .ref (AD Y 0)), (1, .int v1), (2, .int v2), (3, .long v3), (5, .int v5)] [] G φ) (fun _ _ G φ h => J_no h) ?_
    intro kc22 hk22 v3 v5 G
    unfold lp_X9_paidInAll_22
    refine J_iload 4 hX dX9_paidInAll_22 rfl ?_
    refine J_iload_n 2 hX dX9_paidInAll_24 fz2 rfl ?_
    refine J_icmp_ge (tgt := 69) hX dX9_paidInAll_25 rfl ?_ ?_
    · refine J_lload_n 3 hX dX9_paidInAll_69 fz3 rfl ?_
      exact J_retJ hR dX9_paidInAll_70
    · refine J_aload_n 0 hX dX9_paidInAll_28 fz0 rfl ?_
      refine J_getR (b := 62) hX dX9_paidInAll_29 lf_X9_44 sk_0 rfl (by decide) rfl ?_
      refine J_iload_n 1 hX dX9_paidInAll_32 fz1 rfl ?_
      refine J_iload 4 hX dX9_paidInAll_33 rfl ?_
      refine J_callVJ (As := [.int v1, .int v5]) (st := []) (b := 62) hX mv_X9_162 sk_62 rfl rfl rfl (Nat.le_of_ble_eq_true rfl) (Nat.le_of_ble_eq_true rfl) (Nat.le_of_ble_eq_true rfl) dX9_paidInAll_35 (fun r G1 h => ok_X8_valueAt  h) fun r35 G35 => ?_
      refine J_lstore (lv' := [(6, .long r35), (0, .ref (AD Y 0)), (1, .int v1), (2, .int v2), (3, .long v3), (5, .int v5)]) hX dX9_paidInAll_38 (Nat.le_of_ble_eq_true rfl) rfl ?_
      refine J_lload 0 hX dX9_paidInAll_40 rfl ?_
      refine J_lconst hX dX9_paidInAll_42 fy1 ?_
      refine J_lcmp hX dX9_paidInAll_43 ?_
      refine J_if_lt (tgt := 56) hX dX9_paidInAll_44 rfl ?_ ?_
      · refine J_lconst hX dX9_paidInAll_56 fy0 ?_
        exact J_retJ hR dX9_paidInAll_57
      · refine J_lload 0 hX dX9_paidInAll_47 rfl ?_
        refine J_ldc2 hX dX9_paidInAll_49 ll_X9_341 ?_
        refine J_lcmp hX dX9_paidInAll_52 ?_
        refine J_if_le (tgt := 58) hX dX9_paidInAll_53 rfl ?_ ?_
        · refine J_lload_n 4 hX dX9_paidInAll_58 fz3 rfl ?_
          refine J_lload 0 hX dX9_paidInAll_59 rfl ?_
          refine J_ladd hX dX9_paidInAll_61 ?_
          refine J_lt (mk := Value.long) fun x62 => ?_
          refine J_lstore_n (lv' := [(3, .long x62), (6, .long r35), (0, .ref (AD Y 0)), (1, .int v1), (2, .int v2), (5, .int v5)]) hX dX9_paidInAll_62 fz3 (Nat.le_of_ble_eq_true rfl) rfl ?_
          refine J_iinc (lv' := [(5, .int (v5 + (1 : Int32))), (3, .long x62), (6, .long r35), (0, .ref (AD Y 0)), (1, .int v1), (2, .int v2)]) 5 hX dX9_paidInAll_63 rfl ci_1 (Nat.le_of_ble_eq_true rfl) rfl ?_
          refine J_goto (tgt := 22) hX dX9_paidInAll_66 rfl ?_
          refine J_sub (lv' := [(0, .ref (AD Y 0)), (1, .int v1), (2, .int v2), (3, .long x62), (5, .int (v5 + (1 : Int32)))]) [3, 4, 5, 1, 0] rfl ?_
          exact hk22 x62 (v5 + (1 : Int32)) G35
        · refine J_lconst hX dX9_paidInAll_56 fy0 ?_
          exact J_retJ hR dX9_paidInAll_57
  unfold f_X9_paidInAll
  refine J_aload_n 0 hX dX9_paidInAll_0 fz0 rfl ?_
  refine J_getR (b := 62) hX dX9_paidInAll_1 lf_X9_44 sk_0 rfl (by decide) rfl ?_
  refine J_iload_n 1 hX dX9_paidInAll_4 fz1 rfl ?_
  refine J_callVI (As := [.int v1]) (st := []) (b := 62) hX mv_X9_155 sk_62 rfl rfl rfl (Nat.le_of_ble_eq_true rfl) (Nat.le_of_ble_eq_true rfl) (Nat.le_of_ble_eq_true rfl) dX9_paidInAll_5 (fun r G1 h => ok_X8_lengthOf  h) fun r5 G5 => ?_
  refine J_istore_n (lv' := [(2, .int r5), (0, .ref (AD Y 0)), (1, .int v1)]) hX dX9_paidInAll_8 fz2 (Nat.le_of_ble_eq_true rfl) rfl ?_
  refine J_iload_n 0 hX dX9_paidInAll_9 fz2 rfl ?_
  refine J_bipush hX dX9_paidInAll_10 cb_8 ?_
  refine J_icmp_le (tgt := 17) hX dX9_paidInAll_12 rfl ?_ ?_
  · refine J_lconst hX dX9_paidInAll_17 fy0 ?_
    refine J_lstore_n (lv' := [(3, .long (0 : Int64)), (2, .int r5), (0, .ref (AD Y 0)), (1, .int v1)]) hX dX9_paidInAll_18 fz3 (Nat.le_of_ble_eq_true rfl) rfl ?_
    refine J_iconst hX dX9_paidInAll_19 ci_0 ?_
    refine J_istore (lv' := [(5, .int (0 : Int32)), (3, .long (0 : Int64)), (2, .int r5), (0, .ref (AD Y 0)), (1, .int v1)]) hX dX9_paidInAll_20 (Nat.le_of_ble_eq_true rfl) rfl ?_
    refine J_sub (lv' := [(0, .ref (AD Y 0)), (1, .int v1), (2, .int r5), (3, .long (0 : Int64)), (5, .int (0 : Int32))]) [3, 4, 2, 1, 0] rfl ?_
    exact K22 r5 FU (0 : Int64) (0 : Int32) G5
  · refine J_lconst hX dX9_paidInAll_15 fy0 ?_
    exact J_retJ hR dX9_paidInAll_16
set_option maxHeartbeats 4000000 in
set_option maxRecDepth 100000 in
theorem ok_X9_share {Y : DX} {v1 : Int32} {v2 : Int32}  {G : GM} {r : Int32} {G' : GM} (hf : f_X9_share v1 v2 G = some (r, G')) : OkI Y 8 M_X9_share [.ref (AD Y 0), .int v1, .int v2] G r G' := by
  refine okI_of (lv0 := [(0, .ref (AD Y 0)), (1, .int v1), (2, .int v2)]) (by decide +kernel) rfl (Nat.le_of_ble_eq_true rfl) ?_
  intro X Q hX hR
  have hX : CXok X Y RX9 cX9_share 11 _ := hX
  revert hf
  show J X Y 11 Q 0 [(0, .ref (AD Y 0)), (1, .int v1), (2, .int v2)] [] G (f_X9_share v1 v2 G = some (r, G'))
  have K150 : ∀ (s0 : Int64) (G : GM), J X Y 11 Q 150 [] [.long s0] G (k_X9_share_150 v1 v2 s0 G = some (r, G')) := by
    intro s0 G
    unfold k_X9_share_150
    refine J_l2i hX dX9_share_150 ?_
    exact J_retI hR dX9_share_151
  have K81 : ∀ (v3 : Int64) (v5 : Int64) (n : Nat) (v7 : Int64) (v9 : Int32) (G : GM), J X Y 11 Q 81 [(0, .ref (AD Y 0)), (1, .int v1), (2, .int v2), (3, .long v3), (5, .long v5), (7, .long v7), (9, .int v9)] [] G (wl2 n (lp_X9_share_81 v1 v2 v3 v5) v7 v9 G = some (r, G')) := by
    intro v3 v5
    refine wl2_ind (R := fun v7 v9 G φ => J X Y 11 Q 81 [(0, .ref (AD Y 0)), (1, .int v1), (2, .int v2), (3, .long v3), (5, .long v5), (7, .long v7), (9, .int v9)] [] G φ) (fun _ _ G φ h => J_no h) ?_
    intro kc81 hk81 v7 v9 G
    unfold lp_X9_share_81
    refine J_iload 6 hX dX9_share_81 rfl ?_
    refine J_aload_n 0 hX dX9_share_83 fz0 rfl ?_
    refine J_getR (b := 62) hX dX9_share_84 lf_X9_44 sk_0 rfl (by decide) rfl ?_
    refine J_iload_n 1 hX dX9_share_87 fz1 rfl ?_
    refine J_callVI (As := [.int v1]) (st := [.int v9]) (b := 62) hX mv_X9_155 sk_62 rfl rfl rfl (Nat.le_of_ble_eq_true rfl) (Nat.le_of_ble_eq_true rfl) (Nat.le_of_ble_eq_true rfl) dX9_share_88 (fun r G1 h => ok_X8_lengthOf  h) fun r88 G88 => ?_
    refine J_icmp_ge (tgt := 120) hX dX9_share_91 rfl ?_ ?_
    · refine J_lload 4 hX dX9_share_120 rfl ?_
      refine J_aload_n 0 hX dX9_share_122 fz0 rfl ?_
      refine J_getR (b := 62) hX dX9_share_123 lf_X9_44 sk_0 rfl (by decide) rfl ?_
      refine J_iload_n 1 hX dX9_share_126 fz1 rfl ?_
      refine J_iload_n 2 hX dX9_share_127 fz2 rfl ?_
      refine J_callVJ (As := [.int v1, .int v2]) (st := [.long v5]) (b := 62) hX mv_X9_162 sk_62 rfl rfl rfl (Nat.le_of_ble_eq_true rfl) (Nat.le_of_ble_eq_true rfl) (Nat.le_of_ble_eq_true rfl) dX9_share_128 (fun r G1 h => ok_X8_valueAt  h) fun r128 G128 => ?_
      refine J_lmul hX dX9_share_131 ?_
      refine J_lload_n 3 hX dX9_share_132 fz3 rfl ?_
      refine J_ldiv hX dX9_share_133 ?_
      refine J_lt (mk := Value.long) fun x134 => ?_
      refine J_lstore (lv' := [(9, .long x134), (0, .ref (AD Y 0)), (1, .int v1), (2, .int v2), (3, .long v3), (5, .long v5), (7, .long v7)]) hX dX9_share_134 (Nat.le_of_ble_eq_true rfl) rfl ?_
      refine J_iload_n 3 hX dX9_share_136 fz2 rfl ?_
      refine J_if_ne (tgt := 148) hX dX9_share_137 rfl ?_ ?_
      · refine J_lload 0 hX dX9_share_148 rfl ?_
        refine J_sub (lv' := []) [] rfl ?_
        exact K150 x134 G128
      · refine J_lload 0 hX dX9_share_140 rfl ?_
        refine J_lload 6 hX dX9_share_142 rfl ?_
        refine J_ladd hX dX9_share_144 ?_
        refine J_goto (tgt := 150) hX dX9_share_145 rfl ?_
        refine J_sub (lv' := []) [] rfl ?_
        exact K150 (x134 + v7) G128
    · refine J_lload 5 hX dX9_share_94 rfl ?_
      refine J_lload 4 hX dX9_share_96 rfl ?_
      refine J_aload_n 0 hX dX9_share_98 fz0 rfl ?_
      refine J_getR (b := 62) hX dX9_share_99 lf_X9_44 sk_0 rfl (by decide) rfl ?_
      refine J_iload_n 1 hX dX9_share_102 fz1 rfl ?_
      refine J_iload 6 hX dX9_share_103 rfl ?_
      refine J_callVJ (As := [.int v1, .int v9]) (st := [.long v5, .long v7]) (b := 62) hX mv_X9_162 sk_62 rfl rfl rfl (Nat.le_of_ble_eq_true rfl) (Nat.le_of_ble_eq_true rfl) (Nat.le_of_ble_eq_true rfl) dX9_share_105 (fun r G1 h => ok_X8_valueAt  h) fun r105 G105 => ?_
      refine J_lmul hX dX9_share_108 ?_
      refine J_lload_n 3 hX dX9_share_109 fz3 rfl ?_
      refine J_ldiv hX dX9_share_110 ?_
      refine J_lsub hX dX9_share_111 ?_
      refine J_lt (mk := Value.long) fun x112 => ?_
      refine J_lstore (lv' := [(7, .long x112), (0, .ref (AD Y 0)), (1, .int v1), (2, .int v2), (3, .long v3), (5, .long v5), (9, .int v9)]) hX dX9_share_112 (Nat.le_of_ble_eq_true rfl) rfl ?_
      refine J_iinc (lv' := [(9, .int (v9 + (1 : Int32))), (7, .long x112), (0, .ref (AD Y 0)), (1, .int v1), (2, .int v2), (3, .long v3), (5, .long v5)]) 6 hX dX9_share_114 rfl ci_1 (Nat.le_of_ble_eq_true rfl) rfl ?_
      refine J_goto (tgt := 81) hX dX9_share_117 rfl ?_
      refine J_sub (lv' := [(0, .ref (AD Y 0)), (1, .int v1), (2, .int v2), (3, .long v3), (5, .long v5), (7, .long x112), (9, .int (v9 + (1 : Int32)))]) [2, 3, 4, 5, 6, 1, 0] rfl ?_
      exact hk81 x112 (v9 + (1 : Int32)) G105
  unfold f_X9_share
  refine J_aload_n 0 hX dX9_share_0 fz0 rfl ?_
  refine J_callVI (As := []) (st := []) (b := 0) hX mv_X9_133 sk_0 rfl rfl rfl (Nat.le_of_ble_eq_true rfl) (Nat.le_of_ble_eq_true rfl) (Nat.le_of_ble_eq_true rfl) dX9_share_1 (fun r G1 h => ok_X9_isHall  h) fun r1 G1 => ?_
  refine J_if_eq (tgt := 18) hX dX9_share_4 rfl ?_ ?_
  · refine J_bipush hX dX9_share_18 cbm_2 ?_
    exact J_retI hR dX9_share_20
  · refine J_aload_n 0 hX dX9_share_7 fz0 rfl ?_
    refine J_getR (b := 62) hX dX9_share_8 lf_X9_44 sk_0 rfl (by decide) rfl ?_
    refine J_iload_n 1 hX dX9_share_11 fz1 rfl ?_
    refine J_callVI (As := [.int v1]) (st := []) (b := 62) hX mv_X9_149 sk_62 rfl rfl rfl (Nat.le_of_ble_eq_true rfl) (Nat.le_of_ble_eq_true rfl) (Nat.le_of_ble_eq_true rfl) dX9_share_12 (fun r G1 h => ok_X8_isSlot  h) fun r12 G12 => ?_
    refine J_if_ne (tgt := 21) hX dX9_share_15 rfl ?_ ?_
    · refine J_aload_n 0 hX dX9_share_21 fz0 rfl ?_
      refine J_getR (b := 62) hX dX9_share_22 lf_X9_44 sk_0 rfl (by decide) rfl ?_
      refine J_iload_n 1 hX dX9_share_25 fz1 rfl ?_
      refine J_callVI (As := [.int v1]) (st := []) (b := 62) hX mv_X9_152 sk_62 rfl rfl rfl (Nat.le_of_ble_eq_true rfl) (Nat.le_of_ble_eq_true rfl) (Nat.le_of_ble_eq_true rfl) dX9_share_26 (fun r G1 h => ok_X8_hasRow  h) fun r26 G26 => ?_
      refine J_if_ne (tgt := 35) hX dX9_share_29 rfl ?_ ?_
      · refine J_aload_n 0 hX dX9_share_35 fz0 rfl ?_
        refine J_iload_n 1 hX dX9_share_36 fz1 rfl ?_
        refine J_callVJ (As := [.int v1]) (st := []) (b := 0) hX mv_X9_333 sk_0 rfl rfl rfl (Nat.le_of_ble_eq_true rfl) (Nat.le_of_ble_eq_true rfl) (Nat.le_of_ble_eq_true rfl) dX9_share_37 (fun r G1 h => ok_X9_paidInAll  h) fun r37 G37 => ?_
        refine J_lstore_n (lv' := [(3, .long r37), (0, .ref (AD Y 0)), (1, .int v1), (2, .int v2)]) hX dX9_share_40 fz3 (Nat.le_of_ble_eq_true rfl) rfl ?_
        refine J_lload_n 0 hX dX9_share_41 fz3 rfl ?_
        refine J_lconst hX dX9_share_42 fy1 ?_
        refine J_lcmp hX dX9_share_43 ?_
        refine J_if_ge (tgt := 50) hX dX9_share_44 rfl ?_ ?_
        · refine J_iload_n 3 hX dX9_share_50 fz2 rfl ?_
          refine J_if_lt (tgt := 66) hX dX9_share_51 rfl ?_ ?_
          · refine J_iconst hX dX9_share_66 cim_1 ?_
            exact J_retI hR dX9_share_67
          · refine J_iload_n 3 hX dX9_share_54 fz2 rfl ?_
            refine J_aload_n 1 hX dX9_share_55 fz0 rfl ?_
            refine J_getR (b := 62) hX dX9_share_56 lf_X9_44 sk_0 rfl (by decide) rfl ?_
            refine J_iload_n 2 hX dX9_share_59 fz1 rfl ?_
            refine J_callVI (As := [.int v1]) (st := [.int v2]) (b := 62) hX mv_X9_155 sk_62 rfl rfl rfl (Nat.le_of_ble_eq_true rfl) (Nat.le_of_ble_eq_true rfl) (Nat.le_of_ble_eq_true rfl) dX9_share_60 (fun r G1 h => ok_X8_lengthOf  h) fun r60 G60 => ?_
            refine J_icmp_lt (tgt := 68) hX dX9_share_63 rfl ?_ ?_
            · refine J_aload_n 1 hX dX9_share_68 fz0 rfl ?_
              refine J_callVJ (As := []) (st := []) (b := 0) hX mv_X9_337 sk_0 rfl rfl rfl (Nat.le_of_ble_eq_true rfl) (Nat.le_of_ble_eq_true rfl) (Nat.le_of_ble_eq_true rfl) dX9_share_69 (fun r G1 h => ok_X9_wonInAll  h) fun r69 G69 => ?_
              refine J_lstore (lv' := [(5, .long r69), (3, .long r37), (0, .ref (AD Y 0)), (1, .int v1), (2, .int v2)]) hX dX9_share_72 (Nat.le_of_ble_eq_true rfl) rfl ?_
              refine J_lload 0 hX dX9_share_74 rfl ?_
              refine J_lstore (lv' := [(7, .long r69), (5, .long r69), (3, .long r37), (0, .ref (AD Y 0)), (1, .int v1), (2, .int v2)]) hX dX9_share_76 (Nat.le_of_ble_eq_true rfl) rfl ?_
              refine J_iconst hX dX9_share_78 ci_0 ?_
              refine J_istore (lv' := [(9, .int (0 : Int32)), (7, .long r69), (5, .long r69), (3, .long r37), (0, .ref (AD Y 0)), (1, .int v1), (2, .int v2)]) hX dX9_share_79 (Nat.le_of_ble_eq_true rfl) rfl ?_
              refine J_sub (lv' := [(0, .ref (AD Y 0)), (1, .int v1), (2, .int v2), (3, .long r37), (5, .long r69), (7, .long r69), (9, .int (0 : Int32))]) [4, 5, 6, 3, 2, 1, 0] rfl ?_
              exact K81 r37 r69 FU r69 (0 : Int32) G69
            · refine J_iconst hX dX9_share_66 cim_1 ?_
              exact J_retI hR dX9_share_67
        · refine J_bipush hX dX9_share_47 cbm_2 ?_
          exact J_retI hR dX9_share_49
      · refine J_bipush hX dX9_share_32 cbm_6 ?_
        exact J_retI hR dX9_share_34
    · refine J_bipush hX dX9_share_18 cbm_2 ?_
      exact J_retI hR dX9_share_20
set_option maxHeartbeats 4000000 in
set_option maxRecDepth 100000 in
theorem ok_X9_isPartOfFraction {Y : DX} {v0 : Int32}  {G : GM} {r : Int32} {G' : GM} (hf : f_X9_isPartOfFraction v0 G = some (r, G')) : OkI Y 1 M_X9_isPartOfFraction [.int v0] G r G' := by
  refine okZ_of (lv0 := [(0, .int v0)]) (by decide +kernel) rfl (Nat.le_of_ble_eq_true rfl) ?_
  intro X Q hX hR
  have hX : CXok X Y RX9 cX9_isPartOfFraction 1 _ := hX
  revert hf
  show J X Y 1 Q 0 [(0, .int v0)] [] G (f_X9_isPartOfFraction v0 G = some (r, G'))
  unfold f_X9_isPartOfFraction
  refine J_iload_n 0 hX dX9_isPartOfFraction_0 fz0 rfl ?_
  refine J_if_eq (tgt := 9) hX dX9_isPartOfFraction_1 rfl ?_ ?_
  · refine J_iconst hX dX9_isPartOfFraction_9 ci_1 ?_
    refine J_goto (tgt := 14) hX dX9_isPartOfFraction_10 rfl ?_
    exact J_retZ hR (by decide) dX9_isPartOfFraction_14
  · refine J_iload_n 0 hX dX9_isPartOfFraction_4 fz0 rfl ?_
    refine J_iconst hX dX9_isPartOfFraction_5 ci_1 ?_
    refine J_icmp_ne (tgt := 13) hX dX9_isPartOfFraction_6 rfl ?_ ?_
    · refine J_iconst hX dX9_isPartOfFraction_13 ci_0 ?_
      exact J_retZ hR (by decide) dX9_isPartOfFraction_14
    · refine J_iconst hX dX9_isPartOfFraction_9 ci_1 ?_
      refine J_goto (tgt := 14) hX dX9_isPartOfFraction_10 rfl ?_
      exact J_retZ hR (by decide) dX9_isPartOfFraction_14
set_option maxHeartbeats 4000000 in
set_option maxRecDepth 100000 in
theorem ok_X9_chance {Y : DX} {v1 : Int32} {v2 : Int32} {v3 : Int32}  {G : GM} {r : Int64} {G' : GM} (hf : f_X9_chance v1 v2 v3 G = some (r, G')) : OkJ Y 3 M_X9_chance [.ref (AD Y 0), .int v1, .int v2, .int v3] G r G' := by
  refine okJ_of (lv0 := [(0, .ref (AD Y 0)), (1, .int v1), (2, .int v2), (3, .int v3)]) (by decide +kernel) rfl (Nat.le_of_ble_eq_true rfl) ?_
  intro X Q hX hR
  have hX : CXok X Y RX9 cX9_chance 9 _ := hX
  revert hf
  show J X Y 9 Q 0 [(0, .ref (AD Y 0)), (1, .int v1), (2, .int v2), (3, .int v3)] [] G (f_X9_chance v1 v2 v3 G = some (r, G'))
  have K98 : ∀ (v4 : Nat) (s0 : Int32) (s1 : Int32) (s2 : Int32) (s3 : Int32) (s4 : Int32) (hk_v4 : SHk v4 = 3) (G : GM), J X Y 9 Q 98 [(2, .int v2), (3, .int v3), (4, .ref (AD Y v4))] [.int s0, .int s1, .int s2, .int s3, .int s4] G (k_X9_chance_98 v1 v2 v3 v4 s0 s1 s2 s3 s4 G = some (r, G')) := by
    intro v4 s0 s1 s2 s3 s4 hk_v4 G
    unfold k_X9_chance_98
    refine J_callSJ (As := [.int s4, .int s3, .int s2, .int s1, .int s0]) (st := []) hX ms_X9_351 rfl rfl (Nat.le_of_ble_eq_true rfl) (Nat.le_of_ble_eq_true rfl) (Nat.le_of_ble_eq_true rfl) dX9_chance_98 (fun r G1 h => ok_X1_drawsWith  h) fun r98 G98 => ?_
    refine J_lstore (lv' := [(7, .long r98), (2, .int v2), (3, .int v3), (4, .ref (AD Y v4))]) hX dX9_chance_101 (Nat.le_of_ble_eq_true rfl) rfl ?_
    refine J_lload 0 hX dX9_chance_103 rfl ?_
    refine J_aload 3 hX dX9_chance_105 rfl ?_
    refine J_getI hX dX9_chance_107 lf_X9_136 hk_v4 rfl ?_
    refine J_iload_n 1 hX dX9_chance_110 fz2 rfl ?_
    refine J_callSJ (As := [.int (gI G98 v4 6), .int v2]) (st := [.long r98]) hX ms_X9_357 rfl rfl (Nat.le_of_ble_eq_true rfl) (Nat.le_of_ble_eq_true rfl) (Nat.le_of_ble_eq_true rfl) dX9_chance_111 (fun r G1 h => ok_X1_choose  h) fun r111 G111 => ?_
    refine J_iload_n 2 hX dX9_chance_114 fz3 rfl ?_
    refine J_callSJ (As := [.long r98, .long r111, .int v3]) (st := []) hX ms_X9_360 rfl rfl (Nat.le_of_ble_eq_true rfl) (Nat.le_of_ble_eq_true rfl) (Nat.le_of_ble_eq_true rfl) dX9_chance_115 (fun r G1 h => ok_X1_told  h) fun r115 G115 => ?_
    exact J_retJ hR dX9_chance_118
  have K76 : ∀ (v4 : Nat) (v5 : Int32) (s0 : Int32) (hk_v4 : SHk v4 = 3) (G : GM), J X Y 9 Q 76 [(1, .int v1), (2, .int v2), (3, .int v3), (4, .ref (AD Y v4)), (5, .int v5)] [.int s0] G (k_X9_chance_76 v1 v2 v3 v4 v5 s0 G = some (r, G')) := by
    intro v4 v5 s0 hk_v4 G
    unfold k_X9_chance_76
    refine J_istore (lv' := [(6, .int s0), (1, .int v1), (2, .int v2), (3, .int v3), (4, .ref (AD Y v4)), (5, .int v5)]) hX dX9_chance_76 (Nat.le_of_ble_eq_true rfl) rfl ?_
    refine J_aload 4 hX dX9_chance_78 rfl ?_
    refine J_getI hX dX9_chance_80 lf_X9_136 hk_v4 rfl ?_
    refine J_iload_n 2 hX dX9_chance_83 fz2 rfl ?_
    refine J_iload 5 hX dX9_chance_84 rfl ?_
    refine J_iload 0 hX dX9_chance_86 rfl ?_
    refine J_iload_n 1 hX dX9_chance_88 fz1 rfl ?_
    refine J_iconst hX dX9_chance_89 ci_1 ?_
    refine J_icmp_ne (tgt := 97) hX dX9_chance_90 rfl ?_ ?_
    · refine J_iconst hX dX9_chance_97 ci_1 ?_
      refine J_sub (lv' := [(2, .int v2), (3, .int v3), (4, .ref (AD Y v4))]) [2, 3, 4] rfl ?_
      exact K98 v4 (1 : Int32) s0 v5 v2 (gI G v4 6) hk_v4 G
    · refine J_iconst hX dX9_chance_93 ci_2 ?_
      refine J_goto (tgt := 98) hX dX9_chance_94 rfl ?_
      refine J_sub (lv' := [(2, .int v2), (3, .int v3), (4, .ref (AD Y v4))]) [2, 3, 4] rfl ?_
      exact K98 v4 (2 : Int32) s0 v5 v2 (gI G v4 6) hk_v4 G
  have K50 : ∀ (v4 : Nat) (s0 : Int32) (hk_v4 : SHk v4 = 3) (G : GM), J X Y 9 Q 50 [(1, .int v1), (2, .int v2), (3, .int v3), (4, .ref (AD Y v4))] [.int s0] G (k_X9_chance_50 v1 v2 v3 v4 s0 G = some (r, G')) := by
    intro v4 s0 hk_v4 G
    unfold k_X9_chance_50
    refine J_istore (lv' := [(5, .int s0), (1, .int v1), (2, .int v2), (3, .int v3), (4, .ref (AD Y v4))]) hX dX9_chance_50 (Nat.le_of_ble_eq_true rfl) rfl ?_
    refine J_iload_n 1 hX dX9_chance_52 fz1 rfl ?_
    refine J_iconst hX dX9_chance_53 ci_2 ?_
    refine J_icmp_ne (tgt := 71) hX dX9_chance_54 rfl ?_ ?_
    · refine J_aload 4 hX dX9_chance_71 rfl ?_
      refine J_getI hX dX9_chance_73 lf_X9_348 hk_v4 rfl ?_
      refine J_sub (lv' := [(1, .int v1), (2, .int v2), (3, .int v3), (4, .ref (AD Y v4)), (5, .int s0)]) [1, 2, 3, 4, 0] rfl ?_
      exact K76 v4 s0 (gI G v4 2) hk_v4 G
    · refine J_aload 4 hX dX9_chance_57 rfl ?_
      refine J_getI hX dX9_chance_59 lf_X9_166 hk_v4 rfl ?_
      refine J_aload 4 hX dX9_chance_62 rfl ?_
      refine J_getI hX dX9_chance_64 lf_X9_348 hk_v4 rfl ?_
      refine J_imul hX dX9_chance_67 ?_
      refine J_goto (tgt := 76) hX dX9_chance_68 rfl ?_
      refine J_sub (lv' := [(1, .int v1), (2, .int v2), (3, .int v3), (4, .ref (AD Y v4)), (5, .int s0)]) [1, 2, 3, 4, 0] rfl ?_
      exact K76 v4 s0 ((gI G v4 1) * (gI G v4 2)) hk_v4 G
  have K23 : ∀ (G : GM), J X Y 9 Q 23 [] [] G (k_X9_chance_23 v1 v2 v3 G = some (r, G')) := by
    intro G
    unfold k_X9_chance_23
    refine J_ldc2 hX dX9_chance_23 ll_X9_346 ?_
    exact J_retJ hR dX9_chance_26
  unfold f_X9_chance
  refine J_aload_n 0 hX dX9_chance_0 fz0 rfl ?_
  refine J_iload_n 1 hX dX9_chance_1 fz1 rfl ?_
  refine J_callVI (As := [.int v1]) (st := []) (b := 0) hX mv_X9_254 sk_0 rfl rfl rfl (Nat.le_of_ble_eq_true rfl) (Nat.le_of_ble_eq_true rfl) (Nat.le_of_ble_eq_true rfl) dX9_chance_2 (fun r G1 h => ok_X9_isKind  h) fun r2 G2 => ?_
  refine J_if_eq (tgt := 23) hX dX9_chance_5 rfl ?_ ?_
  · refine J_sub (lv' := []) [] rfl ?_
    exact K23 G2
  · refine J_aload_n 0 hX dX9_chance_8 fz0 rfl ?_
    refine J_iload_n 2 hX dX9_chance_9 fz2 rfl ?_
    refine J_callVI (As := [.int v2]) (st := []) (b := 0) hX mv_X9_241 sk_0 rfl rfl rfl (Nat.le_of_ble_eq_true rfl) (Nat.le_of_ble_eq_true rfl) (Nat.le_of_ble_eq_true rfl) dX9_chance_10 (fun r G1 h => ok_X9_isTime  h) fun r10 G10 => ?_
    refine J_if_eq (tgt := 23) hX dX9_chance_13 rfl ?_ ?_
    · refine J_sub (lv' := []) [] rfl ?_
      exact K23 G10
    · refine J_iload_n 3 hX dX9_chance_16 fz3 rfl ?_
      refine J_callSI (As := [.int v3]) (st := []) hX ms_X9_343 rfl rfl (Nat.le_of_ble_eq_true rfl) (Nat.le_of_ble_eq_true rfl) (Nat.le_of_ble_eq_true rfl) dX9_chance_17 (fun r G1 h => ok_X9_isPartOfFraction  h) fun r17 G17 => ?_
      refine J_if_ne (tgt := 27) hX dX9_chance_20 rfl ?_ ?_
      · refine J_aload_n 0 hX dX9_chance_27 fz0 rfl ?_
        refine J_getNow hX dX9_chance_28 lf_X9_10 fun hw28 => ?_
        refine J_getR (b := ((nw G17) + 1)) hX dX9_chance_31 lf_X9_98 hw28 rfl (by decide) rfl ?_
        refine J_astore (lv' := [(4, .ref (AD Y ((nw G17) + 1))), (0, .ref (AD Y 0)), (1, .int v1), (2, .int v2), (3, .int v3)]) hX dX9_chance_34 (Nat.le_of_ble_eq_true rfl) rfl ?_
        refine J_iload_n 2 hX dX9_chance_36 fz1 rfl ?_
        refine J_iconst hX dX9_chance_37 ci_2 ?_
        refine J_icmp_ne (tgt := 45) hX dX9_chance_38 rfl ?_ ?_
        · refine J_aload 0 hX dX9_chance_45 rfl ?_
          refine J_getI hX dX9_chance_47 lf_X9_166 (tp_4_0 hw28) rfl ?_
          refine J_sub (lv' := [(1, .int v1), (2, .int v2), (3, .int v3), (4, .ref (AD Y ((nw G17) + 1)))]) [2, 3, 4, 0] rfl ?_
          exact K50 ((nw G17) + 1) (gI G17 ((nw G17) + 1) 1) (tp_4_0 hw28) G17
        · refine J_iconst hX dX9_chance_41 ci_1 ?_
          refine J_goto (tgt := 50) hX dX9_chance_42 rfl ?_
          refine J_sub (lv' := [(1, .int v1), (2, .int v2), (3, .int v3), (4, .ref (AD Y ((nw G17) + 1)))]) [2, 3, 4, 0] rfl ?_
          exact K50 ((nw G17) + 1) (1 : Int32) (tp_4_0 hw28) G17
      · refine J_sub (lv' := []) [] rfl ?_
        exact K23 G17
set_option maxHeartbeats 4000000 in
set_option maxRecDepth 100000 in
theorem ok_X9_stripDraws {Y : DX} {v1 : Int32} {v2 : Int32}  {G : GM} {r : Int64} {G' : GM} (hf : f_X9_stripDraws v1 v2 G = some (r, G')) : OkJ Y 3 M_X9_stripDraws [.ref (AD Y 0), .int v1, .int v2] G r G' := by
  refine okJ_of (lv0 := [(0, .ref (AD Y 0)), (1, .int v1), (2, .int v2)]) (by decide +kernel) rfl (Nat.le_of_ble_eq_true rfl) ?_
  intro X Q hX hR
  have hX : CXok X Y RX9 cX9_stripDraws 6 _ := hX
  revert hf
  show J X Y 6 Q 0 [(0, .ref (AD Y 0)), (1, .int v1), (2, .int v2)] [] G (f_X9_stripDraws v1 v2 G = some (r, G'))
  have K52 : ∀ (v3 : Nat) (v4 : Int32) (s0 : Int32) (hk_v3 : SHk v3 = 3) (G : GM), J X Y 6 Q 52 [(2, .int v2), (3, .ref (AD Y v3)), (4, .int v4)] [.int s0] G (k_X9_stripDraws_52 v1 v2 v3 v4 s0 G = some (r, G')) := by
    intro v3 v4 s0 hk_v3 G
    unfold k_X9_stripDraws_52
    refine J_istore (lv' := [(5, .int s0), (2, .int v2), (3, .ref (AD Y v3)), (4, .int v4)]) hX dX9_stripDraws_52 (Nat.le_of_ble_eq_true rfl) rfl ?_
    refine J_aload_n 2 hX dX9_stripDraws_54 fz3 rfl ?_
    refine J_getI hX dX9_stripDraws_55 lf_X9_136 hk_v3 rfl ?_
    refine J_iload_n 1 hX dX9_stripDraws_58 fz2 rfl ?_
    refine J_iload 3 hX dX9_stripDraws_59 rfl ?_
    refine J_iload 0 hX dX9_stripDraws_61 rfl ?_
    refine J_iconst hX dX9_stripDraws_63 ci_1 ?_
    refine J_callSJ (As := [.int (gI G v3 6), .int v2, .int v4, .int s0, .int (1 : Int32)]) (st := []) hX ms_X9_351 rfl rfl (Nat.le_of_ble_eq_true rfl) (Nat.le_of_ble_eq_true rfl) (Nat.le_of_ble_eq_true rfl) dX9_stripDraws_64 (fun r G1 h => ok_X1_drawsWith  h) fun r64 G64 => ?_
    exact J_retJ hR dX9_stripDraws_67
  have K29 : ∀ (v3 : Nat) (s0 : Int32) (hk_v3 : SHk v3 = 3) (G : GM), J X Y 6 Q 29 [(1, .int v1), (2, .int v2), (3, .ref (AD Y v3))] [.int s0] G (k_X9_stripDraws_29 v1 v2 v3 s0 G = some (r, G')) := by
    intro v3 s0 hk_v3 G
    unfold k_X9_stripDraws_29
    refine J_istore (lv' := [(4, .int s0), (1, .int v1), (2, .int v2), (3, .ref (AD Y v3))]) hX dX9_stripDraws_29 (Nat.le_of_ble_eq_true rfl) rfl ?_
    refine J_iload_n 1 hX dX9_stripDraws_31 fz1 rfl ?_
    refine J_iconst hX dX9_stripDraws_32 ci_2 ?_
    refine J_icmp_ne (tgt := 48) hX dX9_stripDraws_33 rfl ?_ ?_
    · refine J_aload_n 3 hX dX9_stripDraws_48 fz3 rfl ?_
      refine J_getI hX dX9_stripDraws_49 lf_X9_348 hk_v3 rfl ?_
      refine J_sub (lv' := [(2, .int v2), (3, .ref (AD Y v3)), (4, .int s0)]) [2, 3, 0] rfl ?_
      exact K52 v3 s0 (gI G v3 2) hk_v3 G
    · refine J_aload_n 3 hX dX9_stripDraws_36 fz3 rfl ?_
      refine J_getI hX dX9_stripDraws_37 lf_X9_166 hk_v3 rfl ?_
      refine J_aload_n 3 hX dX9_stripDraws_40 fz3 rfl ?_
      refine J_getI hX dX9_stripDraws_41 lf_X9_348 hk_v3 rfl ?_
      refine J_imul hX dX9_stripDraws_44 ?_
      refine J_goto (tgt := 52) hX dX9_stripDraws_45 rfl ?_
      refine J_sub (lv' := [(2, .int v2), (3, .ref (AD Y v3)), (4, .int s0)]) [2, 3, 0] rfl ?_
      exact K52 v3 s0 ((gI G v3 1) * (gI G v3 2)) hk_v3 G
  unfold f_X9_stripDraws
  refine J_aload_n 0 hX dX9_stripDraws_0 fz0 rfl ?_
  refine J_getNow hX dX9_stripDraws_1 lf_X9_10 fun hw1 => ?_
  refine J_getR (b := ((nw G) + 1)) hX dX9_stripDraws_4 lf_X9_98 hw1 rfl (by decide) rfl ?_
  refine J_astore_n (lv' := [(3, .ref (AD Y ((nw G) + 1))), (0, .ref (AD Y 0)), (1, .int v1), (2, .int v2)]) hX dX9_stripDraws_7 fz3 (Nat.le_of_ble_eq_true rfl) rfl ?_
  refine J_iload_n 2 hX dX9_stripDraws_8 fz1 rfl ?_
  refine J_iconst hX dX9_stripDraws_9 ci_2 ?_
  refine J_icmp_ne (tgt := 20) hX dX9_stripDraws_10 rfl ?_ ?_
  · refine J_aload_n 0 hX dX9_stripDraws_20 fz3 rfl ?_
    refine J_getI hX dX9_stripDraws_21 lf_X9_200 (tp_4_0 hw1) rfl ?_
    refine J_aload_n 0 hX dX9_stripDraws_24 fz3 rfl ?_
    refine J_getI hX dX9_stripDraws_25 lf_X9_166 (tp_4_0 hw1) rfl ?_
    refine J_imul hX dX9_stripDraws_28 ?_
    refine J_sub (lv' := [(1, .int v1), (2, .int v2), (3, .ref (AD Y ((nw G) + 1)))]) [2, 3, 0] rfl ?_
    exact K29 ((nw G) + 1) ((gI G ((nw G) + 1) 0) * (gI G ((nw G) + 1) 1)) (tp_4_0 hw1) G
  · refine J_aload_n 0 hX dX9_stripDraws_13 fz3 rfl ?_
    refine J_getI hX dX9_stripDraws_14 lf_X9_200 (tp_4_0 hw1) rfl ?_
    refine J_goto (tgt := 29) hX dX9_stripDraws_17 rfl ?_
    refine J_sub (lv' := [(1, .int v1), (2, .int v2), (3, .ref (AD Y ((nw G) + 1)))]) [2, 3, 0] rfl ?_
    exact K29 ((nw G) + 1) (gI G ((nw G) + 1) 0) (tp_4_0 hw1) G
set_option maxHeartbeats 4000000 in
set_option maxRecDepth 100000 in
theorem ok_X9_some {Y : DX} {v1 : Int32} {v2 : Int32} {v3 : Int32}  {G : GM} {r : Int64} {G' : GM} (hf : f_X9_some v1 v2 v3 G = some (r, G')) : OkJ Y 4 M_X9_some [.ref (AD Y 0), .int v1, .int v2, .int v3] G r G' := by
  refine okJ_of (lv0 := [(0, .ref (AD Y 0)), (1, .int v1), (2, .int v2), (3, .int v3)]) (by decide +kernel) rfl (Nat.le_of_ble_eq_true rfl) ?_
  intro X Q hX hR
  have hX : CXok X Y RX9 cX9_some 4 _ := hX
  revert hf
  show J X Y 4 Q 0 [(0, .ref (AD Y 0)), (1, .int v1), (2, .int v2), (3, .int v3)] [] G (f_X9_some v1 v2 v3 G = some (r, G'))
  have K28 : ∀ (G : GM), J X Y 4 Q 28 [] [] G (k_X9_some_28 v1 v2 v3 G = some (r, G')) := by
    intro G
    unfold k_X9_some_28
    refine J_ldc2 hX dX9_some_28 ll_X9_346 ?_
    exact J_retJ hR dX9_some_31
  unfold f_X9_some
  refine J_aload_n 0 hX dX9_some_0 fz0 rfl ?_
  refine J_iload_n 1 hX dX9_some_1 fz1 rfl ?_
  refine J_callVI (As := [.int v1]) (st := []) (b := 0) hX mv_X9_254 sk_0 rfl rfl rfl (Nat.le_of_ble_eq_true rfl) (Nat.le_of_ble_eq_true rfl) (Nat.le_of_ble_eq_true rfl) dX9_some_2 (fun r G1 h => ok_X9_isKind  h) fun r2 G2 => ?_
  refine J_if_eq (tgt := 28) hX dX9_some_5 rfl ?_ ?_
  · refine J_sub (lv' := []) [] rfl ?_
    exact K28 G2
  · refine J_iload_n 1 hX dX9_some_8 fz1 rfl ?_
    refine J_iconst hX dX9_some_9 ci_1 ?_
    refine J_icmp_eq (tgt := 28) hX dX9_some_10 rfl ?_ ?_
    · refine J_sub (lv' := []) [] rfl ?_
      exact K28 G2
    · refine J_aload_n 0 hX dX9_some_13 fz0 rfl ?_
      refine J_iload_n 2 hX dX9_some_14 fz2 rfl ?_
      refine J_callVI (As := [.int v2]) (st := []) (b := 0) hX mv_X9_241 sk_0 rfl rfl rfl (Nat.le_of_ble_eq_true rfl) (Nat.le_of_ble_eq_true rfl) (Nat.le_of_ble_eq_true rfl) dX9_some_15 (fun r G1 h => ok_X9_isTime  h) fun r15 G15 => ?_
      refine J_if_eq (tgt := 28) hX dX9_some_18 rfl ?_ ?_
      · refine J_sub (lv' := []) [] rfl ?_
        exact K28 G15
      · refine J_iload_n 3 hX dX9_some_21 fz3 rfl ?_
        refine J_callSI (As := [.int v3]) (st := []) hX ms_X9_343 rfl rfl (Nat.le_of_ble_eq_true rfl) (Nat.le_of_ble_eq_true rfl) (Nat.le_of_ble_eq_true rfl) dX9_some_22 (fun r G1 h => ok_X9_isPartOfFraction  h) fun r22 G22 => ?_
        refine J_if_ne (tgt := 32) hX dX9_some_25 rfl ?_ ?_
        · refine J_aload_n 0 hX dX9_some_32 fz0 rfl ?_
          refine J_iload_n 1 hX dX9_some_33 fz1 rfl ?_
          refine J_iload_n 2 hX dX9_some_34 fz2 rfl ?_
          refine J_callVJ (As := [.int v1, .int v2]) (st := []) (b := 0) hX mv_X9_364 sk_0 rfl rfl rfl (Nat.le_of_ble_eq_true rfl) (Nat.le_of_ble_eq_true rfl) (Nat.le_of_ble_eq_true rfl) dX9_some_35 (fun r G1 h => ok_X9_stripDraws  h) fun r35 G35 => ?_
          refine J_aload_n 0 hX dX9_some_38 fz0 rfl ?_
          refine J_getNow hX dX9_some_39 lf_X9_10 fun hw39 => ?_
          refine J_getR (b := ((nw G35) + 1)) hX dX9_some_42 lf_X9_98 hw39 rfl (by decide) rfl ?_
          refine J_getI hX dX9_some_45 lf_X9_136 (tp_4_0 hw39) rfl ?_
          refine J_iload_n 2 hX dX9_some_48 fz2 rfl ?_
          refine J_callSJ (As := [.int (gI G35 ((nw G35) + 1) 6), .int v2]) (st := [.long r35]) hX ms_X9_357 rfl rfl (Nat.le_of_ble_eq_true rfl) (Nat.le_of_ble_eq_true rfl) (Nat.le_of_ble_eq_true rfl) dX9_some_49 (fun r G1 h => ok_X1_choose  h) fun r49 G49 => ?_
          refine J_iload_n 3 hX dX9_some_52 fz3 rfl ?_
          refine J_callSJ (As := [.long r35, .long r49, .int v3]) (st := []) hX ms_X9_360 rfl rfl (Nat.le_of_ble_eq_true rfl) (Nat.le_of_ble_eq_true rfl) (Nat.le_of_ble_eq_true rfl) dX9_some_53 (fun r G1 h => ok_X1_told  h) fun r53 G53 => ?_
          exact J_retJ hR dX9_some_56
        · refine J_sub (lv' := []) [] rfl ?_
          exact K28 G22
set_option maxHeartbeats 4000000 in
set_option maxRecDepth 100000 in
theorem ok_X9_just {Y : DX} {v1 : Int32} {v2 : Int32} {v3 : Int32}  {G : GM} {r : Int64} {G' : GM} (hf : f_X9_just v1 v2 v3 G = some (r, G')) : OkJ Y 4 M_X9_just [.ref (AD Y 0), .int v1, .int v2, .int v3] G r G' := by
  refine okJ_of (lv0 := [(0, .ref (AD Y 0)), (1, .int v1), (2, .int v2), (3, .int v3)]) (by decide +kernel) rfl (Nat.le_of_ble_eq_true rfl) ?_
  intro X Q hX hR
  have hX : CXok X Y RX9 cX9_just 6 _ := hX
  revert hf
  show J X Y 6 Q 0 [(0, .ref (AD Y 0)), (1, .int v1), (2, .int v2), (3, .int v3)] [] G (f_X9_just v1 v2 v3 G = some (r, G'))
  have K32 : ∀ (G : GM), J X Y 6 Q 32 [] [] G (k_X9_just_32 v1 v2 v3 G = some (r, G')) := by
    intro G
    unfold k_X9_just_32
    refine J_ldc2 hX dX9_just_32 ll_X9_346 ?_
    exact J_retJ hR dX9_just_35
  unfold f_X9_just
  refine J_aload_n 0 hX dX9_just_0 fz0 rfl ?_
  refine J_iload_n 1 hX dX9_just_1 fz1 rfl ?_
  refine J_callVI (As := [.int v1]) (st := []) (b := 0) hX mv_X9_254 sk_0 rfl rfl rfl (Nat.le_of_ble_eq_true rfl) (Nat.le_of_ble_eq_true rfl) (Nat.le_of_ble_eq_true rfl) dX9_just_2 (fun r G1 h => ok_X9_isKind  h) fun r2 G2 => ?_
  refine J_if_eq (tgt := 32) hX dX9_just_5 rfl ?_ ?_
  · refine J_sub (lv' := []) [] rfl ?_
    exact K32 G2
  · refine J_iload_n 1 hX dX9_just_8 fz1 rfl ?_
    refine J_iconst hX dX9_just_9 ci_1 ?_
    refine J_icmp_eq (tgt := 32) hX dX9_just_10 rfl ?_ ?_
    · refine J_sub (lv' := []) [] rfl ?_
      exact K32 G2
    · refine J_aload_n 0 hX dX9_just_13 fz0 rfl ?_
      refine J_iload_n 2 hX dX9_just_14 fz2 rfl ?_
      refine J_callVI (As := [.int v2]) (st := []) (b := 0) hX mv_X9_241 sk_0 rfl rfl rfl (Nat.le_of_ble_eq_true rfl) (Nat.le_of_ble_eq_true rfl) (Nat.le_of_ble_eq_true rfl) dX9_just_15 (fun r G1 h => ok_X9_isTime  h) fun r15 G15 => ?_
      refine J_if_eq (tgt := 32) hX dX9_just_18 rfl ?_ ?_
      · refine J_sub (lv' := []) [] rfl ?_
        exact K32 G15
      · refine J_iload_n 2 hX dX9_just_21 fz2 rfl ?_
        refine J_if_eq (tgt := 32) hX dX9_just_22 rfl ?_ ?_
        · refine J_sub (lv' := []) [] rfl ?_
          exact K32 G15
        · refine J_iload_n 3 hX dX9_just_25 fz3 rfl ?_
          refine J_callSI (As := [.int v3]) (st := []) hX ms_X9_343 rfl rfl (Nat.le_of_ble_eq_true rfl) (Nat.le_of_ble_eq_true rfl) (Nat.le_of_ble_eq_true rfl) dX9_just_26 (fun r G1 h => ok_X9_isPartOfFraction  h) fun r26 G26 => ?_
          refine J_if_ne (tgt := 36) hX dX9_just_29 rfl ?_ ?_
          · refine J_aload_n 0 hX dX9_just_36 fz0 rfl ?_
            refine J_iload_n 1 hX dX9_just_37 fz1 rfl ?_
            refine J_iload_n 2 hX dX9_just_38 fz2 rfl ?_
            refine J_callVJ (As := [.int v1, .int v2]) (st := []) (b := 0) hX mv_X9_364 sk_0 rfl rfl rfl (Nat.le_of_ble_eq_true rfl) (Nat.le_of_ble_eq_true rfl) (Nat.le_of_ble_eq_true rfl) dX9_just_39 (fun r G1 h => ok_X9_stripDraws  h) fun r39 G39 => ?_
            refine J_iload_n 2 hX dX9_just_42 fz2 rfl ?_
            refine J_i2l hX dX9_just_43 ?_
            refine J_lmul hX dX9_just_44 ?_
            refine J_aload_n 0 hX dX9_just_45 fz0 rfl ?_
            refine J_iload_n 1 hX dX9_just_46 fz1 rfl ?_
            refine J_iload_n 2 hX dX9_just_47 fz2 rfl ?_
            refine J_iconst hX dX9_just_48 ci_1 ?_
            refine J_isub hX dX9_just_49 ?_
            refine J_callVJ (As := [.int v1, .int (v2 - (1 : Int32))]) (st := [.long (r39 * (v2.toInt64))]) (b := 0) hX mv_X9_364 sk_0 rfl rfl rfl (Nat.le_of_ble_eq_true rfl) (Nat.le_of_ble_eq_true rfl) (Nat.le_of_ble_eq_true rfl) dX9_just_50 (fun r G1 h => ok_X9_stripDraws  h) fun r50 G50 => ?_
            refine J_aload_n 0 hX dX9_just_53 fz0 rfl ?_
            refine J_getNow hX dX9_just_54 lf_X9_10 fun hw54 => ?_
            refine J_getR (b := ((nw G50) + 1)) hX dX9_just_57 lf_X9_98 hw54 rfl (by decide) rfl ?_
            refine J_getI hX dX9_just_60 lf_X9_136 (tp_4_0 hw54) rfl ?_
            refine J_iload_n 2 hX dX9_just_63 fz2 rfl ?_
            refine J_isub hX dX9_just_64 ?_
            refine J_iconst hX dX9_just_65 ci_1 ?_
            refine J_iadd hX dX9_just_66 ?_
            refine J_i2l hX dX9_just_67 ?_
            refine J_lmul hX dX9_just_68 ?_
            refine J_lsub hX dX9_just_69 ?_
            refine J_lt (mk := Value.long) fun x70 => ?_
            refine J_lstore (lv' := [(4, .long x70), (0, .ref (AD Y 0)), (1, .int v1), (2, .int v2), (3, .int v3)]) hX dX9_just_70 (Nat.le_of_ble_eq_true rfl) rfl ?_
            refine J_lload 0 hX dX9_just_72 rfl ?_
            refine J_aload_n 1 hX dX9_just_74 fz0 rfl ?_
            refine J_getNow hX dX9_just_75 lf_X9_10 fun hw75 => ?_
            refine J_getR (b := ((nw G50) + 1)) hX dX9_just_78 lf_X9_98 hw75 rfl (by decide) rfl ?_
            refine J_getI hX dX9_just_81 lf_X9_136 (tp_4_0 hw75) rfl ?_
            refine J_iload_n 3 hX dX9_just_84 fz2 rfl ?_
            refine J_callSJ (As := [.int (gI G50 ((nw G50) + 1) 6), .int v2]) (st := [.long x70]) hX ms_X9_357 rfl rfl (Nat.le_of_ble_eq_true rfl) (Nat.le_of_ble_eq_true rfl) (Nat.le_of_ble_eq_true rfl) dX9_just_85 (fun r G1 h => ok_X1_choose  h) fun r85 G85 => ?_
            refine J_iload_n 3 hX dX9_just_88 fz2 rfl ?_
            refine J_i2l hX dX9_just_89 ?_
            refine J_lmul hX dX9_just_90 ?_
            refine J_iload_n 4 hX dX9_just_91 fz3 rfl ?_
            refine J_callSJ (As := [.long x70, .long (r85 * (v2.toInt64)), .int v3]) (st := []) hX ms_X9_360 rfl rfl (Nat.le_of_ble_eq_true rfl) (Nat.le_of_ble_eq_true rfl) (Nat.le_of_ble_eq_true rfl) dX9_just_92 (fun r G1 h => ok_X1_told  h) fun r92 G92 => ?_
            exact J_retJ hR dX9_just_95
          · refine J_sub (lv' := []) [] rfl ?_
            exact K32 G26
set_option maxHeartbeats 4000000 in
set_option maxRecDepth 100000 in
theorem ok_X9_likely {Y : DX} {v1 : Int32} {v2 : Int32} {v3 : Int32}  {G : GM} {r : Int32} {G' : GM} (hf : f_X9_likely v1 v2 v3 G = some (r, G')) : OkI Y 4 M_X9_likely [.ref (AD Y 0), .int v1, .int v2, .int v3] G r G' := by
  refine okI_of (lv0 := [(0, .ref (AD Y 0)), (1, .int v1), (2, .int v2), (3, .int v3)]) (by decide +kernel) rfl (Nat.le_of_ble_eq_true rfl) ?_
  intro X Q hX hR
  have hX : CXok X Y RX9 cX9_likely 5 _ := hX
  revert hf
  show J X Y 5 Q 0 [(0, .ref (AD Y 0)), (1, .int v1), (2, .int v2), (3, .int v3)] [] G (f_X9_likely v1 v2 v3 G = some (r, G'))
  have K42 : ∀  (n : Nat) (v4 : Int32) (G : GM), J X Y 5 Q 42 [(0, .ref (AD Y 0)), (1, .int v1), (2, .int v2), (3, .int v3), (4, .int v4)] [] G (wl1 n (lp_X9_likely_42 v1 v2 v3) v4 G = some (r, G')) := by
    refine wl1_ind (R := fun v4 G φ => J X Y 5 Q 42 [(0, .ref (AD Y 0)), (1, .int v1), (2, .int v2), (3, .int v3), (4, .int v4)] [] G φ) (fun _ G φ h => J_no h) ?_
    intro kc42 hk42 v4 G
    unfold lp_X9_likely_42
    refine J_iload 4 hX dX9_likely_42 rfl ?_
    refine J_aload_n 0 hX dX9_likely_44 fz0 rfl ?_
    refine J_getNow hX dX9_likely_45 lf_X9_10 fun hw45 => ?_
    refine J_getR (b := ((nw G) + 1)) hX dX9_likely_48 lf_X9_98 hw45 rfl (by decide) rfl ?_
    refine J_getI hX dX9_likely_51 lf_X9_136 (tp_4_0 hw45) rfl ?_
    refine J_icmp_gt (tgt := 98) hX dX9_likely_54 rfl ?_ ?_
    · refine J_iconst hX dX9_likely_98 cim_1 ?_
      exact J_retI hR dX9_likely_99
    · refine J_aload_n 0 hX dX9_likely_57 fz0 rfl ?_
      refine J_iload_n 1 hX dX9_likely_58 fz1 rfl ?_
      refine J_iload 4 hX dX9_likely_59 rfl ?_
      refine J_callVJ (As := [.int v1, .int v4]) (st := []) (b := 0) hX mv_X9_364 sk_0 rfl rfl rfl (Nat.le_of_ble_eq_true rfl) (Nat.le_of_ble_eq_true rfl) (Nat.le_of_ble_eq_true rfl) dX9_likely_61 (fun r G1 h => ok_X9_stripDraws  h) fun r61 G61 => ?_
      refine J_iload_n 3 hX dX9_likely_64 fz3 rfl ?_
      refine J_i2l hX dX9_likely_65 ?_
      refine J_lmul hX dX9_likely_66 ?_
      refine J_iload_n 2 hX dX9_likely_67 fz2 rfl ?_
      refine J_i2l hX dX9_likely_68 ?_
      refine J_aload_n 0 hX dX9_likely_69 fz0 rfl ?_
      refine J_getNow hX dX9_likely_70 lf_X9_10 fun hw70 => ?_
      refine J_getR (b := ((nw G61) + 1)) hX dX9_likely_73 lf_X9_98 hw70 rfl (by decide) rfl ?_
      refine J_getI hX dX9_likely_76 lf_X9_136 (tp_4_0 hw70) rfl ?_
      refine J_iload 4 hX dX9_likely_79 rfl ?_
      refine J_callSJ (As := [.int (gI G61 ((nw G61) + 1) 6), .int v4]) (st := [.long (v2.toInt64), .long (r61 * (v3.toInt64))]) hX ms_X9_357 rfl rfl (Nat.le_of_ble_eq_true rfl) (Nat.le_of_ble_eq_true rfl) (Nat.le_of_ble_eq_true rfl) dX9_likely_81 (fun r G1 h => ok_X1_choose  h) fun r81 G81 => ?_
      refine J_lmul hX dX9_likely_84 ?_
      refine J_lcmp hX dX9_likely_85 ?_
      refine J_if_lt (tgt := 92) hX dX9_likely_86 rfl ?_ ?_
      · refine J_iinc (lv' := [(4, .int (v4 + (1 : Int32))), (0, .ref (AD Y 0)), (1, .int v1), (2, .int v2), (3, .int v3)]) 4 hX dX9_likely_92 rfl ci_1 (Nat.le_of_ble_eq_true rfl) rfl ?_
        refine J_goto (tgt := 42) hX dX9_likely_95 rfl ?_
        refine J_sub (lv' := [(0, .ref (AD Y 0)), (1, .int v1), (2, .int v2), (3, .int v3), (4, .int (v4 + (1 : Int32)))]) [1, 2, 3, 4, 0] rfl ?_
        exact hk42 (v4 + (1 : Int32)) G81
      · refine J_iload 4 hX dX9_likely_89 rfl ?_
        exact J_retI hR dX9_likely_91
  unfold f_X9_likely
  refine J_aload_n 0 hX dX9_likely_0 fz0 rfl ?_
  refine J_iload_n 1 hX dX9_likely_1 fz1 rfl ?_
  refine J_callVI (As := [.int v1]) (st := []) (b := 0) hX mv_X9_254 sk_0 rfl rfl rfl (Nat.le_of_ble_eq_true rfl) (Nat.le_of_ble_eq_true rfl) (Nat.le_of_ble_eq_true rfl) dX9_likely_2 (fun r G1 h => ok_X9_isKind  h) fun r2 G2 => ?_
  refine J_if_eq (tgt := 36) hX dX9_likely_5 rfl ?_ ?_
  · refine J_bipush hX dX9_likely_36 cbm_2 ?_
    exact J_retI hR dX9_likely_38
  · refine J_iload_n 1 hX dX9_likely_8 fz1 rfl ?_
    refine J_iconst hX dX9_likely_9 ci_1 ?_
    refine J_icmp_eq (tgt := 36) hX dX9_likely_10 rfl ?_ ?_
    · refine J_bipush hX dX9_likely_36 cbm_2 ?_
      exact J_retI hR dX9_likely_38
    · refine J_iload_n 2 hX dX9_likely_13 fz2 rfl ?_
      refine J_if_lt (tgt := 36) hX dX9_likely_14 rfl ?_ ?_
      · refine J_bipush hX dX9_likely_36 cbm_2 ?_
        exact J_retI hR dX9_likely_38
      · refine J_iload_n 2 hX dX9_likely_17 fz2 rfl ?_
        refine J_sipush hX dX9_likely_18 cs_1000 ?_
        refine J_icmp_gt (tgt := 36) hX dX9_likely_21 rfl ?_ ?_
        · refine J_bipush hX dX9_likely_36 cbm_2 ?_
          exact J_retI hR dX9_likely_38
        · refine J_iload_n 3 hX dX9_likely_24 fz3 rfl ?_
          refine J_iconst hX dX9_likely_25 ci_1 ?_
          refine J_icmp_lt (tgt := 36) hX dX9_likely_26 rfl ?_ ?_
          · refine J_bipush hX dX9_likely_36 cbm_2 ?_
            exact J_retI hR dX9_likely_38
          · refine J_iload_n 3 hX dX9_likely_29 fz3 rfl ?_
            refine J_sipush hX dX9_likely_30 cs_1000 ?_
            refine J_icmp_le (tgt := 39) hX dX9_likely_33 rfl ?_ ?_
            · refine J_iconst hX dX9_likely_39 ci_0 ?_
              refine J_istore (lv' := [(4, .int (0 : Int32)), (0, .ref (AD Y 0)), (1, .int v1), (2, .int v2), (3, .int v3)]) hX dX9_likely_40 (Nat.le_of_ble_eq_true rfl) rfl ?_
              refine J_sub (lv' := [(0, .ref (AD Y 0)), (1, .int v1), (2, .int v2), (3, .int v3), (4, .int (0 : Int32))]) [1, 2, 3, 4, 0] rfl ?_
              exact K42  FU (0 : Int32) G2
            · refine J_bipush hX dX9_likely_36 cbm_2 ?_
              exact J_retI hR dX9_likely_38
set_option maxHeartbeats 4000000 in
set_option maxRecDepth 100000 in
theorem ok_X9_mean {Y : DX} {v1 : Int32} {v2 : Int32}  {G : GM} {r : Int32} {G' : GM} (hf : f_X9_mean v1 v2 G = some (r, G')) : OkI Y 3 M_X9_mean [.ref (AD Y 0), .int v1, .int v2] G r G' := by
  refine okI_of (lv0 := [(0, .ref (AD Y 0)), (1, .int v1), (2, .int v2)]) (by decide +kernel) rfl (Nat.le_of_ble_eq_true rfl) ?_
  intro X Q hX hR
  have hX : CXok X Y RX9 cX9_mean 3 _ := hX
  revert hf
  show J X Y 3 Q 0 [(0, .ref (AD Y 0)), (1, .int v1), (2, .int v2)] [] G (f_X9_mean v1 v2 G = some (r, G'))
  unfold f_X9_mean
  refine J_aload_n 0 hX dX9_mean_0 fz0 rfl ?_
  refine J_iload_n 1 hX dX9_mean_1 fz1 rfl ?_
  refine J_callVI (As := [.int v1]) (st := []) (b := 0) hX mv_X9_241 sk_0 rfl rfl rfl (Nat.le_of_ble_eq_true rfl) (Nat.le_of_ble_eq_true rfl) (Nat.le_of_ble_eq_true rfl) dX9_mean_2 (fun r G1 h => ok_X9_isTime  h) fun r2 G2 => ?_
  refine J_if_eq (tgt := 19) hX dX9_mean_5 rfl ?_ ?_
  · refine J_bipush hX dX9_mean_19 cbm_2 ?_
    exact J_retI hR dX9_mean_21
  · refine J_iload_n 1 hX dX9_mean_8 fz1 rfl ?_
    refine J_if_eq (tgt := 19) hX dX9_mean_9 rfl ?_ ?_
    · refine J_bipush hX dX9_mean_19 cbm_2 ?_
      exact J_retI hR dX9_mean_21
    · refine J_iload_n 2 hX dX9_mean_12 fz2 rfl ?_
      refine J_callSI (As := [.int v2]) (st := []) hX ms_X9_343 rfl rfl (Nat.le_of_ble_eq_true rfl) (Nat.le_of_ble_eq_true rfl) (Nat.le_of_ble_eq_true rfl) dX9_mean_13 (fun r G1 h => ok_X9_isPartOfFraction  h) fun r13 G13 => ?_
      refine J_if_ne (tgt := 22) hX dX9_mean_16 rfl ?_ ?_
      · refine J_iload_n 1 hX dX9_mean_22 fz1 rfl ?_
        refine J_i2l hX dX9_mean_23 ?_
        refine J_aload_n 0 hX dX9_mean_24 fz0 rfl ?_
        refine J_getNow hX dX9_mean_25 lf_X9_10 fun hw25 => ?_
        refine J_getR (b := ((nw G13) + 1)) hX dX9_mean_28 lf_X9_98 hw25 rfl (by decide) rfl ?_
        refine J_getI hX dX9_mean_31 lf_X9_136 (tp_4_0 hw25) rfl ?_
        refine J_iconst hX dX9_mean_34 ci_1 ?_
        refine J_iadd hX dX9_mean_35 ?_
        refine J_i2l hX dX9_mean_36 ?_
        refine J_lmul hX dX9_mean_37 ?_
        refine J_iload_n 1 hX dX9_mean_38 fz1 rfl ?_
        refine J_i2l hX dX9_mean_39 ?_
        refine J_lconst hX dX9_mean_40 fy1 ?_
        refine J_ladd hX dX9_mean_41 ?_
        refine J_iload_n 2 hX dX9_mean_42 fz2 rfl ?_
        refine J_callSJ (As := [.long ((v1.toInt64) * (((gI G13 ((nw G13) + 1) 6) + (1 : Int32)).toInt64)), .long ((v1.toInt64) + (1 : Int64)), .int v2]) (st := []) hX ms_X9_360 rfl rfl (Nat.le_of_ble_eq_true rfl) (Nat.le_of_ble_eq_true rfl) (Nat.le_of_ble_eq_true rfl) dX9_mean_43 (fun r G1 h => ok_X1_told  h) fun r43 G43 => ?_
        refine J_l2i hX dX9_mean_46 ?_
        exact J_retI hR dX9_mean_47
      · refine J_bipush hX dX9_mean_19 cbm_2 ?_
        exact J_retI hR dX9_mean_21
set_option maxHeartbeats 4000000 in
set_option maxRecDepth 100000 in
theorem ok_X9_evenings {Y : DX} {v1 : Int32} {v2 : Int32} {v3 : Int32} {v4 : Int32}  {G : GM} {r : Int32} {G' : GM} (hf : f_X9_evenings v1 v2 v3 v4 G = some (r, G')) : OkI Y 6 M_X9_evenings [.ref (AD Y 0), .int v1, .int v2, .int v3, .int v4] G r G' := by
  refine okI_of (lv0 := [(0, .ref (AD Y 0)), (1, .int v1), (2, .int v2), (3, .int v3), (4, .int v4)]) (by decide +kernel) rfl (Nat.le_of_ble_eq_true rfl) ?_
  intro X Q hX hR
  have hX : CXok X Y RX9 cX9_evenings 11 _ := hX
  revert hf
  show J X Y 11 Q 0 [(0, .ref (AD Y 0)), (1, .int v1), (2, .int v2), (3, .int v3), (4, .int v4)] [] G (f_X9_evenings v1 v2 v3 v4 G = some (r, G'))
  have K66 : ∀  (n : Nat) (v5 : Int32) (v6 : Int32) (v7 : Int32) (v8 : Int32) (G : GM), J X Y 11 Q 66 [(0, .ref (AD Y 0)), (1, .int v1), (2, .int v2), (3, .int v3), (4, .int v4), (5, .int v5), (6, .int v6), (7, .int v7), (8, .int v8)] [] G (wl4 n (lp_X9_evenings_66 v1 v2 v3 v4) v5 v6 v7 v8 G = some (r, G')) := by
    refine wl4_ind (R := fun v5 v6 v7 v8 G φ => J X Y 11 Q 66 [(0, .ref (AD Y 0)), (1, .int v1), (2, .int v2), (3, .int v3), (4, .int v4), (5, .int v5), (6, .int v6), (7, .int v7), (8, .int v8)] [] G φ) (fun _ _ _ _ G φ h => J_no h) ?_
    intro kc66 hk66 v5 v6 v7 v8 G
    unfold lp_X9_evenings_66
    have K149 : ∀ (v5 : Int32) (v6 : Int32) (v7 : Int32) (v8 : Int32) (v9 : Int32) (s0 : Int32) (G : GM), J X Y 11 Q 149 [(0, .ref (AD Y 0)), (1, .int v1), (2, .int v2), (3, .int v3), (4, .int v4), (5, .int v5), (6, .int v6), (7, .int v7), (8, .int v8), (9, .int v9)] [.int s0] G (k_X9_evenings_149 v1 v2 v3 v4 v5 v6 v7 v8 v9 s0 kc66 G = some (r, G')) := by
      intro v5 v6 v7 v8 v9 s0 G
      unfold k_X9_evenings_149
      refine J_istore (lv' := [(10, .int s0), (0, .ref (AD Y 0)), (1, .int v1), (2, .int v2), (3, .int v3), (4, .int v4), (5, .int v5), (6, .int v6), (7, .int v7), (8, .int v8), (9, .int v9)]) hX dX9_evenings_149 (Nat.le_of_ble_eq_true rfl) rfl ?_
      refine J_iload 6 hX dX9_evenings_151 rfl ?_
      refine J_iload 0 hX dX9_evenings_153 rfl ?_
      refine J_iadd hX dX9_evenings_155 ?_
      refine J_lt (mk := Value.int) fun x156 => ?_
      refine J_istore (lv' := [(5, .int x156), (10, .int s0), (0, .ref (AD Y 0)), (1, .int v1), (2, .int v2), (3, .int v3), (4, .int v4), (6, .int v6), (7, .int v7), (8, .int v8), (9, .int v9)]) hX dX9_evenings_156 (Nat.le_of_ble_eq_true rfl) rfl ?_
      refine J_iload 7 hX dX9_evenings_158 rfl ?_
      refine J_iload 1 hX dX9_evenings_160 rfl ?_
      refine J_mmin hX dX9_evenings_162 lm_X9_305 (Nat.le_of_ble_eq_true rfl) (Nat.le_of_ble_eq_true rfl) ?_
      refine J_lt (mk := Value.int) fun x165 => ?_
      refine J_istore (lv' := [(6, .int x165), (5, .int x156), (10, .int s0), (0, .ref (AD Y 0)), (1, .int v1), (2, .int v2), (3, .int v3), (4, .int v4), (7, .int v7), (8, .int v8), (9, .int v9)]) hX dX9_evenings_165 (Nat.le_of_ble_eq_true rfl) rfl ?_
      refine J_aload_n 3 hX dX9_evenings_167 fz0 rfl ?_
      refine J_iload_n 6 hX dX9_evenings_168 fz3 rfl ?_
      refine J_iload 10 hX dX9_evenings_169 rfl ?_
      refine J_aload_n 3 hX dX9_evenings_171 fz0 rfl ?_
      refine J_getR (b := 119) hX dX9_evenings_172 lf_X9_73 sk_0 rfl (by decide) rfl ?_
      refine J_callVI (As := [.int v3, .int v9, .ref (AD Y 119)]) (st := []) (b := 0) hX mv_X9_267 sk_0 rfl rfl rfl (Nat.le_of_ble_eq_true rfl) (Nat.le_of_ble_eq_true rfl) (Nat.le_of_ble_eq_true rfl) dX9_evenings_175 (fun r G1 h => ok_X9_winnersAt sk_119 h) fun r175 G175 => ?_
      refine J_iconst hX dX9_evenings_178 ci_1 ?_
      refine J_icmp_le (tgt := 185) hX dX9_evenings_179 rfl ?_ ?_
      · refine J_iinc (lv' := [(8, .int (v8 + (1 : Int32))), (6, .int x165), (5, .int x156), (10, .int s0), (0, .ref (AD Y 0)), (1, .int v1), (2, .int v2), (3, .int v3), (4, .int v4), (7, .int v7), (9, .int v9)]) 9 hX dX9_evenings_185 rfl ci_1 (Nat.le_of_ble_eq_true rfl) rfl ?_
        refine J_goto (tgt := 66) hX dX9_evenings_188 rfl ?_
        refine J_sub (lv' := [(0, .ref (AD Y 0)), (1, .int v1), (2, .int v2), (3, .int v3), (4, .int v4), (5, .int x156), (6, .int x165), (7, .int v7), (8, .int (v8 + (1 : Int32)))]) [4, 5, 6, 7, 8, 2, 1, 9, 0] rfl ?_
        exact hk66 x156 x165 v7 (v8 + (1 : Int32)) G175
      · refine J_iinc (lv' := [(7, .int (v7 + (1 : Int32))), (6, .int x165), (5, .int x156), (10, .int s0), (0, .ref (AD Y 0)), (1, .int v1), (2, .int v2), (3, .int v3), (4, .int v4), (8, .int v8), (9, .int v9)]) 8 hX dX9_evenings_182 rfl ci_1 (Nat.le_of_ble_eq_true rfl) rfl ?_
        refine J_iinc (lv' := [(8, .int (v8 + (1 : Int32))), (7, .int (v7 + (1 : Int32))), (6, .int x165), (5, .int x156), (10, .int s0), (0, .ref (AD Y 0)), (1, .int v1), (2, .int v2), (3, .int v3), (4, .int v4), (9, .int v9)]) 9 hX dX9_evenings_185 rfl ci_1 (Nat.le_of_ble_eq_true rfl) rfl ?_
        refine J_goto (tgt := 66) hX dX9_evenings_188 rfl ?_
        refine J_sub (lv' := [(0, .ref (AD Y 0)), (1, .int v1), (2, .int v2), (3, .int v3), (4, .int v4), (5, .int x156), (6, .int x165), (7, .int (v7 + (1 : Int32))), (8, .int (v8 + (1 : Int32)))]) [5, 6, 7, 8, 9, 3, 2, 1, 0] rfl ?_
        exact hk66 x156 x165 (v7 + (1 : Int32)) (v8 + (1 : Int32)) G175
    refine J_iload 8 hX dX9_evenings_66 rfl ?_
    refine J_iload_n 2 hX dX9_evenings_68 fz2 rfl ?_
    refine J_icmp_ge (tgt := 191) hX dX9_evenings_69 rfl ?_ ?_
    · refine J_iload 4 hX dX9_evenings_191 rfl ?_
      refine J_if_ne (tgt := 199) hX dX9_evenings_193 rfl ?_ ?_
      · refine J_iload 4 hX dX9_evenings_199 rfl ?_
        refine J_iconst hX dX9_evenings_201 ci_1 ?_
        refine J_icmp_ne (tgt := 210) hX dX9_evenings_202 rfl ?_ ?_
        · refine J_iload 7 hX dX9_evenings_210 rfl ?_
          exact J_retI hR dX9_evenings_212
        · refine J_iload 6 hX dX9_evenings_205 rfl ?_
          refine J_goto (tgt := 212) hX dX9_evenings_207 rfl ?_
          exact J_retI hR dX9_evenings_212
      · refine J_iload 5 hX dX9_evenings_196 rfl ?_
        exact J_retI hR dX9_evenings_198
    · refine J_aload_n 0 hX dX9_evenings_72 fz0 rfl ?_
      refine J_getR (b := 47) hX dX9_evenings_73 lf_X9_30 sk_0 rfl (by decide) rfl ?_
      refine J_aload_n 0 hX dX9_evenings_76 fz0 rfl ?_
      refine J_getNow hX dX9_evenings_77 lf_X9_10 fun hw77 => ?_
      refine J_getR (b := ((nw G) + 1)) hX dX9_evenings_80 lf_X9_98 hw77 rfl (by decide) rfl ?_
      refine J_iload_n 1 hX dX9_evenings_83 fz1 rfl ?_
      refine J_iload 8 hX dX9_evenings_84 rfl ?_
      refine J_iadd hX dX9_evenings_86 ?_
      refine J_aload_n 0 hX dX9_evenings_87 fz0 rfl ?_
      refine J_getR (b := 118) hX dX9_evenings_88 lf_X9_70 sk_0 rfl (by decide) rfl ?_
      refine J_callVV (As := [.ref (AD Y ((nw G) + 1)), .int (v1 + v8), .ref (AD Y 118)]) (st := []) (b := 47) hX mv_X9_108 sk_47 rfl rfl rfl (Nat.le_of_ble_eq_true rfl) (Nat.le_of_ble_eq_true rfl) (Nat.le_of_ble_eq_true rfl) dX9_evenings_91 (fun G1 h => ok_X2_mixCalls sk_47 (tp_4_0 hw77) sk_118 h) fun G91 => ?_
      refine J_aload_n 0 hX dX9_evenings_94 fz0 rfl ?_
      refine J_getR (b := 118) hX dX9_evenings_95 lf_X9_70 sk_0 rfl (by decide) rfl ?_
      refine J_aload_n 0 hX dX9_evenings_98 fz0 rfl ?_
      refine J_getNow hX dX9_evenings_99 lf_X9_10 fun hw99 => ?_
      refine J_getR (b := ((nw G91) + 1)) hX dX9_evenings_102 lf_X9_98 hw99 rfl (by decide) rfl ?_
      refine J_getI hX dX9_evenings_105 lf_X9_136 (tp_4_0 hw99) rfl ?_
      refine J_aload_n 0 hX dX9_evenings_108 fz0 rfl ?_
      refine J_getR (b := 119) hX dX9_evenings_109 lf_X9_73 sk_0 rfl (by decide) rfl ?_
      refine J_callSV (As := [.ref (AD Y 118), .int (gI G91 ((nw G91) + 1) 6), .ref (AD Y 119)]) (st := []) hX ms_X9_367 rfl rfl (Nat.le_of_ble_eq_true rfl) (Nat.le_of_ble_eq_true rfl) (Nat.le_of_ble_eq_true rfl) dX9_evenings_112 (fun G1 h => ok_X9_noteTurns sk_118 sk_119 h) fun G112 => ?_
      refine J_aload_n 0 hX dX9_evenings_115 fz0 rfl ?_
      refine J_iload_n 3 hX dX9_evenings_116 fz3 rfl ?_
      refine J_aload_n 0 hX dX9_evenings_117 fz0 rfl ?_
      refine J_getR (b := 119) hX dX9_evenings_118 lf_X9_73 sk_0 rfl (by decide) rfl ?_
      refine J_callVI (As := [.int v3, .ref (AD Y 119)]) (st := []) (b := 0) hX mv_X9_263 sk_0 rfl rfl rfl (Nat.le_of_ble_eq_true rfl) (Nat.le_of_ble_eq_true rfl) (Nat.le_of_ble_eq_true rfl) dX9_evenings_121 (fun r G1 h => ok_X9_firstTurn sk_119 h) fun r121 G121 => ?_
      refine J_istore (lv' := [(9, .int r121), (0, .ref (AD Y 0)), (1, .int v1), (2, .int v2), (3, .int v3), (4, .int v4), (5, .int v5), (6, .int v6), (7, .int v7), (8, .int v8)]) hX dX9_evenings_124 (Nat.le_of_ble_eq_true rfl) rfl ?_
      refine J_iload 0 hX dX9_evenings_126 rfl ?_
      refine J_iconst hX dX9_evenings_128 cim_1 ?_
      refine J_icmp_ne (tgt := 147) hX dX9_evenings_129 rfl ?_ ?_
      · refine J_iload 0 hX dX9_evenings_147 rfl ?_
        refine J_sub (lv' := [(0, .ref (AD Y 0)), (1, .int v1), (2, .int v2), (3, .int v3), (4, .int v4), (5, .int v5), (6, .int v6), (7, .int v7), (8, .int v8), (9, .int r121)]) [1, 2, 3, 4, 5, 6, 7, 8, 9, 0] rfl ?_
        exact K149 v5 v6 v7 v8 r121 r121 G121
      · refine J_aload_n 1 hX dX9_evenings_132 fz0 rfl ?_
        refine J_getNow hX dX9_evenings_133 lf_X9_10 fun hw133 => ?_
        refine J_getR (b := ((nw G121) + 1)) hX dX9_evenings_136 lf_X9_98 hw133 rfl (by decide) rfl ?_
        refine J_getI hX dX9_evenings_139 lf_X9_136 (tp_4_0 hw133) rfl ?_
        refine J_iconst hX dX9_evenings_142 ci_1 ?_
        refine J_iadd hX dX9_evenings_143 ?_
        refine J_goto (tgt := 149) hX dX9_evenings_144 rfl ?_
        refine J_sub (lv' := [(0, .ref (AD Y 0)), (1, .int v1), (2, .int v2), (3, .int v3), (4, .int v4), (5, .int v5), (6, .int v6), (7, .int v7), (8, .int v8), (9, .int r121)]) [1, 2, 3, 4, 5, 6, 7, 8, 9, 0] rfl ?_
        exact K149 v5 v6 v7 v8 r121 ((gI G121 ((nw G121) + 1) 6) + (1 : Int32)) G121
  unfold f_X9_evenings
  refine J_aload_n 0 hX dX9_evenings_0 fz0 rfl ?_
  refine J_iload_n 3 hX dX9_evenings_1 fz3 rfl ?_
  refine J_callVI (As := [.int v3]) (st := []) (b := 0) hX mv_X9_254 sk_0 rfl rfl rfl (Nat.le_of_ble_eq_true rfl) (Nat.le_of_ble_eq_true rfl) (Nat.le_of_ble_eq_true rfl) dX9_evenings_2 (fun r G1 h => ok_X9_isKind  h) fun r2 G2 => ?_
  refine J_if_eq (tgt := 40) hX dX9_evenings_5 rfl ?_ ?_
  · refine J_bipush hX dX9_evenings_40 cbm_2 ?_
    exact J_retI hR dX9_evenings_42
  · refine J_iload_n 1 hX dX9_evenings_8 fz1 rfl ?_
    refine J_if_lt (tgt := 40) hX dX9_evenings_9 rfl ?_ ?_
    · refine J_bipush hX dX9_evenings_40 cbm_2 ?_
      exact J_retI hR dX9_evenings_42
    · refine J_iload_n 1 hX dX9_evenings_12 fz1 rfl ?_
      refine J_ldc hX dX9_evenings_13 lc_X9_234 ?_
      refine J_icmp_gt (tgt := 40) hX dX9_evenings_15 rfl ?_ ?_
      · refine J_bipush hX dX9_evenings_40 cbm_2 ?_
        exact J_retI hR dX9_evenings_42
      · refine J_iload_n 2 hX dX9_evenings_18 fz2 rfl ?_
        refine J_iconst hX dX9_evenings_19 ci_1 ?_
        refine J_icmp_lt (tgt := 40) hX dX9_evenings_20 rfl ?_ ?_
        · refine J_bipush hX dX9_evenings_40 cbm_2 ?_
          exact J_retI hR dX9_evenings_42
        · refine J_iload_n 2 hX dX9_evenings_23 fz2 rfl ?_
          refine J_bipush hX dX9_evenings_24 cb_20 ?_
          refine J_icmp_gt (tgt := 40) hX dX9_evenings_26 rfl ?_ ?_
          · refine J_bipush hX dX9_evenings_40 cbm_2 ?_
            exact J_retI hR dX9_evenings_42
          · refine J_iload 4 hX dX9_evenings_29 rfl ?_
            refine J_if_lt (tgt := 40) hX dX9_evenings_31 rfl ?_ ?_
            · refine J_bipush hX dX9_evenings_40 cbm_2 ?_
              exact J_retI hR dX9_evenings_42
            · refine J_iload 4 hX dX9_evenings_34 rfl ?_
              refine J_iconst hX dX9_evenings_36 ci_2 ?_
              refine J_icmp_le (tgt := 43) hX dX9_evenings_37 rfl ?_ ?_
              · refine J_iconst hX dX9_evenings_43 ci_0 ?_
                refine J_istore (lv' := [(5, .int (0 : Int32)), (0, .ref (AD Y 0)), (1, .int v1), (2, .int v2), (3, .int v3), (4, .int v4)]) hX dX9_evenings_44 (Nat.le_of_ble_eq_true rfl) rfl ?_
                refine J_aload_n 1 hX dX9_evenings_46 fz0 rfl ?_
                refine J_getNow hX dX9_evenings_47 lf_X9_10 fun hw47 => ?_
                refine J_getR (b := ((nw G2) + 1)) hX dX9_evenings_50 lf_X9_98 hw47 rfl (by decide) rfl ?_
                refine J_getI hX dX9_evenings_53 lf_X9_136 (tp_4_0 hw47) rfl ?_
                refine J_iconst hX dX9_evenings_56 ci_1 ?_
                refine J_iadd hX dX9_evenings_57 ?_
                refine J_lt (mk := Value.int) fun x58 => ?_
                refine J_istore (lv' := [(6, .int x58), (5, .int (0 : Int32)), (0, .ref (AD Y 0)), (1, .int v1), (2, .int v2), (3, .int v3), (4, .int v4)]) hX dX9_evenings_58 (Nat.le_of_ble_eq_true rfl) rfl ?_
                refine J_iconst hX dX9_evenings_60 ci_0 ?_
                refine J_istore (lv' := [(7, .int (0 : Int32)), (6, .int x58), (5, .int (0 : Int32)), (0, .ref (AD Y 0)), (1, .int v1), (2, .int v2), (3, .int v3), (4, .int v4)]) hX dX9_evenings_61 (Nat.le_of_ble_eq_true rfl) rfl ?_
                refine J_iconst hX dX9_evenings_63 ci_0 ?_
                refine J_istore (lv' := [(8, .int (0 : Int32)), (7, .int (0 : Int32)), (6, .int x58), (5, .int (0 : Int32)), (0, .ref (AD Y 0)), (1, .int v1), (2, .int v2), (3, .int v3), (4, .int v4)]) hX dX9_evenings_64 (Nat.le_of_ble_eq_true rfl) rfl ?_
                refine J_sub (lv' := [(0, .ref (AD Y 0)), (1, .int v1), (2, .int v2), (3, .int v3), (4, .int v4), (5, .int (0 : Int32)), (6, .int x58), (7, .int (0 : Int32)), (8, .int (0 : Int32))]) [4, 5, 6, 7, 8, 3, 2, 1, 0] rfl ?_
                exact K66  FU (0 : Int32) x58 (0 : Int32) (0 : Int32) G2
              · refine J_bipush hX dX9_evenings_40 cbm_2 ?_
                exact J_retI hR dX9_evenings_42
set_option maxHeartbeats 4000000 in
set_option maxRecDepth 100000 in
theorem ok_X9_judge {Y : DX} {v1 : Int32}  {G : GM} {r : Int32} {G' : GM} (hf : f_X9_judge v1 G = some (r, G')) : OkI Y 6 M_X9_judge [.ref (AD Y 0), .int v1] G r G' := by
  refine okI_of (lv0 := [(0, .ref (AD Y 0)), (1, .int v1)]) (by decide +kernel) rfl (Nat.le_of_ble_eq_true rfl) ?_
  intro X Q hX hR
  have hX : CXok X Y RX9 cX9_judge 4 _ := hX
  revert hf
  show J X Y 4 Q 0 [(0, .ref (AD Y 0)), (1, .int v1)] [] G (f_X9_judge v1 G = some (r, G'))
  have K59 : ∀ (v2 : Int32) (n : Nat) (v3 : Int32) (G : GM), J X Y 4 Q 59 [(0, .ref (AD Y 0)), (1, .int v1), (2, .int v2), (3, .int v3)] [] G (wl1 n (lp_X9_judge_59 v1 v2) v3 G = some (r, G')) := by
    intro v2
    refine wl1_ind (R := fun v3 G φ => J X Y 4 Q 59 [(0, .ref (AD Y 0)), (1, .int v1), (2, .int v2), (3, .int v3)] [] G φ) (fun _ G φ h => J_no h) ?_
    intro kc59 hk59 v3 G
    unfold lp_X9_judge_59
    refine J_iload_n 3 hX dX9_judge_59 fz3 rfl ?_
    refine J_iload_n 2 hX dX9_judge_60 fz2 rfl ?_
    refine J_icmp_ge (tgt := 95) hX dX9_judge_61 rfl ?_ ?_
    · refine J_iload_n 2 hX dX9_judge_95 fz2 rfl ?_
      exact J_retI hR dX9_judge_96
    · refine J_aload_n 0 hX dX9_judge_64 fz0 rfl ?_
      refine J_getR (b := 62) hX dX9_judge_65 lf_X9_44 sk_0 rfl (by decide) rfl ?_
      refine J_iload_n 1 hX dX9_judge_68 fz1 rfl ?_
      refine J_iload_n 3 hX dX9_judge_69 fz3 rfl ?_
      refine J_callVJ (As := [.int v1, .int v3]) (st := []) (b := 62) hX mv_X9_162 sk_62 rfl rfl rfl (Nat.le_of_ble_eq_true rfl) (Nat.le_of_ble_eq_true rfl) (Nat.le_of_ble_eq_true rfl) dX9_judge_70 (fun r G1 h => ok_X8_valueAt  h) fun r70 G70 => ?_
      refine J_aload_n 0 hX dX9_judge_73 fz0 rfl ?_
      refine J_getNow hX dX9_judge_74 lf_X9_10 fun hw74 => ?_
      refine J_getR (b := ((nw G70) + 20)) hX dX9_judge_77 lf_X9_105 hw74 rfl (by decide) rfl ?_
      refine J_iload_n 3 hX dX9_judge_80 fz3 rfl ?_
      refine J_iald hX dX9_judge_81 (tp_4_8 hw74) (tl_4_8 hw74) ?_
      refine J_i2l hX dX9_judge_82 ?_
      refine J_lcmp hX dX9_judge_83 ?_
      refine J_if_eq (tgt := 89) hX dX9_judge_84 rfl ?_ ?_
      · refine J_iinc (lv' := [(3, .int (v3 + (1 : Int32))), (0, .ref (AD Y 0)), (1, .int v1), (2, .int v2)]) 3 hX dX9_judge_89 rfl ci_1 (Nat.le_of_ble_eq_true rfl) rfl ?_
        refine J_goto (tgt := 59) hX dX9_judge_92 rfl ?_
        refine J_sub (lv' := [(0, .ref (AD Y 0)), (1, .int v1), (2, .int v2), (3, .int (v3 + (1 : Int32)))]) [1, 2, 3, 0] rfl ?_
        exact hk59 (v3 + (1 : Int32)) G70
      · refine J_iload_n 3 hX dX9_judge_87 fz3 rfl ?_
        exact J_retI hR dX9_judge_88
  unfold f_X9_judge
  refine J_aload_n 0 hX dX9_judge_0 fz0 rfl ?_
  refine J_callVI (As := []) (st := []) (b := 0) hX mv_X9_133 sk_0 rfl rfl rfl (Nat.le_of_ble_eq_true rfl) (Nat.le_of_ble_eq_true rfl) (Nat.le_of_ble_eq_true rfl) dX9_judge_1 (fun r G1 h => ok_X9_isHall  h) fun r1 G1 => ?_
  refine J_if_eq (tgt := 18) hX dX9_judge_4 rfl ?_ ?_
  · refine J_bipush hX dX9_judge_18 cbm_2 ?_
    exact J_retI hR dX9_judge_20
  · refine J_aload_n 0 hX dX9_judge_7 fz0 rfl ?_
    refine J_getR (b := 62) hX dX9_judge_8 lf_X9_44 sk_0 rfl (by decide) rfl ?_
    refine J_iload_n 1 hX dX9_judge_11 fz1 rfl ?_
    refine J_callVI (As := [.int v1]) (st := []) (b := 62) hX mv_X9_149 sk_62 rfl rfl rfl (Nat.le_of_ble_eq_true rfl) (Nat.le_of_ble_eq_true rfl) (Nat.le_of_ble_eq_true rfl) dX9_judge_12 (fun r G1 h => ok_X8_isSlot  h) fun r12 G12 => ?_
    refine J_if_ne (tgt := 21) hX dX9_judge_15 rfl ?_ ?_
    · refine J_aload_n 0 hX dX9_judge_21 fz0 rfl ?_
      refine J_getR (b := 62) hX dX9_judge_22 lf_X9_44 sk_0 rfl (by decide) rfl ?_
      refine J_iload_n 1 hX dX9_judge_25 fz1 rfl ?_
      refine J_callVI (As := [.int v1]) (st := []) (b := 62) hX mv_X9_152 sk_62 rfl rfl rfl (Nat.le_of_ble_eq_true rfl) (Nat.le_of_ble_eq_true rfl) (Nat.le_of_ble_eq_true rfl) dX9_judge_26 (fun r G1 h => ok_X8_hasRow  h) fun r26 G26 => ?_
      refine J_if_ne (tgt := 35) hX dX9_judge_29 rfl ?_ ?_
      · refine J_aload_n 0 hX dX9_judge_35 fz0 rfl ?_
        refine J_getR (b := 62) hX dX9_judge_36 lf_X9_44 sk_0 rfl (by decide) rfl ?_
        refine J_iload_n 1 hX dX9_judge_39 fz1 rfl ?_
        refine J_callVI (As := [.int v1]) (st := []) (b := 62) hX mv_X9_155 sk_62 rfl rfl rfl (Nat.le_of_ble_eq_true rfl) (Nat.le_of_ble_eq_true rfl) (Nat.le_of_ble_eq_true rfl) dX9_judge_40 (fun r G1 h => ok_X8_lengthOf  h) fun r40 G40 => ?_
        refine J_aload_n 0 hX dX9_judge_43 fz0 rfl ?_
        refine J_getNow hX dX9_judge_44 lf_X9_10 fun hw44 => ?_
        refine J_getR (b := ((nw G40) + 1)) hX dX9_judge_47 lf_X9_98 hw44 rfl (by decide) rfl ?_
        refine J_getI hX dX9_judge_50 lf_X9_136 (tp_4_0 hw44) rfl ?_
        refine J_mmin hX dX9_judge_53 lm_X9_305 (Nat.le_of_ble_eq_true rfl) (Nat.le_of_ble_eq_true rfl) ?_
        refine J_lt (mk := Value.int) fun x56 => ?_
        refine J_istore_n (lv' := [(2, .int x56), (0, .ref (AD Y 0)), (1, .int v1)]) hX dX9_judge_56 fz2 (Nat.le_of_ble_eq_true rfl) rfl ?_
        refine J_iconst hX dX9_judge_57 ci_0 ?_
        refine J_istore_n (lv' := [(3, .int (0 : Int32)), (2, .int x56), (0, .ref (AD Y 0)), (1, .int v1)]) hX dX9_judge_58 fz3 (Nat.le_of_ble_eq_true rfl) rfl ?_
        refine J_sub (lv' := [(0, .ref (AD Y 0)), (1, .int v1), (2, .int x56), (3, .int (0 : Int32))]) [2, 3, 1, 0] rfl ?_
        exact K59 x56 FU (0 : Int32) G40
      · refine J_bipush hX dX9_judge_32 cbm_6 ?_
        exact J_retI hR dX9_judge_34
    · refine J_bipush hX dX9_judge_18 cbm_2 ?_
      exact J_retI hR dX9_judge_20
set_option maxHeartbeats 4000000 in
set_option maxRecDepth 100000 in
theorem ok_X9_count {Y : DX} {v1 : Int32}  {G : GM} {r : Int32} {G' : GM} (hf : f_X9_count v1 G = some (r, G')) : OkI Y 2 M_X9_count [.ref (AD Y 0), .int v1] G r G' := by
  refine okI_of (lv0 := [(0, .ref (AD Y 0)), (1, .int v1)]) (by decide +kernel) rfl (Nat.le_of_ble_eq_true rfl) ?_
  intro X Q hX hR
  have hX : CXok X Y RX9 cX9_count 2 _ := hX
  revert hf
  show J X Y 2 Q 0 [(0, .ref (AD Y 0)), (1, .int v1)] [] G (f_X9_count v1 G = some (r, G'))
  unfold f_X9_count
  refine J_iload_n 1 hX dX9_count_0 fz1 rfl ?_
  refine J_case (fun ht1_0 => ?_) (fun ht1_0 => ?_)
  · refine J_tswIn (off := 55) (tgt := 56) hX dX9_count_1 (by rw [ht1_0]; decide) (by rw [ht1_0]; decide) (by rw [ht1_0]; decide +kernel) rfl ?_
    refine J_aload_n 0 hX dX9_count_56 fz0 rfl ?_
    refine J_getNow hX dX9_count_57 lf_X9_10 fun hw57 => ?_
    refine J_getR (b := ((nw G) + 1)) hX dX9_count_60 lf_X9_98 hw57 rfl (by decide) rfl ?_
    refine J_getI hX dX9_count_63 lf_X9_200 (tp_4_0 hw57) rfl ?_
    exact J_retI hR dX9_count_66
  · refine J_case (fun ht1_1 => ?_) (fun ht1_1 => ?_)
    · refine J_tswIn (off := 66) (tgt := 67) hX dX9_count_1 (by rw [ht1_1]; decide) (by rw [ht1_1]; decide) (by rw [ht1_1]; decide +kernel) rfl ?_
      refine J_aload_n 0 hX dX9_count_67 fz0 rfl ?_
      refine J_getNow hX dX9_count_68 lf_X9_10 fun hw68 => ?_
      refine J_getR (b := ((nw G) + 1)) hX dX9_count_71 lf_X9_98 hw68 rfl (by decide) rfl ?_
      refine J_getI hX dX9_count_74 lf_X9_166 (tp_4_0 hw68) rfl ?_
      exact J_retI hR dX9_count_77
    · refine J_case (fun ht1_2 => ?_) (fun ht1_2 => ?_)
      · refine J_tswIn (off := 77) (tgt := 78) hX dX9_count_1 (by rw [ht1_2]; decide) (by rw [ht1_2]; decide) (by rw [ht1_2]; decide +kernel) rfl ?_
        refine J_aload_n 0 hX dX9_count_78 fz0 rfl ?_
        refine J_getNow hX dX9_count_79 lf_X9_10 fun hw79 => ?_
        refine J_getR (b := ((nw G) + 1)) hX dX9_count_82 lf_X9_98 hw79 rfl (by decide) rfl ?_
        refine J_getI hX dX9_count_85 lf_X9_348 (tp_4_0 hw79) rfl ?_
        exact J_retI hR dX9_count_88
      · refine J_case (fun ht1_3 => ?_) (fun ht1_3 => ?_)
        · refine J_tswIn (off := 88) (tgt := 89) hX dX9_count_1 (by rw [ht1_3]; decide) (by rw [ht1_3]; decide) (by rw [ht1_3]; decide +kernel) rfl ?_
          refine J_aload_n 0 hX dX9_count_89 fz0 rfl ?_
          refine J_getNow hX dX9_count_90 lf_X9_10 fun hw90 => ?_
          refine J_getR (b := ((nw G) + 1)) hX dX9_count_93 lf_X9_98 hw90 rfl (by decide) rfl ?_
          refine J_getI hX dX9_count_96 lf_X9_159 (tp_4_0 hw90) rfl ?_
          exact J_retI hR dX9_count_99
        · refine J_case (fun ht1_4 => ?_) (fun ht1_4 => ?_)
          · refine J_tswIn (off := 99) (tgt := 100) hX dX9_count_1 (by rw [ht1_4]; decide) (by rw [ht1_4]; decide) (by rw [ht1_4]; decide +kernel) rfl ?_
            refine J_aload_n 0 hX dX9_count_100 fz0 rfl ?_
            refine J_getNow hX dX9_count_101 lf_X9_10 fun hw101 => ?_
            refine J_getI hX dX9_count_104 lf_X9_217 hw101 rfl ?_
            exact J_retI hR dX9_count_107
          · refine J_case (fun ht1_5 => ?_) (fun ht1_5 => ?_)
            · refine J_tswIn (off := 107) (tgt := 108) hX dX9_count_1 (by rw [ht1_5]; decide) (by rw [ht1_5]; decide) (by rw [ht1_5]; decide +kernel) rfl ?_
              refine J_aload_n 0 hX dX9_count_108 fz0 rfl ?_
              refine J_getNow hX dX9_count_109 lf_X9_10 fun hw109 => ?_
              refine J_getI hX dX9_count_112 lf_X9_115 hw109 rfl ?_
              exact J_retI hR dX9_count_115
            · refine J_case (fun ht1_6 => ?_) (fun ht1_6 => ?_)
              · refine J_tswIn (off := 115) (tgt := 116) hX dX9_count_1 (by rw [ht1_6]; decide) (by rw [ht1_6]; decide) (by rw [ht1_6]; decide +kernel) rfl ?_
                refine J_aload_n 0 hX dX9_count_116 fz0 rfl ?_
                refine J_getR (b := 53) hX dX9_count_117 lf_X9_37 sk_0 rfl (by decide) rfl ?_
                refine J_getI hX dX9_count_120 lf_X9_76 sk_53 rfl ?_
                exact J_retI hR dX9_count_123
              · refine J_case (fun ht1_7 => ?_) (fun ht1_7 => ?_)
                · refine J_tswIn (off := 123) (tgt := 124) hX dX9_count_1 (by rw [ht1_7]; decide) (by rw [ht1_7]; decide) (by rw [ht1_7]; decide +kernel) rfl ?_
                  refine J_aload_n 0 hX dX9_count_124 fz0 rfl ?_
                  refine J_getNow hX dX9_count_125 lf_X9_10 fun hw125 => ?_
                  refine J_getI hX dX9_count_128 lf_X9_295 hw125 rfl ?_
                  exact J_retI hR dX9_count_131
                · refine J_case (fun ht1_8 => ?_) (fun ht1_8 => ?_)
                  · refine J_tswIn (off := 131) (tgt := 132) hX dX9_count_1 (by rw [ht1_8]; decide) (by rw [ht1_8]; decide) (by rw [ht1_8]; decide +kernel) rfl ?_
                    refine J_aload_n 0 hX dX9_count_132 fz0 rfl ?_
                    refine J_getNow hX dX9_count_133 lf_X9_10 fun hw133 => ?_
                    refine J_getI hX dX9_count_136 lf_X9_284 hw133 rfl ?_
                    exact J_retI hR dX9_count_139
                  · refine J_case (fun ht1_9 => ?_) (fun ht1_9 => ?_)
                    · refine J_tswIn (off := 139) (tgt := 140) hX dX9_count_1 (by rw [ht1_9]; decide) (by rw [ht1_9]; decide) (by rw [ht1_9]; decide +kernel) rfl ?_
                      refine J_aload_n 0 hX dX9_count_140 fz0 rfl ?_
                      refine J_getR (b := 62) hX dX9_count_141 lf_X9_44 sk_0 rfl (by decide) rfl ?_
                      refine J_callVI (As := []) (st := []) (b := 62) hX mv_X9_370 sk_62 rfl rfl rfl (Nat.le_of_ble_eq_true rfl) (Nat.le_of_ble_eq_true rfl) (Nat.le_of_ble_eq_true rfl) dX9_count_144 (fun r G1 h => ok_X8_inUse  h) fun r144 G144 => ?_
                      exact J_retI hR dX9_count_147
                    · refine J_tswOut (tgt := 148) hX dX9_count_1 (by have e_ht1_0 := ne_toInt ht1_0; rw [show ((0 : Int32).toInt) = 0 from by decide] at e_ht1_0; have e_ht1_1 := ne_toInt ht1_1; rw [show ((1 : Int32).toInt) = 1 from by decide] at e_ht1_1; have e_ht1_2 := ne_toInt ht1_2; rw [show ((2 : Int32).toInt) = 2 from by decide] at e_ht1_2; have e_ht1_3 := ne_toInt ht1_3; rw [show ((3 : Int32).toInt) = 3 from by decide] at e_ht1_3; have e_ht1_4 := ne_toInt ht1_4; rw [show ((4 : Int32).toInt) = 4 from by decide] at e_ht1_4; have e_ht1_5 := ne_toInt ht1_5; rw [show ((5 : Int32).toInt) = 5 from by decide] at e_ht1_5; have e_ht1_6 := ne_toInt ht1_6; rw [show ((6 : Int32).toInt) = 6 from by decide] at e_ht1_6; have e_ht1_7 := ne_toInt ht1_7; rw [show ((7 : Int32).toInt) = 7 from by decide] at e_ht1_7; have e_ht1_8 := ne_toInt ht1_8; rw [show ((8 : Int32).toInt) = 8 from by decide] at e_ht1_8; have e_ht1_9 := ne_toInt ht1_9; rw [show ((9 : Int32).toInt) = 9 from by decide] at e_ht1_9; omega) rfl ?_
                      refine J_iconst hX dX9_count_148 cim_1 ?_
                      exact J_retI hR dX9_count_149
set_option maxHeartbeats 4000000 in
set_option maxRecDepth 100000 in
theorem ok_X9_keep {Y : DX} {v1 : Int32}  {G : GM} {r : Int32} {G' : GM} (hf : f_X9_keep v1 G = some (r, G')) : OkI Y 10 M_X9_keep [.ref (AD Y 0), .int v1] G r G' := by
  refine okI_of (lv0 := [(0, .ref (AD Y 0)), (1, .int v1)]) (by decide +kernel) rfl (Nat.le_of_ble_eq_true rfl) ?_
  intro X Q hX hR
  have hX : CXok X Y RX9 cX9_keep 2 _ := hX
  revert hf
  show J X Y 2 Q 0 [(0, .ref (AD Y 0)), (1, .int v1)] [] G (f_X9_keep v1 G = some (r, G'))
  unfold f_X9_keep
  refine J_iload_n 1 hX dX9_keep_0 fz1 rfl ?_
  refine J_if_lt (tgt := 9) hX dX9_keep_1 rfl ?_ ?_
  · refine J_bipush hX dX9_keep_9 cbm_2 ?_
    exact J_retI hR dX9_keep_11
  · refine J_iload_n 1 hX dX9_keep_4 fz1 rfl ?_
    refine J_iconst hX dX9_keep_5 ci_3 ?_
    refine J_icmp_lt (tgt := 12) hX dX9_keep_6 rfl ?_ ?_
    · refine J_aload_n 0 hX dX9_keep_12 fz0 rfl ?_
      refine J_getR (b := 45) hX dX9_keep_13 lf_X9_19 sk_0 rfl (by decide) rfl ?_
      refine J_iload_n 1 hX dX9_keep_16 fz1 rfl ?_
      refine J_aald (b := (120 + 22 * v1.toNatClampNeg)) hX dX9_keep_17 sk_45 (by decide) ln_45 (p0_16 sk_45) fun hi17 => ?_
      refine J_aload_n 0 hX dX9_keep_18 fz0 rfl ?_
      refine J_getNow hX dX9_keep_19 lf_X9_10 fun hw19 => ?_
      refine J_callVV (As := [.ref (AD Y (nw G))]) (st := []) (b := (120 + 22 * v1.toNatClampNeg)) hX mv_X9_374 (hall_el hi17) rfl rfl rfl (Nat.le_of_ble_eq_true rfl) (Nat.le_of_ble_eq_true rfl) (Nat.le_of_ble_eq_true rfl) dX9_keep_22 (fun G1 h => ok_X5_copyFrom (hall_el hi17) hw19 h) fun G22 => ?_
      refine J_aload_n 0 hX dX9_keep_25 fz0 rfl ?_
      refine J_getR (b := 46) hX dX9_keep_26 lf_X9_23 sk_0 rfl (by decide) rfl ?_
      refine J_iload_n 1 hX dX9_keep_29 fz1 rfl ?_
      refine J_iconst hX dX9_keep_30 ci_1 ?_
      refine J_zast hX dX9_keep_31 sk_46 ln_46 fun G31 => ?_
      refine J_iconst hX dX9_keep_32 ci_0 ?_
      exact J_retI hR dX9_keep_33
    · refine J_bipush hX dX9_keep_9 cbm_2 ?_
      exact J_retI hR dX9_keep_11
set_option maxHeartbeats 4000000 in
set_option maxRecDepth 100000 in
theorem ok_X9_back {Y : DX} {v1 : Int32}  {G : GM} {r : Int32} {G' : GM} (hf : f_X9_back v1 G = some (r, G')) : OkI Y 10 M_X9_back [.ref (AD Y 0), .int v1] G r G' := by
  refine okI_of (lv0 := [(0, .ref (AD Y 0)), (1, .int v1)]) (by decide +kernel) rfl (Nat.le_of_ble_eq_true rfl) ?_
  intro X Q hX hR
  have hX : CXok X Y RX9 cX9_back 2 _ := hX
  revert hf
  show J X Y 2 Q 0 [(0, .ref (AD Y 0)), (1, .int v1)] [] G (f_X9_back v1 G = some (r, G'))
  unfold f_X9_back
  refine J_iload_n 1 hX dX9_back_0 fz1 rfl ?_
  refine J_if_lt (tgt := 9) hX dX9_back_1 rfl ?_ ?_
  · refine J_bipush hX dX9_back_9 cbm_2 ?_
    exact J_retI hR dX9_back_11
  · refine J_iload_n 1 hX dX9_back_4 fz1 rfl ?_
    refine J_iconst hX dX9_back_5 ci_3 ?_
    refine J_icmp_lt (tgt := 12) hX dX9_back_6 rfl ?_ ?_
    · refine J_aload_n 0 hX dX9_back_12 fz0 rfl ?_
      refine J_getR (b := 46) hX dX9_back_13 lf_X9_23 sk_0 rfl (by decide) rfl ?_
      refine J_iload_n 1 hX dX9_back_16 fz1 rfl ?_
      refine J_zald hX dX9_back_17 sk_46 ln_46 ?_
      refine J_if_ne (tgt := 24) hX dX9_back_18 rfl ?_ ?_
      · refine J_aload_n 0 hX dX9_back_24 fz0 rfl ?_
        refine J_getNow hX dX9_back_25 lf_X9_10 fun hw25 => ?_
        refine J_aload_n 0 hX dX9_back_28 fz0 rfl ?_
        refine J_getR (b := 45) hX dX9_back_29 lf_X9_19 sk_0 rfl (by decide) rfl ?_
        refine J_iload_n 1 hX dX9_back_32 fz1 rfl ?_
        refine J_aald (b := (120 + 22 * v1.toNatClampNeg)) hX dX9_back_33 sk_45 (by decide) ln_45 (p0_16 sk_45) fun hi33 => ?_
        refine J_callVV (As := [.ref (AD Y (120 + 22 * v1.toNatClampNeg))]) (st := []) (b := (nw G)) hX mv_X9_374 hw25 rfl rfl rfl (Nat.le_of_ble_eq_true rfl) (Nat.le_of_ble_eq_true rfl) (Nat.le_of_ble_eq_true rfl) dX9_back_34 (fun G1 h => ok_X5_copyFrom hw25 (hall_el hi33) h) fun G34 => ?_
        refine J_iconst hX dX9_back_37 ci_0 ?_
        exact J_retI hR dX9_back_38
      · refine J_bipush hX dX9_back_21 cbm_6 ?_
        exact J_retI hR dX9_back_23
    · refine J_bipush hX dX9_back_9 cbm_2 ?_
      exact J_retI hR dX9_back_11
set_option maxHeartbeats 4000000 in
set_option maxRecDepth 100000 in
theorem ok_X9_row {Y : DX} {v1 : Int32} {v2 : Int32} {v3 : Int32}  {G : GM} {r : Int32} {G' : GM} (hf : f_X9_row v1 v2 v3 G = some (r, G')) : OkI Y 3 M_X9_row [.ref (AD Y 0), .int v1, .int v2, .int v3] G r G' := by
  refine okI_of (lv0 := [(0, .ref (AD Y 0)), (1, .int v1), (2, .int v2), (3, .int v3)]) (by decide +kernel) rfl (Nat.le_of_ble_eq_true rfl) ?_
  intro X Q hX hR
  have hX : CXok X Y RX9 cX9_row 4 _ := hX
  revert hf
  show J X Y 4 Q 0 [(0, .ref (AD Y 0)), (1, .int v1), (2, .int v2), (3, .int v3)] [] G (f_X9_row v1 v2 v3 G = some (r, G'))
  unfold f_X9_row
  refine J_aload_n 0 hX dX9_row_0 fz0 rfl ?_
  refine J_getR (b := 62) hX dX9_row_1 lf_X9_44 sk_0 rfl (by decide) rfl ?_
  refine J_iload_n 1 hX dX9_row_4 fz1 rfl ?_
  refine J_callVI (As := [.int v1]) (st := []) (b := 62) hX mv_X9_149 sk_62 rfl rfl rfl (Nat.le_of_ble_eq_true rfl) (Nat.le_of_ble_eq_true rfl) (Nat.le_of_ble_eq_true rfl) dX9_row_5 (fun r G1 h => ok_X8_isSlot  h) fun r5 G5 => ?_
  refine J_if_eq (tgt := 26) hX dX9_row_8 rfl ?_ ?_
  · refine J_bipush hX dX9_row_26 cbm_2 ?_
    exact J_retI hR dX9_row_28
  · refine J_iload_n 2 hX dX9_row_11 fz2 rfl ?_
    refine J_if_lt (tgt := 26) hX dX9_row_12 rfl ?_ ?_
    · refine J_bipush hX dX9_row_26 cbm_2 ?_
      exact J_retI hR dX9_row_28
    · refine J_iload_n 2 hX dX9_row_15 fz2 rfl ?_
      refine J_iconst hX dX9_row_16 ci_3 ?_
      refine J_icmp_gt (tgt := 26) hX dX9_row_17 rfl ?_ ?_
      · refine J_bipush hX dX9_row_26 cbm_2 ?_
        exact J_retI hR dX9_row_28
      · refine J_iload_n 3 hX dX9_row_20 fz3 rfl ?_
        refine J_bipush hX dX9_row_21 cb_60 ?_
        refine J_icmp_le (tgt := 29) hX dX9_row_23 rfl ?_ ?_
        · refine J_iload_n 3 hX dX9_row_29 fz3 rfl ?_
          refine J_if_ge (tgt := 36) hX dX9_row_30 rfl ?_ ?_
          · refine J_aload_n 0 hX dX9_row_36 fz0 rfl ?_
            refine J_getR (b := 62) hX dX9_row_37 lf_X9_44 sk_0 rfl (by decide) rfl ?_
            refine J_iload_n 1 hX dX9_row_40 fz1 rfl ?_
            refine J_iload_n 2 hX dX9_row_41 fz2 rfl ?_
            refine J_iload_n 3 hX dX9_row_42 fz3 rfl ?_
            refine J_callVV (As := [.int v1, .int v2, .int v3]) (st := []) (b := 62) hX mv_X9_377 sk_62 rfl rfl rfl (Nat.le_of_ble_eq_true rfl) (Nat.le_of_ble_eq_true rfl) (Nat.le_of_ble_eq_true rfl) dX9_row_43 (fun G1 h => ok_X8_begin  h) fun G43 => ?_
            refine J_iconst hX dX9_row_46 ci_0 ?_
            exact J_retI hR dX9_row_47
          · refine J_bipush hX dX9_row_33 cbm_3 ?_
            exact J_retI hR dX9_row_35
        · refine J_bipush hX dX9_row_26 cbm_2 ?_
          exact J_retI hR dX9_row_28
set_option maxHeartbeats 4000000 in
set_option maxRecDepth 100000 in
theorem ok_X9_write {Y : DX} {v1 : Int32} {v2 : Int32} {v3 : Int64}  {G : GM} {r : Int32} {G' : GM} (hf : f_X9_write v1 v2 v3 G = some (r, G')) : OkI Y 6 M_X9_write [.ref (AD Y 0), .int v1, .int v2, .long v3] G r G' := by
  refine okI_of (lv0 := [(0, .ref (AD Y 0)), (1, .int v1), (2, .int v2), (3, .long v3)]) (by decide +kernel) rfl (Nat.le_of_ble_eq_true rfl) ?_
  intro X Q hX hR
  have hX : CXok X Y RX9 cX9_write 5 _ := hX
  revert hf
  show J X Y 5 Q 0 [(0, .ref (AD Y 0)), (1, .int v1), (2, .int v2), (3, .long v3)] [] G (f_X9_write v1 v2 v3 G = some (r, G'))
  unfold f_X9_write
  refine J_aload_n 0 hX dX9_write_0 fz0 rfl ?_
  refine J_getR (b := 62) hX dX9_write_1 lf_X9_44 sk_0 rfl (by decide) rfl ?_
  refine J_iload_n 1 hX dX9_write_4 fz1 rfl ?_
  refine J_callVI (As := [.int v1]) (st := []) (b := 62) hX mv_X9_149 sk_62 rfl rfl rfl (Nat.le_of_ble_eq_true rfl) (Nat.le_of_ble_eq_true rfl) (Nat.le_of_ble_eq_true rfl) dX9_write_5 (fun r G1 h => ok_X8_isSlot  h) fun r5 G5 => ?_
  refine J_if_ne (tgt := 14) hX dX9_write_8 rfl ?_ ?_
  · refine J_aload_n 0 hX dX9_write_14 fz0 rfl ?_
    refine J_getR (b := 62) hX dX9_write_15 lf_X9_44 sk_0 rfl (by decide) rfl ?_
    refine J_iload_n 1 hX dX9_write_18 fz1 rfl ?_
    refine J_callVI (As := [.int v1]) (st := []) (b := 62) hX mv_X9_152 sk_62 rfl rfl rfl (Nat.le_of_ble_eq_true rfl) (Nat.le_of_ble_eq_true rfl) (Nat.le_of_ble_eq_true rfl) dX9_write_19 (fun r G1 h => ok_X8_hasRow  h) fun r19 G19 => ?_
    refine J_if_ne (tgt := 28) hX dX9_write_22 rfl ?_ ?_
    · refine J_iload_n 2 hX dX9_write_28 fz2 rfl ?_
      refine J_if_lt (tgt := 44) hX dX9_write_29 rfl ?_ ?_
      · refine J_bipush hX dX9_write_44 cbm_7 ?_
        exact J_retI hR dX9_write_46
      · refine J_iload_n 2 hX dX9_write_32 fz2 rfl ?_
        refine J_aload_n 0 hX dX9_write_33 fz0 rfl ?_
        refine J_getR (b := 62) hX dX9_write_34 lf_X9_44 sk_0 rfl (by decide) rfl ?_
        refine J_iload_n 1 hX dX9_write_37 fz1 rfl ?_
        refine J_callVI (As := [.int v1]) (st := [.int v2]) (b := 62) hX mv_X9_155 sk_62 rfl rfl rfl (Nat.le_of_ble_eq_true rfl) (Nat.le_of_ble_eq_true rfl) (Nat.le_of_ble_eq_true rfl) dX9_write_38 (fun r G1 h => ok_X8_lengthOf  h) fun r38 G38 => ?_
        refine J_icmp_lt (tgt := 47) hX dX9_write_41 rfl ?_ ?_
        · refine J_aload_n 0 hX dX9_write_47 fz0 rfl ?_
          refine J_getR (b := 62) hX dX9_write_48 lf_X9_44 sk_0 rfl (by decide) rfl ?_
          refine J_iload_n 1 hX dX9_write_51 fz1 rfl ?_
          refine J_iload_n 2 hX dX9_write_52 fz2 rfl ?_
          refine J_lload_n 3 hX dX9_write_53 fz3 rfl ?_
          refine J_callVV (As := [.int v1, .int v2, .long v3]) (st := []) (b := 62) hX mv_X9_380 sk_62 rfl rfl rfl (Nat.le_of_ble_eq_true rfl) (Nat.le_of_ble_eq_true rfl) (Nat.le_of_ble_eq_true rfl) dX9_write_54 (fun G1 h => ok_X8_put  h) fun G54 => ?_
          refine J_iconst hX dX9_write_57 ci_0 ?_
          exact J_retI hR dX9_write_58
        · refine J_bipush hX dX9_write_44 cbm_7 ?_
          exact J_retI hR dX9_write_46
    · refine J_bipush hX dX9_write_25 cbm_6 ?_
      exact J_retI hR dX9_write_27
  · refine J_bipush hX dX9_write_11 cbm_2 ?_
    exact J_retI hR dX9_write_13
set_option maxHeartbeats 4000000 in
set_option maxRecDepth 100000 in
theorem ok_X9_paste {Y : DX} {v1 : Int32} {v2 : Int32} {v3 : Int32} {v4 : Int32} {v5 : Int32}  {G : GM} {r : Int32} {G' : GM} (hf : f_X9_paste v1 v2 v3 v4 v5 G = some (r, G')) : OkI Y 6 M_X9_paste [.ref (AD Y 0), .int v1, .int v2, .int v3, .int v4, .int v5] G r G' := by
  refine okI_of (lv0 := [(0, .ref (AD Y 0)), (1, .int v1), (2, .int v2), (3, .int v3), (4, .int v4), (5, .int v5)]) (by decide +kernel) rfl (Nat.le_of_ble_eq_true rfl) ?_
  intro X Q hX hR
  have hX : CXok X Y RX9 cX9_paste 6 _ := hX
  revert hf
  show J X Y 6 Q 0 [(0, .ref (AD Y 0)), (1, .int v1), (2, .int v2), (3, .int v3), (4, .int v4), (5, .int v5)] [] G (f_X9_paste v1 v2 v3 v4 v5 G = some (r, G'))
  unfold f_X9_paste
  refine J_aload_n 0 hX dX9_paste_0 fz0 rfl ?_
  refine J_getR (b := 62) hX dX9_paste_1 lf_X9_44 sk_0 rfl (by decide) rfl ?_
  refine J_iload_n 1 hX dX9_paste_4 fz1 rfl ?_
  refine J_callVI (As := [.int v1]) (st := []) (b := 62) hX mv_X9_149 sk_62 rfl rfl rfl (Nat.le_of_ble_eq_true rfl) (Nat.le_of_ble_eq_true rfl) (Nat.le_of_ble_eq_true rfl) dX9_paste_5 (fun r G1 h => ok_X8_isSlot  h) fun r5 G5 => ?_
  refine J_if_eq (tgt := 22) hX dX9_paste_8 rfl ?_ ?_
  · refine J_bipush hX dX9_paste_22 cbm_2 ?_
    exact J_retI hR dX9_paste_24
  · refine J_aload_n 0 hX dX9_paste_11 fz0 rfl ?_
    refine J_getR (b := 62) hX dX9_paste_12 lf_X9_44 sk_0 rfl (by decide) rfl ?_
    refine J_iload_n 3 hX dX9_paste_15 fz3 rfl ?_
    refine J_callVI (As := [.int v3]) (st := []) (b := 62) hX mv_X9_149 sk_62 rfl rfl rfl (Nat.le_of_ble_eq_true rfl) (Nat.le_of_ble_eq_true rfl) (Nat.le_of_ble_eq_true rfl) dX9_paste_16 (fun r G1 h => ok_X8_isSlot  h) fun r16 G16 => ?_
    refine J_if_ne (tgt := 25) hX dX9_paste_19 rfl ?_ ?_
    · refine J_aload_n 0 hX dX9_paste_25 fz0 rfl ?_
      refine J_getR (b := 62) hX dX9_paste_26 lf_X9_44 sk_0 rfl (by decide) rfl ?_
      refine J_iload_n 1 hX dX9_paste_29 fz1 rfl ?_
      refine J_callVI (As := [.int v1]) (st := []) (b := 62) hX mv_X9_152 sk_62 rfl rfl rfl (Nat.le_of_ble_eq_true rfl) (Nat.le_of_ble_eq_true rfl) (Nat.le_of_ble_eq_true rfl) dX9_paste_30 (fun r G1 h => ok_X8_hasRow  h) fun r30 G30 => ?_
      refine J_if_eq (tgt := 47) hX dX9_paste_33 rfl ?_ ?_
      · refine J_bipush hX dX9_paste_47 cbm_6 ?_
        exact J_retI hR dX9_paste_49
      · refine J_aload_n 0 hX dX9_paste_36 fz0 rfl ?_
        refine J_getR (b := 62) hX dX9_paste_37 lf_X9_44 sk_0 rfl (by decide) rfl ?_
        refine J_iload_n 3 hX dX9_paste_40 fz3 rfl ?_
        refine J_callVI (As := [.int v3]) (st := []) (b := 62) hX mv_X9_152 sk_62 rfl rfl rfl (Nat.le_of_ble_eq_true rfl) (Nat.le_of_ble_eq_true rfl) (Nat.le_of_ble_eq_true rfl) dX9_paste_41 (fun r G1 h => ok_X8_hasRow  h) fun r41 G41 => ?_
        refine J_if_ne (tgt := 50) hX dX9_paste_44 rfl ?_ ?_
        · refine J_aload_n 0 hX dX9_paste_50 fz0 rfl ?_
          refine J_getR (b := 62) hX dX9_paste_51 lf_X9_44 sk_0 rfl (by decide) rfl ?_
          refine J_iload_n 1 hX dX9_paste_54 fz1 rfl ?_
          refine J_iload_n 3 hX dX9_paste_55 fz3 rfl ?_
          refine J_callVI (As := [.int v1, .int v3]) (st := []) (b := 62) hX mv_X9_384 sk_62 rfl rfl rfl (Nat.le_of_ble_eq_true rfl) (Nat.le_of_ble_eq_true rfl) (Nat.le_of_ble_eq_true rfl) dX9_paste_56 (fun r G1 h => ok_X8_areOfOneWidth  h) fun r56 G56 => ?_
          refine J_if_ne (tgt := 65) hX dX9_paste_59 rfl ?_ ?_
          · refine J_aload_n 0 hX dX9_paste_65 fz0 rfl ?_
            refine J_getR (b := 62) hX dX9_paste_66 lf_X9_44 sk_0 rfl (by decide) rfl ?_
            refine J_iload_n 1 hX dX9_paste_69 fz1 rfl ?_
            refine J_iload_n 2 hX dX9_paste_70 fz2 rfl ?_
            refine J_iload 5 hX dX9_paste_71 rfl ?_
            refine J_callVI (As := [.int v1, .int v2, .int v5]) (st := []) (b := 62) hX mv_X9_388 sk_62 rfl rfl rfl (Nat.le_of_ble_eq_true rfl) (Nat.le_of_ble_eq_true rfl) (Nat.le_of_ble_eq_true rfl) dX9_paste_73 (fun r G1 h => ok_X8_holds  h) fun r73 G73 => ?_
            refine J_if_eq (tgt := 94) hX dX9_paste_76 rfl ?_ ?_
            · refine J_bipush hX dX9_paste_94 cbm_7 ?_
              exact J_retI hR dX9_paste_96
            · refine J_aload_n 0 hX dX9_paste_79 fz0 rfl ?_
              refine J_getR (b := 62) hX dX9_paste_80 lf_X9_44 sk_0 rfl (by decide) rfl ?_
              refine J_iload_n 3 hX dX9_paste_83 fz3 rfl ?_
              refine J_iload 4 hX dX9_paste_84 rfl ?_
              refine J_iload 5 hX dX9_paste_86 rfl ?_
              refine J_callVI (As := [.int v3, .int v4, .int v5]) (st := []) (b := 62) hX mv_X9_388 sk_62 rfl rfl rfl (Nat.le_of_ble_eq_true rfl) (Nat.le_of_ble_eq_true rfl) (Nat.le_of_ble_eq_true rfl) dX9_paste_88 (fun r G1 h => ok_X8_holds  h) fun r88 G88 => ?_
              refine J_if_ne (tgt := 97) hX dX9_paste_91 rfl ?_ ?_
              · refine J_aload_n 0 hX dX9_paste_97 fz0 rfl ?_
                refine J_getR (b := 62) hX dX9_paste_98 lf_X9_44 sk_0 rfl (by decide) rfl ?_
                refine J_iload_n 1 hX dX9_paste_101 fz1 rfl ?_
                refine J_iload_n 2 hX dX9_paste_102 fz2 rfl ?_
                refine J_iload_n 3 hX dX9_paste_103 fz3 rfl ?_
                refine J_iload 4 hX dX9_paste_104 rfl ?_
                refine J_iload 5 hX dX9_paste_106 rfl ?_
                refine J_callVV (As := [.int v1, .int v2, .int v3, .int v4, .int v5]) (st := []) (b := 62) hX mv_X9_392 sk_62 rfl rfl rfl (Nat.le_of_ble_eq_true rfl) (Nat.le_of_ble_eq_true rfl) (Nat.le_of_ble_eq_true rfl) dX9_paste_108 (fun G1 h => ok_X8_move  h) fun G108 => ?_
                refine J_iconst hX dX9_paste_111 ci_0 ?_
                exact J_retI hR dX9_paste_112
              · refine J_bipush hX dX9_paste_94 cbm_7 ?_
                exact J_retI hR dX9_paste_96
          · refine J_bipush hX dX9_paste_62 cbm_8 ?_
            exact J_retI hR dX9_paste_64
        · refine J_bipush hX dX9_paste_47 cbm_6 ?_
          exact J_retI hR dX9_paste_49
    · refine J_bipush hX dX9_paste_22 cbm_2 ?_
      exact J_retI hR dX9_paste_24
