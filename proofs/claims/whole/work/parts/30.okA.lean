set_option maxHeartbeats 4000000 in
set_option maxRecDepth 100000 in
theorem ok_X7_addFour {Y : DX} {v1 : Int32}  {G : GM} {G' : GM} (hf : f_X7_addFour v1 G = some G') : OkV Y 1 M_X7_addFour [.ref (AD Y 53), .int v1] G G' := by
  refine okV_of (lv0 := [(0, .ref (AD Y 53)), (1, .int v1)]) (by decide +kernel) rfl (Nat.le_of_ble_eq_true rfl) ?_
  intro X Q hX hR
  have hX : CXok X Y RX7 cX7_addFour 3 _ := hX
  revert hf
  show J X Y 3 Q 0 [(0, .ref (AD Y 53)), (1, .int v1)] [] G (f_X7_addFour v1 G = some G')
  have K3 : ∀  (n : Nat) (v2 : Int32) (G : GM), J X Y 3 Q 3 [(0, .ref (AD Y 53)), (1, .int v1), (2, .int v2)] [] G (wl1 n (lp_X7_addFour_3 v1) v2 G = some G') := by
    refine wl1_ind (R := fun v2 G φ => J X Y 3 Q 3 [(0, .ref (AD Y 53)), (1, .int v1), (2, .int v2)] [] G φ) (fun _ G φ h => J_no h) ?_
    intro kc3 hk3 v2 G
    unfold lp_X7_addFour_3
    refine J_iload_n 2 hX dX7_addFour_3 fz2 rfl ?_
    refine J_if_lt (tgt := 46) hX dX7_addFour_4 rfl ?_ ?_
    · exact J_retV hR dX7_addFour_46
    · refine J_aload_n 0 hX dX7_addFour_7 fz0 rfl ?_
      refine J_getI hX dX7_addFour_8 lf_X7_15 sk_53 rfl ?_
      refine J_sipush hX dX7_addFour_11 cs_800 ?_
      refine J_icmp_ge (tgt := 46) hX dX7_addFour_14 rfl ?_ ?_
      · exact J_retV hR dX7_addFour_46
      · refine J_aload_n 0 hX dX7_addFour_17 fz0 rfl ?_
        refine J_getR (b := 54) hX dX7_addFour_18 lf_X7_9 sk_53 rfl (by decide) rfl ?_
        refine J_aload_n 0 hX dX7_addFour_21 fz0 rfl ?_
        refine J_getI hX dX7_addFour_22 lf_X7_15 sk_53 rfl ?_
        refine J_iload_n 1 hX dX7_addFour_25 fz1 rfl ?_
        refine J_iload_n 2 hX dX7_addFour_26 fz2 rfl ?_
        refine J_ishr hX dX7_addFour_27 ?_
        refine J_i2b hX dX7_addFour_28 ?_
        refine J_bast hX dX7_addFour_29 sk_54 ln_54 fun G29 => ?_
        refine J_aload_n 0 hX dX7_addFour_30 fz0 rfl ?_
        refine J_dup hX dX7_addFour_31 rfl ?_
        refine J_getI hX dX7_addFour_32 lf_X7_15 sk_53 rfl ?_
        refine J_iconst hX dX7_addFour_35 ci_1 ?_
        refine J_iadd hX dX7_addFour_36 ?_
        refine J_putI hX dX7_addFour_37 lf_X7_15 lpt_6_1 sk_53 rfl fun G37 => ?_
        refine J_iinc (lv' := [(2, .int (v2 + (-8 : Int32))), (0, .ref (AD Y 53)), (1, .int v1)]) 2 hX dX7_addFour_40 rfl cim_8 (Nat.le_of_ble_eq_true rfl) rfl ?_
        refine J_goto (tgt := 3) hX dX7_addFour_43 rfl ?_
        refine J_sub (lv' := [(0, .ref (AD Y 53)), (1, .int v1), (2, .int (v2 + (-8 : Int32)))]) [1, 2, 0] rfl ?_
        exact hk3 (v2 + (-8 : Int32)) G37
  unfold f_X7_addFour
  refine J_bipush hX dX7_addFour_0 cb_24 ?_
  refine J_istore_n (lv' := [(2, .int (24 : Int32)), (0, .ref (AD Y 53)), (1, .int v1)]) hX dX7_addFour_2 fz2 (Nat.le_of_ble_eq_true rfl) rfl ?_
  refine J_sub (lv' := [(0, .ref (AD Y 53)), (1, .int v1), (2, .int (24 : Int32))]) [1, 2, 0] rfl ?_
  exact K3  FU (24 : Int32) G
set_option maxHeartbeats 4000000 in
set_option maxRecDepth 100000 in
theorem ok_X3_begin {Y : DX} {v0 : Nat} {v1 : Int32} (h0 : SHk v0 = 2) {G : GM} {G' : GM} (hf : f_X3_begin v0 v1 G = some G') : OkV Y 1 M_X3_begin [.ref (AD Y v0), .int v1] G G' := by
  refine okV_of (lv0 := [(0, .ref (AD Y v0)), (1, .int v1)]) (by decide +kernel) rfl (Nat.le_of_ble_eq_true rfl) ?_
  intro X Q hX hR
  have hX : CXok X Y RX3 cX3_begin 2 _ := hX
  revert hf
  show J X Y 2 Q 0 [(0, .ref (AD Y v0)), (1, .int v1)] [] G (f_X3_begin v0 v1 G = some G')
  unfold f_X3_begin
  refine J_aload_n 0 hX dX3_begin_0 fz0 rfl ?_
  refine J_iload_n 1 hX dX3_begin_1 fz1 rfl ?_
  refine J_i2l hX dX3_begin_2 ?_
  refine J_putJ hX dX3_begin_3 lf_X3_7 lpt_2_0 h0 rfl fun G3 => ?_
  exact J_retV hR dX3_begin_6
set_option maxHeartbeats 4000000 in
set_option maxRecDepth 100000 in
theorem ok_X3_below {Y : DX} {v0 : Nat} {v1 : Int32} (h0 : SHk v0 = 2) {G : GM} {r : Int32} {G' : GM} (hf : f_X3_below v0 v1 G = some (r, G')) : OkI Y 1 M_X3_below [.ref (AD Y v0), .int v1] G r G' := by
  refine okI_of (lv0 := [(0, .ref (AD Y v0)), (1, .int v1)]) (by decide +kernel) rfl (Nat.le_of_ble_eq_true rfl) ?_
  intro X Q hX hR
  have hX : CXok X Y RX3 cX3_below 6 _ := hX
  revert hf
  show J X Y 6 Q 0 [(0, .ref (AD Y v0)), (1, .int v1)] [] G (f_X3_below v0 v1 G = some (r, G'))
  unfold f_X3_below
  refine J_aload_n 0 hX dX3_below_0 fz0 rfl ?_
  refine J_ldc2 hX dX3_below_1 ll_X3_13 ?_
  refine J_aload_n 0 hX dX3_below_4 fz0 rfl ?_
  refine J_getJ hX dX3_below_5 lf_X3_7 h0 rfl ?_
  refine J_lmul hX dX3_below_8 ?_
  refine J_ldc2 hX dX3_below_9 ll_X3_15 ?_
  refine J_ladd hX dX3_below_12 ?_
  refine J_ldc2 hX dX3_below_13 ll_X3_17 ?_
  refine J_lremc hX dX3_below_16 (by decide) ?_
  refine J_putJ hX dX3_below_17 lf_X3_7 lpt_2_0 h0 rfl fun G17 => ?_
  refine J_aload_n 0 hX dX3_below_20 fz0 rfl ?_
  refine J_getJ hX dX3_below_21 lf_X3_7 h0 rfl ?_
  refine J_ldc2 hX dX3_below_24 ll_X3_19 ?_
  refine J_ldivc hX dX3_below_27 (by decide) ?_
  refine J_lt (mk := Value.long) fun x28 => ?_
  refine J_lstore_n (lv' := [(2, .long x28), (0, .ref (AD Y v0)), (1, .int v1)]) hX dX3_below_28 fz2 (Nat.le_of_ble_eq_true rfl) rfl ?_
  refine J_aload_n 1 hX dX3_below_29 fz0 rfl ?_
  refine J_ldc2 hX dX3_below_30 ll_X3_13 ?_
  refine J_aload_n 1 hX dX3_below_33 fz0 rfl ?_
  refine J_getJ hX dX3_below_34 lf_X3_7 h0 rfl ?_
  refine J_lmul hX dX3_below_37 ?_
  refine J_ldc2 hX dX3_below_38 ll_X3_15 ?_
  refine J_ladd hX dX3_below_41 ?_
  refine J_ldc2 hX dX3_below_42 ll_X3_17 ?_
  refine J_lremc hX dX3_below_45 (by decide) ?_
  refine J_putJ hX dX3_below_46 lf_X3_7 lpt_2_0 h0 rfl fun G46 => ?_
  refine J_aload_n 1 hX dX3_below_49 fz0 rfl ?_
  refine J_getJ hX dX3_below_50 lf_X3_7 h0 rfl ?_
  refine J_ldc2 hX dX3_below_53 ll_X3_19 ?_
  refine J_ldivc hX dX3_below_56 (by decide) ?_
  refine J_lt (mk := Value.long) fun x57 => ?_
  refine J_lstore (lv' := [(4, .long x57), (2, .long x28), (0, .ref (AD Y v0)), (1, .int v1)]) hX dX3_below_57 (Nat.le_of_ble_eq_true rfl) rfl ?_
  refine J_iload_n 3 hX dX3_below_59 fz1 rfl ?_
  refine J_iconst hX dX3_below_60 ci_1 ?_
  refine J_icmp_ge (tgt := 68) hX dX3_below_61 rfl ?_ ?_
  · refine J_ldc2 hX dX3_below_68 ll_X3_21 ?_
    refine J_lload_n 1 hX dX3_below_71 fz2 rfl ?_
    refine J_lmul hX dX3_below_72 ?_
    refine J_lload 0 hX dX3_below_73 rfl ?_
    refine J_ladd hX dX3_below_75 ?_
    refine J_iload_n 3 hX dX3_below_76 fz1 rfl ?_
    refine J_i2l hX dX3_below_77 ?_
    refine J_lrem hX dX3_below_78 ?_
    refine J_l2i hX dX3_below_79 ?_
    exact J_retI hR dX3_below_80
  · refine J_iconst hX dX3_below_64 ci_0 ?_
    refine J_goto (tgt := 80) hX dX3_below_65 rfl ?_
    exact J_retI hR dX3_below_80
set_option maxHeartbeats 4000000 in
set_option maxRecDepth 100000 in
theorem ok_X3_mix {Y : DX} {v0 : Nat} {v1 : Nat} {v2 : Int32} (h0 : SHk v0 = 2) (h1 : SHk v1 = 10) {G : GM} {G' : GM} (hf : f_X3_mix v0 v1 v2 G = some G') : OkV Y 2 M_X3_mix [.ref (AD Y v0), .ref (AD Y v1), .int v2] G G' := by
  refine okV_of (lv0 := [(0, .ref (AD Y v0)), (1, .ref (AD Y v1)), (2, .int v2)]) (by decide +kernel) rfl (Nat.le_of_ble_eq_true rfl) ?_
  intro X Q hX hR
  have hX : CXok X Y RX3 cX3_mix 6 _ := hX
  revert hf
  show J X Y 6 Q 0 [(0, .ref (AD Y v0)), (1, .ref (AD Y v1)), (2, .int v2)] [] G (f_X3_mix v0 v1 v2 G = some G')
  have K4 : ∀  (n : Nat) (v3 : Int32) (G : GM), J X Y 6 Q 4 [(0, .ref (AD Y v0)), (1, .ref (AD Y v1)), (3, .int v3)] [] G (wl1 n (lp_X3_mix_4 v0 v1 v2) v3 G = some G') := by
    refine wl1_ind (R := fun v3 G φ => J X Y 6 Q 4 [(0, .ref (AD Y v0)), (1, .ref (AD Y v1)), (3, .int v3)] [] G φ) (fun _ G φ h => J_no h) ?_
    intro kc4 hk4 v3 G
    unfold lp_X3_mix_4
    refine J_iload_n 2 hX dX3_mix_4 fz3 rfl ?_
    refine J_if_le (tgt := 47) hX dX3_mix_5 rfl ?_ ?_
    · exact J_retV hR dX3_mix_47
    · refine J_aload_n 0 hX dX3_mix_8 fz0 rfl ?_
      refine J_iload_n 2 hX dX3_mix_9 fz3 rfl ?_
      refine J_iconst hX dX3_mix_10 ci_1 ?_
      refine J_iadd hX dX3_mix_11 ?_
      refine J_callVI (As := [.int (v3 + (1 : Int32))]) (st := []) (b := v0) hX mv_X3_23 h0 rfl rfl rfl (Nat.le_of_ble_eq_true rfl) (Nat.le_of_ble_eq_true rfl) (Nat.le_of_ble_eq_true rfl) dX3_mix_12 (fun r G1 h => ok_X3_below h0 h) fun r12 G12 => ?_
      refine J_istore (lv' := [(4, .int r12), (0, .ref (AD Y v0)), (1, .ref (AD Y v1)), (3, .int v3)]) hX dX3_mix_15 (Nat.le_of_ble_eq_true rfl) rfl ?_
      refine J_iload_n 3 hX dX3_mix_17 fz3 rfl ?_
      refine J_aload_n 2 hX dX3_mix_18 fz1 rfl ?_
      refine J_alen hX dX3_mix_19 h1 (by decide) rfl ?_
      refine J_icmp_ge (tgt := 41) hX dX3_mix_20 rfl ?_ ?_
      · refine J_iinc (lv' := [(3, .int (v3 + (-1 : Int32))), (4, .int r12), (0, .ref (AD Y v0)), (1, .ref (AD Y v1))]) 3 hX dX3_mix_41 rfl cim_1 (Nat.le_of_ble_eq_true rfl) rfl ?_
        refine J_goto (tgt := 4) hX dX3_mix_44 rfl ?_
        refine J_sub (lv' := [(0, .ref (AD Y v0)), (1, .ref (AD Y v1)), (3, .int (v3 + (-1 : Int32)))]) [2, 3, 0] rfl ?_
        exact hk4 (v3 + (-1 : Int32)) G12
      · refine J_aload_n 2 hX dX3_mix_23 fz1 rfl ?_
        refine J_iload_n 3 hX dX3_mix_24 fz3 rfl ?_
        refine J_iald hX dX3_mix_25 h1 rfl ?_
        refine J_lt (mk := Value.int) fun x26 => ?_
        refine J_istore (lv' := [(5, .int x26), (4, .int r12), (0, .ref (AD Y v0)), (1, .ref (AD Y v1)), (3, .int v3)]) hX dX3_mix_26 (Nat.le_of_ble_eq_true rfl) rfl ?_
        refine J_aload_n 3 hX dX3_mix_28 fz1 rfl ?_
        refine J_iload_n 4 hX dX3_mix_29 fz3 rfl ?_
        refine J_aload_n 3 hX dX3_mix_30 fz1 rfl ?_
        refine J_iload 1 hX dX3_mix_31 rfl ?_
        refine J_iald hX dX3_mix_33 h1 rfl ?_
        refine J_iast hX dX3_mix_34 h1 rfl fun G34 => ?_
        refine J_aload_n 3 hX dX3_mix_35 fz1 rfl ?_
        refine J_iload 1 hX dX3_mix_36 rfl ?_
        refine J_iload 0 hX dX3_mix_38 rfl ?_
        refine J_iast hX dX3_mix_40 h1 rfl fun G40 => ?_
        refine J_iinc (lv' := [(3, .int (v3 + (-1 : Int32))), (5, .int x26), (4, .int r12), (0, .ref (AD Y v0)), (1, .ref (AD Y v1))]) 4 hX dX3_mix_41 rfl cim_1 (Nat.le_of_ble_eq_true rfl) rfl ?_
        refine J_goto (tgt := 4) hX dX3_mix_44 rfl ?_
        refine J_sub (lv' := [(0, .ref (AD Y v0)), (1, .ref (AD Y v1)), (3, .int (v3 + (-1 : Int32)))]) [3, 4, 0] rfl ?_
        exact hk4 (v3 + (-1 : Int32)) G40
  unfold f_X3_mix
  refine J_iload_n 2 hX dX3_mix_0 fz2 rfl ?_
  refine J_iconst hX dX3_mix_1 ci_1 ?_
  refine J_isub hX dX3_mix_2 ?_
  refine J_lt (mk := Value.int) fun x3 => ?_
  refine J_istore_n (lv' := [(3, .int x3), (0, .ref (AD Y v0)), (1, .ref (AD Y v1)), (2, .int v2)]) hX dX3_mix_3 fz3 (Nat.le_of_ble_eq_true rfl) rfl ?_
  refine J_sub (lv' := [(0, .ref (AD Y v0)), (1, .ref (AD Y v1)), (3, .int x3)]) [1, 2, 0] rfl ?_
  exact K4  FU x3 G
set_option maxHeartbeats 4000000 in
set_option maxRecDepth 100000 in
theorem ok_X2_mixCalls {Y : DX} {v0 : Nat} {v1 : Nat} {v2 : Int32} {v3 : Nat} (h0 : SHk v0 = 1) (h1 : SHk v1 = 3) (h3 : SHk v3 = 10) {G : GM} {G' : GM} (hf : f_X2_mixCalls v0 v1 v2 v3 G = some G') : OkV Y 3 M_X2_mixCalls [.ref (AD Y v0), .ref (AD Y v1), .int v2, .ref (AD Y v3)] G G' := by
  refine okV_of (lv0 := [(0, .ref (AD Y v0)), (1, .ref (AD Y v1)), (2, .int v2), (3, .ref (AD Y v3))]) (by decide +kernel) rfl (Nat.le_of_ble_eq_true rfl) ?_
  intro X Q hX hR
  have hX : CXok X Y RX2 cX2_mixCalls 5 _ := hX
  revert hf
  show J X Y 5 Q 0 [(0, .ref (AD Y v0)), (1, .ref (AD Y v1)), (2, .int v2), (3, .ref (AD Y v3))] [] G (f_X2_mixCalls v0 v1 v2 v3 G = some G')
  have K33 : ∀ (G : GM), J X Y 5 Q 33 [(0, .ref (AD Y v0)), (1, .ref (AD Y v1)), (2, .int v2), (3, .ref (AD Y v3))] [] G (k_X2_mixCalls_33 v0 v1 v2 v3 G = some G') := by
    intro G
    unfold k_X2_mixCalls_33
    refine J_aload_n 0 hX dX2_mixCalls_33 fz0 rfl ?_
    refine J_getR (b := (v0 + 1)) hX dX2_mixCalls_34 lf_X2_12 h0 rfl (by decide) rfl ?_
    refine J_iload_n 2 hX dX2_mixCalls_37 fz2 rfl ?_
    refine J_callVV (As := [.int v2]) (st := []) (b := (v0 + 1)) hX mv_X2_31 (tp_1_0 h0) rfl rfl rfl (Nat.le_of_ble_eq_true rfl) (Nat.le_of_ble_eq_true rfl) (Nat.le_of_ble_eq_true rfl) dX2_mixCalls_38 (fun G1 h => ok_X3_begin (tp_1_0 h0) h) fun G38 => ?_
    refine J_aload_n 0 hX dX2_mixCalls_41 fz0 rfl ?_
    refine J_getR (b := (v0 + 1)) hX dX2_mixCalls_42 lf_X2_12 h0 rfl (by decide) rfl ?_
    refine J_aload_n 3 hX dX2_mixCalls_45 fz3 rfl ?_
    refine J_aload_n 1 hX dX2_mixCalls_46 fz1 rfl ?_
    refine J_getI hX dX2_mixCalls_47 lf_X2_110 h1 rfl ?_
    refine J_callVV (As := [.ref (AD Y v3), .int (gI G38 v1 6)]) (st := []) (b := (v0 + 1)) hX mv_X2_92 (tp_1_0 h0) rfl rfl rfl (Nat.le_of_ble_eq_true rfl) (Nat.le_of_ble_eq_true rfl) (Nat.le_of_ble_eq_true rfl) dX2_mixCalls_50 (fun G1 h => ok_X3_mix (tp_1_0 h0) h3 h) fun G50 => ?_
    exact J_retV hR dX2_mixCalls_53
  have K3 : ∀  (n : Nat) (v4 : Int32) (G : GM), J X Y 5 Q 3 [(0, .ref (AD Y v0)), (1, .ref (AD Y v1)), (2, .int v2), (3, .ref (AD Y v3)), (4, .int v4)] [] G (wl1 n (lp_X2_mixCalls_3 v0 v1 v2 v3) v4 G = some G') := by
    refine wl1_ind (R := fun v4 G φ => J X Y 5 Q 3 [(0, .ref (AD Y v0)), (1, .ref (AD Y v1)), (2, .int v2), (3, .ref (AD Y v3)), (4, .int v4)] [] G φ) (fun _ G φ h => J_no h) ?_
    intro kc3 hk3 v4 G
    unfold lp_X2_mixCalls_3
    refine J_iload 4 hX dX2_mixCalls_3 rfl ?_
    refine J_aload_n 1 hX dX2_mixCalls_5 fz1 rfl ?_
    refine J_getI hX dX2_mixCalls_6 lf_X2_110 h1 rfl ?_
    refine J_icmp_ge (tgt := 33) hX dX2_mixCalls_9 rfl ?_ ?_
    · refine J_sub (lv' := [(0, .ref (AD Y v0)), (1, .ref (AD Y v1)), (2, .int v2), (3, .ref (AD Y v3))]) [0, 1, 2, 3] rfl ?_
      exact K33 G
    · refine J_iload 4 hX dX2_mixCalls_12 rfl ?_
      refine J_aload_n 3 hX dX2_mixCalls_14 fz3 rfl ?_
      refine J_alen hX dX2_mixCalls_15 h3 (by decide) rfl ?_
      refine J_icmp_ge (tgt := 33) hX dX2_mixCalls_16 rfl ?_ ?_
      · refine J_sub (lv' := [(0, .ref (AD Y v0)), (1, .ref (AD Y v1)), (2, .int v2), (3, .ref (AD Y v3))]) [0, 1, 2, 3] rfl ?_
        exact K33 G
      · refine J_aload_n 3 hX dX2_mixCalls_19 fz3 rfl ?_
        refine J_iload 4 hX dX2_mixCalls_20 rfl ?_
        refine J_iload 4 hX dX2_mixCalls_22 rfl ?_
        refine J_iconst hX dX2_mixCalls_24 ci_1 ?_
        refine J_iadd hX dX2_mixCalls_25 ?_
        refine J_iast hX dX2_mixCalls_26 h3 rfl fun G26 => ?_
        refine J_iinc (lv' := [(4, .int (v4 + (1 : Int32))), (0, .ref (AD Y v0)), (1, .ref (AD Y v1)), (2, .int v2), (3, .ref (AD Y v3))]) 4 hX dX2_mixCalls_27 rfl ci_1 (Nat.le_of_ble_eq_true rfl) rfl ?_
        refine J_goto (tgt := 3) hX dX2_mixCalls_30 rfl ?_
        refine J_sub (lv' := [(0, .ref (AD Y v0)), (1, .ref (AD Y v1)), (2, .int v2), (3, .ref (AD Y v3)), (4, .int (v4 + (1 : Int32)))]) [1, 2, 3, 4, 0] rfl ?_
        exact hk3 (v4 + (1 : Int32)) G26
  unfold f_X2_mixCalls
  refine J_iconst hX dX2_mixCalls_0 ci_0 ?_
  refine J_istore (lv' := [(4, .int (0 : Int32)), (0, .ref (AD Y v0)), (1, .ref (AD Y v1)), (2, .int v2), (3, .ref (AD Y v3))]) hX dX2_mixCalls_1 (Nat.le_of_ble_eq_true rfl) rfl ?_
  refine J_sub (lv' := [(0, .ref (AD Y v0)), (1, .ref (AD Y v1)), (2, .int v2), (3, .ref (AD Y v3)), (4, .int (0 : Int32))]) [1, 2, 3, 4, 0] rfl ?_
  exact K3  FU (0 : Int32) G
set_option maxHeartbeats 4000000 in
set_option maxRecDepth 100000 in
theorem ok_X9_noteTurns {Y : DX} {v0 : Nat} {v1 : Int32} {v2 : Nat} (h0 : SHk v0 = 10) (h2 : SHk v2 = 10) {G : GM} {G' : GM} (hf : f_X9_noteTurns v0 v1 v2 G = some G') : OkV Y 1 M_X9_noteTurns [.ref (AD Y v0), .int v1, .ref (AD Y v2)] G G' := by
  refine okV_of (lv0 := [(0, .ref (AD Y v0)), (1, .int v1), (2, .ref (AD Y v2))]) (by decide +kernel) rfl (Nat.le_of_ble_eq_true rfl) ?_
  intro X Q hX hR
  have hX : CXok X Y RX9 cX9_noteTurns 5 _ := hX
  revert hf
  show J X Y 5 Q 0 [(0, .ref (AD Y v0)), (1, .int v1), (2, .ref (AD Y v2))] [] G (f_X9_noteTurns v0 v1 v2 G = some G')
  have K2 : ∀  (n : Nat) (v3 : Int32) (G : GM), J X Y 5 Q 2 [(0, .ref (AD Y v0)), (1, .int v1), (2, .ref (AD Y v2)), (3, .int v3)] [] G (wl1 n (lp_X9_noteTurns_2 v0 v1 v2) v3 G = some G') := by
    refine wl1_ind (R := fun v3 G φ => J X Y 5 Q 2 [(0, .ref (AD Y v0)), (1, .int v1), (2, .ref (AD Y v2)), (3, .int v3)] [] G φ) (fun _ G φ h => J_no h) ?_
    intro kc2 hk2 v3 G
    unfold lp_X9_noteTurns_2
    refine J_iload_n 3 hX dX9_noteTurns_2 fz3 rfl ?_
    refine J_iload_n 1 hX dX9_noteTurns_3 fz1 rfl ?_
    refine J_icmp_ge (tgt := 43) hX dX9_noteTurns_4 rfl ?_ ?_
    · exact J_retV hR dX9_noteTurns_43
    · refine J_iload_n 3 hX dX9_noteTurns_7 fz3 rfl ?_
      refine J_aload_n 0 hX dX9_noteTurns_8 fz0 rfl ?_
      refine J_alen hX dX9_noteTurns_9 h0 (by decide) rfl ?_
      refine J_icmp_ge (tgt := 43) hX dX9_noteTurns_10 rfl ?_ ?_
      · exact J_retV hR dX9_noteTurns_43
      · refine J_aload_n 0 hX dX9_noteTurns_13 fz0 rfl ?_
        refine J_iload_n 3 hX dX9_noteTurns_14 fz3 rfl ?_
        refine J_iald hX dX9_noteTurns_15 h0 rfl ?_
        refine J_lt (mk := Value.int) fun x16 => ?_
        refine J_istore (lv' := [(4, .int x16), (0, .ref (AD Y v0)), (1, .int v1), (2, .ref (AD Y v2)), (3, .int v3)]) hX dX9_noteTurns_16 (Nat.le_of_ble_eq_true rfl) rfl ?_
        refine J_iload 0 hX dX9_noteTurns_18 rfl ?_
        refine J_if_lt (tgt := 37) hX dX9_noteTurns_20 rfl ?_ ?_
        · refine J_iinc (lv' := [(3, .int (v3 + (1 : Int32))), (4, .int x16), (0, .ref (AD Y v0)), (1, .int v1), (2, .ref (AD Y v2))]) 4 hX dX9_noteTurns_37 rfl ci_1 (Nat.le_of_ble_eq_true rfl) rfl ?_
          refine J_goto (tgt := 2) hX dX9_noteTurns_40 rfl ?_
          refine J_sub (lv' := [(0, .ref (AD Y v0)), (1, .int v1), (2, .ref (AD Y v2)), (3, .int (v3 + (1 : Int32)))]) [2, 3, 4, 0] rfl ?_
          exact hk2 (v3 + (1 : Int32)) G
        · refine J_iload 0 hX dX9_noteTurns_23 rfl ?_
          refine J_aload_n 3 hX dX9_noteTurns_25 fz2 rfl ?_
          refine J_alen hX dX9_noteTurns_26 h2 (by decide) rfl ?_
          refine J_icmp_ge (tgt := 37) hX dX9_noteTurns_27 rfl ?_ ?_
          · refine J_iinc (lv' := [(3, .int (v3 + (1 : Int32))), (4, .int x16), (0, .ref (AD Y v0)), (1, .int v1), (2, .ref (AD Y v2))]) 4 hX dX9_noteTurns_37 rfl ci_1 (Nat.le_of_ble_eq_true rfl) rfl ?_
            refine J_goto (tgt := 2) hX dX9_noteTurns_40 rfl ?_
            refine J_sub (lv' := [(0, .ref (AD Y v0)), (1, .int v1), (2, .ref (AD Y v2)), (3, .int (v3 + (1 : Int32)))]) [2, 3, 4, 0] rfl ?_
            exact hk2 (v3 + (1 : Int32)) G
          · refine J_aload_n 3 hX dX9_noteTurns_30 fz2 rfl ?_
            refine J_iload 0 hX dX9_noteTurns_31 rfl ?_
            refine J_iload_n 4 hX dX9_noteTurns_33 fz3 rfl ?_
            refine J_iconst hX dX9_noteTurns_34 ci_1 ?_
            refine J_iadd hX dX9_noteTurns_35 ?_
            refine J_iast hX dX9_noteTurns_36 h2 rfl fun G36 => ?_
            refine J_iinc (lv' := [(3, .int (v3 + (1 : Int32))), (4, .int x16), (0, .ref (AD Y v0)), (1, .int v1), (2, .ref (AD Y v2))]) 4 hX dX9_noteTurns_37 rfl ci_1 (Nat.le_of_ble_eq_true rfl) rfl ?_
            refine J_goto (tgt := 2) hX dX9_noteTurns_40 rfl ?_
            refine J_sub (lv' := [(0, .ref (AD Y v0)), (1, .int v1), (2, .ref (AD Y v2)), (3, .int (v3 + (1 : Int32)))]) [2, 3, 4, 0] rfl ?_
            exact hk2 (v3 + (1 : Int32)) G36
  unfold f_X9_noteTurns
  refine J_iconst hX dX9_noteTurns_0 ci_0 ?_
  refine J_istore_n (lv' := [(3, .int (0 : Int32)), (0, .ref (AD Y v0)), (1, .int v1), (2, .ref (AD Y v2))]) hX dX9_noteTurns_1 fz3 (Nat.le_of_ble_eq_true rfl) rfl ?_
  refine J_sub (lv' := [(0, .ref (AD Y v0)), (1, .int v1), (2, .ref (AD Y v2)), (3, .int (0 : Int32))]) [1, 2, 3, 0] rfl ?_
  exact K2  FU (0 : Int32) G
set_option maxHeartbeats 4000000 in
set_option maxRecDepth 100000 in
theorem ok_X5_noteTurns {Y : DX} {v0 : Nat} (h0 : SHk v0 = 4) {G : GM} {G' : GM} (hf : f_X5_noteTurns v0 G = some G') : OkV Y 2 M_X5_noteTurns [.ref (AD Y v0)] G G' := by
  refine okV_of (lv0 := [(0, .ref (AD Y v0))]) (by decide +kernel) rfl (Nat.le_of_ble_eq_true rfl) ?_
  intro X Q hX hR
  have hX : CXok X Y RX5 cX5_noteTurns 1 _ := hX
  revert hf
  show J X Y 1 Q 0 [(0, .ref (AD Y v0))] [] G (f_X5_noteTurns v0 G = some G')
  unfold f_X5_noteTurns
  refine J_aload_n 0 hX dX5_noteTurns_0 fz0 rfl ?_
  refine J_getR (b := (v0 + 20)) hX dX5_noteTurns_1 lf_X5_43 h0 rfl (by decide) rfl ?_
  refine J_aload_n 0 hX dX5_noteTurns_4 fz0 rfl ?_
  refine J_getR (b := (v0 + 1)) hX dX5_noteTurns_5 lf_X5_12 h0 rfl (by decide) rfl ?_
  refine J_getI hX dX5_noteTurns_8 lf_X5_72 (tp_4_0 h0) rfl ?_
  refine J_aload_n 0 hX dX5_noteTurns_11 fz0 rfl ?_
  refine J_getR (b := (v0 + 21)) hX dX5_noteTurns_12 lf_X5_46 h0 rfl (by decide) rfl ?_
  refine J_callSV (As := [.ref (AD Y (v0 + 20)), .int (gI G (v0 + 1) 6), .ref (AD Y (v0 + 21))]) (st := []) hX ms_X5_75 rfl rfl (Nat.le_of_ble_eq_true rfl) (Nat.le_of_ble_eq_true rfl) (Nat.le_of_ble_eq_true rfl) dX5_noteTurns_15 (fun G1 h => ok_X9_noteTurns (tp_4_8 h0) (tp_4_9 h0) h) fun G15 => ?_
  exact J_retV hR dX5_noteTurns_18
set_option maxHeartbeats 4000000 in
set_option maxRecDepth 100000 in
theorem ok_J7_fill_53178 {Y : DX} {v0 : Nat} {v1 : Int32} (h0 : SHk v0 = 10) {G : GM} {G' : GM} (hf : f_J7_fill_53178 v0 v1 G = some G') : OkV Y 1 M_J7_fill_53178 [.ref (AD Y v0), .int v1] G G' := by
  refine okV_of (lv0 := [(0, .ref (AD Y v0)), (1, .int v1)]) (by decide +kernel) rfl (Nat.le_of_ble_eq_true rfl) ?_
  intro X Q hX hR
  have hX : CXok X Y RJ7 cJ7_fill_53178 4 _ := hX
  revert hf
  show J X Y 4 Q 0 [(0, .ref (AD Y v0)), (1, .int v1)] [] G (f_J7_fill_53178 v0 v1 G = some G')
  have K5 : ∀ (v3 : Int32) (n : Nat) (v2 : Int32) (G : GM), J X Y 4 Q 5 [(0, .ref (AD Y v0)), (1, .int v1), (2, .int v2), (3, .int v3)] [] G (wl1 n (lp_J7_fill_53178_5 v0 v1 v3) v2 G = some G') := by
    intro v3
    refine wl1_ind (R := fun v2 G φ => J X Y 4 Q 5 [(0, .ref (AD Y v0)), (1, .int v1), (2, .int v2), (3, .int v3)] [] G φ) (fun _ G φ h => J_no h) ?_
    intro kc5 hk5 v2 G
    unfold lp_J7_fill_53178_5
    refine J_iload_n 2 hX dJ7_fill_53178_5 fz2 rfl ?_
    refine J_iload_n 3 hX dJ7_fill_53178_6 fz3 rfl ?_
    refine J_icmp_ge (tgt := 20) hX dJ7_fill_53178_7 rfl ?_ ?_
    · exact J_retV hR dJ7_fill_53178_20
    · refine J_aload_n 0 hX dJ7_fill_53178_10 fz0 rfl ?_
      refine J_iload_n 2 hX dJ7_fill_53178_11 fz2 rfl ?_
      refine J_iload_n 1 hX dJ7_fill_53178_12 fz1 rfl ?_
      refine J_iast hX dJ7_fill_53178_13 h0 rfl fun G13 => ?_
      refine J_iinc (lv' := [(2, .int (v2 + (1 : Int32))), (0, .ref (AD Y v0)), (1, .int v1), (3, .int v3)]) 2 hX dJ7_fill_53178_14 rfl ci_1 (Nat.le_of_ble_eq_true rfl) rfl ?_
      refine J_goto (tgt := 5) hX dJ7_fill_53178_17 rfl ?_
      refine J_sub (lv' := [(0, .ref (AD Y v0)), (1, .int v1), (2, .int (v2 + (1 : Int32))), (3, .int v3)]) [1, 2, 0, 3] rfl ?_
      exact hk5 (v2 + (1 : Int32)) G13
  unfold f_J7_fill_53178
  refine J_iconst hX dJ7_fill_53178_0 ci_0 ?_
  refine J_istore_n (lv' := [(2, .int (0 : Int32)), (0, .ref (AD Y v0)), (1, .int v1)]) hX dJ7_fill_53178_1 fz2 (Nat.le_of_ble_eq_true rfl) rfl ?_
  refine J_aload_n 1 hX dJ7_fill_53178_2 fz0 rfl ?_
  refine J_alen hX dJ7_fill_53178_3 h0 (by decide) rfl ?_
  refine J_lt (mk := Value.int) fun x4 => ?_
  refine J_istore_n (lv' := [(3, .int x4), (2, .int (0 : Int32)), (0, .ref (AD Y v0)), (1, .int v1)]) hX dJ7_fill_53178_4 fz3 (Nat.le_of_ble_eq_true rfl) rfl ?_
  refine J_sub (lv' := [(0, .ref (AD Y v0)), (1, .int v1), (2, .int (0 : Int32)), (3, .int x4)]) [2, 3, 1, 0] rfl ?_
  exact K5 x4 FU (0 : Int32) G
set_option maxHeartbeats 4000000 in
set_option maxRecDepth 100000 in
theorem ok_X6_isPart {Y : DX} {v0 : Nat} {v1 : Int32} (h0 : SHk v0 = 5) {G : GM} {r : Int32} {G' : GM} (hf : f_X6_isPart v0 v1 G = some (r, G')) : OkI Y 1 M_X6_isPart [.ref (AD Y v0), .int v1] G r G' := by
  refine okZ_of (lv0 := [(0, .ref (AD Y v0)), (1, .int v1)]) (by decide +kernel) rfl (Nat.le_of_ble_eq_true rfl) ?_
  intro X Q hX hR
  have hX : CXok X Y RX6 cX6_isPart 5 _ := hX
  revert hf
  show J X Y 5 Q 0 [(0, .ref (AD Y v0)), (1, .int v1)] [] G (f_X6_isPart v0 v1 G = some (r, G'))
  have K4 : ∀  (n : Nat) (v2 : Int32) (v3 : Int32) (G : GM), J X Y 5 Q 4 [(0, .ref (AD Y v0)), (1, .int v1), (2, .int v2), (3, .int v3)] [] G (wl2 n (lp_X6_isPart_4 v0 v1) v2 v3 G = some (r, G')) := by
    refine wl2_ind (R := fun v2 v3 G φ => J X Y 5 Q 4 [(0, .ref (AD Y v0)), (1, .int v1), (2, .int v2), (3, .int v3)] [] G φ) (fun _ _ G φ h => J_no h) ?_
    intro kc4 hk4 v2 v3 G
    unfold lp_X6_isPart_4
    refine J_iload_n 3 hX dX6_isPart_4 fz3 rfl ?_
    refine J_aload_n 0 hX dX6_isPart_5 fz0 rfl ?_
    refine J_getI hX dX6_isPart_6 lf_X6_19 h0 rfl ?_
    refine J_icmp_ge (tgt := 55) hX dX6_isPart_9 rfl ?_ ?_
    · refine J_iload_n 2 hX dX6_isPart_55 fz2 rfl ?_
      refine J_aload_n 0 hX dX6_isPart_56 fz0 rfl ?_
      refine J_getI hX dX6_isPart_57 lf_X6_28 h0 rfl ?_
      refine J_icmp_ne (tgt := 67) hX dX6_isPart_60 rfl ?_ ?_
      · refine J_iconst hX dX6_isPart_67 ci_0 ?_
        exact J_retZ hR (by decide) dX6_isPart_68
      · refine J_iconst hX dX6_isPart_63 ci_1 ?_
        refine J_goto (tgt := 68) hX dX6_isPart_64 rfl ?_
        exact J_retZ hR (by decide) dX6_isPart_68
    · refine J_iload_n 1 hX dX6_isPart_12 fz1 rfl ?_
      refine J_iconst hX dX6_isPart_13 ci_5 ?_
      refine J_iconst hX dX6_isPart_14 ci_4 ?_
      refine J_iload_n 3 hX dX6_isPart_15 fz3 rfl ?_
      refine J_isub hX dX6_isPart_16 ?_
      refine J_imul hX dX6_isPart_17 ?_
      refine J_ishr hX dX6_isPart_18 ?_
      refine J_bipush hX dX6_isPart_19 cb_31 ?_
      refine J_iand hX dX6_isPart_21 ?_
      refine J_lt (mk := Value.int) fun x22 => ?_
      refine J_istore (lv' := [(4, .int x22), (0, .ref (AD Y v0)), (1, .int v1), (2, .int v2), (3, .int v3)]) hX dX6_isPart_22 (Nat.le_of_ble_eq_true rfl) rfl ?_
      refine J_iload 0 hX dX6_isPart_24 rfl ?_
      refine J_aload_n 1 hX dX6_isPart_26 fz0 rfl ?_
      refine J_getI hX dX6_isPart_27 lf_X6_22 h0 rfl ?_
      refine J_icmp_lt (tgt := 42) hX dX6_isPart_30 rfl ?_ ?_
      · refine J_iconst hX dX6_isPart_42 ci_0 ?_
        exact J_retZ hR (by decide) dX6_isPart_43
      · refine J_iload 0 hX dX6_isPart_33 rfl ?_
        refine J_aload_n 1 hX dX6_isPart_35 fz0 rfl ?_
        refine J_getI hX dX6_isPart_36 lf_X6_25 h0 rfl ?_
        refine J_icmp_le (tgt := 44) hX dX6_isPart_39 rfl ?_ ?_
        · refine J_iload_n 3 hX dX6_isPart_44 fz2 rfl ?_
          refine J_iload 0 hX dX6_isPart_45 rfl ?_
          refine J_iadd hX dX6_isPart_47 ?_
          refine J_lt (mk := Value.int) fun x48 => ?_
          refine J_istore_n (lv' := [(2, .int x48), (4, .int x22), (0, .ref (AD Y v0)), (1, .int v1), (3, .int v3)]) hX dX6_isPart_48 fz2 (Nat.le_of_ble_eq_true rfl) rfl ?_
          refine J_iinc (lv' := [(3, .int (v3 + (1 : Int32))), (2, .int x48), (4, .int x22), (0, .ref (AD Y v0)), (1, .int v1)]) 4 hX dX6_isPart_49 rfl ci_1 (Nat.le_of_ble_eq_true rfl) rfl ?_
          refine J_goto (tgt := 4) hX dX6_isPart_52 rfl ?_
          refine J_sub (lv' := [(0, .ref (AD Y v0)), (1, .int v1), (2, .int x48), (3, .int (v3 + (1 : Int32)))]) [3, 4, 1, 0] rfl ?_
          exact hk4 x48 (v3 + (1 : Int32)) G
        · refine J_iconst hX dX6_isPart_42 ci_0 ?_
          exact J_retZ hR (by decide) dX6_isPart_43
  unfold f_X6_isPart
  refine J_iconst hX dX6_isPart_0 ci_0 ?_
  refine J_istore_n (lv' := [(2, .int (0 : Int32)), (0, .ref (AD Y v0)), (1, .int v1)]) hX dX6_isPart_1 fz2 (Nat.le_of_ble_eq_true rfl) rfl ?_
  refine J_iconst hX dX6_isPart_2 ci_0 ?_
  refine J_istore_n (lv' := [(3, .int (0 : Int32)), (2, .int (0 : Int32)), (0, .ref (AD Y v0)), (1, .int v1)]) hX dX6_isPart_3 fz3 (Nat.le_of_ble_eq_true rfl) rfl ?_
  refine J_sub (lv' := [(0, .ref (AD Y v0)), (1, .int v1), (2, .int (0 : Int32)), (3, .int (0 : Int32))]) [2, 3, 1, 0] rfl ?_
  exact K4  FU (0 : Int32) (0 : Int32) G
set_option maxHeartbeats 4000000 in
set_option maxRecDepth 100000 in
theorem ok_X6_addIfPart {Y : DX} {v0 : Nat} {v1 : Int32} (h0 : SHk v0 = 5) {G : GM} {G' : GM} (hf : f_X6_addIfPart v0 v1 G = some G') : OkV Y 2 M_X6_addIfPart [.ref (AD Y v0), .int v1] G G' := by
  refine okV_of (lv0 := [(0, .ref (AD Y v0)), (1, .int v1)]) (by decide +kernel) rfl (Nat.le_of_ble_eq_true rfl) ?_
  intro X Q hX hR
  have hX : CXok X Y RX6 cX6_addIfPart 2 _ := hX
  revert hf
  show J X Y 2 Q 0 [(0, .ref (AD Y v0)), (1, .int v1)] [] G (f_X6_addIfPart v0 v1 G = some G')
  unfold f_X6_addIfPart
  refine J_aload_n 0 hX dX6_addIfPart_0 fz0 rfl ?_
  refine J_iload_n 1 hX dX6_addIfPart_1 fz1 rfl ?_
  refine J_callVI (As := [.int v1]) (st := []) (b := v0) hX mv_X6_43 h0 rfl rfl rfl (Nat.le_of_ble_eq_true rfl) (Nat.le_of_ble_eq_true rfl) (Nat.le_of_ble_eq_true rfl) dX6_addIfPart_2 (fun r G1 h => ok_X6_isPart h0 h) fun r2 G2 => ?_
  refine J_if_eq (tgt := 37) hX dX6_addIfPart_5 rfl ?_ ?_
  · exact J_retV hR dX6_addIfPart_37
  · refine J_aload_n 0 hX dX6_addIfPart_8 fz0 rfl ?_
    refine J_getI hX dX6_addIfPart_9 lf_X6_15 h0 rfl ?_
    refine J_bipush hX dX6_addIfPart_12 cb_64 ?_
    refine J_icmp_ge (tgt := 37) hX dX6_addIfPart_14 rfl ?_ ?_
    · exact J_retV hR dX6_addIfPart_37
    · refine J_aload_n 0 hX dX6_addIfPart_17 fz0 rfl ?_
      refine J_getR (b := (v0 + 1)) hX dX6_addIfPart_18 lf_X6_11 h0 rfl (by decide) rfl ?_
      refine J_aload_n 0 hX dX6_addIfPart_21 fz0 rfl ?_
      refine J_getI hX dX6_addIfPart_22 lf_X6_15 h0 rfl ?_
      refine J_iload_n 1 hX dX6_addIfPart_25 fz1 rfl ?_
      refine J_iast hX dX6_addIfPart_26 (tp_5_0 h0) (tl_5_0 h0) fun G26 => ?_
      refine J_aload_n 0 hX dX6_addIfPart_27 fz0 rfl ?_
      refine J_dup hX dX6_addIfPart_28 rfl ?_
      refine J_getI hX dX6_addIfPart_29 lf_X6_15 h0 rfl ?_
      refine J_iconst hX dX6_addIfPart_32 ci_1 ?_
      refine J_iadd hX dX6_addIfPart_33 ?_
      refine J_putI hX dX6_addIfPart_34 lf_X6_15 lpt_5_1 h0 rfl fun G34 => ?_
      exact J_retV hR dX6_addIfPart_37
set_option maxHeartbeats 4000000 in
set_option maxRecDepth 100000 in
theorem ok_X6_begin {Y : DX} {v0 : Nat} {v1 : Int32} {v2 : Int32} {v3 : Int32} {v4 : Int32} (h0 : SHk v0 = 5) {G : GM} {G' : GM} (hf : f_X6_begin v0 v1 v2 v3 v4 G = some G') : OkV Y 1 M_X6_begin [.ref (AD Y v0), .int v1, .int v2, .int v3, .int v4] G G' := by
  refine okV_of (lv0 := [(0, .ref (AD Y v0)), (1, .int v1), (2, .int v2), (3, .int v3), (4, .int v4)]) (by decide +kernel) rfl (Nat.le_of_ble_eq_true rfl) ?_
  intro X Q hX hR
  have hX : CXok X Y RX6 cX6_begin 5 _ := hX
  revert hf
  show J X Y 5 Q 0 [(0, .ref (AD Y v0)), (1, .int v1), (2, .int v2), (3, .int v3), (4, .int v4)] [] G (f_X6_begin v0 v1 v2 v3 v4 G = some G')
  unfold f_X6_begin
  refine J_aload_n 0 hX dX6_begin_0 fz0 rfl ?_
  refine J_iconst hX dX6_begin_1 ci_0 ?_
  refine J_putI hX dX6_begin_2 lf_X6_15 lpt_5_1 h0 rfl fun G2 => ?_
  refine J_aload_n 0 hX dX6_begin_5 fz0 rfl ?_
  refine J_iload_n 1 hX dX6_begin_6 fz1 rfl ?_
  refine J_putI hX dX6_begin_7 lf_X6_19 lpt_5_2 h0 rfl fun G7 => ?_
  refine J_aload_n 0 hX dX6_begin_10 fz0 rfl ?_
  refine J_iload_n 2 hX dX6_begin_11 fz2 rfl ?_
  refine J_putI hX dX6_begin_12 lf_X6_22 lpt_5_3 h0 rfl fun G12 => ?_
  refine J_aload_n 0 hX dX6_begin_15 fz0 rfl ?_
  refine J_iload_n 3 hX dX6_begin_16 fz3 rfl ?_
  refine J_putI hX dX6_begin_17 lf_X6_25 lpt_5_4 h0 rfl fun G17 => ?_
  refine J_aload_n 0 hX dX6_begin_20 fz0 rfl ?_
  refine J_iload 4 hX dX6_begin_21 rfl ?_
  refine J_putI hX dX6_begin_23 lf_X6_28 lpt_5_5 h0 rfl fun G23 => ?_
  exact J_retV hR dX6_begin_26
set_option maxHeartbeats 4000000 in
set_option maxRecDepth 100000 in
theorem ok_X6_packed {Y : DX} {v0 : Int32} {v1 : Int32}  {G : GM} {r : Int32} {G' : GM} (hf : f_X6_packed v0 v1 G = some (r, G')) : OkI Y 1 M_X6_packed [.int v0, .int v1] G r G' := by
  refine okI_of (lv0 := [(0, .int v0), (1, .int v1)]) (by decide +kernel) rfl (Nat.le_of_ble_eq_true rfl) ?_
  intro X Q hX hR
  have hX : CXok X Y RX6 cX6_packed 2 _ := hX
  revert hf
  show J X Y 2 Q 0 [(0, .int v0), (1, .int v1)] [] G (f_X6_packed v0 v1 G = some (r, G'))
  unfold f_X6_packed
  refine J_iload_n 0 hX dX6_packed_0 fz0 rfl ?_
  refine J_if_lt (tgt := 9) hX dX6_packed_1 rfl ?_ ?_
  · refine J_iconst hX dX6_packed_9 ci_0 ?_
    refine J_goto (tgt := 20) hX dX6_packed_10 rfl ?_
    exact J_retI hR dX6_packed_20
  · refine J_iload_n 0 hX dX6_packed_4 fz0 rfl ?_
    refine J_iconst hX dX6_packed_5 ci_5 ?_
    refine J_icmp_lt (tgt := 13) hX dX6_packed_6 rfl ?_ ?_
    · refine J_iload_n 1 hX dX6_packed_13 fz1 rfl ?_
      refine J_iconst hX dX6_packed_14 ci_5 ?_
      refine J_iconst hX dX6_packed_15 ci_4 ?_
      refine J_iload_n 0 hX dX6_packed_16 fz0 rfl ?_
      refine J_isub hX dX6_packed_17 ?_
      refine J_imul hX dX6_packed_18 ?_
      refine J_ishl hX dX6_packed_19 ?_
      exact J_retI hR dX6_packed_20
    · refine J_iconst hX dX6_packed_9 ci_0 ?_
      refine J_goto (tgt := 20) hX dX6_packed_10 rfl ?_
      exact J_retI hR dX6_packed_20
set_option maxHeartbeats 4000000 in
set_option maxRecDepth 100000 in
theorem ok_X6_beMixes {Y : DX} {v0 : Nat} {v1 : Int32} {v2 : Int32} {v3 : Int32} (h0 : SHk v0 = 5) {G : GM} {G' : GM} (hf : f_X6_beMixes v0 v1 v2 v3 G = some G') : OkV Y 3 M_X6_beMixes [.ref (AD Y v0), .int v1, .int v2, .int v3] G G' := by
  refine okV_of (lv0 := [(0, .ref (AD Y v0)), (1, .int v1), (2, .int v2), (3, .int v3)]) (by decide +kernel) rfl (Nat.le_of_ble_eq_true rfl) ?_
  intro X Q hX hR
  have hX : CXok X Y RX6 cX6_beMixes 9 _ := hX
  revert hf
  show J X Y 9 Q 0 [(0, .ref (AD Y v0)), (1, .int v1), (2, .int v2), (3, .int v3)] [] G (f_X6_beMixes v0 v1 v2 v3 G = some G')
  have K37 : ∀ (v4 : Int32) (n : Nat) (v5 : Int32) (G : GM), J X Y 9 Q 37 [(0, .ref (AD Y v0)), (1, .int v1), (2, .int v2), (4, .int v4), (5, .int v5)] [] G (wl1 n (lp_X6_beMixes_37 v0 v1 v2 v3 v4) v5 G = some G') := by
    intro v4
    refine wl1_ind (R := fun v5 G φ => J X Y 9 Q 37 [(0, .ref (AD Y v0)), (1, .int v1), (2, .int v2), (4, .int v4), (5, .int v5)] [] G φ) (fun _ G φ h => J_no h) ?_
    intro kc37 hk37 v5 G
    unfold lp_X6_beMixes_37
    have K93 : ∀ (v5 : Int32) (v7 : Int32) (G : GM), J X Y 9 Q 93 [(0, .ref (AD Y v0)), (1, .int v1), (2, .int v2), (4, .int v4), (5, .int v5), (7, .int v7)] [] G (k_X6_beMixes_93 v0 v1 v2 v3 v4 v5 v7 kc37 G = some G') := by
      intro v5 v7 G
      unfold k_X6_beMixes_93
      refine J_aload_n 0 hX dX6_beMixes_93 fz0 rfl ?_
      refine J_iload 5 hX dX6_beMixes_94 rfl ?_
      refine J_callVV (As := [.int v7]) (st := []) (b := v0) hX mv_X6_39 h0 rfl rfl rfl (Nat.le_of_ble_eq_true rfl) (Nat.le_of_ble_eq_true rfl) (Nat.le_of_ble_eq_true rfl) dX6_beMixes_96 (fun G1 h => ok_X6_addIfPart h0 h) fun G96 => ?_
      refine J_iinc (lv' := [(5, .int (v5 + (1 : Int32))), (0, .ref (AD Y v0)), (1, .int v1), (2, .int v2), (4, .int v4), (7, .int v7)]) 4 hX dX6_beMixes_99 rfl ci_1 (Nat.le_of_ble_eq_true rfl) rfl ?_
      refine J_goto (tgt := 37) hX dX6_beMixes_102 rfl ?_
      refine J_sub (lv' := [(0, .ref (AD Y v0)), (1, .int v1), (2, .int v2), (4, .int v4), (5, .int (v5 + (1 : Int32)))]) [1, 2, 3, 4, 0] rfl ?_
      exact hk37 (v5 + (1 : Int32)) G96
    have K56 : ∀ (v5 : Int32) (n : Nat) (v6 : Int32) (v7 : Int32) (v8 : Int32) (G : GM), J X Y 9 Q 56 [(0, .ref (AD Y v0)), (1, .int v1), (2, .int v2), (4, .int v4), (5, .int v5), (6, .int v6), (7, .int v7), (8, .int v8)] [] G (wl3 n (lp_X6_beMixes_56 v0 v1 v2 v3 v4 v5 kc37) v6 v7 v8 G = some G') := by
      intro v5
      refine wl3_ind (R := fun v6 v7 v8 G φ => J X Y 9 Q 56 [(0, .ref (AD Y v0)), (1, .int v1), (2, .int v2), (4, .int v4), (5, .int v5), (6, .int v6), (7, .int v7), (8, .int v8)] [] G φ) (fun _ _ _ G φ h => J_no h) ?_
      intro kc56 hk56 v6 v7 v8 G
      unfold lp_X6_beMixes_56
      refine J_iload 7 hX dX6_beMixes_56 rfl ?_
      refine J_if_lt (tgt := 93) hX dX6_beMixes_58 rfl ?_ ?_
      · refine J_sub (lv' := [(0, .ref (AD Y v0)), (1, .int v1), (2, .int v2), (4, .int v4), (5, .int v5), (7, .int v7)]) [0, 1, 2, 3, 4, 6] rfl ?_
        exact K93 v5 v7 G
      · refine J_iload_n 2 hX dX6_beMixes_61 fz2 rfl ?_
        refine J_if_le (tgt := 93) hX dX6_beMixes_62 rfl ?_ ?_
        · refine J_sub (lv' := [(0, .ref (AD Y v0)), (1, .int v1), (2, .int v2), (4, .int v4), (5, .int v5), (7, .int v7)]) [0, 1, 2, 3, 4, 6] rfl ?_
          exact K93 v5 v7 G
        · refine J_iload 6 hX dX6_beMixes_65 rfl ?_
          refine J_iload 7 hX dX6_beMixes_67 rfl ?_
          refine J_iload 5 hX dX6_beMixes_69 rfl ?_
          refine J_iload_n 2 hX dX6_beMixes_71 fz2 rfl ?_
          refine J_irem hX dX6_beMixes_72 ?_
          refine J_iconst hX dX6_beMixes_73 ci_1 ?_
          refine J_iadd hX dX6_beMixes_74 ?_
          refine J_callSI (As := [.int v8, .int ((v6 - v6 / v2 * v2) + (1 : Int32))]) (st := [.int v7]) hX ms_X6_35 rfl rfl (Nat.le_of_ble_eq_true rfl) (Nat.le_of_ble_eq_true rfl) (Nat.le_of_ble_eq_true rfl) dX6_beMixes_75 (fun r G1 h => ok_X6_packed  h) fun r75 G75 => ?_
          refine J_iadd hX dX6_beMixes_78 ?_
          refine J_lt (mk := Value.int) fun x79 => ?_
          refine J_istore (lv' := [(7, .int x79), (0, .ref (AD Y v0)), (1, .int v1), (2, .int v2), (4, .int v4), (5, .int v5), (6, .int v6), (8, .int v8)]) hX dX6_beMixes_79 (Nat.le_of_ble_eq_true rfl) rfl ?_
          refine J_iload 6 hX dX6_beMixes_81 rfl ?_
          refine J_iload_n 3 hX dX6_beMixes_83 fz2 rfl ?_
          refine J_idiv hX dX6_beMixes_84 ?_
          refine J_lt (mk := Value.int) fun x85 => ?_
          refine J_istore (lv' := [(6, .int x85), (7, .int x79), (0, .ref (AD Y v0)), (1, .int v1), (2, .int v2), (4, .int v4), (5, .int v5), (8, .int v8)]) hX dX6_beMixes_85 (Nat.le_of_ble_eq_true rfl) rfl ?_
          refine J_iinc (lv' := [(8, .int (v8 + (-1 : Int32))), (6, .int x85), (7, .int x79), (0, .ref (AD Y v0)), (1, .int v1), (2, .int v2), (4, .int v4), (5, .int v5)]) 7 hX dX6_beMixes_87 rfl cim_1 (Nat.le_of_ble_eq_true rfl) rfl ?_
          refine J_goto (tgt := 56) hX dX6_beMixes_90 rfl ?_
          refine J_sub (lv' := [(0, .ref (AD Y v0)), (1, .int v1), (2, .int v2), (4, .int v4), (5, .int v5), (6, .int x85), (7, .int x79), (8, .int (v8 + (-1 : Int32)))]) [3, 4, 5, 6, 7, 1, 2, 0] rfl ?_
          exact hk56 x85 x79 (v8 + (-1 : Int32)) G75
    refine J_iload 4 hX dX6_beMixes_37 rfl ?_
    refine J_iload 3 hX dX6_beMixes_39 rfl ?_
    refine J_icmp_ge (tgt := 105) hX dX6_beMixes_41 rfl ?_ ?_
    · exact J_retV hR dX6_beMixes_105
    · refine J_iload 4 hX dX6_beMixes_44 rfl ?_
      refine J_istore (lv' := [(6, .int v5), (0, .ref (AD Y v0)), (1, .int v1), (2, .int v2), (4, .int v4), (5, .int v5)]) hX dX6_beMixes_46 (Nat.le_of_ble_eq_true rfl) rfl ?_
      refine J_iconst hX dX6_beMixes_48 ci_0 ?_
      refine J_istore (lv' := [(7, .int (0 : Int32)), (6, .int v5), (0, .ref (AD Y v0)), (1, .int v1), (2, .int v2), (4, .int v4), (5, .int v5)]) hX dX6_beMixes_49 (Nat.le_of_ble_eq_true rfl) rfl ?_
      refine J_iload_n 3 hX dX6_beMixes_51 fz1 rfl ?_
      refine J_iconst hX dX6_beMixes_52 ci_1 ?_
      refine J_isub hX dX6_beMixes_53 ?_
      refine J_lt (mk := Value.int) fun x54 => ?_
      refine J_istore (lv' := [(8, .int x54), (7, .int (0 : Int32)), (6, .int v5), (0, .ref (AD Y v0)), (1, .int v1), (2, .int v2), (4, .int v4), (5, .int v5)]) hX dX6_beMixes_54 (Nat.le_of_ble_eq_true rfl) rfl ?_
      refine J_sub (lv' := [(0, .ref (AD Y v0)), (1, .int v1), (2, .int v2), (4, .int v4), (5, .int v5), (6, .int v5), (7, .int (0 : Int32)), (8, .int x54)]) [3, 4, 5, 6, 7, 2, 1, 0] rfl ?_
      exact K56 v5 FU v5 (0 : Int32) x54 G
  have K16 : ∀  (n : Nat) (v4 : Int32) (v5 : Int32) (G : GM), J X Y 9 Q 16 [(0, .ref (AD Y v0)), (1, .int v1), (2, .int v2), (4, .int v4), (5, .int v5)] [] G (wl2 n (lp_X6_beMixes_16 v0 v1 v2 v3) v4 v5 G = some G') := by
    refine wl2_ind (R := fun v4 v5 G φ => J X Y 9 Q 16 [(0, .ref (AD Y v0)), (1, .int v1), (2, .int v2), (4, .int v4), (5, .int v5)] [] G φ) (fun _ _ G φ h => J_no h) ?_
    intro kc16 hk16 v4 v5 G
    unfold lp_X6_beMixes_16
    refine J_iload 4 hX dX6_beMixes_16 rfl ?_
    refine J_iload_n 1 hX dX6_beMixes_18 fz1 rfl ?_
    refine J_icmp_ge (tgt := 34) hX dX6_beMixes_19 rfl ?_ ?_
    · refine J_iconst hX dX6_beMixes_34 ci_0 ?_
      refine J_istore (lv' := [(5, .int (0 : Int32)), (0, .ref (AD Y v0)), (1, .int v1), (2, .int v2), (4, .int v4)]) hX dX6_beMixes_35 (Nat.le_of_ble_eq_true rfl) rfl ?_
      refine J_sub (lv' := [(0, .ref (AD Y v0)), (1, .int v1), (2, .int v2), (4, .int v4), (5, .int (0 : Int32))]) [1, 2, 3, 4, 0] rfl ?_
      exact K37 v4 FU (0 : Int32) G
    · refine J_iload 3 hX dX6_beMixes_22 rfl ?_
      refine J_iload_n 2 hX dX6_beMixes_24 fz2 rfl ?_
      refine J_imul hX dX6_beMixes_25 ?_
      refine J_lt (mk := Value.int) fun x26 => ?_
      refine J_istore (lv' := [(4, .int x26), (0, .ref (AD Y v0)), (1, .int v1), (2, .int v2), (5, .int v5)]) hX dX6_beMixes_26 (Nat.le_of_ble_eq_true rfl) rfl ?_
      refine J_iinc (lv' := [(5, .int (v5 + (1 : Int32))), (4, .int x26), (0, .ref (AD Y v0)), (1, .int v1), (2, .int v2)]) 4 hX dX6_beMixes_28 rfl ci_1 (Nat.le_of_ble_eq_true rfl) rfl ?_
      refine J_goto (tgt := 16) hX dX6_beMixes_31 rfl ?_
      refine J_sub (lv' := [(0, .ref (AD Y v0)), (1, .int v1), (2, .int v2), (4, .int x26), (5, .int (v5 + (1 : Int32)))]) [2, 3, 4, 1, 0] rfl ?_
      exact hk16 x26 (v5 + (1 : Int32)) G
  unfold f_X6_beMixes
  refine J_aload_n 0 hX dX6_beMixes_0 fz0 rfl ?_
  refine J_iload_n 1 hX dX6_beMixes_1 fz1 rfl ?_
  refine J_iconst hX dX6_beMixes_2 ci_1 ?_
  refine J_iload_n 2 hX dX6_beMixes_3 fz2 rfl ?_
  refine J_iload_n 2 hX dX6_beMixes_4 fz2 rfl ?_
  refine J_iload_n 3 hX dX6_beMixes_5 fz3 rfl ?_
  refine J_imul hX dX6_beMixes_6 ?_
  refine J_callVV (As := [.int v1, .int (1 : Int32), .int v2, .int (v2 * v3)]) (st := []) (b := v0) hX mv_X6_31 h0 rfl rfl rfl (Nat.le_of_ble_eq_true rfl) (Nat.le_of_ble_eq_true rfl) (Nat.le_of_ble_eq_true rfl) dX6_beMixes_7 (fun G1 h => ok_X6_begin h0 h) fun G7 => ?_
  refine J_iconst hX dX6_beMixes_10 ci_1 ?_
  refine J_istore (lv' := [(4, .int (1 : Int32)), (0, .ref (AD Y v0)), (1, .int v1), (2, .int v2), (3, .int v3)]) hX dX6_beMixes_11 (Nat.le_of_ble_eq_true rfl) rfl ?_
  refine J_iconst hX dX6_beMixes_13 ci_0 ?_
  refine J_istore (lv' := [(5, .int (0 : Int32)), (4, .int (1 : Int32)), (0, .ref (AD Y v0)), (1, .int v1), (2, .int v2), (3, .int v3)]) hX dX6_beMixes_14 (Nat.le_of_ble_eq_true rfl) rfl ?_
  refine J_sub (lv' := [(0, .ref (AD Y v0)), (1, .int v1), (2, .int v2), (4, .int (1 : Int32)), (5, .int (0 : Int32))]) [2, 3, 4, 1, 0] rfl ?_
  exact K16  FU (1 : Int32) (0 : Int32) G7
set_option maxHeartbeats 4000000 in
set_option maxRecDepth 100000 in
theorem ok_X6_beSets {Y : DX} {v0 : Nat} {v1 : Int32} {v2 : Int32} (h0 : SHk v0 = 5) {G : GM} {G' : GM} (hf : f_X6_beSets v0 v1 v2 G = some G') : OkV Y 3 M_X6_beSets [.ref (AD Y v0), .int v1, .int v2] G G' := by
  refine okV_of (lv0 := [(0, .ref (AD Y v0)), (1, .int v1), (2, .int v2)]) (by decide +kernel) rfl (Nat.le_of_ble_eq_true rfl) ?_
  intro X Q hX hR
  have hX : CXok X Y RX6 cX6_beSets 6 _ := hX
  revert hf
  show J X Y 6 Q 0 [(0, .ref (AD Y v0)), (1, .int v1), (2, .int v2)] [] G (f_X6_beSets v0 v1 v2 G = some G')
  have K10 : ∀  (n : Nat) (v3 : Int32) (G : GM), J X Y 6 Q 10 [(0, .ref (AD Y v0)), (1, .int v1), (3, .int v3)] [] G (wl1 n (lp_X6_beSets_10 v0 v1 v2) v3 G = some G') := by
    refine wl1_ind (R := fun v3 G φ => J X Y 6 Q 10 [(0, .ref (AD Y v0)), (1, .int v1), (3, .int v3)] [] G φ) (fun _ G φ h => J_no h) ?_
    intro kc10 hk10 v3 G
    unfold lp_X6_beSets_10
    have K23 : ∀ (v3 : Int32) (n : Nat) (v4 : Int32) (v5 : Int32) (G : GM), J X Y 6 Q 23 [(0, .ref (AD Y v0)), (1, .int v1), (3, .int v3), (4, .int v4), (5, .int v5)] [] G (wl2 n (lp_X6_beSets_23 v0 v1 v2 v3 kc10) v4 v5 G = some G') := by
      intro v3
      refine wl2_ind (R := fun v4 v5 G φ => J X Y 6 Q 23 [(0, .ref (AD Y v0)), (1, .int v1), (3, .int v3), (4, .int v4), (5, .int v5)] [] G φ) (fun _ _ G φ h => J_no h) ?_
      intro kc23 hk23 v4 v5 G
      unfold lp_X6_beSets_23
      refine J_iload 4 hX dX6_beSets_23 rfl ?_
      refine J_iload_n 1 hX dX6_beSets_25 fz1 rfl ?_
      refine J_icmp_ge (tgt := 51) hX dX6_beSets_26 rfl ?_ ?_
      · refine J_aload_n 0 hX dX6_beSets_51 fz0 rfl ?_
        refine J_iload 3 hX dX6_beSets_52 rfl ?_
        refine J_callVV (As := [.int v4]) (st := []) (b := v0) hX mv_X6_39 h0 rfl rfl rfl (Nat.le_of_ble_eq_true rfl) (Nat.le_of_ble_eq_true rfl) (Nat.le_of_ble_eq_true rfl) dX6_beSets_54 (fun G1 h => ok_X6_addIfPart h0 h) fun G54 => ?_
        refine J_iinc (lv' := [(3, .int (v3 + (1 : Int32))), (0, .ref (AD Y v0)), (1, .int v1), (4, .int v4), (5, .int v5)]) 2 hX dX6_beSets_57 rfl ci_1 (Nat.le_of_ble_eq_true rfl) rfl ?_
        refine J_goto (tgt := 10) hX dX6_beSets_60 rfl ?_
        refine J_sub (lv' := [(0, .ref (AD Y v0)), (1, .int v1), (3, .int (v3 + (1 : Int32)))]) [1, 2, 0] rfl ?_
        exact hk10 (v3 + (1 : Int32)) G54
      · refine J_iload 3 hX dX6_beSets_29 rfl ?_
        refine J_iload 4 hX dX6_beSets_31 rfl ?_
        refine J_iload_n 2 hX dX6_beSets_33 fz3 rfl ?_
        refine J_iload 4 hX dX6_beSets_34 rfl ?_
        refine J_ishr hX dX6_beSets_36 ?_
        refine J_iconst hX dX6_beSets_37 ci_1 ?_
        refine J_iand hX dX6_beSets_38 ?_
        refine J_callSI (As := [.int v5, .int ((v3 >>> (v5 &&& 31)) &&& (1 : Int32))]) (st := [.int v4]) hX ms_X6_35 rfl rfl (Nat.le_of_ble_eq_true rfl) (Nat.le_of_ble_eq_true rfl) (Nat.le_of_ble_eq_true rfl) dX6_beSets_39 (fun r G1 h => ok_X6_packed  h) fun r39 G39 => ?_
        refine J_iadd hX dX6_beSets_42 ?_
        refine J_lt (mk := Value.int) fun x43 => ?_
        refine J_istore (lv' := [(4, .int x43), (0, .ref (AD Y v0)), (1, .int v1), (3, .int v3), (5, .int v5)]) hX dX6_beSets_43 (Nat.le_of_ble_eq_true rfl) rfl ?_
        refine J_iinc (lv' := [(5, .int (v5 + (1 : Int32))), (4, .int x43), (0, .ref (AD Y v0)), (1, .int v1), (3, .int v3)]) 4 hX dX6_beSets_45 rfl ci_1 (Nat.le_of_ble_eq_true rfl) rfl ?_
        refine J_goto (tgt := 23) hX dX6_beSets_48 rfl ?_
        refine J_sub (lv' := [(0, .ref (AD Y v0)), (1, .int v1), (3, .int v3), (4, .int x43), (5, .int (v5 + (1 : Int32)))]) [2, 3, 4, 1, 0] rfl ?_
        exact hk23 x43 (v5 + (1 : Int32)) G39
    refine J_iload_n 2 hX dX6_beSets_10 fz3 rfl ?_
    refine J_iconst hX dX6_beSets_11 ci_1 ?_
    refine J_iload_n 1 hX dX6_beSets_12 fz1 rfl ?_
    refine J_ishl hX dX6_beSets_13 ?_
    refine J_icmp_ge (tgt := 63) hX dX6_beSets_14 rfl ?_ ?_
    · exact J_retV hR dX6_beSets_63
    · refine J_iconst hX dX6_beSets_17 ci_0 ?_
      refine J_istore (lv' := [(4, .int (0 : Int32)), (0, .ref (AD Y v0)), (1, .int v1), (3, .int v3)]) hX dX6_beSets_18 (Nat.le_of_ble_eq_true rfl) rfl ?_
      refine J_iconst hX dX6_beSets_20 ci_0 ?_
      refine J_istore (lv' := [(5, .int (0 : Int32)), (4, .int (0 : Int32)), (0, .ref (AD Y v0)), (1, .int v1), (3, .int v3)]) hX dX6_beSets_21 (Nat.le_of_ble_eq_true rfl) rfl ?_
      refine J_sub (lv' := [(0, .ref (AD Y v0)), (1, .int v1), (3, .int v3), (4, .int (0 : Int32)), (5, .int (0 : Int32))]) [2, 3, 4, 1, 0] rfl ?_
      exact K23 v3 FU (0 : Int32) (0 : Int32) G
  unfold f_X6_beSets
  refine J_aload_n 0 hX dX6_beSets_0 fz0 rfl ?_
  refine J_iload_n 1 hX dX6_beSets_1 fz1 rfl ?_
  refine J_iconst hX dX6_beSets_2 ci_0 ?_
  refine J_iconst hX dX6_beSets_3 ci_1 ?_
  refine J_iload_n 2 hX dX6_beSets_4 fz2 rfl ?_
  refine J_callVV (As := [.int v1, .int (0 : Int32), .int (1 : Int32), .int v2]) (st := []) (b := v0) hX mv_X6_31 h0 rfl rfl rfl (Nat.le_of_ble_eq_true rfl) (Nat.le_of_ble_eq_true rfl) (Nat.le_of_ble_eq_true rfl) dX6_beSets_5 (fun G1 h => ok_X6_begin h0 h) fun G5 => ?_
  refine J_iconst hX dX6_beSets_8 ci_0 ?_
  refine J_istore_n (lv' := [(3, .int (0 : Int32)), (0, .ref (AD Y v0)), (1, .int v1), (2, .int v2)]) hX dX6_beSets_9 fz3 (Nat.le_of_ble_eq_true rfl) rfl ?_
  refine J_sub (lv' := [(0, .ref (AD Y v0)), (1, .int v1), (3, .int (0 : Int32))]) [1, 2, 0] rfl ?_
  exact K10  FU (0 : Int32) G5
set_option maxHeartbeats 4000000 in
set_option maxRecDepth 100000 in
theorem ok_X6_canTake {Y : DX} {v0 : Int32} {v1 : Int32}  {G : GM} {r : Int32} {G' : GM} (hf : f_X6_canTake v0 v1 G = some (r, G')) : OkI Y 1 M_X6_canTake [.int v0, .int v1] G r G' := by
  refine okZ_of (lv0 := [(0, .int v0), (1, .int v1)]) (by decide +kernel) rfl (Nat.le_of_ble_eq_true rfl) ?_
  intro X Q hX hR
  have hX : CXok X Y RX6 cX6_canTake 2 _ := hX
  revert hf
  show J X Y 2 Q 0 [(0, .int v0), (1, .int v1)] [] G (f_X6_canTake v0 v1 G = some (r, G'))
  unfold f_X6_canTake
  refine J_iload_n 0 hX dX6_canTake_0 fz0 rfl ?_
  refine J_ldc hX dX6_canTake_1 lc_X6_47 ?_
  refine J_ior hX dX6_canTake_3 ?_
  refine J_iload_n 1 hX dX6_canTake_4 fz1 rfl ?_
  refine J_isub hX dX6_canTake_5 ?_
  refine J_ldc hX dX6_canTake_6 lc_X6_47 ?_
  refine J_iand hX dX6_canTake_8 ?_
  refine J_ldc hX dX6_canTake_9 lc_X6_47 ?_
  refine J_icmp_ne (tgt := 18) hX dX6_canTake_11 rfl ?_ ?_
  · refine J_iconst hX dX6_canTake_18 ci_0 ?_
    exact J_retZ hR (by decide) dX6_canTake_19
  · refine J_iconst hX dX6_canTake_14 ci_1 ?_
    refine J_goto (tgt := 19) hX dX6_canTake_15 rfl ?_
    exact J_retZ hR (by decide) dX6_canTake_19
set_option maxHeartbeats 4000000 in
set_option maxRecDepth 100000 in
theorem ok_X6_waysOf {Y : DX} : ∀ (n : Nat) {v0 : Nat} {v1 : Int32} {v2 : Int32} (h0 : SHk v0 = 5) {G : GM} {r : Int32} {G' : GM} (hf : f_X6_waysOf n v0 v1 v2 G = some (r, G')), OkI Y (2 + n) M_X6_waysOf [.ref (AD Y v0), .int v1, .int v2] G r G' := by
  intro n
  induction n with
  | zero =>
    intros
    rename_i hf
    cases hf
  | succ n ih =>
    intro v0 v1 v2 h0 G r G' hf
    have hf : fb_X6_waysOf (f_X6_waysOf n) v0 v1 v2 G = some (r, G') := hf
    generalize f_X6_waysOf n = rec at ih hf
    refine okI_of (lv0 := [(0, .ref (AD Y v0)), (1, .int v1), (2, .int v2)]) (by decide +kernel) rfl (Nat.le_of_ble_eq_true rfl) ?_
    intro X Q hX hR
    have hX : CXok X Y RX6 cX6_waysOf 5 _ := hX
    revert hf
    show J X Y 5 Q 0 [(0, .ref (AD Y v0)), (1, .int v1), (2, .int v2)] [] G (fb_X6_waysOf rec v0 v1 v2 G = some (r, G'))
    have K48 : ∀  (n : Nat) (v3 : Int32) (v4 : Int32) (G : GM), J X Y 5 Q 48 [(0, .ref (AD Y v0)), (1, .int v1), (2, .int v2), (3, .int v3), (4, .int v4)] [] G (wl2 n (lp_X6_waysOf_48 rec v0 v1 v2) v3 v4 G = some (r, G')) := by
      refine wl2_ind (R := fun v3 v4 G φ => J X Y 5 Q 48 [(0, .ref (AD Y v0)), (1, .int v1), (2, .int v2), (3, .int v3), (4, .int v4)] [] G φ) (fun _ _ G φ h => J_no h) ?_
      intro kc48 hk48 v3 v4 G
      unfold lp_X6_waysOf_48
      refine J_iload 4 hX dX6_waysOf_48 rfl ?_
      refine J_aload_n 0 hX dX6_waysOf_50 fz0 rfl ?_
      refine J_getI hX dX6_waysOf_51 lf_X6_15 h0 rfl ?_
      refine J_icmp_ge (tgt := 96) hX dX6_waysOf_54 rfl ?_ ?_
      · refine J_iload_n 3 hX dX6_waysOf_96 fz3 rfl ?_
        exact J_retI hR dX6_waysOf_97
      · refine J_iload_n 2 hX dX6_waysOf_57 fz2 rfl ?_
        refine J_aload_n 0 hX dX6_waysOf_58 fz0 rfl ?_
        refine J_getR (b := (v0 + 1)) hX dX6_waysOf_59 lf_X6_11 h0 rfl (by decide) rfl ?_
        refine J_iload 4 hX dX6_waysOf_62 rfl ?_
        refine J_iald hX dX6_waysOf_64 (tp_5_0 h0) (tl_5_0 h0) ?_
        refine J_callSI (As := [.int v2, .int (gI G (v0 + 1) v4.toNatClampNeg)]) (st := []) hX ms_X6_48 rfl rfl (Nat.le_of_ble_eq_true rfl) (by omega) (Nat.le_of_ble_eq_true rfl) dX6_waysOf_65 (fun r G1 h => ok_X6_canTake  h) fun r65 G65 => ?_
        refine J_if_eq (tgt := 90) hX dX6_waysOf_68 rfl ?_ ?_
        · refine J_iinc (lv' := [(4, .int (v4 + (1 : Int32))), (0, .ref (AD Y v0)), (1, .int v1), (2, .int v2), (3, .int v3)]) 4 hX dX6_waysOf_90 rfl ci_1 (Nat.le_of_ble_eq_true rfl) rfl ?_
          refine J_goto (tgt := 48) hX dX6_waysOf_93 rfl ?_
          refine J_sub (lv' := [(0, .ref (AD Y v0)), (1, .int v1), (2, .int v2), (3, .int v3), (4, .int (v4 + (1 : Int32)))]) [1, 2, 3, 4, 0] rfl ?_
          exact hk48 v3 (v4 + (1 : Int32)) G65
        · refine J_iload_n 3 hX dX6_waysOf_71 fz3 rfl ?_
          refine J_aload_n 0 hX dX6_waysOf_72 fz0 rfl ?_
          refine J_iload_n 1 hX dX6_waysOf_73 fz1 rfl ?_
          refine J_iconst hX dX6_waysOf_74 ci_1 ?_
          refine J_isub hX dX6_waysOf_75 ?_
          refine J_iload_n 2 hX dX6_waysOf_76 fz2 rfl ?_
          refine J_aload_n 0 hX dX6_waysOf_77 fz0 rfl ?_
          refine J_getR (b := (v0 + 1)) hX dX6_waysOf_78 lf_X6_11 h0 rfl (by decide) rfl ?_
          refine J_iload 4 hX dX6_waysOf_81 rfl ?_
          refine J_iald hX dX6_waysOf_83 (tp_5_0 h0) (tl_5_0 h0) ?_
          refine J_isub hX dX6_waysOf_84 ?_
          refine J_callSI (As := [.ref (AD Y v0), .int (v1 - (1 : Int32)), .int (v2 - (gI G65 (v0 + 1) v4.toNatClampNeg))]) (st := [.int v3]) hX ms_X6_52 rfl rfl (Nat.le_of_ble_eq_true rfl) (by omega) (Nat.le_of_ble_eq_true rfl) dX6_waysOf_85 (fun r G1 h => ih h0 h) fun r85 G85 => ?_
          refine J_iadd hX dX6_waysOf_88 ?_
          refine J_lt (mk := Value.int) fun x89 => ?_
          refine J_istore_n (lv' := [(3, .int x89), (0, .ref (AD Y v0)), (1, .int v1), (2, .int v2), (4, .int v4)]) hX dX6_waysOf_89 fz3 (Nat.le_of_ble_eq_true rfl) rfl ?_
          refine J_iinc (lv' := [(4, .int (v4 + (1 : Int32))), (3, .int x89), (0, .ref (AD Y v0)), (1, .int v1), (2, .int v2)]) 4 hX dX6_waysOf_90 rfl ci_1 (Nat.le_of_ble_eq_true rfl) rfl ?_
          refine J_goto (tgt := 48) hX dX6_waysOf_93 rfl ?_
          refine J_sub (lv' := [(0, .ref (AD Y v0)), (1, .int v1), (2, .int v2), (3, .int x89), (4, .int (v4 + (1 : Int32)))]) [2, 3, 4, 1, 0] rfl ?_
          exact hk48 x89 (v4 + (1 : Int32)) G85
    have K10 : ∀ (G : GM), J X Y 5 Q 10 [(1, .int v1), (2, .int v2)] [] G (k_X6_waysOf_10 rec v0 v1 v2 G = some (r, G')) := by
      intro G
      unfold k_X6_waysOf_10
      refine J_iload_n 0 hX dX6_waysOf_10 fz1 rfl ?_
      refine J_if_ne (tgt := 22) hX dX6_waysOf_11 rfl ?_ ?_
      · refine J_iconst hX dX6_waysOf_22 ci_0 ?_
        exact J_retI hR dX6_waysOf_23
      · refine J_iload_n 1 hX dX6_waysOf_14 fz2 rfl ?_
        refine J_if_ne (tgt := 22) hX dX6_waysOf_15 rfl ?_ ?_
        · refine J_iconst hX dX6_waysOf_22 ci_0 ?_
          exact J_retI hR dX6_waysOf_23
        · refine J_iconst hX dX6_waysOf_18 ci_1 ?_
          refine J_goto (tgt := 23) hX dX6_waysOf_19 rfl ?_
          exact J_retI hR dX6_waysOf_23
    unfold fb_X6_waysOf
    refine J_iload_n 1 hX dX6_waysOf_0 fz1 rfl ?_
    refine J_iconst hX dX6_waysOf_1 ci_1 ?_
    refine J_icmp_lt (tgt := 10) hX dX6_waysOf_2 rfl ?_ ?_
    · refine J_sub (lv' := [(1, .int v1), (2, .int v2)]) [1, 2] rfl ?_
      exact K10 G
    · refine J_iload_n 1 hX dX6_waysOf_5 fz1 rfl ?_
      refine J_iconst hX dX6_waysOf_6 ci_3 ?_
      refine J_icmp_le (tgt := 24) hX dX6_waysOf_7 rfl ?_ ?_
      · refine J_iload_n 1 hX dX6_waysOf_24 fz1 rfl ?_
        refine J_iconst hX dX6_waysOf_25 ci_1 ?_
        refine J_icmp_ne (tgt := 43) hX dX6_waysOf_26 rfl ?_ ?_
        · refine J_iconst hX dX6_waysOf_43 ci_0 ?_
          refine J_istore_n (lv' := [(3, .int (0 : Int32)), (0, .ref (AD Y v0)), (1, .int v1), (2, .int v2)]) hX dX6_waysOf_44 fz3 (Nat.le_of_ble_eq_true rfl) rfl ?_
          refine J_iconst hX dX6_waysOf_45 ci_0 ?_
          refine J_istore (lv' := [(4, .int (0 : Int32)), (3, .int (0 : Int32)), (0, .ref (AD Y v0)), (1, .int v1), (2, .int v2)]) hX dX6_waysOf_46 (Nat.le_of_ble_eq_true rfl) rfl ?_
          refine J_sub (lv' := [(0, .ref (AD Y v0)), (1, .int v1), (2, .int v2), (3, .int (0 : Int32)), (4, .int (0 : Int32))]) [2, 3, 4, 1, 0] rfl ?_
          exact K48  FU (0 : Int32) (0 : Int32) G
        · refine J_aload_n 0 hX dX6_waysOf_29 fz0 rfl ?_
          refine J_iload_n 2 hX dX6_waysOf_30 fz2 rfl ?_
          refine J_callVI (As := [.int v2]) (st := []) (b := v0) hX mv_X6_43 h0 rfl rfl rfl (Nat.le_of_ble_eq_true rfl) (by omega) (Nat.le_of_ble_eq_true rfl) dX6_waysOf_31 (fun r G1 h => ok_X6_isPart h0 h) fun r31 G31 => ?_
          refine J_if_eq (tgt := 41) hX dX6_waysOf_34 rfl ?_ ?_
          · refine J_iconst hX dX6_waysOf_41 ci_0 ?_
            exact J_retI hR dX6_waysOf_42
          · refine J_iconst hX dX6_waysOf_37 ci_1 ?_
            refine J_goto (tgt := 42) hX dX6_waysOf_38 rfl ?_
            exact J_retI hR dX6_waysOf_42
      · refine J_sub (lv' := [(1, .int v1), (2, .int v2)]) [1, 2] rfl ?_
        exact K10 G
set_option maxHeartbeats 4000000 in
set_option maxRecDepth 100000 in
theorem ok_X4_settle {Y : DX} {v0 : Nat} (h0 : SHk v0 = 3) {G : GM} {G' : GM} (hf : f_X4_settle v0 G = some G') : OkV Y 7 M_X4_settle [.ref (AD Y v0)] G G' := by
  refine okV_of (lv0 := [(0, .ref (AD Y v0))]) (by decide +kernel) rfl (Nat.le_of_ble_eq_true rfl) ?_
  intro X Q hX hR
  have hX : CXok X Y RX4 cX4_settle 3 _ := hX
  revert hf
  show J X Y 3 Q 0 [(0, .ref (AD Y v0))] [] G (f_X4_settle v0 G = some G')
  have K113 : ∀  (n : Nat) (v1 : Int32) (G : GM), J X Y 3 Q 113 [(0, .ref (AD Y v0)), (1, .int v1)] [] G (wl1 n (lp_X4_settle_113 v0) v1 G = some G') := by
    refine wl1_ind (R := fun v1 G φ => J X Y 3 Q 113 [(0, .ref (AD Y v0)), (1, .int v1)] [] G φ) (fun _ G φ h => J_no h) ?_
    intro kc113 hk113 v1 G
    unfold lp_X4_settle_113
    have K181 : ∀ (v1 : Int32) (s0 : Int32) (s1 : Int32) (G : GM), J X Y 3 Q 181 [(0, .ref (AD Y v0)), (1, .int v1)] [.int s0, .int s1, .ref (AD Y (v0 + 5))] G (k_X4_settle_181 v0 v1 s0 s1 kc113 G = some G') := by
      intro v1 s0 s1 G
      unfold k_X4_settle_181
      refine J_iast hX dX4_settle_181 (tp_3_10 h0) (tl_3_10 h0) fun G181 => ?_
      refine J_aload_n 0 hX dX4_settle_182 fz0 rfl ?_
      refine J_dup hX dX4_settle_183 rfl ?_
      refine J_getI hX dX4_settle_184 lf_X4_37 h0 rfl ?_
      refine J_aload_n 0 hX dX4_settle_187 fz0 rfl ?_
      refine J_getR (b := (v0 + 5)) hX dX4_settle_188 lf_X4_47 h0 rfl (by decide) rfl ?_
      refine J_iload_n 1 hX dX4_settle_191 fz1 rfl ?_
      refine J_iald hX dX4_settle_192 (tp_3_10 h0) (tl_3_10 h0) ?_
      refine J_iadd hX dX4_settle_193 ?_
      refine J_putI hX dX4_settle_194 lf_X4_37 lpt_3_8 h0 rfl fun G194 => ?_
      refine J_iinc (lv' := [(1, .int (v1 + (1 : Int32))), (0, .ref (AD Y v0))]) 1 hX dX4_settle_197 rfl ci_1 (Nat.le_of_ble_eq_true rfl) rfl ?_
      refine J_goto (tgt := 113) hX dX4_settle_200 rfl ?_
      refine J_sub (lv' := [(0, .ref (AD Y v0)), (1, .int (v1 + (1 : Int32)))]) [1, 0] rfl ?_
      exact hk113 (v1 + (1 : Int32)) G194
    refine J_iload_n 1 hX dX4_settle_113 fz1 rfl ?_
    refine J_aload_n 0 hX dX4_settle_114 fz0 rfl ?_
    refine J_getR (b := (v0 + 3)) hX dX4_settle_115 lf_X4_43 h0 rfl (by decide) rfl ?_
    refine J_getI hX dX4_settle_118 lf_X4_74 (tp_3_9 h0) rfl ?_
    refine J_icmp_ge (tgt := 203) hX dX4_settle_121 rfl ?_ ?_
    · exact J_retV hR dX4_settle_203
    · refine J_aload_n 0 hX dX4_settle_124 fz0 rfl ?_
      refine J_getI hX dX4_settle_125 lf_X4_34 h0 rfl ?_
      refine J_aload_n 0 hX dX4_settle_128 fz0 rfl ?_
      refine J_getR (b := (v0 + 3)) hX dX4_settle_129 lf_X4_43 h0 rfl (by decide) rfl ?_
      refine J_getR (b := (v0 + 4)) hX dX4_settle_132 lf_X4_77 (tp_3_9 h0) rfl (by decide) rfl ?_
      refine J_iload_n 1 hX dX4_settle_135 fz1 rfl ?_
      refine J_iald hX dX4_settle_136 (tp_5_0 (tp_3_9 h0)) (tl_5_0 (tp_3_9 h0)) ?_
      refine J_isub hX dX4_settle_137 ?_
      refine J_lt (mk := Value.int) fun x138 => ?_
      refine J_istore_n (lv' := [(2, .int x138), (0, .ref (AD Y v0)), (1, .int v1)]) hX dX4_settle_138 fz2 (Nat.le_of_ble_eq_true rfl) rfl ?_
      refine J_aload_n 1 hX dX4_settle_139 fz0 rfl ?_
      refine J_getR (b := (v0 + 5)) hX dX4_settle_140 lf_X4_47 h0 rfl (by decide) rfl ?_
      refine J_iload_n 2 hX dX4_settle_143 fz1 rfl ?_
      refine J_aload_n 1 hX dX4_settle_144 fz0 rfl ?_
      refine J_getI hX dX4_settle_145 lf_X4_34 h0 rfl ?_
      refine J_aload_n 1 hX dX4_settle_148 fz0 rfl ?_
      refine J_getR (b := (v0 + 3)) hX dX4_settle_149 lf_X4_43 h0 rfl (by decide) rfl ?_
      refine J_getR (b := (v0 + 4)) hX dX4_settle_152 lf_X4_77 (tp_3_9 h0) rfl (by decide) rfl ?_
      refine J_iload_n 2 hX dX4_settle_155 fz1 rfl ?_
      refine J_iald hX dX4_settle_156 (tp_5_0 (tp_3_9 h0)) (tl_5_0 (tp_3_9 h0)) ?_
      refine J_callSI (As := [.int (gI G v0 7), .int (gI G (v0 + 4) v1.toNatClampNeg)]) (st := [.int v1, .ref (AD Y (v0 + 5))]) hX ms_X4_80 rfl rfl (Nat.le_of_ble_eq_true rfl) (Nat.le_of_ble_eq_true rfl) (Nat.le_of_ble_eq_true rfl) dX4_settle_157 (fun r G1 h => ok_X6_canTake  h) fun r157 G157 => ?_
      refine J_if_eq (tgt := 180) hX dX4_settle_160 rfl ?_ ?_
      · refine J_iconst hX dX4_settle_180 ci_0 ?_
        refine J_sub (lv' := [(0, .ref (AD Y v0)), (1, .int v1)]) [1, 2] rfl ?_
        exact K181 v1 (0 : Int32) v1 G157
      · refine J_aload_n 1 hX dX4_settle_163 fz0 rfl ?_
        refine J_getR (b := (v0 + 3)) hX dX4_settle_164 lf_X4_43 h0 rfl (by decide) rfl ?_
        refine J_aload_n 1 hX dX4_settle_167 fz0 rfl ?_
        refine J_getI hX dX4_settle_168 lf_X4_9 h0 rfl ?_
        refine J_iconst hX dX4_settle_171 ci_1 ?_
        refine J_isub hX dX4_settle_172 ?_
        refine J_iload_n 0 hX dX4_settle_173 fz2 rfl ?_
        refine J_callSI (As := [.ref (AD Y (v0 + 3)), .int ((gI G157 v0 0) - (1 : Int32)), .int x138]) (st := [.int v1, .ref (AD Y (v0 + 5))]) hX ms_X4_84 rfl rfl (Nat.le_of_ble_eq_true rfl) (Nat.le_of_ble_eq_true rfl) (Nat.le_of_ble_eq_true rfl) dX4_settle_174 (fun r G1 h => ok_X6_waysOf 4 (tp_3_9 h0) h) fun r174 G174 => ?_
        refine J_goto (tgt := 181) hX dX4_settle_177 rfl ?_
        refine J_sub (lv' := [(0, .ref (AD Y v0)), (1, .int v1)]) [1, 2] rfl ?_
        exact K181 v1 r174 v1 G174
  have K12 : ∀  (n : Nat) (v1 : Int32) (G : GM), J X Y 3 Q 12 [(0, .ref (AD Y v0)), (1, .int v1)] [] G (wl1 n (lp_X4_settle_12 v0) v1 G = some G') := by
    refine wl1_ind (R := fun v1 G φ => J X Y 3 Q 12 [(0, .ref (AD Y v0)), (1, .int v1)] [] G φ) (fun _ G φ h => J_no h) ?_
    intro kc12 hk12 v1 G
    unfold lp_X4_settle_12
    refine J_iload_n 1 hX dX4_settle_12 fz1 rfl ?_
    refine J_aload_n 0 hX dX4_settle_13 fz0 rfl ?_
    refine J_getI hX dX4_settle_14 lf_X4_21 h0 rfl ?_
    refine J_icmp_ge (tgt := 72) hX dX4_settle_17 rfl ?_ ?_
    · refine J_aload_n 0 hX dX4_settle_72 fz0 rfl ?_
      refine J_getR (b := (v0 + 3)) hX dX4_settle_73 lf_X4_43 h0 rfl (by decide) rfl ?_
      refine J_aload_n 0 hX dX4_settle_76 fz0 rfl ?_
      refine J_getI hX dX4_settle_77 lf_X4_21 h0 rfl ?_
      refine J_aload_n 0 hX dX4_settle_80 fz0 rfl ?_
      refine J_getI hX dX4_settle_81 lf_X4_15 h0 rfl ?_
      refine J_aload_n 0 hX dX4_settle_84 fz0 rfl ?_
      refine J_getI hX dX4_settle_85 lf_X4_18 h0 rfl ?_
      refine J_callVV (As := [.int (gI G v0 3), .int (gI G v0 1), .int (gI G v0 2)]) (st := []) (b := (v0 + 3)) hX mv_X4_66 (tp_3_9 h0) rfl rfl rfl (Nat.le_of_ble_eq_true rfl) (Nat.le_of_ble_eq_true rfl) (Nat.le_of_ble_eq_true rfl) dX4_settle_88 (fun G1 h => ok_X6_beMixes (tp_3_9 h0) h) fun G88 => ?_
      refine J_aload_n 0 hX dX4_settle_91 fz0 rfl ?_
      refine J_getR (b := (v0 + 6)) hX dX4_settle_92 lf_X4_50 h0 rfl (by decide) rfl ?_
      refine J_aload_n 0 hX dX4_settle_95 fz0 rfl ?_
      refine J_getI hX dX4_settle_96 lf_X4_21 h0 rfl ?_
      refine J_aload_n 0 hX dX4_settle_99 fz0 rfl ?_
      refine J_getI hX dX4_settle_100 lf_X4_18 h0 rfl ?_
      refine J_callVV (As := [.int (gI G88 v0 3), .int (gI G88 v0 2)]) (st := []) (b := (v0 + 6)) hX mv_X4_70 (tp_3_11 h0) rfl rfl rfl (Nat.le_of_ble_eq_true rfl) (Nat.le_of_ble_eq_true rfl) (Nat.le_of_ble_eq_true rfl) dX4_settle_103 (fun G1 h => ok_X6_beSets (tp_3_11 h0) h) fun G103 => ?_
      refine J_aload_n 0 hX dX4_settle_106 fz0 rfl ?_
      refine J_iconst hX dX4_settle_107 ci_0 ?_
      refine J_putI hX dX4_settle_108 lf_X4_37 lpt_3_8 h0 rfl fun G108 => ?_
      refine J_iconst hX dX4_settle_111 ci_0 ?_
      refine J_istore_n (lv' := [(1, .int (0 : Int32)), (0, .ref (AD Y v0))]) hX dX4_settle_112 fz1 (Nat.le_of_ble_eq_true rfl) rfl ?_
      refine J_sub (lv' := [(0, .ref (AD Y v0)), (1, .int (0 : Int32))]) [1, 0] rfl ?_
      exact K113  FU (0 : Int32) G108
    · refine J_aload_n 0 hX dX4_settle_20 fz0 rfl ?_
      refine J_getR (b := (v0 + 2)) hX dX4_settle_21 lf_X4_28 h0 rfl (by decide) rfl ?_
      refine J_iload_n 1 hX dX4_settle_24 fz1 rfl ?_
      refine J_aload_n 0 hX dX4_settle_25 fz0 rfl ?_
      refine J_getI hX dX4_settle_26 lf_X4_31 h0 rfl ?_
      refine J_iconst hX dX4_settle_29 ci_1 ?_
      refine J_iadd hX dX4_settle_30 ?_
      refine J_iast hX dX4_settle_31 (tp_3_5 h0) (tl_3_5 h0) fun G31 => ?_
      refine J_aload_n 0 hX dX4_settle_32 fz0 rfl ?_
      refine J_dup hX dX4_settle_33 rfl ?_
      refine J_getI hX dX4_settle_34 lf_X4_31 h0 rfl ?_
      refine J_aload_n 0 hX dX4_settle_37 fz0 rfl ?_
      refine J_getR (b := (v0 + 1)) hX dX4_settle_38 lf_X4_24 h0 rfl (by decide) rfl ?_
      refine J_iload_n 1 hX dX4_settle_41 fz1 rfl ?_
      refine J_iald hX dX4_settle_42 (tp_3_4 h0) (tl_3_4 h0) ?_
      refine J_iadd hX dX4_settle_43 ?_
      refine J_putI hX dX4_settle_44 lf_X4_31 lpt_3_6 h0 rfl fun G44 => ?_
      refine J_aload_n 0 hX dX4_settle_47 fz0 rfl ?_
      refine J_dup hX dX4_settle_48 rfl ?_
      refine J_getI hX dX4_settle_49 lf_X4_34 h0 rfl ?_
      refine J_iload_n 1 hX dX4_settle_52 fz1 rfl ?_
      refine J_aload_n 0 hX dX4_settle_53 fz0 rfl ?_
      refine J_getR (b := (v0 + 1)) hX dX4_settle_54 lf_X4_24 h0 rfl (by decide) rfl ?_
      refine J_iload_n 1 hX dX4_settle_57 fz1 rfl ?_
      refine J_iald hX dX4_settle_58 (tp_3_4 h0) (tl_3_4 h0) ?_
      refine J_callSI (As := [.int v1, .int (gI G44 (v0 + 1) v1.toNatClampNeg)]) (st := [.int (gI G44 v0 7), .ref (AD Y v0)]) hX ms_X4_62 rfl rfl (Nat.le_of_ble_eq_true rfl) (Nat.le_of_ble_eq_true rfl) (Nat.le_of_ble_eq_true rfl) dX4_settle_59 (fun r G1 h => ok_X6_packed  h) fun r59 G59 => ?_
      refine J_iadd hX dX4_settle_62 ?_
      refine J_putI hX dX4_settle_63 lf_X4_34 lpt_3_7 h0 rfl fun G63 => ?_
      refine J_iinc (lv' := [(1, .int (v1 + (1 : Int32))), (0, .ref (AD Y v0))]) 1 hX dX4_settle_66 rfl ci_1 (Nat.le_of_ble_eq_true rfl) rfl ?_
      refine J_goto (tgt := 12) hX dX4_settle_69 rfl ?_
      refine J_sub (lv' := [(0, .ref (AD Y v0)), (1, .int (v1 + (1 : Int32)))]) [1, 0] rfl ?_
      exact hk12 (v1 + (1 : Int32)) G63
  unfold f_X4_settle
  refine J_aload_n 0 hX dX4_settle_0 fz0 rfl ?_
  refine J_iconst hX dX4_settle_1 ci_0 ?_
  refine J_putI hX dX4_settle_2 lf_X4_31 lpt_3_6 h0 rfl fun G2 => ?_
  refine J_aload_n 0 hX dX4_settle_5 fz0 rfl ?_
  refine J_iconst hX dX4_settle_6 ci_0 ?_
  refine J_putI hX dX4_settle_7 lf_X4_34 lpt_3_7 h0 rfl fun G7 => ?_
  refine J_iconst hX dX4_settle_10 ci_0 ?_
  refine J_istore_n (lv' := [(1, .int (0 : Int32)), (0, .ref (AD Y v0))]) hX dX4_settle_11 fz1 (Nat.le_of_ble_eq_true rfl) rfl ?_
  refine J_sub (lv' := [(0, .ref (AD Y v0)), (1, .int (0 : Int32))]) [1, 0] rfl ?_
  exact K12  FU (0 : Int32) G7
set_option maxHeartbeats 4000000 in
set_option maxRecDepth 100000 in
theorem ok_X4_clear {Y : DX} {v0 : Nat} (h0 : SHk v0 = 3) {G : GM} {G' : GM} (hf : f_X4_clear v0 G = some G') : OkV Y 8 M_X4_clear [.ref (AD Y v0)] G G' := by
  refine okV_of (lv0 := [(0, .ref (AD Y v0))]) (by decide +kernel) rfl (Nat.le_of_ble_eq_true rfl) ?_
  intro X Q hX hR
  have hX : CXok X Y RX4 cX4_clear 1 _ := hX
  revert hf
  show J X Y 1 Q 0 [(0, .ref (AD Y v0))] [] G (f_X4_clear v0 G = some G')
  unfold f_X4_clear
  refine J_aload_n 0 hX dX4_clear_0 fz0 rfl ?_
  refine J_iconst hX dX4_clear_1 ci_0 ?_
  refine J_putI hX dX4_clear_2 lf_X4_9 lpt_3_0 h0 rfl fun G2 => ?_
  refine J_aload_n 0 hX dX4_clear_5 fz0 rfl ?_
  refine J_iconst hX dX4_clear_6 ci_0 ?_
  refine J_putI hX dX4_clear_7 lf_X4_15 lpt_3_1 h0 rfl fun G7 => ?_
  refine J_aload_n 0 hX dX4_clear_10 fz0 rfl ?_
  refine J_iconst hX dX4_clear_11 ci_0 ?_
  refine J_putI hX dX4_clear_12 lf_X4_18 lpt_3_2 h0 rfl fun G12 => ?_
  refine J_aload_n 0 hX dX4_clear_15 fz0 rfl ?_
  refine J_iconst hX dX4_clear_16 ci_0 ?_
  refine J_putI hX dX4_clear_17 lf_X4_21 lpt_3_3 h0 rfl fun G17 => ?_
  refine J_aload_n 0 hX dX4_clear_20 fz0 rfl ?_
  refine J_callVV (As := []) (st := []) (b := v0) hX mv_X4_53 h0 rfl rfl rfl (Nat.le_of_ble_eq_true rfl) (Nat.le_of_ble_eq_true rfl) (Nat.le_of_ble_eq_true rfl) dX4_clear_21 (fun G1 h => ok_X4_settle h0 h) fun G21 => ?_
  exact J_retV hR dX4_clear_24
set_option maxHeartbeats 4000000 in
set_option maxRecDepth 100000 in
theorem ok_X5_clear {Y : DX} {v0 : Nat} (h0 : SHk v0 = 4) {G : GM} {G' : GM} (hf : f_X5_clear v0 G = some G') : OkV Y 9 M_X5_clear [.ref (AD Y v0)] G G' := by
  refine okV_of (lv0 := [(0, .ref (AD Y v0))]) (by decide +kernel) rfl (Nat.le_of_ble_eq_true rfl) ?_
  intro X Q hX hR
  have hX : CXok X Y RX5 cX5_clear 1 _ := hX
  revert hf
  show J X Y 1 Q 0 [(0, .ref (AD Y v0))] [] G (f_X5_clear v0 G = some G')
  unfold f_X5_clear
  refine J_aload_n 0 hX dX5_clear_0 fz0 rfl ?_
  refine J_getR (b := (v0 + 1)) hX dX5_clear_1 lf_X5_12 h0 rfl (by decide) rfl ?_
  refine J_callVV (As := []) (st := []) (b := (v0 + 1)) hX mv_X5_49 (tp_4_0 h0) rfl rfl rfl (Nat.le_of_ble_eq_true rfl) (Nat.le_of_ble_eq_true rfl) (Nat.le_of_ble_eq_true rfl) dX5_clear_4 (fun G1 h => ok_X4_clear (tp_4_0 h0) h) fun G4 => ?_
  refine J_aload_n 0 hX dX5_clear_7 fz0 rfl ?_
  refine J_iconst hX dX5_clear_8 ci_0 ?_
  refine J_putI hX dX5_clear_9 lf_X5_18 lpt_4_1 h0 rfl fun G9 => ?_
  refine J_aload_n 0 hX dX5_clear_12 fz0 rfl ?_
  refine J_getR (b := (v0 + 9)) hX dX5_clear_13 lf_X5_22 h0 rfl (by decide) rfl ?_
  refine J_iconst hX dX5_clear_16 ci_0 ?_
  refine J_callSV (As := [.ref (AD Y (v0 + 9)), .int (0 : Int32)]) (st := []) hX ms_X5_52 rfl rfl (Nat.le_of_ble_eq_true rfl) (Nat.le_of_ble_eq_true rfl) (Nat.le_of_ble_eq_true rfl) dX5_clear_17 (fun G1 h => ok_J7_fill_53178 (tp_4_2 h0) h) fun G17 => ?_
  refine J_aload_n 0 hX dX5_clear_20 fz0 rfl ?_
  refine J_iconst hX dX5_clear_21 ci_0 ?_
  refine J_putI hX dX5_clear_22 lf_X5_26 lpt_4_3 h0 rfl fun G22 => ?_
  refine J_aload_n 0 hX dX5_clear_25 fz0 rfl ?_
  refine J_iconst hX dX5_clear_26 ci_0 ?_
  refine J_putI hX dX5_clear_27 lf_X5_29 lpt_4_4 h0 rfl fun G27 => ?_
  refine J_aload_n 0 hX dX5_clear_30 fz0 rfl ?_
  refine J_iconst hX dX5_clear_31 ci_0 ?_
  refine J_putI hX dX5_clear_32 lf_X5_32 lpt_4_5 h0 rfl fun G32 => ?_
  exact J_retV hR dX5_clear_35
set_option maxHeartbeats 4000000 in
set_option maxRecDepth 100000 in
theorem ok_X7_byteAt {Y : DX} {v1 : Int32}  {G : GM} {r : Int32} {G' : GM} (hf : f_X7_byteAt v1 G = some (r, G')) : OkI Y 1 M_X7_byteAt [.ref (AD Y 53), .int v1] G r G' := by
  refine okI_of (lv0 := [(0, .ref (AD Y 53)), (1, .int v1)]) (by decide +kernel) rfl (Nat.le_of_ble_eq_true rfl) ?_
  intro X Q hX hR
  have hX : CXok X Y RX7 cX7_byteAt 2 _ := hX
  revert hf
  show J X Y 2 Q 0 [(0, .ref (AD Y 53)), (1, .int v1)] [] G (f_X7_byteAt v1 G = some (r, G'))
  unfold f_X7_byteAt
  refine J_iload_n 1 hX dX7_byteAt_0 fz1 rfl ?_
  refine J_if_lt (tgt := 12) hX dX7_byteAt_1 rfl ?_ ?_
  · refine J_iconst hX dX7_byteAt_12 cim_1 ?_
    refine J_goto (tgt := 26) hX dX7_byteAt_13 rfl ?_
    exact J_retI hR dX7_byteAt_26
  · refine J_iload_n 1 hX dX7_byteAt_4 fz1 rfl ?_
    refine J_aload_n 0 hX dX7_byteAt_5 fz0 rfl ?_
    refine J_getI hX dX7_byteAt_6 lf_X7_15 sk_53 rfl ?_
    refine J_icmp_lt (tgt := 16) hX dX7_byteAt_9 rfl ?_ ?_
    · refine J_aload_n 0 hX dX7_byteAt_16 fz0 rfl ?_
      refine J_getR (b := 54) hX dX7_byteAt_17 lf_X7_9 sk_53 rfl (by decide) rfl ?_
      refine J_iload_n 1 hX dX7_byteAt_20 fz1 rfl ?_
      refine J_bald hX dX7_byteAt_21 sk_54 ln_54 ?_
      refine J_sipush hX dX7_byteAt_22 cs_255 ?_
      refine J_iand hX dX7_byteAt_25 ?_
      exact J_retI hR dX7_byteAt_26
    · refine J_iconst hX dX7_byteAt_12 cim_1 ?_
      refine J_goto (tgt := 26) hX dX7_byteAt_13 rfl ?_
      exact J_retI hR dX7_byteAt_26
set_option maxHeartbeats 4000000 in
set_option maxRecDepth 100000 in
theorem ok_X7_isBlank {Y : DX} {v0 : Int32}  {G : GM} {r : Int32} {G' : GM} (hf : f_X7_isBlank v0 G = some (r, G')) : OkI Y 1 M_X7_isBlank [.int v0] G r G' := by
  refine okZ_of (lv0 := [(0, .int v0)]) (by decide +kernel) rfl (Nat.le_of_ble_eq_true rfl) ?_
  intro X Q hX hR
  have hX : CXok X Y RX7 cX7_isBlank 1 _ := hX
  revert hf
  show J X Y 1 Q 0 [(0, .int v0)] [] G (f_X7_isBlank v0 G = some (r, G'))
  unfold f_X7_isBlank
  refine J_iload_n 0 hX dX7_isBlank_0 fz0 rfl ?_
  refine J_bipush hX dX7_isBlank_1 cb_32 ?_
  refine J_icmp_eq (tgt := 12) hX dX7_isBlank_3 rfl ?_ ?_
  · refine J_iconst hX dX7_isBlank_12 ci_1 ?_
    refine J_goto (tgt := 17) hX dX7_isBlank_13 rfl ?_
    exact J_retZ hR (by decide) dX7_isBlank_17
  · refine J_iload_n 0 hX dX7_isBlank_6 fz0 rfl ?_
    refine J_bipush hX dX7_isBlank_7 cb_10 ?_
    refine J_icmp_ne (tgt := 16) hX dX7_isBlank_9 rfl ?_ ?_
    · refine J_iconst hX dX7_isBlank_16 ci_0 ?_
      exact J_retZ hR (by decide) dX7_isBlank_17
    · refine J_iconst hX dX7_isBlank_12 ci_1 ?_
      refine J_goto (tgt := 17) hX dX7_isBlank_13 rfl ?_
      exact J_retZ hR (by decide) dX7_isBlank_17
set_option maxHeartbeats 4000000 in
set_option maxRecDepth 100000 in
theorem ok_X7_isDigit {Y : DX} {v0 : Int32}  {G : GM} {r : Int32} {G' : GM} (hf : f_X7_isDigit v0 G = some (r, G')) : OkI Y 1 M_X7_isDigit [.int v0] G r G' := by
  refine okZ_of (lv0 := [(0, .int v0)]) (by decide +kernel) rfl (Nat.le_of_ble_eq_true rfl) ?_
  intro X Q hX hR
  have hX : CXok X Y RX7 cX7_isDigit 1 _ := hX
  revert hf
  show J X Y 1 Q 0 [(0, .int v0)] [] G (f_X7_isDigit v0 G = some (r, G'))
  unfold f_X7_isDigit
  refine J_iload_n 0 hX dX7_isDigit_0 fz0 rfl ?_
  refine J_bipush hX dX7_isDigit_1 cb_48 ?_
  refine J_icmp_lt (tgt := 16) hX dX7_isDigit_3 rfl ?_ ?_
  · refine J_iconst hX dX7_isDigit_16 ci_0 ?_
    exact J_retZ hR (by decide) dX7_isDigit_17
  · refine J_iload_n 0 hX dX7_isDigit_6 fz0 rfl ?_
    refine J_bipush hX dX7_isDigit_7 cb_57 ?_
    refine J_icmp_gt (tgt := 16) hX dX7_isDigit_9 rfl ?_ ?_
    · refine J_iconst hX dX7_isDigit_16 ci_0 ?_
      exact J_retZ hR (by decide) dX7_isDigit_17
    · refine J_iconst hX dX7_isDigit_12 ci_1 ?_
      refine J_goto (tgt := 17) hX dX7_isDigit_13 rfl ?_
      exact J_retZ hR (by decide) dX7_isDigit_17
set_option maxHeartbeats 4000000 in
set_option maxRecDepth 100000 in
theorem ok_X7_isLetter {Y : DX} {v0 : Int32}  {G : GM} {r : Int32} {G' : GM} (hf : f_X7_isLetter v0 G = some (r, G')) : OkI Y 1 M_X7_isLetter [.int v0] G r G' := by
  refine okZ_of (lv0 := [(0, .int v0)]) (by decide +kernel) rfl (Nat.le_of_ble_eq_true rfl) ?_
  intro X Q hX hR
  have hX : CXok X Y RX7 cX7_isLetter 1 _ := hX
  revert hf
  show J X Y 1 Q 0 [(0, .int v0)] [] G (f_X7_isLetter v0 G = some (r, G'))
  unfold f_X7_isLetter
  refine J_iload_n 0 hX dX7_isLetter_0 fz0 rfl ?_
  refine J_bipush hX dX7_isLetter_1 cb_97 ?_
  refine J_icmp_lt (tgt := 16) hX dX7_isLetter_3 rfl ?_ ?_
  · refine J_iconst hX dX7_isLetter_16 ci_0 ?_
    exact J_retZ hR (by decide) dX7_isLetter_17
  · refine J_iload_n 0 hX dX7_isLetter_6 fz0 rfl ?_
    refine J_bipush hX dX7_isLetter_7 cb_122 ?_
    refine J_icmp_gt (tgt := 16) hX dX7_isLetter_9 rfl ?_ ?_
    · refine J_iconst hX dX7_isLetter_16 ci_0 ?_
      exact J_retZ hR (by decide) dX7_isLetter_17
    · refine J_iconst hX dX7_isLetter_12 ci_1 ?_
      refine J_goto (tgt := 17) hX dX7_isLetter_13 rfl ?_
      exact J_retZ hR (by decide) dX7_isLetter_17
set_option maxHeartbeats 4000000 in
set_option maxRecDepth 100000 in
theorem ok_X7_takeToken {Y : DX}   {G : GM} {G' : GM} (hf : f_X7_takeToken  G = some G') : OkV Y 2 M_X7_takeToken [.ref (AD Y 53)] G G' := by
  refine okV_of (lv0 := [(0, .ref (AD Y 53))]) (by decide +kernel) rfl (Nat.le_of_ble_eq_true rfl) ?_
  intro X Q hX hR
  have hX : CXok X Y RX7 cX7_takeToken 2 _ := hX
  revert hf
  show J X Y 2 Q 0 [(0, .ref (AD Y 53))] [] G (f_X7_takeToken  G = some G')
  have K213 : ∀ (s0 : Int32) (G : GM), J X Y 2 Q 213 [(0, .ref (AD Y 53))] [.int s0, .ref (AD Y 53)] G (k_X7_takeToken_213 s0 G = some G') := by
    intro s0 G
    unfold k_X7_takeToken_213
    refine J_putI hX dX7_takeToken_213 lf_X7_33 lpt_6_5 sk_53 rfl fun G213 => ?_
    refine J_aload_n 0 hX dX7_takeToken_216 fz0 rfl ?_
    refine J_dup hX dX7_takeToken_217 rfl ?_
    refine J_getI hX dX7_takeToken_218 lf_X7_30 sk_53 rfl ?_
    refine J_iconst hX dX7_takeToken_221 ci_1 ?_
    refine J_iadd hX dX7_takeToken_222 ?_
    refine J_putI hX dX7_takeToken_223 lf_X7_30 lpt_6_4 sk_53 rfl fun G223 => ?_
    exact J_retV hR dX7_takeToken_226
  have K135 : ∀  (n : Nat)  (G : GM), J X Y 2 Q 135 [(0, .ref (AD Y 53))] [] G (wl0 n (lp_X7_takeToken_135 )  G = some G') := by
    refine wl0_ind (R := fun  G φ => J X Y 2 Q 135 [(0, .ref (AD Y 53))] [] G φ) (fun  G φ h => J_no h) ?_
    intro kc135 hk135  G
    unfold lp_X7_takeToken_135
    refine J_aload_n 0 hX dX7_takeToken_135 fz0 rfl ?_
    refine J_getI hX dX7_takeToken_136 lf_X7_30 sk_53 rfl ?_
    refine J_aload_n 0 hX dX7_takeToken_139 fz0 rfl ?_
    refine J_getI hX dX7_takeToken_140 lf_X7_15 sk_53 rfl ?_
    refine J_icmp_ge (tgt := 226) hX dX7_takeToken_143 rfl ?_ ?_
    · exact J_retV hR dX7_takeToken_226
    · refine J_aload_n 0 hX dX7_takeToken_146 fz0 rfl ?_
      refine J_aload_n 0 hX dX7_takeToken_147 fz0 rfl ?_
      refine J_getI hX dX7_takeToken_148 lf_X7_30 sk_53 rfl ?_
      refine J_callVI (As := [.int (gI G 53 4)]) (st := []) (b := 53) hX mv_X7_185 sk_53 rfl rfl rfl (Nat.le_of_ble_eq_true rfl) (Nat.le_of_ble_eq_true rfl) (Nat.le_of_ble_eq_true rfl) dX7_takeToken_151 (fun r G1 h => ok_X7_byteAt  h) fun r151 G151 => ?_
      refine J_callSI (As := [.int r151]) (st := []) hX ms_X7_200 rfl rfl (Nat.le_of_ble_eq_true rfl) (Nat.le_of_ble_eq_true rfl) (Nat.le_of_ble_eq_true rfl) dX7_takeToken_154 (fun r G1 h => ok_X7_isDigit  h) fun r154 G154 => ?_
      refine J_if_eq (tgt := 226) hX dX7_takeToken_157 rfl ?_ ?_
      · exact J_retV hR dX7_takeToken_226
      · refine J_aload_n 0 hX dX7_takeToken_160 fz0 rfl ?_
        refine J_bipush hX dX7_takeToken_161 cb_10 ?_
        refine J_aload_n 0 hX dX7_takeToken_163 fz0 rfl ?_
        refine J_getI hX dX7_takeToken_164 lf_X7_39 sk_53 rfl ?_
        refine J_imul hX dX7_takeToken_167 ?_
        refine J_aload_n 0 hX dX7_takeToken_168 fz0 rfl ?_
        refine J_aload_n 0 hX dX7_takeToken_169 fz0 rfl ?_
        refine J_getI hX dX7_takeToken_170 lf_X7_30 sk_53 rfl ?_
        refine J_callVI (As := [.int (gI G154 53 4)]) (st := [.int ((10 : Int32) * (gI G154 53 7)), .ref (AD Y 53)]) (b := 53) hX mv_X7_185 sk_53 rfl rfl rfl (Nat.le_of_ble_eq_true rfl) (Nat.le_of_ble_eq_true rfl) (Nat.le_of_ble_eq_true rfl) dX7_takeToken_173 (fun r G1 h => ok_X7_byteAt  h) fun r173 G173 => ?_
        refine J_iadd hX dX7_takeToken_176 ?_
        refine J_bipush hX dX7_takeToken_177 cb_48 ?_
        refine J_isub hX dX7_takeToken_179 ?_
        refine J_ldc hX dX7_takeToken_180 lc_X7_203 ?_
        refine J_mmin hX dX7_takeToken_182 lm_X7_204 (Nat.le_of_ble_eq_true rfl) (Nat.le_of_ble_eq_true rfl) ?_
        refine J_putI hX dX7_takeToken_185 lf_X7_39 lpt_6_7 sk_53 rfl fun G185 => ?_
        refine J_aload_n 0 hX dX7_takeToken_188 fz0 rfl ?_
        refine J_dup hX dX7_takeToken_189 rfl ?_
        refine J_getI hX dX7_takeToken_190 lf_X7_30 sk_53 rfl ?_
        refine J_iconst hX dX7_takeToken_193 ci_1 ?_
        refine J_iadd hX dX7_takeToken_194 ?_
        refine J_putI hX dX7_takeToken_195 lf_X7_30 lpt_6_4 sk_53 rfl fun G195 => ?_
        refine J_goto (tgt := 135) hX dX7_takeToken_198 rfl ?_
        exact hk135  G195
  have K85 : ∀  (n : Nat)  (G : GM), J X Y 2 Q 85 [(0, .ref (AD Y 53))] [] G (wl0 n (lp_X7_takeToken_85 )  G = some G') := by
    refine wl0_ind (R := fun  G φ => J X Y 2 Q 85 [(0, .ref (AD Y 53))] [] G φ) (fun  G φ h => J_no h) ?_
    intro kc85 hk85  G
    unfold lp_X7_takeToken_85
    refine J_aload_n 0 hX dX7_takeToken_85 fz0 rfl ?_
    refine J_getI hX dX7_takeToken_86 lf_X7_30 sk_53 rfl ?_
    refine J_aload_n 0 hX dX7_takeToken_89 fz0 rfl ?_
    refine J_getI hX dX7_takeToken_90 lf_X7_15 sk_53 rfl ?_
    refine J_icmp_ge (tgt := 226) hX dX7_takeToken_93 rfl ?_ ?_
    · exact J_retV hR dX7_takeToken_226
    · refine J_aload_n 0 hX dX7_takeToken_96 fz0 rfl ?_
      refine J_aload_n 0 hX dX7_takeToken_97 fz0 rfl ?_
      refine J_getI hX dX7_takeToken_98 lf_X7_30 sk_53 rfl ?_
      refine J_callVI (As := [.int (gI G 53 4)]) (st := []) (b := 53) hX mv_X7_185 sk_53 rfl rfl rfl (Nat.le_of_ble_eq_true rfl) (Nat.le_of_ble_eq_true rfl) (Nat.le_of_ble_eq_true rfl) dX7_takeToken_101 (fun r G1 h => ok_X7_byteAt  h) fun r101 G101 => ?_
      refine J_callSI (As := [.int r101]) (st := []) hX ms_X7_197 rfl rfl (Nat.le_of_ble_eq_true rfl) (Nat.le_of_ble_eq_true rfl) (Nat.le_of_ble_eq_true rfl) dX7_takeToken_104 (fun r G1 h => ok_X7_isLetter  h) fun r104 G104 => ?_
      refine J_if_eq (tgt := 226) hX dX7_takeToken_107 rfl ?_ ?_
      · exact J_retV hR dX7_takeToken_226
      · refine J_aload_n 0 hX dX7_takeToken_110 fz0 rfl ?_
        refine J_dup hX dX7_takeToken_111 rfl ?_
        refine J_getI hX dX7_takeToken_112 lf_X7_30 sk_53 rfl ?_
        refine J_iconst hX dX7_takeToken_115 ci_1 ?_
        refine J_iadd hX dX7_takeToken_116 ?_
        refine J_putI hX dX7_takeToken_117 lf_X7_30 lpt_6_4 sk_53 rfl fun G117 => ?_
        refine J_goto (tgt := 85) hX dX7_takeToken_120 rfl ?_
        exact hk85  G117
  have K38 : ∀ (G : GM), J X Y 2 Q 38 [(0, .ref (AD Y 53))] [] G (k_X7_takeToken_38  G = some G') := by
    intro G
    unfold k_X7_takeToken_38
    refine J_aload_n 0 hX dX7_takeToken_38 fz0 rfl ?_
    refine J_aload_n 0 hX dX7_takeToken_39 fz0 rfl ?_
    refine J_getI hX dX7_takeToken_40 lf_X7_30 sk_53 rfl ?_
    refine J_putI hX dX7_takeToken_43 lf_X7_36 lpt_6_6 sk_53 rfl fun G43 => ?_
    refine J_aload_n 0 hX dX7_takeToken_46 fz0 rfl ?_
    refine J_iconst hX dX7_takeToken_47 ci_0 ?_
    refine J_putI hX dX7_takeToken_48 lf_X7_39 lpt_6_7 sk_53 rfl fun G48 => ?_
    refine J_aload_n 0 hX dX7_takeToken_51 fz0 rfl ?_
    refine J_aload_n 0 hX dX7_takeToken_52 fz0 rfl ?_
    refine J_getI hX dX7_takeToken_53 lf_X7_30 sk_53 rfl ?_
    refine J_callVI (As := [.int (gI G48 53 4)]) (st := []) (b := 53) hX mv_X7_185 sk_53 rfl rfl rfl (Nat.le_of_ble_eq_true rfl) (Nat.le_of_ble_eq_true rfl) (Nat.le_of_ble_eq_true rfl) dX7_takeToken_56 (fun r G1 h => ok_X7_byteAt  h) fun r56 G56 => ?_
    refine J_istore_n (lv' := [(1, .int r56), (0, .ref (AD Y 53))]) hX dX7_takeToken_59 fz1 (Nat.le_of_ble_eq_true rfl) rfl ?_
    refine J_iload_n 0 hX dX7_takeToken_60 fz1 rfl ?_
    refine J_iconst hX dX7_takeToken_61 cim_1 ?_
    refine J_icmp_ne (tgt := 73) hX dX7_takeToken_62 rfl ?_ ?_
    · refine J_iload_n 0 hX dX7_takeToken_73 fz1 rfl ?_
      refine J_callSI (As := [.int r56]) (st := []) hX ms_X7_197 rfl rfl (Nat.le_of_ble_eq_true rfl) (Nat.le_of_ble_eq_true rfl) (Nat.le_of_ble_eq_true rfl) dX7_takeToken_74 (fun r G1 h => ok_X7_isLetter  h) fun r74 G74 => ?_
      refine J_if_eq (tgt := 123) hX dX7_takeToken_77 rfl ?_ ?_
      · refine J_iload_n 0 hX dX7_takeToken_123 fz1 rfl ?_
        refine J_callSI (As := [.int r56]) (st := []) hX ms_X7_200 rfl rfl (Nat.le_of_ble_eq_true rfl) (Nat.le_of_ble_eq_true rfl) (Nat.le_of_ble_eq_true rfl) dX7_takeToken_124 (fun r G1 h => ok_X7_isDigit  h) fun r124 G124 => ?_
        refine J_if_eq (tgt := 201) hX dX7_takeToken_127 rfl ?_ ?_
        · refine J_aload_n 1 hX dX7_takeToken_201 fz0 rfl ?_
          refine J_iload_n 0 hX dX7_takeToken_202 fz1 rfl ?_
          refine J_bipush hX dX7_takeToken_203 cb_59 ?_
          refine J_icmp_ne (tgt := 212) hX dX7_takeToken_205 rfl ?_ ?_
          · refine J_iconst hX dX7_takeToken_212 ci_4 ?_
            refine J_sub (lv' := [(0, .ref (AD Y 53))]) [1] rfl ?_
            exact K213 (4 : Int32) G124
          · refine J_iconst hX dX7_takeToken_208 ci_3 ?_
            refine J_goto (tgt := 213) hX dX7_takeToken_209 rfl ?_
            refine J_sub (lv' := [(0, .ref (AD Y 53))]) [1] rfl ?_
            exact K213 (3 : Int32) G124
        · refine J_aload_n 1 hX dX7_takeToken_130 fz0 rfl ?_
          refine J_iconst hX dX7_takeToken_131 ci_2 ?_
          refine J_putI hX dX7_takeToken_132 lf_X7_33 lpt_6_5 sk_53 rfl fun G132 => ?_
          refine J_sub (lv' := [(0, .ref (AD Y 53))]) [1] rfl ?_
          exact K135  FU  G132
      · refine J_aload_n 1 hX dX7_takeToken_80 fz0 rfl ?_
        refine J_iconst hX dX7_takeToken_81 ci_1 ?_
        refine J_putI hX dX7_takeToken_82 lf_X7_33 lpt_6_5 sk_53 rfl fun G82 => ?_
        refine J_sub (lv' := [(0, .ref (AD Y 53))]) [1] rfl ?_
        exact K85  FU  G82
    · refine J_aload_n 1 hX dX7_takeToken_65 fz0 rfl ?_
      refine J_iconst hX dX7_takeToken_66 ci_0 ?_
      refine J_putI hX dX7_takeToken_67 lf_X7_33 lpt_6_5 sk_53 rfl fun G67 => ?_
      refine J_goto (tgt := 226) hX dX7_takeToken_70 rfl ?_
      exact J_retV hR dX7_takeToken_226
  have K0 : ∀  (n : Nat)  (G : GM), J X Y 2 Q 0 [(0, .ref (AD Y 53))] [] G (wl0 n (lp_X7_takeToken_0 )  G = some G') := by
    refine wl0_ind (R := fun  G φ => J X Y 2 Q 0 [(0, .ref (AD Y 53))] [] G φ) (fun  G φ h => J_no h) ?_
    intro kc0 hk0  G
    unfold lp_X7_takeToken_0
    refine J_aload_n 0 hX dX7_takeToken_0 fz0 rfl ?_
    refine J_getI hX dX7_takeToken_1 lf_X7_30 sk_53 rfl ?_
    refine J_aload_n 0 hX dX7_takeToken_4 fz0 rfl ?_
    refine J_getI hX dX7_takeToken_5 lf_X7_15 sk_53 rfl ?_
    refine J_icmp_ge (tgt := 38) hX dX7_takeToken_8 rfl ?_ ?_
    · exact K38 G
    · refine J_aload_n 0 hX dX7_takeToken_11 fz0 rfl ?_
      refine J_aload_n 0 hX dX7_takeToken_12 fz0 rfl ?_
      refine J_getI hX dX7_takeToken_13 lf_X7_30 sk_53 rfl ?_
      refine J_callVI (As := [.int (gI G 53 4)]) (st := []) (b := 53) hX mv_X7_185 sk_53 rfl rfl rfl (Nat.le_of_ble_eq_true rfl) (Nat.le_of_ble_eq_true rfl) (Nat.le_of_ble_eq_true rfl) dX7_takeToken_16 (fun r G1 h => ok_X7_byteAt  h) fun r16 G16 => ?_
      refine J_callSI (As := [.int r16]) (st := []) hX ms_X7_193 rfl rfl (Nat.le_of_ble_eq_true rfl) (Nat.le_of_ble_eq_true rfl) (Nat.le_of_ble_eq_true rfl) dX7_takeToken_19 (fun r G1 h => ok_X7_isBlank  h) fun r19 G19 => ?_
      refine J_if_eq (tgt := 38) hX dX7_takeToken_22 rfl ?_ ?_
      · exact K38 G19
      · refine J_aload_n 0 hX dX7_takeToken_25 fz0 rfl ?_
        refine J_dup hX dX7_takeToken_26 rfl ?_
        refine J_getI hX dX7_takeToken_27 lf_X7_30 sk_53 rfl ?_
        refine J_iconst hX dX7_takeToken_30 ci_1 ?_
        refine J_iadd hX dX7_takeToken_31 ?_
        refine J_putI hX dX7_takeToken_32 lf_X7_30 lpt_6_4 sk_53 rfl fun G32 => ?_
        refine J_goto (tgt := 0) hX dX7_takeToken_35 rfl ?_
        exact hk0  G32
  unfold f_X7_takeToken
  exact K0  FU  G
set_option maxHeartbeats 4000000 in
set_option maxRecDepth 100000 in
theorem ok_X7_begin {Y : DX} {v1 : Nat} (h1 : SHk v1 = 4) {G : GM} {G' : GM} (hf : f_X7_begin v1 G = some G') : OkV Y 10 M_X7_begin [.ref (AD Y 53), .ref (AD Y v1)] G G' := by
  refine okV_of (lv0 := [(0, .ref (AD Y 53)), (1, .ref (AD Y v1))]) (by decide +kernel) rfl (Nat.le_of_ble_eq_true rfl) ?_
  intro X Q hX hR
  have hX : CXok X Y RX7 cX7_begin 2 _ := hX
  revert hf
  show J X Y 2 Q 0 [(0, .ref (AD Y 53)), (1, .ref (AD Y v1))] [] G (f_X7_begin v1 G = some G')
  unfold f_X7_begin
  refine J_aload_n 1 hX dX7_begin_0 fz1 rfl ?_
  refine J_callVV (As := []) (st := []) (b := v1) hX mv_X7_51 h1 rfl rfl rfl (Nat.le_of_ble_eq_true rfl) (Nat.le_of_ble_eq_true rfl) (Nat.le_of_ble_eq_true rfl) dX7_begin_1 (fun G1 h => ok_X5_clear h1 h) fun G1 => ?_
  refine J_aload_n 0 hX dX7_begin_4 fz0 rfl ?_
  refine J_iconst hX dX7_begin_5 ci_0 ?_
  refine J_putI hX dX7_begin_6 lf_X7_30 lpt_6_4 sk_53 rfl fun G6 => ?_
  refine J_aload_n 0 hX dX7_begin_9 fz0 rfl ?_
  refine J_iconst hX dX7_begin_10 ci_1 ?_
  refine J_putI hX dX7_begin_11 lf_X7_42 lpt_6_8 sk_53 rfl fun G11 => ?_
  refine J_aload_n 0 hX dX7_begin_14 fz0 rfl ?_
  refine J_iconst hX dX7_begin_15 ci_0 ?_
  refine J_putI hX dX7_begin_16 lf_X7_45 lpt_6_9 sk_53 rfl fun G16 => ?_
  refine J_aload_n 0 hX dX7_begin_19 fz0 rfl ?_
  refine J_iconst hX dX7_begin_20 cim_1 ?_
  refine J_putI hX dX7_begin_21 lf_X7_48 lpt_6_10 sk_53 rfl fun G21 => ?_
  refine J_aload_n 0 hX dX7_begin_24 fz0 rfl ?_
  refine J_callVV (As := []) (st := []) (b := 53) hX mv_X7_56 sk_53 rfl rfl rfl (Nat.le_of_ble_eq_true rfl) (Nat.le_of_ble_eq_true rfl) (Nat.le_of_ble_eq_true rfl) dX7_begin_25 (fun G1 h => ok_X7_takeToken  h) fun G25 => ?_
  exact J_retV hR dX7_begin_28
set_option maxHeartbeats 4000000 in
set_option maxRecDepth 100000 in
theorem ok_X7_hasLine {Y : DX}   {G : GM} {r : Int32} {G' : GM} (hf : f_X7_hasLine  G = some (r, G')) : OkI Y 1 M_X7_hasLine [.ref (AD Y 53)] G r G' := by
  refine okZ_of (lv0 := [(0, .ref (AD Y 53))]) (by decide +kernel) rfl (Nat.le_of_ble_eq_true rfl) ?_
  intro X Q hX hR
  have hX : CXok X Y RX7 cX7_hasLine 1 _ := hX
  revert hf
  show J X Y 1 Q 0 [(0, .ref (AD Y 53))] [] G (f_X7_hasLine  G = some (r, G'))
  unfold f_X7_hasLine
  refine J_aload_n 0 hX dX7_hasLine_0 fz0 rfl ?_
  refine J_getI hX dX7_hasLine_1 lf_X7_33 sk_53 rfl ?_
  refine J_if_eq (tgt := 18) hX dX7_hasLine_4 rfl ?_ ?_
  · refine J_iconst hX dX7_hasLine_18 ci_0 ?_
    exact J_retZ hR (by decide) dX7_hasLine_19
  · refine J_aload_n 0 hX dX7_hasLine_7 fz0 rfl ?_
    refine J_getI hX dX7_hasLine_8 lf_X7_45 sk_53 rfl ?_
    refine J_if_ne (tgt := 18) hX dX7_hasLine_11 rfl ?_ ?_
    · refine J_iconst hX dX7_hasLine_18 ci_0 ?_
      exact J_retZ hR (by decide) dX7_hasLine_19
    · refine J_iconst hX dX7_hasLine_14 ci_1 ?_
      refine J_goto (tgt := 19) hX dX7_hasLine_15 rfl ?_
      exact J_retZ hR (by decide) dX7_hasLine_19
set_option maxHeartbeats 4000000 in
set_option maxRecDepth 100000 in
theorem ok_X7_fail {Y : DX} {v1 : Int32}  {G : GM} {G' : GM} (hf : f_X7_fail v1 G = some G') : OkV Y 1 M_X7_fail [.ref (AD Y 53), .int v1] G G' := by
  refine okV_of (lv0 := [(0, .ref (AD Y 53)), (1, .int v1)]) (by decide +kernel) rfl (Nat.le_of_ble_eq_true rfl) ?_
  intro X Q hX hR
  have hX : CXok X Y RX7 cX7_fail 2 _ := hX
  revert hf
  show J X Y 2 Q 0 [(0, .ref (AD Y 53)), (1, .int v1)] [] G (f_X7_fail v1 G = some G')
  unfold f_X7_fail
  refine J_aload_n 0 hX dX7_fail_0 fz0 rfl ?_
  refine J_getI hX dX7_fail_1 lf_X7_45 sk_53 rfl ?_
  refine J_if_ne (tgt := 20) hX dX7_fail_4 rfl ?_ ?_
  · exact J_retV hR dX7_fail_20
  · refine J_aload_n 0 hX dX7_fail_7 fz0 rfl ?_
    refine J_iload_n 1 hX dX7_fail_8 fz1 rfl ?_
    refine J_putI hX dX7_fail_9 lf_X7_45 lpt_6_9 sk_53 rfl fun G9 => ?_
    refine J_aload_n 0 hX dX7_fail_12 fz0 rfl ?_
    refine J_aload_n 0 hX dX7_fail_13 fz0 rfl ?_
    refine J_getI hX dX7_fail_14 lf_X7_36 sk_53 rfl ?_
    refine J_putI hX dX7_fail_17 lf_X7_48 lpt_6_10 sk_53 rfl fun G17 => ?_
    exact J_retV hR dX7_fail_20
set_option maxHeartbeats 4000000 in
set_option maxRecDepth 100000 in
theorem ok_X7_isWord {Y : DX} {v1 : Nat} (h1 : v1 < NS) {G : GM} {r : Int32} {G' : GM} (hf : f_X7_isWord v1 G = some (r, G')) : OkI Y 21 M_X7_isWord [.ref (AD Y 53), .ref (yk Y v1)] G r G' := by
  refine okZ_of (lv0 := [(0, .ref (AD Y 53)), (1, .ref (yk Y v1))]) (by decide +kernel) rfl (Nat.le_of_ble_eq_true rfl) ?_
  intro X Q hX hR
  have hX : CXok X Y RX7 cX7_isWord 3 _ := hX
  revert hf
  show J X Y 3 Q 0 [(0, .ref (AD Y 53)), (1, .ref (yk Y v1))] [] G (f_X7_isWord v1 G = some (r, G'))
  have K28 : ∀  (n : Nat) (v2 : Int32) (G : GM), J X Y 3 Q 28 [(0, .ref (AD Y 53)), (1, .ref (yk Y v1)), (2, .int v2)] [] G (wl1 n (lp_X7_isWord_28 v1) v2 G = some (r, G')) := by
    refine wl1_ind (R := fun v2 G φ => J X Y 3 Q 28 [(0, .ref (AD Y 53)), (1, .ref (yk Y v1)), (2, .int v2)] [] G φ) (fun _ G φ h => J_no h) ?_
    intro kc28 hk28 v2 G
    unfold lp_X7_isWord_28
    refine J_iload_n 2 hX dX7_isWord_28 fz2 rfl ?_
    refine J_aload_n 1 hX dX7_isWord_29 fz1 rfl ?_
    refine J_slen hX dX7_isWord_30 h1 (Nat.le_of_ble_eq_true rfl) (Nat.le_of_ble_eq_true rfl) ?_
    refine J_icmp_ge (tgt := 62) hX dX7_isWord_33 rfl ?_ ?_
    · refine J_iconst hX dX7_isWord_62 ci_1 ?_
      exact J_retZ hR (by decide) dX7_isWord_63
    · refine J_aload_n 0 hX dX7_isWord_36 fz0 rfl ?_
      refine J_aload_n 0 hX dX7_isWord_37 fz0 rfl ?_
      refine J_getI hX dX7_isWord_38 lf_X7_36 sk_53 rfl ?_
      refine J_iload_n 2 hX dX7_isWord_41 fz2 rfl ?_
      refine J_iadd hX dX7_isWord_42 ?_
      refine J_callVI (As := [.int ((gI G 53 6) + v2)]) (st := []) (b := 53) hX mv_X7_185 sk_53 rfl rfl rfl (Nat.le_of_ble_eq_true rfl) (Nat.le_of_ble_eq_true rfl) (Nat.le_of_ble_eq_true rfl) dX7_isWord_43 (fun r G1 h => ok_X7_byteAt  h) fun r43 G43 => ?_
      refine J_aload_n 1 hX dX7_isWord_46 fz1 rfl ?_
      refine J_iload_n 2 hX dX7_isWord_47 fz2 rfl ?_
      refine J_schar hX dX7_isWord_48 h1 (Nat.le_of_ble_eq_true rfl) (Nat.le_of_ble_eq_true rfl) ?_
      refine J_icmp_eq (tgt := 56) hX dX7_isWord_51 rfl ?_ ?_
      · refine J_iinc (lv' := [(2, .int (v2 + (1 : Int32))), (0, .ref (AD Y 53)), (1, .ref (yk Y v1))]) 2 hX dX7_isWord_56 rfl ci_1 (Nat.le_of_ble_eq_true rfl) rfl ?_
        refine J_goto (tgt := 28) hX dX7_isWord_59 rfl ?_
        refine J_sub (lv' := [(0, .ref (AD Y 53)), (1, .ref (yk Y v1)), (2, .int (v2 + (1 : Int32)))]) [1, 2, 0] rfl ?_
        exact hk28 (v2 + (1 : Int32)) G43
      · refine J_iconst hX dX7_isWord_54 ci_0 ?_
        exact J_retZ hR (by decide) dX7_isWord_55
  unfold f_X7_isWord
  refine J_aload_n 0 hX dX7_isWord_0 fz0 rfl ?_
  refine J_getI hX dX7_isWord_1 lf_X7_33 sk_53 rfl ?_
  refine J_iconst hX dX7_isWord_4 ci_1 ?_
  refine J_icmp_ne (tgt := 24) hX dX7_isWord_5 rfl ?_ ?_
  · refine J_iconst hX dX7_isWord_24 ci_0 ?_
    exact J_retZ hR (by decide) dX7_isWord_25
  · refine J_aload_n 0 hX dX7_isWord_8 fz0 rfl ?_
    refine J_getI hX dX7_isWord_9 lf_X7_30 sk_53 rfl ?_
    refine J_aload_n 0 hX dX7_isWord_12 fz0 rfl ?_
    refine J_getI hX dX7_isWord_13 lf_X7_36 sk_53 rfl ?_
    refine J_isub hX dX7_isWord_16 ?_
    refine J_aload_n 1 hX dX7_isWord_17 fz1 rfl ?_
    refine J_slen hX dX7_isWord_18 h1 (Nat.le_of_ble_eq_true rfl) (Nat.le_of_ble_eq_true rfl) ?_
    refine J_icmp_eq (tgt := 26) hX dX7_isWord_21 rfl ?_ ?_
    · refine J_iconst hX dX7_isWord_26 ci_0 ?_
      refine J_istore_n (lv' := [(2, .int (0 : Int32)), (0, .ref (AD Y 53)), (1, .ref (yk Y v1))]) hX dX7_isWord_27 fz2 (Nat.le_of_ble_eq_true rfl) rfl ?_
      refine J_sub (lv' := [(0, .ref (AD Y 53)), (1, .ref (yk Y v1)), (2, .int (0 : Int32))]) [1, 2, 0] rfl ?_
      exact K28  FU (0 : Int32) G
    · refine J_iconst hX dX7_isWord_24 ci_0 ?_
      exact J_retZ hR (by decide) dX7_isWord_25
set_option maxHeartbeats 4000000 in
set_option maxRecDepth 100000 in
theorem ok_X4_isAsSaid {Y : DX} {v0 : Nat} (h0 : SHk v0 = 3) {G : GM} {r : Int32} {G' : GM} (hf : f_X4_isAsSaid v0 G = some (r, G')) : OkI Y 1 M_X4_isAsSaid [.ref (AD Y v0)] G r G' := by
  refine okZ_of (lv0 := [(0, .ref (AD Y v0))]) (by decide +kernel) rfl (Nat.le_of_ble_eq_true rfl) ?_
  intro X Q hX hR
  have hX : CXok X Y RX4 cX4_isAsSaid 1 _ := hX
  revert hf
  show J X Y 1 Q 0 [(0, .ref (AD Y v0))] [] G (f_X4_isAsSaid v0 G = some (r, G'))
  unfold f_X4_isAsSaid
  refine J_aload_n 0 hX dX4_isAsSaid_0 fz0 rfl ?_
  refine J_getI hX dX4_isAsSaid_1 lf_X4_21 h0 rfl ?_
  refine J_iconst hX dX4_isAsSaid_4 ci_2 ?_
  refine J_icmp_lt (tgt := 51) hX dX4_isAsSaid_5 rfl ?_ ?_
  · refine J_iconst hX dX4_isAsSaid_51 ci_0 ?_
    exact J_retZ hR (by decide) dX4_isAsSaid_52
  · refine J_aload_n 0 hX dX4_isAsSaid_8 fz0 rfl ?_
    refine J_getI hX dX4_isAsSaid_9 lf_X4_21 h0 rfl ?_
    refine J_aload_n 0 hX dX4_isAsSaid_12 fz0 rfl ?_
    refine J_getI hX dX4_isAsSaid_13 lf_X4_18 h0 rfl ?_
    refine J_icmp_lt (tgt := 51) hX dX4_isAsSaid_16 rfl ?_ ?_
    · refine J_iconst hX dX4_isAsSaid_51 ci_0 ?_
      exact J_retZ hR (by decide) dX4_isAsSaid_52
    · refine J_aload_n 0 hX dX4_isAsSaid_19 fz0 rfl ?_
      refine J_getI hX dX4_isAsSaid_20 lf_X4_31 h0 rfl ?_
      refine J_aload_n 0 hX dX4_isAsSaid_23 fz0 rfl ?_
      refine J_getI hX dX4_isAsSaid_24 lf_X4_9 h0 rfl ?_
      refine J_aload_n 0 hX dX4_isAsSaid_27 fz0 rfl ?_
      refine J_getI hX dX4_isAsSaid_28 lf_X4_15 h0 rfl ?_
      refine J_imul hX dX4_isAsSaid_31 ?_
      refine J_aload_n 0 hX dX4_isAsSaid_32 fz0 rfl ?_
      refine J_getI hX dX4_isAsSaid_33 lf_X4_18 h0 rfl ?_
      refine J_imul hX dX4_isAsSaid_36 ?_
      refine J_icmp_ne (tgt := 51) hX dX4_isAsSaid_37 rfl ?_ ?_
      · refine J_iconst hX dX4_isAsSaid_51 ci_0 ?_
        exact J_retZ hR (by decide) dX4_isAsSaid_52
      · refine J_aload_n 0 hX dX4_isAsSaid_40 fz0 rfl ?_
        refine J_getI hX dX4_isAsSaid_41 lf_X4_37 h0 rfl ?_
        refine J_if_le (tgt := 51) hX dX4_isAsSaid_44 rfl ?_ ?_
        · refine J_iconst hX dX4_isAsSaid_51 ci_0 ?_
          exact J_retZ hR (by decide) dX4_isAsSaid_52
        · refine J_iconst hX dX4_isAsSaid_47 ci_1 ?_
          refine J_goto (tgt := 52) hX dX4_isAsSaid_48 rfl ?_
          exact J_retZ hR (by decide) dX4_isAsSaid_52
set_option maxHeartbeats 4000000 in
set_option maxRecDepth 100000 in
theorem ok_X7_isNumberOf {Y : DX} {v1 : Int32} {v2 : Int32}  {G : GM} {r : Int32} {G' : GM} (hf : f_X7_isNumberOf v1 v2 G = some (r, G')) : OkI Y 1 M_X7_isNumberOf [.ref (AD Y 53), .int v1, .int v2] G r G' := by
  refine okZ_of (lv0 := [(0, .ref (AD Y 53)), (1, .int v1), (2, .int v2)]) (by decide +kernel) rfl (Nat.le_of_ble_eq_true rfl) ?_
  intro X Q hX hR
  have hX : CXok X Y RX7 cX7_isNumberOf 3 _ := hX
  revert hf
  show J X Y 3 Q 0 [(0, .ref (AD Y 53)), (1, .int v1), (2, .int v2)] [] G (f_X7_isNumberOf v1 v2 G = some (r, G'))
  unfold f_X7_isNumberOf
  refine J_aload_n 0 hX dX7_isNumberOf_0 fz0 rfl ?_
  refine J_getI hX dX7_isNumberOf_1 lf_X7_33 sk_53 rfl ?_
  refine J_iconst hX dX7_isNumberOf_4 ci_2 ?_
  refine J_icmp_ne (tgt := 28) hX dX7_isNumberOf_5 rfl ?_ ?_
  · refine J_iconst hX dX7_isNumberOf_28 ci_0 ?_
    exact J_retZ hR (by decide) dX7_isNumberOf_29
  · refine J_aload_n 0 hX dX7_isNumberOf_8 fz0 rfl ?_
    refine J_getI hX dX7_isNumberOf_9 lf_X7_39 sk_53 rfl ?_
    refine J_iload_n 1 hX dX7_isNumberOf_12 fz1 rfl ?_
    refine J_icmp_lt (tgt := 28) hX dX7_isNumberOf_13 rfl ?_ ?_
    · refine J_iconst hX dX7_isNumberOf_28 ci_0 ?_
      exact J_retZ hR (by decide) dX7_isNumberOf_29
    · refine J_aload_n 0 hX dX7_isNumberOf_16 fz0 rfl ?_
      refine J_getI hX dX7_isNumberOf_17 lf_X7_39 sk_53 rfl ?_
      refine J_iload_n 2 hX dX7_isNumberOf_20 fz2 rfl ?_
      refine J_icmp_gt (tgt := 28) hX dX7_isNumberOf_21 rfl ?_ ?_
      · refine J_iconst hX dX7_isNumberOf_28 ci_0 ?_
        exact J_retZ hR (by decide) dX7_isNumberOf_29
      · refine J_iconst hX dX7_isNumberOf_24 ci_1 ?_
        refine J_goto (tgt := 29) hX dX7_isNumberOf_25 rfl ?_
        exact J_retZ hR (by decide) dX7_isNumberOf_29
set_option maxHeartbeats 4000000 in
set_option maxRecDepth 100000 in
theorem ok_X7_takeNumber {Y : DX} {v1 : Int32} {v2 : Int32}  {G : GM} {r : Int32} {G' : GM} (hf : f_X7_takeNumber v1 v2 G = some (r, G')) : OkI Y 3 M_X7_takeNumber [.ref (AD Y 53), .int v1, .int v2] G r G' := by
  refine okI_of (lv0 := [(0, .ref (AD Y 53)), (1, .int v1), (2, .int v2)]) (by decide +kernel) rfl (Nat.le_of_ble_eq_true rfl) ?_
  intro X Q hX hR
  have hX : CXok X Y RX7 cX7_takeNumber 4 _ := hX
  revert hf
  show J X Y 4 Q 0 [(0, .ref (AD Y 53)), (1, .int v1), (2, .int v2)] [] G (f_X7_takeNumber v1 v2 G = some (r, G'))
  have K45 : ∀ (s0 : Int32) (G : GM), J X Y 4 Q 45 [(0, .ref (AD Y 53))] [.int s0] G (k_X7_takeNumber_45 v1 v2 s0 G = some (r, G')) := by
    intro s0 G
    unfold k_X7_takeNumber_45
    refine J_istore_n (lv' := [(3, .int s0), (0, .ref (AD Y 53))]) hX dX7_takeNumber_45 fz3 (Nat.le_of_ble_eq_true rfl) rfl ?_
    refine J_aload_n 1 hX dX7_takeNumber_46 fz0 rfl ?_
    refine J_callVV (As := []) (st := []) (b := 53) hX mv_X7_56 sk_53 rfl rfl rfl (Nat.le_of_ble_eq_true rfl) (Nat.le_of_ble_eq_true rfl) (Nat.le_of_ble_eq_true rfl) dX7_takeNumber_47 (fun G1 h => ok_X7_takeToken  h) fun G47 => ?_
    refine J_iload_n 0 hX dX7_takeNumber_50 fz3 rfl ?_
    exact J_retI hR dX7_takeNumber_51
  have K30 : ∀ (G : GM), J X Y 4 Q 30 [(0, .ref (AD Y 53)), (1, .int v1)] [] G (k_X7_takeNumber_30 v1 v2 G = some (r, G')) := by
    intro G
    unfold k_X7_takeNumber_30
    refine J_aload_n 0 hX dX7_takeNumber_30 fz0 rfl ?_
    refine J_getI hX dX7_takeNumber_31 lf_X7_45 sk_53 rfl ?_
    refine J_if_ne (tgt := 44) hX dX7_takeNumber_34 rfl ?_ ?_
    · refine J_iload_n 1 hX dX7_takeNumber_44 fz1 rfl ?_
      refine J_sub (lv' := [(0, .ref (AD Y 53))]) [0] rfl ?_
      exact K45 v1 G
    · refine J_aload_n 0 hX dX7_takeNumber_37 fz0 rfl ?_
      refine J_getI hX dX7_takeNumber_38 lf_X7_39 sk_53 rfl ?_
      refine J_goto (tgt := 45) hX dX7_takeNumber_41 rfl ?_
      refine J_sub (lv' := [(0, .ref (AD Y 53))]) [0] rfl ?_
      exact K45 (gI G 53 7) G
  unfold f_X7_takeNumber
  refine J_aload_n 0 hX dX7_takeNumber_0 fz0 rfl ?_
  refine J_getI hX dX7_takeNumber_1 lf_X7_33 sk_53 rfl ?_
  refine J_iconst hX dX7_takeNumber_4 ci_2 ?_
  refine J_icmp_eq (tgt := 16) hX dX7_takeNumber_5 rfl ?_ ?_
  · refine J_aload_n 0 hX dX7_takeNumber_16 fz0 rfl ?_
    refine J_iload_n 1 hX dX7_takeNumber_17 fz1 rfl ?_
    refine J_iload_n 2 hX dX7_takeNumber_18 fz2 rfl ?_
    refine J_callVI (As := [.int v1, .int v2]) (st := []) (b := 53) hX mv_X7_141 sk_53 rfl rfl rfl (Nat.le_of_ble_eq_true rfl) (Nat.le_of_ble_eq_true rfl) (Nat.le_of_ble_eq_true rfl) dX7_takeNumber_19 (fun r G1 h => ok_X7_isNumberOf  h) fun r19 G19 => ?_
    refine J_if_ne (tgt := 30) hX dX7_takeNumber_22 rfl ?_ ?_
    · refine J_sub (lv' := [(0, .ref (AD Y 53)), (1, .int v1)]) [0, 1] rfl ?_
      exact K30 G19
    · refine J_aload_n 0 hX dX7_takeNumber_25 fz0 rfl ?_
      refine J_iconst hX dX7_takeNumber_26 ci_2 ?_
      refine J_callVV (As := [.int (2 : Int32)]) (st := []) (b := 53) hX mv_X7_68 sk_53 rfl rfl rfl (Nat.le_of_ble_eq_true rfl) (Nat.le_of_ble_eq_true rfl) (Nat.le_of_ble_eq_true rfl) dX7_takeNumber_27 (fun G1 h => ok_X7_fail  h) fun G27 => ?_
      refine J_sub (lv' := [(0, .ref (AD Y 53)), (1, .int v1)]) [0, 1] rfl ?_
      exact K30 G27
  · refine J_aload_n 0 hX dX7_takeNumber_8 fz0 rfl ?_
    refine J_iconst hX dX7_takeNumber_9 ci_1 ?_
    refine J_callVV (As := [.int (1 : Int32)]) (st := []) (b := 53) hX mv_X7_68 sk_53 rfl rfl rfl (Nat.le_of_ble_eq_true rfl) (Nat.le_of_ble_eq_true rfl) (Nat.le_of_ble_eq_true rfl) dX7_takeNumber_10 (fun G1 h => ok_X7_fail  h) fun G10 => ?_
    refine J_goto (tgt := 30) hX dX7_takeNumber_13 rfl ?_
    refine J_sub (lv' := [(0, .ref (AD Y 53)), (1, .int v1)]) [0, 1] rfl ?_
    exact K30 G10
set_option maxHeartbeats 4000000 in
set_option maxRecDepth 100000 in
theorem ok_X7_readColumns {Y : DX} {v1 : Nat} (h1 : SHk v1 = 3) {G : GM} {G' : GM} (hf : f_X7_readColumns v1 G = some G') : OkV Y 4 M_X7_readColumns [.ref (AD Y 53), .ref (AD Y v1)] G G' := by
  refine okV_of (lv0 := [(0, .ref (AD Y 53)), (1, .ref (AD Y v1))]) (by decide +kernel) rfl (Nat.le_of_ble_eq_true rfl) ?_
  intro X Q hX hR
  have hX : CXok X Y RX7 cX7_readColumns 3 _ := hX
  revert hf
  show J X Y 3 Q 0 [(0, .ref (AD Y 53)), (1, .ref (AD Y v1))] [] G (f_X7_readColumns v1 G = some G')
  have K91 : ∀ (s0 : Int32) (G : GM), J X Y 3 Q 91 [] [.int s0, .ref (AD Y 53)] G (k_X7_readColumns_91 v1 s0 G = some G') := by
    intro s0 G
    unfold k_X7_readColumns_91
    refine J_callVV (As := [.int s0]) (st := []) (b := 53) hX mv_X7_68 sk_53 rfl rfl rfl (Nat.le_of_ble_eq_true rfl) (Nat.le_of_ble_eq_true rfl) (Nat.le_of_ble_eq_true rfl) dX7_readColumns_91 (fun G1 h => ok_X7_fail  h) fun G91 => ?_
    exact J_retV hR dX7_readColumns_94
  have K60 : ∀ (G : GM), J X Y 3 Q 60 [(0, .ref (AD Y 53))] [] G (k_X7_readColumns_60 v1 G = some G') := by
    intro G
    unfold k_X7_readColumns_60
    refine J_aload_n 0 hX dX7_readColumns_60 fz0 rfl ?_
    refine J_getI hX dX7_readColumns_61 lf_X7_45 sk_53 rfl ?_
    refine J_if_ne (tgt := 94) hX dX7_readColumns_64 rfl ?_ ?_
    · exact J_retV hR dX7_readColumns_94
    · refine J_aload_n 0 hX dX7_readColumns_67 fz0 rfl ?_
      refine J_getI hX dX7_readColumns_68 lf_X7_33 sk_53 rfl ?_
      refine J_iconst hX dX7_readColumns_71 ci_2 ?_
      refine J_icmp_ne (tgt := 94) hX dX7_readColumns_72 rfl ?_ ?_
      · exact J_retV hR dX7_readColumns_94
      · refine J_aload_n 0 hX dX7_readColumns_75 fz0 rfl ?_
        refine J_aload_n 0 hX dX7_readColumns_76 fz0 rfl ?_
        refine J_iconst hX dX7_readColumns_77 ci_1 ?_
        refine J_bipush hX dX7_readColumns_78 cb_15 ?_
        refine J_callVI (As := [.int (1 : Int32), .int (15 : Int32)]) (st := [.ref (AD Y 53)]) (b := 53) hX mv_X7_141 sk_53 rfl rfl rfl (Nat.le_of_ble_eq_true rfl) (Nat.le_of_ble_eq_true rfl) (Nat.le_of_ble_eq_true rfl) dX7_readColumns_80 (fun r G1 h => ok_X7_isNumberOf  h) fun r80 G80 => ?_
        refine J_if_eq (tgt := 90) hX dX7_readColumns_83 rfl ?_ ?_
        · refine J_iconst hX dX7_readColumns_90 ci_2 ?_
          refine J_sub (lv' := []) [] rfl ?_
          exact K91 (2 : Int32) G80
        · refine J_iconst hX dX7_readColumns_86 ci_3 ?_
          refine J_goto (tgt := 91) hX dX7_readColumns_87 rfl ?_
          refine J_sub (lv' := []) [] rfl ?_
          exact K91 (3 : Int32) G80
  have K7 : ∀  (n : Nat) (v2 : Int32) (G : GM), J X Y 3 Q 7 [(0, .ref (AD Y 53)), (1, .ref (AD Y v1)), (2, .int v2)] [] G (wl1 n (lp_X7_readColumns_7 v1) v2 G = some G') := by
    refine wl1_ind (R := fun v2 G φ => J X Y 3 Q 7 [(0, .ref (AD Y 53)), (1, .ref (AD Y v1)), (2, .int v2)] [] G φ) (fun _ G φ h => J_no h) ?_
    intro kc7 hk7 v2 G
    unfold lp_X7_readColumns_7
    have K24 : ∀ (v2 : Int32) (G : GM), J X Y 3 Q 24 [(0, .ref (AD Y 53)), (1, .ref (AD Y v1)), (2, .int v2)] [] G (k_X7_readColumns_24 v1 v2 kc7 G = some G') := by
      intro v2 G
      unfold k_X7_readColumns_24
      refine J_aload_n 0 hX dX7_readColumns_24 fz0 rfl ?_
      refine J_getI hX dX7_readColumns_25 lf_X7_45 sk_53 rfl ?_
      refine J_if_ne (tgt := 60) hX dX7_readColumns_28 rfl ?_ ?_
      · refine J_sub (lv' := [(0, .ref (AD Y 53))]) [0] rfl ?_
        exact K60 G
      · refine J_aload_n 1 hX dX7_readColumns_31 fz1 rfl ?_
        refine J_getR (b := (v1 + 1)) hX dX7_readColumns_32 lf_X7_138 h1 rfl (by decide) rfl ?_
        refine J_iload_n 2 hX dX7_readColumns_35 fz2 rfl ?_
        refine J_aload_n 0 hX dX7_readColumns_36 fz0 rfl ?_
        refine J_iconst hX dX7_readColumns_37 ci_1 ?_
        refine J_bipush hX dX7_readColumns_38 cb_15 ?_
        refine J_callVI (As := [.int (1 : Int32), .int (15 : Int32)]) (st := [.int v2, .ref (AD Y (v1 + 1))]) (b := 53) hX mv_X7_103 sk_53 rfl rfl rfl (Nat.le_of_ble_eq_true rfl) (Nat.le_of_ble_eq_true rfl) (Nat.le_of_ble_eq_true rfl) dX7_readColumns_40 (fun r G1 h => ok_X7_takeNumber  h) fun r40 G40 => ?_
        refine J_iast hX dX7_readColumns_43 (tp_3_4 h1) (tl_3_4 h1) fun G43 => ?_
        refine J_aload_n 1 hX dX7_readColumns_44 fz1 rfl ?_
        refine J_dup hX dX7_readColumns_45 rfl ?_
        refine J_getI hX dX7_readColumns_46 lf_X7_136 h1 rfl ?_
        refine J_iconst hX dX7_readColumns_49 ci_1 ?_
        refine J_iadd hX dX7_readColumns_50 ?_
        refine J_putI hX dX7_readColumns_51 lf_X7_136 lpt_3_3 h1 rfl fun G51 => ?_
        refine J_iinc (lv' := [(2, .int (v2 + (1 : Int32))), (0, .ref (AD Y 53)), (1, .ref (AD Y v1))]) 2 hX dX7_readColumns_54 rfl ci_1 (Nat.le_of_ble_eq_true rfl) rfl ?_
        refine J_goto (tgt := 7) hX dX7_readColumns_57 rfl ?_
        refine J_sub (lv' := [(0, .ref (AD Y 53)), (1, .ref (AD Y v1)), (2, .int (v2 + (1 : Int32)))]) [1, 2, 0] rfl ?_
        exact hk7 (v2 + (1 : Int32)) G51
    refine J_iload_n 2 hX dX7_readColumns_7 fz2 rfl ?_
    refine J_iconst hX dX7_readColumns_8 ci_5 ?_
    refine J_icmp_ge (tgt := 60) hX dX7_readColumns_9 rfl ?_ ?_
    · refine J_sub (lv' := [(0, .ref (AD Y 53))]) [0] rfl ?_
      exact K60 G
    · refine J_iload_n 2 hX dX7_readColumns_12 fz2 rfl ?_
      refine J_if_eq (tgt := 24) hX dX7_readColumns_13 rfl ?_ ?_
      · exact K24 v2 G
      · refine J_aload_n 0 hX dX7_readColumns_16 fz0 rfl ?_
        refine J_getI hX dX7_readColumns_17 lf_X7_33 sk_53 rfl ?_
        refine J_iconst hX dX7_readColumns_20 ci_2 ?_
        refine J_icmp_ne (tgt := 60) hX dX7_readColumns_21 rfl ?_ ?_
        · refine J_sub (lv' := [(0, .ref (AD Y 53))]) [0] rfl ?_
          exact K60 G
        · exact K24 v2 G
  unfold f_X7_readColumns
  refine J_aload_n 1 hX dX7_readColumns_0 fz1 rfl ?_
  refine J_iconst hX dX7_readColumns_1 ci_0 ?_
  refine J_putI hX dX7_readColumns_2 lf_X7_136 lpt_3_3 h1 rfl fun G2 => ?_
  refine J_iconst hX dX7_readColumns_5 ci_0 ?_
  refine J_istore_n (lv' := [(2, .int (0 : Int32)), (0, .ref (AD Y 53)), (1, .ref (AD Y v1))]) hX dX7_readColumns_6 fz2 (Nat.le_of_ble_eq_true rfl) rfl ?_
  refine J_sub (lv' := [(0, .ref (AD Y 53)), (1, .ref (AD Y v1)), (2, .int (0 : Int32))]) [1, 2, 0] rfl ?_
  exact K7  FU (0 : Int32) G2
set_option maxHeartbeats 4000000 in
set_option maxRecDepth 100000 in
theorem ok_X7_takeWord {Y : DX} {v1 : Nat} (h1 : v1 < NS) {G : GM} {G' : GM} (hf : f_X7_takeWord v1 G = some G') : OkV Y 22 M_X7_takeWord [.ref (AD Y 53), .ref (yk Y v1)] G G' := by
  refine okV_of (lv0 := [(0, .ref (AD Y 53)), (1, .ref (yk Y v1))]) (by decide +kernel) rfl (Nat.le_of_ble_eq_true rfl) ?_
  intro X Q hX hR
  have hX : CXok X Y RX7 cX7_takeWord 2 _ := hX
  revert hf
  show J X Y 2 Q 0 [(0, .ref (AD Y 53)), (1, .ref (yk Y v1))] [] G (f_X7_takeWord v1 G = some G')
  have K13 : ∀ (G : GM), J X Y 2 Q 13 [(0, .ref (AD Y 53))] [] G (k_X7_takeWord_13 v1 G = some G') := by
    intro G
    unfold k_X7_takeWord_13
    refine J_aload_n 0 hX dX7_takeWord_13 fz0 rfl ?_
    refine J_callVV (As := []) (st := []) (b := 53) hX mv_X7_56 sk_53 rfl rfl rfl (Nat.le_of_ble_eq_true rfl) (Nat.le_of_ble_eq_true rfl) (Nat.le_of_ble_eq_true rfl) dX7_takeWord_14 (fun G1 h => ok_X7_takeToken  h) fun G14 => ?_
    exact J_retV hR dX7_takeWord_17
  unfold f_X7_takeWord
  refine J_aload_n 0 hX dX7_takeWord_0 fz0 rfl ?_
  refine J_aload_n 1 hX dX7_takeWord_1 fz1 rfl ?_
  refine J_callVI (As := [.ref (yk Y v1)]) (st := []) (b := 53) hX mv_X7_61 sk_53 rfl rfl rfl (Nat.le_of_ble_eq_true rfl) (Nat.le_of_ble_eq_true rfl) (Nat.le_of_ble_eq_true rfl) dX7_takeWord_2 (fun r G1 h => ok_X7_isWord h1 h) fun r2 G2 => ?_
  refine J_if_ne (tgt := 13) hX dX7_takeWord_5 rfl ?_ ?_
  · refine J_sub (lv' := [(0, .ref (AD Y 53))]) [0] rfl ?_
    exact K13 G2
  · refine J_aload_n 0 hX dX7_takeWord_8 fz0 rfl ?_
    refine J_iconst hX dX7_takeWord_9 ci_1 ?_
    refine J_callVV (As := [.int (1 : Int32)]) (st := []) (b := 53) hX mv_X7_68 sk_53 rfl rfl rfl (Nat.le_of_ble_eq_true rfl) (Nat.le_of_ble_eq_true rfl) (Nat.le_of_ble_eq_true rfl) dX7_takeWord_10 (fun G1 h => ok_X7_fail  h) fun G10 => ?_
    refine J_sub (lv' := [(0, .ref (AD Y 53))]) [0] rfl ?_
    exact K13 G10
set_option maxHeartbeats 4000000 in
set_option maxRecDepth 100000 in
theorem ok_X7_readForm {Y : DX} {v1 : Nat} (h1 : SHk v1 = 3) {G : GM} {G' : GM} (hf : f_X7_readForm v1 G = some G') : OkV Y 23 M_X7_readForm [.ref (AD Y 53), .ref (AD Y v1)] G G' := by
  refine okV_of (lv0 := [(0, .ref (AD Y 53)), (1, .ref (AD Y v1))]) (by decide +kernel) rfl (Nat.le_of_ble_eq_true rfl) ?_
  intro X Q hX hR
  have hX : CXok X Y RX7 cX7_readForm 2 _ := hX
  revert hf
  show J X Y 2 Q 0 [(0, .ref (AD Y 53)), (1, .ref (AD Y v1))] [] G (f_X7_readForm v1 G = some G')
  unfold f_X7_readForm
  refine J_aload_n 0 hX dX7_readForm_0 fz0 rfl ?_
  refine J_ldcS 0 hX dX7_readForm_1 rfl ?_
  refine J_callVV (As := [.ref (yk Y 0)]) (st := []) (b := 53) hX mv_X7_98 sk_53 rfl rfl rfl (Nat.le_of_ble_eq_true rfl) (Nat.le_of_ble_eq_true rfl) (Nat.le_of_ble_eq_true rfl) dX7_readForm_3 (fun G1 h => ok_X7_takeWord (by decide) h) fun G3 => ?_
  refine J_aload_n 0 hX dX7_readForm_6 fz0 rfl ?_
  refine J_ldcS 1 hX dX7_readForm_7 rfl ?_
  refine J_callVV (As := [.ref (yk Y 1)]) (st := []) (b := 53) hX mv_X7_98 sk_53 rfl rfl rfl (Nat.le_of_ble_eq_true rfl) (Nat.le_of_ble_eq_true rfl) (Nat.le_of_ble_eq_true rfl) dX7_readForm_9 (fun G1 h => ok_X7_takeWord (by decide) h) fun G9 => ?_
  refine J_aload_n 1 hX dX7_readForm_12 fz1 rfl ?_
  refine J_aload_n 0 hX dX7_readForm_13 fz0 rfl ?_
  refine J_iconst hX dX7_readForm_14 ci_1 ?_
  refine J_iconst hX dX7_readForm_15 ci_3 ?_
  refine J_callVI (As := [.int (1 : Int32), .int (3 : Int32)]) (st := [.ref (AD Y v1)]) (b := 53) hX mv_X7_103 sk_53 rfl rfl rfl (Nat.le_of_ble_eq_true rfl) (Nat.le_of_ble_eq_true rfl) (Nat.le_of_ble_eq_true rfl) dX7_readForm_16 (fun r G1 h => ok_X7_takeNumber  h) fun r16 G16 => ?_
  refine J_putI hX dX7_readForm_19 lf_X7_112 lpt_3_0 h1 rfl fun G19 => ?_
  refine J_aload_n 0 hX dX7_readForm_22 fz0 rfl ?_
  refine J_ldcS 2 hX dX7_readForm_23 rfl ?_
  refine J_callVV (As := [.ref (yk Y 2)]) (st := []) (b := 53) hX mv_X7_98 sk_53 rfl rfl rfl (Nat.le_of_ble_eq_true rfl) (Nat.le_of_ble_eq_true rfl) (Nat.le_of_ble_eq_true rfl) dX7_readForm_25 (fun G1 h => ok_X7_takeWord (by decide) h) fun G25 => ?_
  refine J_aload_n 1 hX dX7_readForm_28 fz1 rfl ?_
  refine J_aload_n 0 hX dX7_readForm_29 fz0 rfl ?_
  refine J_iconst hX dX7_readForm_30 ci_1 ?_
  refine J_iconst hX dX7_readForm_31 ci_3 ?_
  refine J_callVI (As := [.int (1 : Int32), .int (3 : Int32)]) (st := [.ref (AD Y v1)]) (b := 53) hX mv_X7_103 sk_53 rfl rfl rfl (Nat.le_of_ble_eq_true rfl) (Nat.le_of_ble_eq_true rfl) (Nat.le_of_ble_eq_true rfl) dX7_readForm_32 (fun r G1 h => ok_X7_takeNumber  h) fun r32 G32 => ?_
  refine J_putI hX dX7_readForm_35 lf_X7_118 lpt_3_1 h1 rfl fun G35 => ?_
  refine J_aload_n 0 hX dX7_readForm_38 fz0 rfl ?_
  refine J_ldcS 3 hX dX7_readForm_39 rfl ?_
  refine J_callVV (As := [.ref (yk Y 3)]) (st := []) (b := 53) hX mv_X7_98 sk_53 rfl rfl rfl (Nat.le_of_ble_eq_true rfl) (Nat.le_of_ble_eq_true rfl) (Nat.le_of_ble_eq_true rfl) dX7_readForm_41 (fun G1 h => ok_X7_takeWord (by decide) h) fun G41 => ?_
  refine J_aload_n 1 hX dX7_readForm_44 fz1 rfl ?_
  refine J_aload_n 0 hX dX7_readForm_45 fz0 rfl ?_
  refine J_iconst hX dX7_readForm_46 ci_1 ?_
  refine J_iconst hX dX7_readForm_47 ci_5 ?_
  refine J_callVI (As := [.int (1 : Int32), .int (5 : Int32)]) (st := [.ref (AD Y v1)]) (b := 53) hX mv_X7_103 sk_53 rfl rfl rfl (Nat.le_of_ble_eq_true rfl) (Nat.le_of_ble_eq_true rfl) (Nat.le_of_ble_eq_true rfl) dX7_readForm_48 (fun r G1 h => ok_X7_takeNumber  h) fun r48 G48 => ?_
  refine J_putI hX dX7_readForm_51 lf_X7_122 lpt_3_2 h1 rfl fun G51 => ?_
  refine J_aload_n 0 hX dX7_readForm_54 fz0 rfl ?_
  refine J_ldcS 4 hX dX7_readForm_55 rfl ?_
  refine J_callVV (As := [.ref (yk Y 4)]) (st := []) (b := 53) hX mv_X7_98 sk_53 rfl rfl rfl (Nat.le_of_ble_eq_true rfl) (Nat.le_of_ble_eq_true rfl) (Nat.le_of_ble_eq_true rfl) dX7_readForm_57 (fun G1 h => ok_X7_takeWord (by decide) h) fun G57 => ?_
  refine J_aload_n 0 hX dX7_readForm_60 fz0 rfl ?_
  refine J_aload_n 1 hX dX7_readForm_61 fz1 rfl ?_
  refine J_callVV (As := [.ref (AD Y v1)]) (st := []) (b := 53) hX mv_X7_126 sk_53 rfl rfl rfl (Nat.le_of_ble_eq_true rfl) (Nat.le_of_ble_eq_true rfl) (Nat.le_of_ble_eq_true rfl) dX7_readForm_62 (fun G1 h => ok_X7_readColumns h1 h) fun G62 => ?_
  refine J_aload_n 0 hX dX7_readForm_65 fz0 rfl ?_
  refine J_getI hX dX7_readForm_66 lf_X7_45 sk_53 rfl ?_
  refine J_if_ne (tgt := 96) hX dX7_readForm_69 rfl ?_ ?_
  · exact J_retV hR dX7_readForm_96
  · refine J_aload_n 0 hX dX7_readForm_72 fz0 rfl ?_
    refine J_getI hX dX7_readForm_73 lf_X7_33 sk_53 rfl ?_
    refine J_iconst hX dX7_readForm_76 ci_3 ?_
    refine J_icmp_ne (tgt := 96) hX dX7_readForm_77 rfl ?_ ?_
    · exact J_retV hR dX7_readForm_96
    · refine J_aload_n 1 hX dX7_readForm_80 fz1 rfl ?_
      refine J_callVV (As := []) (st := []) (b := v1) hX mv_X7_129 h1 rfl rfl rfl (Nat.le_of_ble_eq_true rfl) (Nat.le_of_ble_eq_true rfl) (Nat.le_of_ble_eq_true rfl) dX7_readForm_81 (fun G1 h => ok_X4_settle h1 h) fun G81 => ?_
      refine J_aload_n 1 hX dX7_readForm_84 fz1 rfl ?_
      refine J_callVI (As := []) (st := []) (b := v1) hX mv_X7_132 h1 rfl rfl rfl (Nat.le_of_ble_eq_true rfl) (Nat.le_of_ble_eq_true rfl) (Nat.le_of_ble_eq_true rfl) dX7_readForm_85 (fun r G1 h => ok_X4_isAsSaid h1 h) fun r85 G85 => ?_
      refine J_if_ne (tgt := 96) hX dX7_readForm_88 rfl ?_ ?_
      · exact J_retV hR dX7_readForm_96
      · refine J_aload_n 0 hX dX7_readForm_91 fz0 rfl ?_
        refine J_iconst hX dX7_readForm_92 ci_2 ?_
        refine J_callVV (As := [.int (2 : Int32)]) (st := []) (b := 53) hX mv_X7_68 sk_53 rfl rfl rfl (Nat.le_of_ble_eq_true rfl) (Nat.le_of_ble_eq_true rfl) (Nat.le_of_ble_eq_true rfl) dX7_readForm_93 (fun G1 h => ok_X7_fail  h) fun G93 => ?_
        exact J_retV hR dX7_readForm_96
set_option maxHeartbeats 4000000 in
set_option maxRecDepth 100000 in
theorem ok_X7_readJackpot {Y : DX} {v1 : Nat} (h1 : SHk v1 = 4) {G : GM} {G' : GM} (hf : f_X7_readJackpot v1 G = some G') : OkV Y 23 M_X7_readJackpot [.ref (AD Y 53), .ref (AD Y v1)] G G' := by
  refine okV_of (lv0 := [(0, .ref (AD Y 53)), (1, .ref (AD Y v1))]) (by decide +kernel) rfl (Nat.le_of_ble_eq_true rfl) ?_
  intro X Q hX hR
  have hX : CXok X Y RX7 cX7_readJackpot 2 _ := hX
  revert hf
  show J X Y 2 Q 0 [(0, .ref (AD Y 53)), (1, .ref (AD Y v1))] [] G (f_X7_readJackpot v1 G = some G')
  unfold f_X7_readJackpot
  refine J_aload_n 0 hX dX7_readJackpot_0 fz0 rfl ?_
  refine J_ldcS 9 hX dX7_readJackpot_1 rfl ?_
  refine J_callVV (As := [.ref (yk Y 9)]) (st := []) (b := 53) hX mv_X7_98 sk_53 rfl rfl rfl (Nat.le_of_ble_eq_true rfl) (Nat.le_of_ble_eq_true rfl) (Nat.le_of_ble_eq_true rfl) dX7_readJackpot_3 (fun G1 h => ok_X7_takeWord (by decide) h) fun G3 => ?_
  refine J_aload_n 1 hX dX7_readJackpot_6 fz1 rfl ?_
  refine J_aload_n 0 hX dX7_readJackpot_7 fz0 rfl ?_
  refine J_iconst hX dX7_readJackpot_8 ci_0 ?_
  refine J_sipush hX dX7_readJackpot_9 cs_9999 ?_
  refine J_callVI (As := [.int (0 : Int32), .int (9999 : Int32)]) (st := [.ref (AD Y v1)]) (b := 53) hX mv_X7_103 sk_53 rfl rfl rfl (Nat.le_of_ble_eq_true rfl) (Nat.le_of_ble_eq_true rfl) (Nat.le_of_ble_eq_true rfl) dX7_readJackpot_12 (fun r G1 h => ok_X7_takeNumber  h) fun r12 G12 => ?_
  refine J_putI hX dX7_readJackpot_15 lf_X7_154 lpt_4_3 h1 rfl fun G15 => ?_
  refine J_aload_n 0 hX dX7_readJackpot_18 fz0 rfl ?_
  refine J_ldcS 10 hX dX7_readJackpot_19 rfl ?_
  refine J_callVV (As := [.ref (yk Y 10)]) (st := []) (b := 53) hX mv_X7_98 sk_53 rfl rfl rfl (Nat.le_of_ble_eq_true rfl) (Nat.le_of_ble_eq_true rfl) (Nat.le_of_ble_eq_true rfl) dX7_readJackpot_21 (fun G1 h => ok_X7_takeWord (by decide) h) fun G21 => ?_
  refine J_aload_n 1 hX dX7_readJackpot_24 fz1 rfl ?_
  refine J_aload_n 0 hX dX7_readJackpot_25 fz0 rfl ?_
  refine J_iconst hX dX7_readJackpot_26 ci_1 ?_
  refine J_aload_n 1 hX dX7_readJackpot_27 fz1 rfl ?_
  refine J_getR (b := (v1 + 1)) hX dX7_readJackpot_28 lf_X7_72 h1 rfl (by decide) rfl ?_
  refine J_getI hX dX7_readJackpot_31 lf_X7_159 (tp_4_0 h1) rfl ?_
  refine J_callVI (As := [.int (1 : Int32), .int (gI G21 (v1 + 1) 6)]) (st := [.ref (AD Y v1)]) (b := 53) hX mv_X7_103 sk_53 rfl rfl rfl (Nat.le_of_ble_eq_true rfl) (Nat.le_of_ble_eq_true rfl) (Nat.le_of_ble_eq_true rfl) dX7_readJackpot_34 (fun r G1 h => ok_X7_takeNumber  h) fun r34 G34 => ?_
  refine J_putI hX dX7_readJackpot_37 lf_X7_162 lpt_4_4 h1 rfl fun G37 => ?_
  exact J_retV hR dX7_readJackpot_40
set_option maxHeartbeats 4000000 in
set_option maxRecDepth 100000 in
theorem ok_X7_readPrize {Y : DX} {v1 : Nat} (h1 : SHk v1 = 4) {G : GM} {G' : GM} (hf : f_X7_readPrize v1 G = some G') : OkV Y 23 M_X7_readPrize [.ref (AD Y 53), .ref (AD Y v1)] G G' := by
  refine okV_of (lv0 := [(0, .ref (AD Y 53)), (1, .ref (AD Y v1))]) (by decide +kernel) rfl (Nat.le_of_ble_eq_true rfl) ?_
  intro X Q hX hR
  have hX : CXok X Y RX7 cX7_readPrize 3 _ := hX
  revert hf
  show J X Y 3 Q 0 [(0, .ref (AD Y 53)), (1, .ref (AD Y v1))] [] G (f_X7_readPrize v1 G = some G')
  have K50 : ∀ (v2 : Int32) (G : GM), J X Y 3 Q 50 [(0, .ref (AD Y 53)), (1, .ref (AD Y v1)), (2, .int v2)] [] G (k_X7_readPrize_50 v1 v2 G = some G') := by
    intro v2 G
    unfold k_X7_readPrize_50
    refine J_aload_n 0 hX dX7_readPrize_50 fz0 rfl ?_
    refine J_callVV (As := []) (st := []) (b := 53) hX mv_X7_56 sk_53 rfl rfl rfl (Nat.le_of_ble_eq_true rfl) (Nat.le_of_ble_eq_true rfl) (Nat.le_of_ble_eq_true rfl) dX7_readPrize_51 (fun G1 h => ok_X7_takeToken  h) fun G51 => ?_
    refine J_aload_n 1 hX dX7_readPrize_54 fz1 rfl ?_
    refine J_getR (b := (v1 + 9)) hX dX7_readPrize_55 lf_X7_151 h1 rfl (by decide) rfl ?_
    refine J_iload_n 2 hX dX7_readPrize_58 fz2 rfl ?_
    refine J_aload_n 0 hX dX7_readPrize_59 fz0 rfl ?_
    refine J_iconst hX dX7_readPrize_60 ci_0 ?_
    refine J_sipush hX dX7_readPrize_61 cs_9999 ?_
    refine J_callVI (As := [.int (0 : Int32), .int (9999 : Int32)]) (st := [.int v2, .ref (AD Y (v1 + 9))]) (b := 53) hX mv_X7_103 sk_53 rfl rfl rfl (Nat.le_of_ble_eq_true rfl) (Nat.le_of_ble_eq_true rfl) (Nat.le_of_ble_eq_true rfl) dX7_readPrize_64 (fun r G1 h => ok_X7_takeNumber  h) fun r64 G64 => ?_
    refine J_iast hX dX7_readPrize_67 (tp_4_2 h1) (tl_4_2 h1) fun G67 => ?_
    exact J_retV hR dX7_readPrize_68
  unfold f_X7_readPrize
  refine J_aload_n 0 hX dX7_readPrize_0 fz0 rfl ?_
  refine J_ldcS 5 hX dX7_readPrize_1 rfl ?_
  refine J_callVV (As := [.ref (yk Y 5)]) (st := []) (b := 53) hX mv_X7_98 sk_53 rfl rfl rfl (Nat.le_of_ble_eq_true rfl) (Nat.le_of_ble_eq_true rfl) (Nat.le_of_ble_eq_true rfl) dX7_readPrize_3 (fun G1 h => ok_X7_takeWord (by decide) h) fun G3 => ?_
  refine J_iconst hX dX7_readPrize_6 ci_0 ?_
  refine J_istore_n (lv' := [(2, .int (0 : Int32)), (0, .ref (AD Y 53)), (1, .ref (AD Y v1))]) hX dX7_readPrize_7 fz2 (Nat.le_of_ble_eq_true rfl) rfl ?_
  refine J_aload_n 1 hX dX7_readPrize_8 fz0 rfl ?_
  refine J_ldcS 6 hX dX7_readPrize_9 rfl ?_
  refine J_callVI (As := [.ref (yk Y 6)]) (st := []) (b := 53) hX mv_X7_61 sk_53 rfl rfl rfl (Nat.le_of_ble_eq_true rfl) (Nat.le_of_ble_eq_true rfl) (Nat.le_of_ble_eq_true rfl) dX7_readPrize_11 (fun r G1 h => ok_X7_isWord (by decide) h) fun r11 G11 => ?_
  refine J_if_eq (tgt := 22) hX dX7_readPrize_14 rfl ?_ ?_
  · refine J_aload_n 1 hX dX7_readPrize_22 fz0 rfl ?_
    refine J_ldcS 7 hX dX7_readPrize_23 rfl ?_
    refine J_callVI (As := [.ref (yk Y 7)]) (st := []) (b := 53) hX mv_X7_61 sk_53 rfl rfl rfl (Nat.le_of_ble_eq_true rfl) (Nat.le_of_ble_eq_true rfl) (Nat.le_of_ble_eq_true rfl) dX7_readPrize_25 (fun r G1 h => ok_X7_isWord (by decide) h) fun r25 G25 => ?_
    refine J_if_eq (tgt := 36) hX dX7_readPrize_28 rfl ?_ ?_
    · refine J_aload_n 1 hX dX7_readPrize_36 fz0 rfl ?_
      refine J_ldcS 8 hX dX7_readPrize_37 rfl ?_
      refine J_callVI (As := [.ref (yk Y 8)]) (st := []) (b := 53) hX mv_X7_61 sk_53 rfl rfl rfl (Nat.le_of_ble_eq_true rfl) (Nat.le_of_ble_eq_true rfl) (Nat.le_of_ble_eq_true rfl) dX7_readPrize_39 (fun r G1 h => ok_X7_isWord (by decide) h) fun r39 G39 => ?_
      refine J_if_ne (tgt := 50) hX dX7_readPrize_42 rfl ?_ ?_
      · refine J_sub (lv' := [(0, .ref (AD Y 53)), (1, .ref (AD Y v1)), (2, .int (0 : Int32))]) [1, 2, 0] rfl ?_
        exact K50 (0 : Int32) G39
      · refine J_aload_n 1 hX dX7_readPrize_45 fz0 rfl ?_
        refine J_iconst hX dX7_readPrize_46 ci_1 ?_
        refine J_callVV (As := [.int (1 : Int32)]) (st := []) (b := 53) hX mv_X7_68 sk_53 rfl rfl rfl (Nat.le_of_ble_eq_true rfl) (Nat.le_of_ble_eq_true rfl) (Nat.le_of_ble_eq_true rfl) dX7_readPrize_47 (fun G1 h => ok_X7_fail  h) fun G47 => ?_
        refine J_sub (lv' := [(0, .ref (AD Y 53)), (1, .ref (AD Y v1)), (2, .int (0 : Int32))]) [1, 2, 0] rfl ?_
        exact K50 (0 : Int32) G47
    · refine J_iconst hX dX7_readPrize_31 ci_2 ?_
      refine J_istore_n (lv' := [(2, .int (2 : Int32)), (0, .ref (AD Y 53)), (1, .ref (AD Y v1))]) hX dX7_readPrize_32 fz2 (Nat.le_of_ble_eq_true rfl) rfl ?_
      refine J_goto (tgt := 50) hX dX7_readPrize_33 rfl ?_
      refine J_sub (lv' := [(0, .ref (AD Y 53)), (1, .ref (AD Y v1)), (2, .int (2 : Int32))]) [1, 2, 0] rfl ?_
      exact K50 (2 : Int32) G25
  · refine J_iconst hX dX7_readPrize_17 ci_1 ?_
    refine J_istore_n (lv' := [(2, .int (1 : Int32)), (0, .ref (AD Y 53)), (1, .ref (AD Y v1))]) hX dX7_readPrize_18 fz2 (Nat.le_of_ble_eq_true rfl) rfl ?_
    refine J_goto (tgt := 50) hX dX7_readPrize_19 rfl ?_
    refine J_sub (lv' := [(0, .ref (AD Y 53)), (1, .ref (AD Y v1)), (2, .int (1 : Int32))]) [1, 2, 0] rfl ?_
    exact K50 (1 : Int32) G11
set_option maxHeartbeats 4000000 in
set_option maxRecDepth 100000 in
theorem ok_X4_placeOf {Y : DX} {v0 : Nat} {v1 : Int32} {v2 : Int32} {v3 : Int32} (h0 : SHk v0 = 3) {G : GM} {r : Int32} {G' : GM} (hf : f_X4_placeOf v0 v1 v2 v3 G = some (r, G')) : OkI Y 1 M_X4_placeOf [.ref (AD Y v0), .int v1, .int v2, .int v3] G r G' := by
  refine okI_of (lv0 := [(0, .ref (AD Y v0)), (1, .int v1), (2, .int v2), (3, .int v3)]) (by decide +kernel) rfl (Nat.le_of_ble_eq_true rfl) ?_
  intro X Q hX hR
  have hX : CXok X Y RX4 cX4_placeOf 5 _ := hX
  revert hf
  show J X Y 5 Q 0 [(0, .ref (AD Y v0)), (1, .int v1), (2, .int v2), (3, .int v3)] [] G (f_X4_placeOf v0 v1 v2 v3 G = some (r, G'))
  unfold f_X4_placeOf
  refine J_iload_n 1 hX dX4_placeOf_0 fz1 rfl ?_
  refine J_aload_n 0 hX dX4_placeOf_1 fz0 rfl ?_
  refine J_getI hX dX4_placeOf_2 lf_X4_15 h0 rfl ?_
  refine J_imul hX dX4_placeOf_5 ?_
  refine J_iload_n 2 hX dX4_placeOf_6 fz2 rfl ?_
  refine J_iadd hX dX4_placeOf_7 ?_
  refine J_aload_n 0 hX dX4_placeOf_8 fz0 rfl ?_
  refine J_getI hX dX4_placeOf_9 lf_X4_21 h0 rfl ?_
  refine J_imul hX dX4_placeOf_12 ?_
  refine J_iload_n 3 hX dX4_placeOf_13 fz3 rfl ?_
  refine J_iadd hX dX4_placeOf_14 ?_
  refine J_lt (mk := Value.int) fun x15 => ?_
  refine J_istore (lv' := [(4, .int x15), (0, .ref (AD Y v0)), (1, .int v1), (2, .int v2), (3, .int v3)]) hX dX4_placeOf_15 (Nat.le_of_ble_eq_true rfl) rfl ?_
  refine J_iload 0 hX dX4_placeOf_17 rfl ?_
  refine J_if_lt (tgt := 29) hX dX4_placeOf_19 rfl ?_ ?_
  · refine J_iconst hX dX4_placeOf_29 ci_0 ?_
    refine J_goto (tgt := 35) hX dX4_placeOf_30 rfl ?_
    exact J_retI hR dX4_placeOf_35
  · refine J_iload 0 hX dX4_placeOf_22 rfl ?_
    refine J_bipush hX dX4_placeOf_24 cb_45 ?_
    refine J_icmp_lt (tgt := 33) hX dX4_placeOf_26 rfl ?_ ?_
    · refine J_iload 0 hX dX4_placeOf_33 rfl ?_
      exact J_retI hR dX4_placeOf_35
    · refine J_iconst hX dX4_placeOf_29 ci_0 ?_
      refine J_goto (tgt := 35) hX dX4_placeOf_30 rfl ?_
      exact J_retI hR dX4_placeOf_35
set_option maxHeartbeats 4000000 in
set_option maxRecDepth 100000 in
theorem ok_X6_digit {Y : DX} {v0 : Int32} {v1 : Int32}  {G : GM} {r : Int32} {G' : GM} (hf : f_X6_digit v0 v1 G = some (r, G')) : OkI Y 1 M_X6_digit [.int v0, .int v1] G r G' := by
  refine okI_of (lv0 := [(0, .int v0), (1, .int v1)]) (by decide +kernel) rfl (Nat.le_of_ble_eq_true rfl) ?_
  intro X Q hX hR
  have hX : CXok X Y RX6 cX6_digit 2 _ := hX
  revert hf
  show J X Y 2 Q 0 [(0, .int v0), (1, .int v1)] [] G (f_X6_digit v0 v1 G = some (r, G'))
  unfold f_X6_digit
  refine J_iload_n 1 hX dX6_digit_0 fz1 rfl ?_
  refine J_if_lt (tgt := 9) hX dX6_digit_1 rfl ?_ ?_
  · refine J_iconst hX dX6_digit_9 ci_0 ?_
    refine J_goto (tgt := 23) hX dX6_digit_10 rfl ?_
    exact J_retI hR dX6_digit_23
  · refine J_iload_n 1 hX dX6_digit_4 fz1 rfl ?_
    refine J_iconst hX dX6_digit_5 ci_5 ?_
    refine J_icmp_lt (tgt := 13) hX dX6_digit_6 rfl ?_ ?_
    · refine J_iload_n 0 hX dX6_digit_13 fz0 rfl ?_
      refine J_iconst hX dX6_digit_14 ci_5 ?_
      refine J_iconst hX dX6_digit_15 ci_4 ?_
      refine J_iload_n 1 hX dX6_digit_16 fz1 rfl ?_
      refine J_isub hX dX6_digit_17 ?_
      refine J_imul hX dX6_digit_18 ?_
      refine J_ishr hX dX6_digit_19 ?_
      refine J_bipush hX dX6_digit_20 cb_31 ?_
      refine J_iand hX dX6_digit_22 ?_
      exact J_retI hR dX6_digit_23
    · refine J_iconst hX dX6_digit_9 ci_0 ?_
      refine J_goto (tgt := 23) hX dX6_digit_10 rfl ?_
      exact J_retI hR dX6_digit_23
set_option maxHeartbeats 4000000 in
set_option maxRecDepth 100000 in
theorem ok_X2_layDown {Y : DX} {v0 : Nat} {v1 : Nat} {v2 : Int32} {v3 : Int32} {v4 : Nat} (h0 : SHk v0 = 1) (h1 : SHk v1 = 3) (h4 : SHk v4 = 10) {G : GM} {G' : GM} (hf : f_X2_layDown v0 v1 v2 v3 v4 G = some G') : OkV Y 2 M_X2_layDown [.ref (AD Y v0), .ref (AD Y v1), .int v2, .int v3, .ref (AD Y v4)] G G' := by
  refine okV_of (lv0 := [(0, .ref (AD Y v0)), (1, .ref (AD Y v1)), (2, .int v2), (3, .int v3), (4, .ref (AD Y v4))]) (by decide +kernel) rfl (Nat.le_of_ble_eq_true rfl) ?_
  intro X Q hX hR
  have hX : CXok X Y RX2 cX2_layDown 7 _ := hX
  revert hf
  show J X Y 7 Q 0 [(0, .ref (AD Y v0)), (1, .ref (AD Y v1)), (2, .int v2), (3, .int v3), (4, .ref (AD Y v4))] [] G (f_X2_layDown v0 v1 v2 v3 v4 G = some G')
  have K6 : ∀  (n : Nat) (v5 : Int32) (v6 : Int32) (G : GM), J X Y 7 Q 6 [(0, .ref (AD Y v0)), (1, .ref (AD Y v1)), (2, .int v2), (3, .int v3), (4, .ref (AD Y v4)), (5, .int v5), (6, .int v6)] [] G (wl2 n (lp_X2_layDown_6 v0 v1 v2 v3 v4) v5 v6 G = some G') := by
    refine wl2_ind (R := fun v5 v6 G φ => J X Y 7 Q 6 [(0, .ref (AD Y v0)), (1, .ref (AD Y v1)), (2, .int v2), (3, .int v3), (4, .ref (AD Y v4)), (5, .int v5), (6, .int v6)] [] G φ) (fun _ _ G φ h => J_no h) ?_
    intro kc6 hk6 v5 v6 G
    unfold lp_X2_layDown_6
    refine J_iload 6 hX dX2_layDown_6 rfl ?_
    refine J_aload_n 1 hX dX2_layDown_8 fz1 rfl ?_
    refine J_getI hX dX2_layDown_9 lf_X2_72 h1 rfl ?_
    refine J_icmp_ge (tgt := 70) hX dX2_layDown_12 rfl ?_ ?_
    · exact J_retV hR dX2_layDown_70
    · refine J_aload_n 0 hX dX2_layDown_15 fz0 rfl ?_
      refine J_getR (b := (v0 + 3)) hX dX2_layDown_16 lf_X2_22 h0 rfl (by decide) rfl ?_
      refine J_iload_n 2 hX dX2_layDown_19 fz2 rfl ?_
      refine J_aload_n 1 hX dX2_layDown_20 fz1 rfl ?_
      refine J_getI hX dX2_layDown_21 lf_X2_72 h1 rfl ?_
      refine J_imul hX dX2_layDown_24 ?_
      refine J_iload 6 hX dX2_layDown_25 rfl ?_
      refine J_iadd hX dX2_layDown_27 ?_
      refine J_iald hX dX2_layDown_28 (tp_1_2 h0) (tl_1_2 h0) ?_
      refine J_iload_n 3 hX dX2_layDown_29 fz3 rfl ?_
      refine J_callSI (As := [.int (gI G (v0 + 3) ((v2 * (gI G v1 1)) + v6).toNatClampNeg), .int v3]) (st := []) hX ms_X2_49 rfl rfl (Nat.le_of_ble_eq_true rfl) (Nat.le_of_ble_eq_true rfl) (Nat.le_of_ble_eq_true rfl) dX2_layDown_30 (fun r G1 h => ok_X6_digit  h) fun r30 G30 => ?_
      refine J_iconst hX dX2_layDown_33 ci_1 ?_
      refine J_icmp_ne (tgt := 64) hX dX2_layDown_34 rfl ?_ ?_
      · refine J_iinc (lv' := [(6, .int (v6 + (1 : Int32))), (0, .ref (AD Y v0)), (1, .ref (AD Y v1)), (2, .int v2), (3, .int v3), (4, .ref (AD Y v4)), (5, .int v5)]) 6 hX dX2_layDown_64 rfl ci_1 (Nat.le_of_ble_eq_true rfl) rfl ?_
        refine J_goto (tgt := 6) hX dX2_layDown_67 rfl ?_
        refine J_sub (lv' := [(0, .ref (AD Y v0)), (1, .ref (AD Y v1)), (2, .int v2), (3, .int v3), (4, .ref (AD Y v4)), (5, .int v5), (6, .int (v6 + (1 : Int32)))]) [1, 2, 3, 4, 5, 6, 0] rfl ?_
        exact hk6 v5 (v6 + (1 : Int32)) G30
      · refine J_iload 5 hX dX2_layDown_37 rfl ?_
        refine J_iconst hX dX2_layDown_39 ci_3 ?_
        refine J_icmp_ge (tgt := 64) hX dX2_layDown_40 rfl ?_ ?_
        · refine J_iinc (lv' := [(6, .int (v6 + (1 : Int32))), (0, .ref (AD Y v0)), (1, .ref (AD Y v1)), (2, .int v2), (3, .int v3), (4, .ref (AD Y v4)), (5, .int v5)]) 6 hX dX2_layDown_64 rfl ci_1 (Nat.le_of_ble_eq_true rfl) rfl ?_
          refine J_goto (tgt := 6) hX dX2_layDown_67 rfl ?_
          refine J_sub (lv' := [(0, .ref (AD Y v0)), (1, .ref (AD Y v1)), (2, .int v2), (3, .int v3), (4, .ref (AD Y v4)), (5, .int v5), (6, .int (v6 + (1 : Int32)))]) [1, 2, 3, 4, 5, 6, 0] rfl ?_
          exact hk6 v5 (v6 + (1 : Int32)) G30
        · refine J_aload 4 hX dX2_layDown_43 rfl ?_
          refine J_aload_n 1 hX dX2_layDown_45 fz1 rfl ?_
          refine J_iload_n 2 hX dX2_layDown_46 fz2 rfl ?_
          refine J_iload 6 hX dX2_layDown_47 rfl ?_
          refine J_iload_n 3 hX dX2_layDown_49 fz3 rfl ?_
          refine J_callVI (As := [.int v2, .int v6, .int v3]) (st := [.ref (AD Y v4)]) (b := v1) hX mv_X2_106 h1 rfl rfl rfl (Nat.le_of_ble_eq_true rfl) (Nat.le_of_ble_eq_true rfl) (Nat.le_of_ble_eq_true rfl) dX2_layDown_50 (fun r G1 h => ok_X4_placeOf h1 h) fun r50 G50 => ?_
          refine J_aload_n 0 hX dX2_layDown_53 fz0 rfl ?_
          refine J_getR (b := (v0 + 5)) hX dX2_layDown_54 lf_X2_28 h0 rfl (by decide) rfl ?_
          refine J_iload 5 hX dX2_layDown_57 rfl ?_
          refine J_iald hX dX2_layDown_59 (tp_1_4 h0) (tl_1_4 h0) ?_
          refine J_iast hX dX2_layDown_60 h4 rfl fun G60 => ?_
          refine J_iinc (lv' := [(5, .int (v5 + (1 : Int32))), (0, .ref (AD Y v0)), (1, .ref (AD Y v1)), (2, .int v2), (3, .int v3), (4, .ref (AD Y v4)), (6, .int v6)]) 5 hX dX2_layDown_61 rfl ci_1 (Nat.le_of_ble_eq_true rfl) rfl ?_
          refine J_iinc (lv' := [(6, .int (v6 + (1 : Int32))), (5, .int (v5 + (1 : Int32))), (0, .ref (AD Y v0)), (1, .ref (AD Y v1)), (2, .int v2), (3, .int v3), (4, .ref (AD Y v4))]) 6 hX dX2_layDown_64 rfl ci_1 (Nat.le_of_ble_eq_true rfl) rfl ?_
          refine J_goto (tgt := 6) hX dX2_layDown_67 rfl ?_
          refine J_sub (lv' := [(0, .ref (AD Y v0)), (1, .ref (AD Y v1)), (2, .int v2), (3, .int v3), (4, .ref (AD Y v4)), (5, .int (v5 + (1 : Int32))), (6, .int (v6 + (1 : Int32)))]) [2, 3, 4, 5, 6, 1, 0] rfl ?_
          exact hk6 (v5 + (1 : Int32)) (v6 + (1 : Int32)) G60
  unfold f_X2_layDown
  refine J_iconst hX dX2_layDown_0 ci_0 ?_
  refine J_istore (lv' := [(5, .int (0 : Int32)), (0, .ref (AD Y v0)), (1, .ref (AD Y v1)), (2, .int v2), (3, .int v3), (4, .ref (AD Y v4))]) hX dX2_layDown_1 (Nat.le_of_ble_eq_true rfl) rfl ?_
  refine J_iconst hX dX2_layDown_3 ci_0 ?_
  refine J_istore (lv' := [(6, .int (0 : Int32)), (5, .int (0 : Int32)), (0, .ref (AD Y v0)), (1, .ref (AD Y v1)), (2, .int v2), (3, .int v3), (4, .ref (AD Y v4))]) hX dX2_layDown_4 (Nat.le_of_ble_eq_true rfl) rfl ?_
  refine J_sub (lv' := [(0, .ref (AD Y v0)), (1, .ref (AD Y v1)), (2, .int v2), (3, .int v3), (4, .ref (AD Y v4)), (5, .int (0 : Int32)), (6, .int (0 : Int32))]) [2, 3, 4, 5, 6, 1, 0] rfl ?_
  exact K6  FU (0 : Int32) (0 : Int32) G
set_option maxHeartbeats 4000000 in
set_option maxRecDepth 100000 in
theorem ok_X9_sortRising {Y : DX} {v0 : Nat} {v1 : Int32} (h0 : SHk v0 = 10) {G : GM} {G' : GM} (hf : f_X9_sortRising v0 v1 G = some G') : OkV Y 1 M_X9_sortRising [.ref (AD Y v0), .int v1] G G' := by
  refine okV_of (lv0 := [(0, .ref (AD Y v0)), (1, .int v1)]) (by decide +kernel) rfl (Nat.le_of_ble_eq_true rfl) ?_
  intro X Q hX hR
  have hX : CXok X Y RX9 cX9_sortRising 5 _ := hX
  revert hf
  show J X Y 5 Q 0 [(0, .ref (AD Y v0)), (1, .int v1)] [] G (f_X9_sortRising v0 v1 G = some G')
  have K2 : ∀  (n : Nat) (v2 : Int32) (G : GM), J X Y 5 Q 2 [(0, .ref (AD Y v0)), (1, .int v1), (2, .int v2)] [] G (wl1 n (lp_X9_sortRising_2 v0 v1) v2 G = some G') := by
    refine wl1_ind (R := fun v2 G φ => J X Y 5 Q 2 [(0, .ref (AD Y v0)), (1, .int v1), (2, .int v2)] [] G φ) (fun _ G φ h => J_no h) ?_
    intro kc2 hk2 v2 G
    unfold lp_X9_sortRising_2
    have K51 : ∀ (v2 : Int32) (v3 : Int32) (v4 : Int32) (G : GM), J X Y 5 Q 51 [(0, .ref (AD Y v0)), (1, .int v1), (2, .int v2), (3, .int v3), (4, .int v4)] [] G (k_X9_sortRising_51 v0 v1 v2 v3 v4 kc2 G = some G') := by
      intro v2 v3 v4 G
      unfold k_X9_sortRising_51
      refine J_aload_n 0 hX dX9_sortRising_51 fz0 rfl ?_
      refine J_iload 4 hX dX9_sortRising_52 rfl ?_
      refine J_iload_n 3 hX dX9_sortRising_54 fz3 rfl ?_
      refine J_iast hX dX9_sortRising_55 h0 rfl fun G55 => ?_
      refine J_iinc (lv' := [(2, .int (v2 + (1 : Int32))), (0, .ref (AD Y v0)), (1, .int v1), (3, .int v3), (4, .int v4)]) 2 hX dX9_sortRising_56 rfl ci_1 (Nat.le_of_ble_eq_true rfl) rfl ?_
      refine J_goto (tgt := 2) hX dX9_sortRising_59 rfl ?_
      refine J_sub (lv' := [(0, .ref (AD Y v0)), (1, .int v1), (2, .int (v2 + (1 : Int32)))]) [1, 2, 0] rfl ?_
      exact hk2 (v2 + (1 : Int32)) G55
    have K20 : ∀ (v2 : Int32) (v3 : Int32) (n : Nat) (v4 : Int32) (G : GM), J X Y 5 Q 20 [(0, .ref (AD Y v0)), (1, .int v1), (2, .int v2), (3, .int v3), (4, .int v4)] [] G (wl1 n (lp_X9_sortRising_20 v0 v1 v2 v3 kc2) v4 G = some G') := by
      intro v2 v3
      refine wl1_ind (R := fun v4 G φ => J X Y 5 Q 20 [(0, .ref (AD Y v0)), (1, .int v1), (2, .int v2), (3, .int v3), (4, .int v4)] [] G φ) (fun _ G φ h => J_no h) ?_
      intro kc20 hk20 v4 G
      unfold lp_X9_sortRising_20
      refine J_iload 4 hX dX9_sortRising_20 rfl ?_
      refine J_if_le (tgt := 51) hX dX9_sortRising_22 rfl ?_ ?_
      · exact K51 v2 v3 v4 G
      · refine J_aload_n 0 hX dX9_sortRising_25 fz0 rfl ?_
        refine J_iload 4 hX dX9_sortRising_26 rfl ?_
        refine J_iconst hX dX9_sortRising_28 ci_1 ?_
        refine J_isub hX dX9_sortRising_29 ?_
        refine J_iald hX dX9_sortRising_30 h0 rfl ?_
        refine J_iload_n 3 hX dX9_sortRising_31 fz3 rfl ?_
        refine J_icmp_le (tgt := 51) hX dX9_sortRising_32 rfl ?_ ?_
        · exact K51 v2 v3 v4 G
        · refine J_aload_n 0 hX dX9_sortRising_35 fz0 rfl ?_
          refine J_iload 4 hX dX9_sortRising_36 rfl ?_
          refine J_aload_n 0 hX dX9_sortRising_38 fz0 rfl ?_
          refine J_iload 4 hX dX9_sortRising_39 rfl ?_
          refine J_iconst hX dX9_sortRising_41 ci_1 ?_
          refine J_isub hX dX9_sortRising_42 ?_
          refine J_iald hX dX9_sortRising_43 h0 rfl ?_
          refine J_iast hX dX9_sortRising_44 h0 rfl fun G44 => ?_
          refine J_iinc (lv' := [(4, .int (v4 + (-1 : Int32))), (0, .ref (AD Y v0)), (1, .int v1), (2, .int v2), (3, .int v3)]) 4 hX dX9_sortRising_45 rfl cim_1 (Nat.le_of_ble_eq_true rfl) rfl ?_
          refine J_goto (tgt := 20) hX dX9_sortRising_48 rfl ?_
          refine J_sub (lv' := [(0, .ref (AD Y v0)), (1, .int v1), (2, .int v2), (3, .int v3), (4, .int (v4 + (-1 : Int32)))]) [1, 2, 3, 4, 0] rfl ?_
          exact hk20 (v4 + (-1 : Int32)) G44
    refine J_iload_n 2 hX dX9_sortRising_2 fz2 rfl ?_
    refine J_iload_n 1 hX dX9_sortRising_3 fz1 rfl ?_
    refine J_icmp_ge (tgt := 62) hX dX9_sortRising_4 rfl ?_ ?_
    · exact J_retV hR dX9_sortRising_62
    · refine J_iload_n 2 hX dX9_sortRising_7 fz2 rfl ?_
      refine J_aload_n 0 hX dX9_sortRising_8 fz0 rfl ?_
      refine J_alen hX dX9_sortRising_9 h0 (by decide) rfl ?_
      refine J_icmp_ge (tgt := 62) hX dX9_sortRising_10 rfl ?_ ?_
      · exact J_retV hR dX9_sortRising_62
      · refine J_aload_n 0 hX dX9_sortRising_13 fz0 rfl ?_
        refine J_iload_n 2 hX dX9_sortRising_14 fz2 rfl ?_
        refine J_iald hX dX9_sortRising_15 h0 rfl ?_
        refine J_lt (mk := Value.int) fun x16 => ?_
        refine J_istore_n (lv' := [(3, .int x16), (0, .ref (AD Y v0)), (1, .int v1), (2, .int v2)]) hX dX9_sortRising_16 fz3 (Nat.le_of_ble_eq_true rfl) rfl ?_
        refine J_iload_n 3 hX dX9_sortRising_17 fz2 rfl ?_
        refine J_istore (lv' := [(4, .int v2), (3, .int x16), (0, .ref (AD Y v0)), (1, .int v1), (2, .int v2)]) hX dX9_sortRising_18 (Nat.le_of_ble_eq_true rfl) rfl ?_
        refine J_sub (lv' := [(0, .ref (AD Y v0)), (1, .int v1), (2, .int v2), (3, .int x16), (4, .int v2)]) [2, 3, 4, 1, 0] rfl ?_
        exact K20 v2 x16 FU v2 G
  unfold f_X9_sortRising
  refine J_iconst hX dX9_sortRising_0 ci_1 ?_
  refine J_istore_n (lv' := [(2, .int (1 : Int32)), (0, .ref (AD Y v0)), (1, .int v1)]) hX dX9_sortRising_1 fz2 (Nat.le_of_ble_eq_true rfl) rfl ?_
  refine J_sub (lv' := [(0, .ref (AD Y v0)), (1, .int v1), (2, .int (1 : Int32))]) [1, 2, 0] rfl ?_
  exact K2  FU (1 : Int32) G
set_option maxHeartbeats 4000000 in
set_option maxRecDepth 100000 in
theorem ok_X2_dealColumn {Y : DX} {v0 : Nat} {v1 : Nat} {v2 : Int32} {v3 : Nat} (h0 : SHk v0 = 1) (h1 : SHk v1 = 3) (h3 : SHk v3 = 10) {G : GM} {G' : GM} (hf : f_X2_dealColumn v0 v1 v2 v3 G = some G') : OkV Y 3 M_X2_dealColumn [.ref (AD Y v0), .ref (AD Y v1), .int v2, .ref (AD Y v3)] G G' := by
  refine okV_of (lv0 := [(0, .ref (AD Y v0)), (1, .ref (AD Y v1)), (2, .int v2), (3, .ref (AD Y v3))]) (by decide +kernel) rfl (Nat.le_of_ble_eq_true rfl) ?_
  intro X Q hX hR
  have hX : CXok X Y RX2 cX2_dealColumn 8 _ := hX
  revert hf
  show J X Y 8 Q 0 [(0, .ref (AD Y v0)), (1, .ref (AD Y v1)), (2, .int v2), (3, .ref (AD Y v3))] [] G (f_X2_dealColumn v0 v1 v2 v3 G = some G')
  have K6 : ∀  (n : Nat) (v4 : Int32) (v5 : Int32) (G : GM), J X Y 8 Q 6 [(0, .ref (AD Y v0)), (1, .ref (AD Y v1)), (2, .int v2), (3, .ref (AD Y v3)), (4, .int v4), (5, .int v5)] [] G (wl2 n (lp_X2_dealColumn_6 v0 v1 v2 v3) v4 v5 G = some G') := by
    refine wl2_ind (R := fun v4 v5 G φ => J X Y 8 Q 6 [(0, .ref (AD Y v0)), (1, .ref (AD Y v1)), (2, .int v2), (3, .ref (AD Y v3)), (4, .int v4), (5, .int v5)] [] G φ) (fun _ _ G φ h => J_no h) ?_
    intro kc6 hk6 v4 v5 G
    unfold lp_X2_dealColumn_6
    have K74 : ∀ (v4 : Int32) (v5 : Int32) (v6 : Int32) (G : GM), J X Y 8 Q 74 [(0, .ref (AD Y v0)), (1, .ref (AD Y v1)), (2, .int v2), (3, .ref (AD Y v3)), (4, .int v4), (5, .int v5), (6, .int v6)] [] G (k_X2_dealColumn_74 v0 v1 v2 v3 v4 v5 v6 kc6 G = some G') := by
      intro v4 v5 v6 G
      unfold k_X2_dealColumn_74
      refine J_aload_n 0 hX dX2_dealColumn_74 fz0 rfl ?_
      refine J_getR (b := (v0 + 5)) hX dX2_dealColumn_75 lf_X2_28 h0 rfl (by decide) rfl ?_
      refine J_iload 6 hX dX2_dealColumn_78 rfl ?_
      refine J_callSV (As := [.ref (AD Y (v0 + 5)), .int v6]) (st := []) hX ms_X2_99 rfl rfl (Nat.le_of_ble_eq_true rfl) (Nat.le_of_ble_eq_true rfl) (Nat.le_of_ble_eq_true rfl) dX2_dealColumn_80 (fun G1 h => ok_X9_sortRising (tp_1_4 h0) h) fun G80 => ?_
      refine J_aload_n 0 hX dX2_dealColumn_83 fz0 rfl ?_
      refine J_aload_n 1 hX dX2_dealColumn_84 fz1 rfl ?_
      refine J_iload 5 hX dX2_dealColumn_85 rfl ?_
      refine J_iload_n 2 hX dX2_dealColumn_87 fz2 rfl ?_
      refine J_aload_n 3 hX dX2_dealColumn_88 fz3 rfl ?_
      refine J_callVV (As := [.ref (AD Y v1), .int v5, .int v2, .ref (AD Y v3)]) (st := []) (b := v0) hX mv_X2_102 h0 rfl rfl rfl (Nat.le_of_ble_eq_true rfl) (Nat.le_of_ble_eq_true rfl) (Nat.le_of_ble_eq_true rfl) dX2_dealColumn_89 (fun G1 h => ok_X2_layDown h0 h1 h3 h) fun G89 => ?_
      refine J_iinc (lv' := [(5, .int (v5 + (1 : Int32))), (0, .ref (AD Y v0)), (1, .ref (AD Y v1)), (2, .int v2), (3, .ref (AD Y v3)), (4, .int v4), (6, .int v6)]) 5 hX dX2_dealColumn_92 rfl ci_1 (Nat.le_of_ble_eq_true rfl) rfl ?_
      refine J_goto (tgt := 6) hX dX2_dealColumn_95 rfl ?_
      refine J_sub (lv' := [(0, .ref (AD Y v0)), (1, .ref (AD Y v1)), (2, .int v2), (3, .ref (AD Y v3)), (4, .int v4), (5, .int (v5 + (1 : Int32)))]) [1, 2, 3, 4, 5, 0] rfl ?_
      exact hk6 v4 (v5 + (1 : Int32)) G89
    have K31 : ∀ (v5 : Int32) (v6 : Int32) (n : Nat) (v4 : Int32) (v7 : Int32) (G : GM), J X Y 8 Q 31 [(0, .ref (AD Y v0)), (1, .ref (AD Y v1)), (2, .int v2), (3, .ref (AD Y v3)), (4, .int v4), (5, .int v5), (6, .int v6), (7, .int v7)] [] G (wl2 n (lp_X2_dealColumn_31 v0 v1 v2 v3 v5 v6 kc6) v4 v7 G = some G') := by
      intro v5 v6
      refine wl2_ind (R := fun v4 v7 G φ => J X Y 8 Q 31 [(0, .ref (AD Y v0)), (1, .ref (AD Y v1)), (2, .int v2), (3, .ref (AD Y v3)), (4, .int v4), (5, .int v5), (6, .int v6), (7, .int v7)] [] G φ) (fun _ _ G φ h => J_no h) ?_
      intro kc31 hk31 v4 v7 G
      unfold lp_X2_dealColumn_31
      refine J_iload 7 hX dX2_dealColumn_31 rfl ?_
      refine J_iload 6 hX dX2_dealColumn_33 rfl ?_
      refine J_icmp_ge (tgt := 74) hX dX2_dealColumn_35 rfl ?_ ?_
      · refine J_sub (lv' := [(0, .ref (AD Y v0)), (1, .ref (AD Y v1)), (2, .int v2), (3, .ref (AD Y v3)), (4, .int v4), (5, .int v5), (6, .int v6)]) [0, 1, 2, 3, 4, 5, 6] rfl ?_
        exact K74 v4 v5 v6 G
      · refine J_iload 7 hX dX2_dealColumn_38 rfl ?_
        refine J_iconst hX dX2_dealColumn_40 ci_3 ?_
        refine J_icmp_ge (tgt := 74) hX dX2_dealColumn_41 rfl ?_ ?_
        · refine J_sub (lv' := [(0, .ref (AD Y v0)), (1, .ref (AD Y v1)), (2, .int v2), (3, .ref (AD Y v3)), (4, .int v4), (5, .int v5), (6, .int v6)]) [0, 1, 2, 3, 4, 5, 6] rfl ?_
          exact K74 v4 v5 v6 G
        · refine J_iload 4 hX dX2_dealColumn_44 rfl ?_
          refine J_bipush hX dX2_dealColumn_46 cb_15 ?_
          refine J_icmp_ge (tgt := 74) hX dX2_dealColumn_48 rfl ?_ ?_
          · refine J_sub (lv' := [(0, .ref (AD Y v0)), (1, .ref (AD Y v1)), (2, .int v2), (3, .ref (AD Y v3)), (4, .int v4), (5, .int v5), (6, .int v6)]) [0, 1, 2, 3, 4, 5, 6] rfl ?_
            exact K74 v4 v5 v6 G
          · refine J_aload_n 0 hX dX2_dealColumn_51 fz0 rfl ?_
            refine J_getR (b := (v0 + 5)) hX dX2_dealColumn_52 lf_X2_28 h0 rfl (by decide) rfl ?_
            refine J_iload 7 hX dX2_dealColumn_55 rfl ?_
            refine J_aload_n 0 hX dX2_dealColumn_57 fz0 rfl ?_
            refine J_getR (b := (v0 + 4)) hX dX2_dealColumn_58 lf_X2_25 h0 rfl (by decide) rfl ?_
            refine J_iload 4 hX dX2_dealColumn_61 rfl ?_
            refine J_iald hX dX2_dealColumn_63 (tp_1_3 h0) (tl_1_3 h0) ?_
            refine J_iast hX dX2_dealColumn_64 (tp_1_4 h0) (tl_1_4 h0) fun G64 => ?_
            refine J_iinc (lv' := [(4, .int (v4 + (1 : Int32))), (0, .ref (AD Y v0)), (1, .ref (AD Y v1)), (2, .int v2), (3, .ref (AD Y v3)), (5, .int v5), (6, .int v6), (7, .int v7)]) 4 hX dX2_dealColumn_65 rfl ci_1 (Nat.le_of_ble_eq_true rfl) rfl ?_
            refine J_iinc (lv' := [(7, .int (v7 + (1 : Int32))), (4, .int (v4 + (1 : Int32))), (0, .ref (AD Y v0)), (1, .ref (AD Y v1)), (2, .int v2), (3, .ref (AD Y v3)), (5, .int v5), (6, .int v6)]) 7 hX dX2_dealColumn_68 rfl ci_1 (Nat.le_of_ble_eq_true rfl) rfl ?_
            refine J_goto (tgt := 31) hX dX2_dealColumn_71 rfl ?_
            refine J_sub (lv' := [(0, .ref (AD Y v0)), (1, .ref (AD Y v1)), (2, .int v2), (3, .ref (AD Y v3)), (4, .int (v4 + (1 : Int32))), (5, .int v5), (6, .int v6), (7, .int (v7 + (1 : Int32)))]) [2, 3, 4, 5, 1, 6, 7, 0] rfl ?_
            exact hk31 (v4 + (1 : Int32)) (v7 + (1 : Int32)) G64
    refine J_iload 5 hX dX2_dealColumn_6 rfl ?_
    refine J_aload_n 1 hX dX2_dealColumn_8 fz1 rfl ?_
    refine J_getI hX dX2_dealColumn_9 lf_X2_65 h1 rfl ?_
    refine J_icmp_ge (tgt := 98) hX dX2_dealColumn_12 rfl ?_ ?_
    · exact J_retV hR dX2_dealColumn_98
    · refine J_aload_n 0 hX dX2_dealColumn_15 fz0 rfl ?_
      refine J_getR (b := (v0 + 2)) hX dX2_dealColumn_16 lf_X2_18 h0 rfl (by decide) rfl ?_
      refine J_iload 5 hX dX2_dealColumn_19 rfl ?_
      refine J_iald hX dX2_dealColumn_21 (tp_1_1 h0) (tl_1_1 h0) ?_
      refine J_iload_n 2 hX dX2_dealColumn_22 fz2 rfl ?_
      refine J_callSI (As := [.int (gI G (v0 + 2) v5.toNatClampNeg), .int v2]) (st := []) hX ms_X2_49 rfl rfl (Nat.le_of_ble_eq_true rfl) (Nat.le_of_ble_eq_true rfl) (Nat.le_of_ble_eq_true rfl) dX2_dealColumn_23 (fun r G1 h => ok_X6_digit  h) fun r23 G23 => ?_
      refine J_istore (lv' := [(6, .int r23), (0, .ref (AD Y v0)), (1, .ref (AD Y v1)), (2, .int v2), (3, .ref (AD Y v3)), (4, .int v4), (5, .int v5)]) hX dX2_dealColumn_26 (Nat.le_of_ble_eq_true rfl) rfl ?_
      refine J_iconst hX dX2_dealColumn_28 ci_0 ?_
      refine J_istore (lv' := [(7, .int (0 : Int32)), (6, .int r23), (0, .ref (AD Y v0)), (1, .ref (AD Y v1)), (2, .int v2), (3, .ref (AD Y v3)), (4, .int v4), (5, .int v5)]) hX dX2_dealColumn_29 (Nat.le_of_ble_eq_true rfl) rfl ?_
      refine J_sub (lv' := [(0, .ref (AD Y v0)), (1, .ref (AD Y v1)), (2, .int v2), (3, .ref (AD Y v3)), (4, .int v4), (5, .int v5), (6, .int r23), (7, .int (0 : Int32))]) [2, 3, 4, 5, 6, 7, 1, 0] rfl ?_
      exact K31 v5 r23 FU v4 (0 : Int32) G23
  unfold f_X2_dealColumn
  refine J_iconst hX dX2_dealColumn_0 ci_0 ?_
  refine J_istore (lv' := [(4, .int (0 : Int32)), (0, .ref (AD Y v0)), (1, .ref (AD Y v1)), (2, .int v2), (3, .ref (AD Y v3))]) hX dX2_dealColumn_1 (Nat.le_of_ble_eq_true rfl) rfl ?_
  refine J_iconst hX dX2_dealColumn_3 ci_0 ?_
  refine J_istore (lv' := [(5, .int (0 : Int32)), (4, .int (0 : Int32)), (0, .ref (AD Y v0)), (1, .ref (AD Y v1)), (2, .int v2), (3, .ref (AD Y v3))]) hX dX2_dealColumn_4 (Nat.le_of_ble_eq_true rfl) rfl ?_
  refine J_sub (lv' := [(0, .ref (AD Y v0)), (1, .ref (AD Y v1)), (2, .int v2), (3, .ref (AD Y v3)), (4, .int (0 : Int32)), (5, .int (0 : Int32))]) [2, 3, 4, 5, 1, 0] rfl ?_
  exact K6  FU (0 : Int32) (0 : Int32) G
set_option maxHeartbeats 4000000 in
set_option maxRecDepth 100000 in
theorem ok_X2_drawnPlan {Y : DX} {v0 : Nat} {v1 : Nat} {v2 : Int32} (h0 : SHk v0 = 1) (h1 : SHk v1 = 3) {G : GM} {r : Int32} {G' : GM} (hf : f_X2_drawnPlan v0 v1 v2 G = some (r, G')) : OkI Y 2 M_X2_drawnPlan [.ref (AD Y v0), .ref (AD Y v1), .int v2] G r G' := by
  refine okI_of (lv0 := [(0, .ref (AD Y v0)), (1, .ref (AD Y v1)), (2, .int v2)]) (by decide +kernel) rfl (Nat.le_of_ble_eq_true rfl) ?_
  intro X Q hX hR
  have hX : CXok X Y RX2 cX2_drawnPlan 3 _ := hX
  revert hf
  show J X Y 3 Q 0 [(0, .ref (AD Y v0)), (1, .ref (AD Y v1)), (2, .int v2)] [] G (f_X2_drawnPlan v0 v1 v2 G = some (r, G'))
  unfold f_X2_drawnPlan
  refine J_aload_n 0 hX dX2_drawnPlan_0 fz0 rfl ?_
  refine J_getR (b := (v0 + 1)) hX dX2_drawnPlan_1 lf_X2_12 h0 rfl (by decide) rfl ?_
  refine J_iload_n 2 hX dX2_drawnPlan_4 fz2 rfl ?_
  refine J_callVV (As := [.int v2]) (st := []) (b := (v0 + 1)) hX mv_X2_31 (tp_1_0 h0) rfl rfl rfl (Nat.le_of_ble_eq_true rfl) (Nat.le_of_ble_eq_true rfl) (Nat.le_of_ble_eq_true rfl) dX2_drawnPlan_5 (fun G1 h => ok_X3_begin (tp_1_0 h0) h) fun G5 => ?_
  refine J_aload_n 0 hX dX2_drawnPlan_8 fz0 rfl ?_
  refine J_getR (b := (v0 + 1)) hX dX2_drawnPlan_9 lf_X2_12 h0 rfl (by decide) rfl ?_
  refine J_aload_n 1 hX dX2_drawnPlan_12 fz1 rfl ?_
  refine J_getI hX dX2_drawnPlan_13 lf_X2_35 h1 rfl ?_
  refine J_callVI (As := [.int (gI G5 v1 8)]) (st := []) (b := (v0 + 1)) hX mv_X2_41 (tp_1_0 h0) rfl rfl rfl (Nat.le_of_ble_eq_true rfl) (Nat.le_of_ble_eq_true rfl) (Nat.le_of_ble_eq_true rfl) dX2_drawnPlan_16 (fun r G1 h => ok_X3_below (tp_1_0 h0) h) fun r16 G16 => ?_
  exact J_retI hR dX2_drawnPlan_19
set_option maxHeartbeats 4000000 in
set_option maxRecDepth 100000 in
theorem ok_X6_pick {Y : DX} {v0 : Nat} {v1 : Int32} {v2 : Int32} {v3 : Int32} {v4 : Nat} {v5 : Int32} (h0 : SHk v0 = 5) (h4 : SHk v4 = 10) {G : GM} {G' : GM} (hf : f_X6_pick v0 v1 v2 v3 v4 v5 G = some G') : OkV Y 7 M_X6_pick [.ref (AD Y v0), .int v1, .int v2, .int v3, .ref (AD Y v4), .int v5] G G' := by
  refine okV_of (lv0 := [(0, .ref (AD Y v0)), (1, .int v1), (2, .int v2), (3, .int v3), (4, .ref (AD Y v4)), (5, .int v5)]) (by decide +kernel) rfl (Nat.le_of_ble_eq_true rfl) ?_
  intro X Q hX hR
  have hX : CXok X Y RX6 cX6_pick 11 _ := hX
  revert hf
  show J X Y 11 Q 0 [(0, .ref (AD Y v0)), (1, .int v1), (2, .int v2), (3, .int v3), (4, .ref (AD Y v4)), (5, .int v5)] [] G (f_X6_pick v0 v1 v2 v3 v4 v5 G = some G')
  have K9 : ∀  (n : Nat) (v6 : Int32) (v7 : Int32) (v8 : Int32) (G : GM), J X Y 11 Q 9 [(0, .ref (AD Y v0)), (1, .int v1), (4, .ref (AD Y v4)), (5, .int v5), (6, .int v6), (7, .int v7), (8, .int v8)] [] G (wl3 n (lp_X6_pick_9 v0 v1 v2 v3 v4 v5) v6 v7 v8 G = some G') := by
    refine wl3_ind (R := fun v6 v7 v8 G φ => J X Y 11 Q 9 [(0, .ref (AD Y v0)), (1, .int v1), (4, .ref (AD Y v4)), (5, .int v5), (6, .int v6), (7, .int v7), (8, .int v8)] [] G φ) (fun _ _ _ G φ h => J_no h) ?_
    intro kc9 hk9 v6 v7 v8 G
    unfold lp_X6_pick_9
    have K29 : ∀ (v6 : Int32) (v8 : Int32) (n : Nat) (v7 : Int32) (v9 : Int32) (G : GM), J X Y 11 Q 29 [(0, .ref (AD Y v0)), (1, .int v1), (4, .ref (AD Y v4)), (5, .int v5), (6, .int v6), (7, .int v7), (8, .int v8), (9, .int v9)] [] G (wl2 n (lp_X6_pick_29 v0 v1 v2 v3 v4 v5 v6 v8 kc9) v7 v9 G = some G') := by
      intro v6 v8
      refine wl2_ind (R := fun v7 v9 G φ => J X Y 11 Q 29 [(0, .ref (AD Y v0)), (1, .int v1), (4, .ref (AD Y v4)), (5, .int v5), (6, .int v6), (7, .int v7), (8, .int v8), (9, .int v9)] [] G φ) (fun _ _ G φ h => J_no h) ?_
      intro kc29 hk29 v7 v9 G
      unfold lp_X6_pick_29
      have K77 : ∀ (v7 : Int32) (v9 : Int32) (s0 : Int32) (G : GM), J X Y 11 Q 77 [(0, .ref (AD Y v0)), (1, .int v1), (4, .ref (AD Y v4)), (5, .int v5), (6, .int v6), (7, .int v7), (8, .int v8), (9, .int v9)] [.int s0] G (k_X6_pick_77 v0 v1 v2 v3 v4 v5 v6 v8 v7 v9 s0 kc9 kc29 G = some G') := by
        intro v7 v9 s0 G
        unfold k_X6_pick_77
        refine J_istore (lv' := [(10, .int s0), (0, .ref (AD Y v0)), (1, .int v1), (4, .ref (AD Y v4)), (5, .int v5), (6, .int v6), (7, .int v7), (8, .int v8), (9, .int v9)]) hX dX6_pick_77 (Nat.le_of_ble_eq_true rfl) rfl ?_
        refine J_iload 6 hX dX6_pick_79 rfl ?_
        refine J_iload 0 hX dX6_pick_81 rfl ?_
        refine J_icmp_ge (tgt := 116) hX dX6_pick_83 rfl ?_ ?_
        · refine J_iload 6 hX dX6_pick_116 rfl ?_
          refine J_iload 0 hX dX6_pick_118 rfl ?_
          refine J_isub hX dX6_pick_120 ?_
          refine J_lt (mk := Value.int) fun x121 => ?_
          refine J_istore (lv' := [(7, .int x121), (10, .int s0), (0, .ref (AD Y v0)), (1, .int v1), (4, .ref (AD Y v4)), (5, .int v5), (6, .int v6), (8, .int v8), (9, .int v9)]) hX dX6_pick_121 (Nat.le_of_ble_eq_true rfl) rfl ?_
          refine J_iinc (lv' := [(9, .int (v9 + (1 : Int32))), (7, .int x121), (10, .int s0), (0, .ref (AD Y v0)), (1, .int v1), (4, .ref (AD Y v4)), (5, .int v5), (6, .int v6), (8, .int v8)]) 8 hX dX6_pick_123 rfl ci_1 (Nat.le_of_ble_eq_true rfl) rfl ?_
          refine J_goto (tgt := 29) hX dX6_pick_126 rfl ?_
          refine J_sub (lv' := [(0, .ref (AD Y v0)), (1, .int v1), (4, .ref (AD Y v4)), (5, .int v5), (6, .int v6), (7, .int x121), (8, .int v8), (9, .int (v9 + (1 : Int32)))]) [3, 4, 5, 6, 7, 1, 8, 0] rfl ?_
          exact hk29 x121 (v9 + (1 : Int32)) G
        · refine J_aload 3 hX dX6_pick_86 rfl ?_
          refine J_iload 4 hX dX6_pick_88 rfl ?_
          refine J_iload 7 hX dX6_pick_90 rfl ?_
          refine J_iadd hX dX6_pick_92 ?_
          refine J_aload_n 1 hX dX6_pick_93 fz0 rfl ?_
          refine J_getR (b := (v0 + 1)) hX dX6_pick_94 lf_X6_11 h0 rfl (by decide) rfl ?_
          refine J_iload 8 hX dX6_pick_97 rfl ?_
          refine J_iald hX dX6_pick_99 (tp_5_0 h0) (tl_5_0 h0) ?_
          refine J_iast hX dX6_pick_100 h4 rfl fun G100 => ?_
          refine J_iload 5 hX dX6_pick_101 rfl ?_
          refine J_aload_n 1 hX dX6_pick_103 fz0 rfl ?_
          refine J_getR (b := (v0 + 1)) hX dX6_pick_104 lf_X6_11 h0 rfl (by decide) rfl ?_
          refine J_iload 8 hX dX6_pick_107 rfl ?_
          refine J_iald hX dX6_pick_109 (tp_5_0 h0) (tl_5_0 h0) ?_
          refine J_isub hX dX6_pick_110 ?_
          refine J_lt (mk := Value.int) fun x111 => ?_
          refine J_istore (lv' := [(6, .int x111), (10, .int s0), (0, .ref (AD Y v0)), (1, .int v1), (4, .ref (AD Y v4)), (5, .int v5), (7, .int v7), (8, .int v8), (9, .int v9)]) hX dX6_pick_111 (Nat.le_of_ble_eq_true rfl) rfl ?_
          refine J_goto (tgt := 129) hX dX6_pick_113 rfl ?_
          refine J_iinc (lv' := [(8, .int (v8 + (1 : Int32))), (6, .int x111), (10, .int s0), (0, .ref (AD Y v0)), (1, .int v1), (4, .ref (AD Y v4)), (5, .int v5), (7, .int v7), (9, .int v9)]) 7 hX dX6_pick_129 rfl ci_1 (Nat.le_of_ble_eq_true rfl) rfl ?_
          refine J_goto (tgt := 9) hX dX6_pick_132 rfl ?_
          refine J_sub (lv' := [(0, .ref (AD Y v0)), (1, .int v1), (4, .ref (AD Y v4)), (5, .int v5), (6, .int x111), (7, .int v7), (8, .int (v8 + (1 : Int32)))]) [3, 4, 5, 6, 1, 7, 0] rfl ?_
          exact hk9 x111 v7 (v8 + (1 : Int32)) G100
      refine J_iload 7 hX dX6_pick_29 rfl ?_
      refine J_aload_n 0 hX dX6_pick_31 fz0 rfl ?_
      refine J_getI hX dX6_pick_32 lf_X6_15 h0 rfl ?_
      refine J_icmp_ge (tgt := 129) hX dX6_pick_35 rfl ?_ ?_
      · refine J_iinc (lv' := [(8, .int (v8 + (1 : Int32))), (0, .ref (AD Y v0)), (1, .int v1), (4, .ref (AD Y v4)), (5, .int v5), (6, .int v6), (7, .int v7), (9, .int v9)]) 6 hX dX6_pick_129 rfl ci_1 (Nat.le_of_ble_eq_true rfl) rfl ?_
        refine J_goto (tgt := 9) hX dX6_pick_132 rfl ?_
        refine J_sub (lv' := [(0, .ref (AD Y v0)), (1, .int v1), (4, .ref (AD Y v4)), (5, .int v5), (6, .int v6), (7, .int v7), (8, .int (v8 + (1 : Int32)))]) [1, 2, 3, 4, 5, 6, 0] rfl ?_
        exact hk9 v6 v7 (v8 + (1 : Int32)) G
      · refine J_iload 4 hX dX6_pick_38 rfl ?_
        refine J_aload_n 0 hX dX6_pick_40 fz0 rfl ?_
        refine J_getR (b := (v0 + 1)) hX dX6_pick_41 lf_X6_11 h0 rfl (by decide) rfl ?_
        refine J_iload 7 hX dX6_pick_44 rfl ?_
        refine J_iald hX dX6_pick_46 (tp_5_0 h0) (tl_5_0 h0) ?_
        refine J_callSI (As := [.int v6, .int (gI G (v0 + 1) v9.toNatClampNeg)]) (st := []) hX ms_X6_48 rfl rfl (Nat.le_of_ble_eq_true rfl) (Nat.le_of_ble_eq_true rfl) (Nat.le_of_ble_eq_true rfl) dX6_pick_47 (fun r G1 h => ok_X6_canTake  h) fun r47 G47 => ?_
        refine J_if_eq (tgt := 76) hX dX6_pick_50 rfl ?_ ?_
        · refine J_iconst hX dX6_pick_76 ci_0 ?_
          exact K77 v7 v9 (0 : Int32) G47
        · refine J_aload_n 0 hX dX6_pick_53 fz0 rfl ?_
          refine J_iload_n 1 hX dX6_pick_54 fz1 rfl ?_
          refine J_iconst hX dX6_pick_55 ci_1 ?_
          refine J_isub hX dX6_pick_56 ?_
          refine J_iload 6 hX dX6_pick_57 rfl ?_
          refine J_isub hX dX6_pick_59 ?_
          refine J_iload 4 hX dX6_pick_60 rfl ?_
          refine J_aload_n 0 hX dX6_pick_62 fz0 rfl ?_
          refine J_getR (b := (v0 + 1)) hX dX6_pick_63 lf_X6_11 h0 rfl (by decide) rfl ?_
          refine J_iload 7 hX dX6_pick_66 rfl ?_
          refine J_iald hX dX6_pick_68 (tp_5_0 h0) (tl_5_0 h0) ?_
          refine J_isub hX dX6_pick_69 ?_
          refine J_callSI (As := [.ref (AD Y v0), .int ((v1 - (1 : Int32)) - v8), .int (v6 - (gI G47 (v0 + 1) v9.toNatClampNeg))]) (st := []) hX ms_X6_52 rfl rfl (Nat.le_of_ble_eq_true rfl) (Nat.le_of_ble_eq_true rfl) (Nat.le_of_ble_eq_true rfl) dX6_pick_70 (fun r G1 h => ok_X6_waysOf 4 h0 h) fun r70 G70 => ?_
          refine J_goto (tgt := 77) hX dX6_pick_73 rfl ?_
          exact K77 v7 v9 r70 G70
    refine J_iload 6 hX dX6_pick_9 rfl ?_
    refine J_iload_n 1 hX dX6_pick_11 fz1 rfl ?_
    refine J_icmp_ge (tgt := 135) hX dX6_pick_12 rfl ?_ ?_
    · exact J_retV hR dX6_pick_135
    · refine J_iload 3 hX dX6_pick_15 rfl ?_
      refine J_iload 6 hX dX6_pick_17 rfl ?_
      refine J_iadd hX dX6_pick_19 ?_
      refine J_aload 2 hX dX6_pick_20 rfl ?_
      refine J_alen hX dX6_pick_22 h4 (by decide) rfl ?_
      refine J_icmp_ge (tgt := 135) hX dX6_pick_23 rfl ?_ ?_
      · exact J_retV hR dX6_pick_135
      · refine J_iconst hX dX6_pick_26 ci_0 ?_
        refine J_istore (lv' := [(9, .int (0 : Int32)), (0, .ref (AD Y v0)), (1, .int v1), (4, .ref (AD Y v4)), (5, .int v5), (6, .int v6), (7, .int v7), (8, .int v8)]) hX dX6_pick_27 (Nat.le_of_ble_eq_true rfl) rfl ?_
        refine J_sub (lv' := [(0, .ref (AD Y v0)), (1, .int v1), (4, .ref (AD Y v4)), (5, .int v5), (6, .int v6), (7, .int v7), (8, .int v8), (9, .int (0 : Int32))]) [1, 2, 3, 4, 5, 6, 7, 0] rfl ?_
        exact K29 v6 v8 FU v7 (0 : Int32) G
  unfold f_X6_pick
  refine J_iload_n 2 hX dX6_pick_0 fz2 rfl ?_
  refine J_istore (lv' := [(6, .int v2), (0, .ref (AD Y v0)), (1, .int v1), (2, .int v2), (3, .int v3), (4, .ref (AD Y v4)), (5, .int v5)]) hX dX6_pick_1 (Nat.le_of_ble_eq_true rfl) rfl ?_
  refine J_iload_n 4 hX dX6_pick_3 fz3 rfl ?_
  refine J_istore (lv' := [(7, .int v3), (6, .int v2), (0, .ref (AD Y v0)), (1, .int v1), (2, .int v2), (3, .int v3), (4, .ref (AD Y v4)), (5, .int v5)]) hX dX6_pick_4 (Nat.le_of_ble_eq_true rfl) rfl ?_
  refine J_iconst hX dX6_pick_6 ci_0 ?_
  refine J_istore (lv' := [(8, .int (0 : Int32)), (7, .int v3), (6, .int v2), (0, .ref (AD Y v0)), (1, .int v1), (2, .int v2), (3, .int v3), (4, .ref (AD Y v4)), (5, .int v5)]) hX dX6_pick_7 (Nat.le_of_ble_eq_true rfl) rfl ?_
  refine J_sub (lv' := [(0, .ref (AD Y v0)), (1, .int v1), (4, .ref (AD Y v4)), (5, .int v5), (6, .int v2), (7, .int v3), (8, .int (0 : Int32))]) [3, 4, 7, 8, 2, 1, 0] rfl ?_
  exact K9  FU v2 v3 (0 : Int32) G
set_option maxHeartbeats 4000000 in
set_option maxRecDepth 100000 in
theorem ok_X4_putPlan {Y : DX} {v0 : Nat} {v1 : Int32} {v2 : Nat} (h0 : SHk v0 = 3) (h2 : SHk v2 = 10) {G : GM} {G' : GM} (hf : f_X4_putPlan v0 v1 v2 G = some G') : OkV Y 8 M_X4_putPlan [.ref (AD Y v0), .int v1, .ref (AD Y v2)] G G' := by
  refine okV_of (lv0 := [(0, .ref (AD Y v0)), (1, .int v1), (2, .ref (AD Y v2))]) (by decide +kernel) rfl (Nat.le_of_ble_eq_true rfl) ?_
  intro X Q hX hR
  have hX : CXok X Y RX4 cX4_putPlan 5 _ := hX
  revert hf
  show J X Y 5 Q 0 [(0, .ref (AD Y v0)), (1, .int v1), (2, .ref (AD Y v2))] [] G (f_X4_putPlan v0 v1 v2 G = some G')
  have K5 : ∀  (n : Nat) (v3 : Int32) (v4 : Int32) (G : GM), J X Y 5 Q 5 [(0, .ref (AD Y v0)), (2, .ref (AD Y v2)), (3, .int v3), (4, .int v4)] [] G (wl2 n (lp_X4_putPlan_5 v0 v1 v2) v3 v4 G = some G') := by
    refine wl2_ind (R := fun v3 v4 G φ => J X Y 5 Q 5 [(0, .ref (AD Y v0)), (2, .ref (AD Y v2)), (3, .int v3), (4, .int v4)] [] G φ) (fun _ _ G φ h => J_no h) ?_
    intro kc5 hk5 v3 v4 G
    unfold lp_X4_putPlan_5
    have K78 : ∀ (v3 : Int32) (v4 : Int32) (G : GM), J X Y 5 Q 78 [(0, .ref (AD Y v0)), (2, .ref (AD Y v2)), (3, .int v3), (4, .int v4)] [] G (k_X4_putPlan_78 v0 v1 v2 v3 v4 kc5 G = some G') := by
      intro v3 v4 G
      unfold k_X4_putPlan_78
      refine J_iload_n 2 hX dX4_putPlan_78 fz3 rfl ?_
      refine J_aload_n 0 hX dX4_putPlan_79 fz0 rfl ?_
      refine J_getR (b := (v0 + 5)) hX dX4_putPlan_80 lf_X4_47 h0 rfl (by decide) rfl ?_
      refine J_iload 3 hX dX4_putPlan_83 rfl ?_
      refine J_iald hX dX4_putPlan_85 (tp_3_10 h0) (tl_3_10 h0) ?_
      refine J_isub hX dX4_putPlan_86 ?_
      refine J_lt (mk := Value.int) fun x87 => ?_
      refine J_istore_n (lv' := [(3, .int x87), (0, .ref (AD Y v0)), (2, .ref (AD Y v2)), (4, .int v4)]) hX dX4_putPlan_87 fz3 (Nat.le_of_ble_eq_true rfl) rfl ?_
      refine J_iinc (lv' := [(4, .int (v4 + (1 : Int32))), (3, .int x87), (0, .ref (AD Y v0)), (2, .ref (AD Y v2))]) 3 hX dX4_putPlan_88 rfl ci_1 (Nat.le_of_ble_eq_true rfl) rfl ?_
      refine J_goto (tgt := 5) hX dX4_putPlan_91 rfl ?_
      refine J_sub (lv' := [(0, .ref (AD Y v0)), (2, .ref (AD Y v2)), (3, .int x87), (4, .int (v4 + (1 : Int32)))]) [2, 3, 1, 0] rfl ?_
      exact hk5 x87 (v4 + (1 : Int32)) G
    refine J_iload 3 hX dX4_putPlan_5 rfl ?_
    refine J_aload_n 0 hX dX4_putPlan_7 fz0 rfl ?_
    refine J_getR (b := (v0 + 3)) hX dX4_putPlan_8 lf_X4_43 h0 rfl (by decide) rfl ?_
    refine J_getI hX dX4_putPlan_11 lf_X4_74 (tp_3_9 h0) rfl ?_
    refine J_icmp_ge (tgt := 94) hX dX4_putPlan_14 rfl ?_ ?_
    · exact J_retV hR dX4_putPlan_94
    · refine J_iload_n 2 hX dX4_putPlan_17 fz3 rfl ?_
      refine J_aload_n 0 hX dX4_putPlan_18 fz0 rfl ?_
      refine J_getR (b := (v0 + 5)) hX dX4_putPlan_19 lf_X4_47 h0 rfl (by decide) rfl ?_
      refine J_iload 3 hX dX4_putPlan_22 rfl ?_
      refine J_iald hX dX4_putPlan_24 (tp_3_10 h0) (tl_3_10 h0) ?_
      refine J_icmp_ge (tgt := 78) hX dX4_putPlan_25 rfl ?_ ?_
      · exact K78 v3 v4 G
      · refine J_aload_n 1 hX dX4_putPlan_28 fz2 rfl ?_
        refine J_alen hX dX4_putPlan_29 h2 (by decide) rfl ?_
        refine J_if_le (tgt := 78) hX dX4_putPlan_30 rfl ?_ ?_
        · exact K78 v3 v4 G
        · refine J_aload_n 1 hX dX4_putPlan_33 fz2 rfl ?_
          refine J_iconst hX dX4_putPlan_34 ci_0 ?_
          refine J_aload_n 0 hX dX4_putPlan_35 fz0 rfl ?_
          refine J_getR (b := (v0 + 3)) hX dX4_putPlan_36 lf_X4_43 h0 rfl (by decide) rfl ?_
          refine J_getR (b := (v0 + 4)) hX dX4_putPlan_39 lf_X4_77 (tp_3_9 h0) rfl (by decide) rfl ?_
          refine J_iload 3 hX dX4_putPlan_42 rfl ?_
          refine J_iald hX dX4_putPlan_44 (tp_5_0 (tp_3_9 h0)) (tl_5_0 (tp_3_9 h0)) ?_
          refine J_iast hX dX4_putPlan_45 h2 rfl fun G45 => ?_
          refine J_aload_n 0 hX dX4_putPlan_46 fz0 rfl ?_
          refine J_getR (b := (v0 + 3)) hX dX4_putPlan_47 lf_X4_43 h0 rfl (by decide) rfl ?_
          refine J_aload_n 0 hX dX4_putPlan_50 fz0 rfl ?_
          refine J_getI hX dX4_putPlan_51 lf_X4_9 h0 rfl ?_
          refine J_iconst hX dX4_putPlan_54 ci_1 ?_
          refine J_isub hX dX4_putPlan_55 ?_
          refine J_aload_n 0 hX dX4_putPlan_56 fz0 rfl ?_
          refine J_getI hX dX4_putPlan_57 lf_X4_34 h0 rfl ?_
          refine J_aload_n 0 hX dX4_putPlan_60 fz0 rfl ?_
          refine J_getR (b := (v0 + 3)) hX dX4_putPlan_61 lf_X4_43 h0 rfl (by decide) rfl ?_
          refine J_getR (b := (v0 + 4)) hX dX4_putPlan_64 lf_X4_77 (tp_3_9 h0) rfl (by decide) rfl ?_
          refine J_iload 3 hX dX4_putPlan_67 rfl ?_
          refine J_iald hX dX4_putPlan_69 (tp_5_0 (tp_3_9 h0)) (tl_5_0 (tp_3_9 h0)) ?_
          refine J_isub hX dX4_putPlan_70 ?_
          refine J_iload_n 2 hX dX4_putPlan_71 fz3 rfl ?_
          refine J_aload_n 1 hX dX4_putPlan_72 fz2 rfl ?_
          refine J_iconst hX dX4_putPlan_73 ci_1 ?_
          refine J_callVV (As := [.int ((gI G45 v0 0) - (1 : Int32)), .int ((gI G45 v0 7) - (gI G45 (v0 + 4) v4.toNatClampNeg)), .int v3, .ref (AD Y v2), .int (1 : Int32)]) (st := []) (b := (v0 + 3)) hX mv_X4_88 (tp_3_9 h0) rfl rfl rfl (Nat.le_of_ble_eq_true rfl) (Nat.le_of_ble_eq_true rfl) (Nat.le_of_ble_eq_true rfl) dX4_putPlan_74 (fun G1 h => ok_X6_pick (tp_3_9 h0) h2 h) fun G74 => ?_
          exact J_retV hR dX4_putPlan_77
  unfold f_X4_putPlan
  refine J_iload_n 1 hX dX4_putPlan_0 fz1 rfl ?_
  refine J_istore_n (lv' := [(3, .int v1), (0, .ref (AD Y v0)), (1, .int v1), (2, .ref (AD Y v2))]) hX dX4_putPlan_1 fz3 (Nat.le_of_ble_eq_true rfl) rfl ?_
  refine J_iconst hX dX4_putPlan_2 ci_0 ?_
  refine J_istore (lv' := [(4, .int (0 : Int32)), (3, .int v1), (0, .ref (AD Y v0)), (1, .int v1), (2, .ref (AD Y v2))]) hX dX4_putPlan_3 (Nat.le_of_ble_eq_true rfl) rfl ?_
  refine J_sub (lv' := [(0, .ref (AD Y v0)), (2, .ref (AD Y v2)), (3, .int v1), (4, .int (0 : Int32))]) [2, 4, 1, 0] rfl ?_
  exact K5  FU v1 (0 : Int32) G
set_option maxHeartbeats 4000000 in
set_option maxRecDepth 100000 in
theorem ok_X2_deal {Y : DX} {v0 : Nat} {v1 : Nat} {v2 : Int32} {v3 : Nat} (h0 : SHk v0 = 1) (h1 : SHk v1 = 3) (h3 : SHk v3 = 10) {G : GM} {G' : GM} (hf : f_X2_deal v0 v1 v2 v3 G = some G') : OkV Y 9 M_X2_deal [.ref (AD Y v0), .ref (AD Y v1), .int v2, .ref (AD Y v3)] G G' := by
  refine okV_of (lv0 := [(0, .ref (AD Y v0)), (1, .ref (AD Y v1)), (2, .int v2), (3, .ref (AD Y v3))]) (by decide +kernel) rfl (Nat.le_of_ble_eq_true rfl) ?_
  intro X Q hX hR
  have hX : CXok X Y RX2 cX2_deal 7 _ := hX
  revert hf
  show J X Y 7 Q 0 [(0, .ref (AD Y v0)), (1, .ref (AD Y v1)), (2, .int v2), (3, .ref (AD Y v3))] [] G (f_X2_deal v0 v1 v2 v3 G = some G')
  have K98 : ∀  (n : Nat) (v4 : Int32) (G : GM), J X Y 7 Q 98 [(0, .ref (AD Y v0)), (1, .ref (AD Y v1)), (3, .ref (AD Y v3)), (4, .int v4)] [] G (wl1 n (lp_X2_deal_98 v0 v1 v2 v3) v4 G = some G') := by
    refine wl1_ind (R := fun v4 G φ => J X Y 7 Q 98 [(0, .ref (AD Y v0)), (1, .ref (AD Y v1)), (3, .ref (AD Y v3)), (4, .int v4)] [] G φ) (fun _ G φ h => J_no h) ?_
    intro kc98 hk98 v4 G
    unfold lp_X2_deal_98
    have K156 : ∀ (v4 : Int32) (v5 : Int32) (G : GM), J X Y 7 Q 156 [(0, .ref (AD Y v0)), (1, .ref (AD Y v1)), (3, .ref (AD Y v3)), (4, .int v4), (5, .int v5)] [] G (k_X2_deal_156 v0 v1 v2 v3 v4 v5 kc98 G = some G') := by
      intro v4 v5 G
      unfold k_X2_deal_156
      refine J_aload_n 0 hX dX2_deal_156 fz0 rfl ?_
      refine J_getR (b := (v0 + 1)) hX dX2_deal_157 lf_X2_12 h0 rfl (by decide) rfl ?_
      refine J_aload_n 0 hX dX2_deal_160 fz0 rfl ?_
      refine J_getR (b := (v0 + 4)) hX dX2_deal_161 lf_X2_25 h0 rfl (by decide) rfl ?_
      refine J_iload 4 hX dX2_deal_164 rfl ?_
      refine J_callVV (As := [.ref (AD Y (v0 + 4)), .int v5]) (st := []) (b := (v0 + 1)) hX mv_X2_92 (tp_1_0 h0) rfl rfl rfl (Nat.le_of_ble_eq_true rfl) (Nat.le_of_ble_eq_true rfl) (Nat.le_of_ble_eq_true rfl) dX2_deal_166 (fun G1 h => ok_X3_mix (tp_1_0 h0) (tp_1_3 h0) h) fun G166 => ?_
      refine J_aload_n 0 hX dX2_deal_169 fz0 rfl ?_
      refine J_aload_n 1 hX dX2_deal_170 fz1 rfl ?_
      refine J_iload 3 hX dX2_deal_171 rfl ?_
      refine J_aload_n 2 hX dX2_deal_173 fz3 rfl ?_
      refine J_callVV (As := [.ref (AD Y v1), .int v4, .ref (AD Y v3)]) (st := []) (b := v0) hX mv_X2_95 h0 rfl rfl rfl (Nat.le_of_ble_eq_true rfl) (Nat.le_of_ble_eq_true rfl) (Nat.le_of_ble_eq_true rfl) dX2_deal_174 (fun G1 h => ok_X2_dealColumn h0 h1 h3 h) fun G174 => ?_
      refine J_iinc (lv' := [(4, .int (v4 + (1 : Int32))), (0, .ref (AD Y v0)), (1, .ref (AD Y v1)), (3, .ref (AD Y v3)), (5, .int v5)]) 3 hX dX2_deal_177 rfl ci_1 (Nat.le_of_ble_eq_true rfl) rfl ?_
      refine J_goto (tgt := 98) hX dX2_deal_180 rfl ?_
      refine J_sub (lv' := [(0, .ref (AD Y v0)), (1, .ref (AD Y v1)), (3, .ref (AD Y v3)), (4, .int (v4 + (1 : Int32)))]) [1, 2, 3, 0] rfl ?_
      exact hk98 (v4 + (1 : Int32)) G174
    have K119 : ∀ (v4 : Int32) (v5 : Int32) (n : Nat) (v6 : Int32) (G : GM), J X Y 7 Q 119 [(0, .ref (AD Y v0)), (1, .ref (AD Y v1)), (3, .ref (AD Y v3)), (4, .int v4), (5, .int v5), (6, .int v6)] [] G (wl1 n (lp_X2_deal_119 v0 v1 v2 v3 v4 v5 kc98) v6 G = some G') := by
      intro v4 v5
      refine wl1_ind (R := fun v6 G φ => J X Y 7 Q 119 [(0, .ref (AD Y v0)), (1, .ref (AD Y v1)), (3, .ref (AD Y v3)), (4, .int v4), (5, .int v5), (6, .int v6)] [] G φ) (fun _ G φ h => J_no h) ?_
      intro kc119 hk119 v6 G
      unfold lp_X2_deal_119
      refine J_iload 5 hX dX2_deal_119 rfl ?_
      refine J_iload 4 hX dX2_deal_121 rfl ?_
      refine J_icmp_ge (tgt := 156) hX dX2_deal_123 rfl ?_ ?_
      · refine J_sub (lv' := [(0, .ref (AD Y v0)), (1, .ref (AD Y v1)), (3, .ref (AD Y v3)), (4, .int v4), (5, .int v5)]) [0, 1, 2, 3, 4] rfl ?_
        exact K156 v4 v5 G
      · refine J_iload 5 hX dX2_deal_126 rfl ?_
        refine J_bipush hX dX2_deal_128 cb_15 ?_
        refine J_icmp_ge (tgt := 156) hX dX2_deal_130 rfl ?_ ?_
        · refine J_sub (lv' := [(0, .ref (AD Y v0)), (1, .ref (AD Y v1)), (3, .ref (AD Y v3)), (4, .int v4), (5, .int v5)]) [0, 1, 2, 3, 4] rfl ?_
          exact K156 v4 v5 G
        · refine J_aload_n 0 hX dX2_deal_133 fz0 rfl ?_
          refine J_getR (b := (v0 + 4)) hX dX2_deal_134 lf_X2_25 h0 rfl (by decide) rfl ?_
          refine J_iload 5 hX dX2_deal_137 rfl ?_
          refine J_aload_n 1 hX dX2_deal_139 fz1 rfl ?_
          refine J_getR (b := (v1 + 2)) hX dX2_deal_140 lf_X2_89 h1 rfl (by decide) rfl ?_
          refine J_iload 3 hX dX2_deal_143 rfl ?_
          refine J_iald hX dX2_deal_145 (tp_3_5 h1) (tl_3_5 h1) ?_
          refine J_iload 5 hX dX2_deal_146 rfl ?_
          refine J_iadd hX dX2_deal_148 ?_
          refine J_iast hX dX2_deal_149 (tp_1_3 h0) (tl_1_3 h0) fun G149 => ?_
          refine J_iinc (lv' := [(6, .int (v6 + (1 : Int32))), (0, .ref (AD Y v0)), (1, .ref (AD Y v1)), (3, .ref (AD Y v3)), (4, .int v4), (5, .int v5)]) 5 hX dX2_deal_150 rfl ci_1 (Nat.le_of_ble_eq_true rfl) rfl ?_
          refine J_goto (tgt := 119) hX dX2_deal_153 rfl ?_
          refine J_sub (lv' := [(0, .ref (AD Y v0)), (1, .ref (AD Y v1)), (3, .ref (AD Y v3)), (4, .int v4), (5, .int v5), (6, .int (v6 + (1 : Int32)))]) [1, 2, 3, 4, 5, 0] rfl ?_
          exact hk119 (v6 + (1 : Int32)) G149
    refine J_iload 3 hX dX2_deal_98 rfl ?_
    refine J_aload_n 1 hX dX2_deal_100 fz1 rfl ?_
    refine J_getI hX dX2_deal_101 lf_X2_83 h1 rfl ?_
    refine J_icmp_ge (tgt := 183) hX dX2_deal_104 rfl ?_ ?_
    · exact J_retV hR dX2_deal_183
    · refine J_aload_n 1 hX dX2_deal_107 fz1 rfl ?_
      refine J_getR (b := (v1 + 1)) hX dX2_deal_108 lf_X2_86 h1 rfl (by decide) rfl ?_
      refine J_iload 3 hX dX2_deal_111 rfl ?_
      refine J_iald hX dX2_deal_113 (tp_3_4 h1) (tl_3_4 h1) ?_
      refine J_lt (mk := Value.int) fun x114 => ?_
      refine J_istore (lv' := [(5, .int x114), (0, .ref (AD Y v0)), (1, .ref (AD Y v1)), (3, .ref (AD Y v3)), (4, .int v4)]) hX dX2_deal_114 (Nat.le_of_ble_eq_true rfl) rfl ?_
      refine J_iconst hX dX2_deal_116 ci_0 ?_
      refine J_istore (lv' := [(6, .int (0 : Int32)), (5, .int x114), (0, .ref (AD Y v0)), (1, .ref (AD Y v1)), (3, .ref (AD Y v3)), (4, .int v4)]) hX dX2_deal_117 (Nat.le_of_ble_eq_true rfl) rfl ?_
      refine J_sub (lv' := [(0, .ref (AD Y v0)), (1, .ref (AD Y v1)), (3, .ref (AD Y v3)), (4, .int v4), (5, .int x114), (6, .int (0 : Int32))]) [2, 3, 4, 5, 1, 0] rfl ?_
      exact K119 v4 x114 FU (0 : Int32) G
  have K22 : ∀  (n : Nat) (v4 : Int32) (G : GM), J X Y 7 Q 22 [(0, .ref (AD Y v0)), (1, .ref (AD Y v1)), (3, .ref (AD Y v3)), (4, .int v4)] [] G (wl1 n (lp_X2_deal_22 v0 v1 v2 v3) v4 G = some G') := by
    refine wl1_ind (R := fun v4 G φ => J X Y 7 Q 22 [(0, .ref (AD Y v0)), (1, .ref (AD Y v1)), (3, .ref (AD Y v3)), (4, .int v4)] [] G φ) (fun _ G φ h => J_no h) ?_
    intro kc22 hk22 v4 G
    unfold lp_X2_deal_22
    refine J_iload 3 hX dX2_deal_22 rfl ?_
    refine J_aload_n 1 hX dX2_deal_24 fz1 rfl ?_
    refine J_getI hX dX2_deal_25 lf_X2_65 h1 rfl ?_
    refine J_icmp_ge (tgt := 95) hX dX2_deal_28 rfl ?_ ?_
    · refine J_iconst hX dX2_deal_95 ci_0 ?_
      refine J_istore (lv' := [(4, .int (0 : Int32)), (0, .ref (AD Y v0)), (1, .ref (AD Y v1)), (3, .ref (AD Y v3))]) hX dX2_deal_96 (Nat.le_of_ble_eq_true rfl) rfl ?_
      refine J_sub (lv' := [(0, .ref (AD Y v0)), (1, .ref (AD Y v1)), (3, .ref (AD Y v3)), (4, .int (0 : Int32))]) [1, 2, 3, 0] rfl ?_
      exact K98  FU (0 : Int32) G
    · refine J_aload_n 1 hX dX2_deal_31 fz1 rfl ?_
      refine J_getR (b := (v1 + 6)) hX dX2_deal_32 lf_X2_68 h1 rfl (by decide) rfl ?_
      refine J_aload_n 1 hX dX2_deal_35 fz1 rfl ?_
      refine J_getI hX dX2_deal_36 lf_X2_72 h1 rfl ?_
      refine J_aload_n 0 hX dX2_deal_39 fz0 rfl ?_
      refine J_getR (b := (v0 + 2)) hX dX2_deal_40 lf_X2_18 h0 rfl (by decide) rfl ?_
      refine J_iload 3 hX dX2_deal_43 rfl ?_
      refine J_iald hX dX2_deal_45 (tp_1_1 h0) (tl_1_1 h0) ?_
      refine J_callSI (As := [.ref (AD Y (v1 + 6)), .int (gI G v1 1), .int (gI G (v0 + 2) v4.toNatClampNeg)]) (st := []) hX ms_X2_75 rfl rfl (Nat.le_of_ble_eq_true rfl) (Nat.le_of_ble_eq_true rfl) (Nat.le_of_ble_eq_true rfl) dX2_deal_46 (fun r G1 h => ok_X6_waysOf 4 (tp_3_11 h1) h) fun r46 G46 => ?_
      refine J_istore (lv' := [(5, .int r46), (0, .ref (AD Y v0)), (1, .ref (AD Y v1)), (3, .ref (AD Y v3)), (4, .int v4)]) hX dX2_deal_49 (Nat.le_of_ble_eq_true rfl) rfl ?_
      refine J_aload_n 2 hX dX2_deal_51 fz1 rfl ?_
      refine J_getR (b := (v1 + 6)) hX dX2_deal_52 lf_X2_68 h1 rfl (by decide) rfl ?_
      refine J_aload_n 2 hX dX2_deal_55 fz1 rfl ?_
      refine J_getI hX dX2_deal_56 lf_X2_72 h1 rfl ?_
      refine J_aload_n 1 hX dX2_deal_59 fz0 rfl ?_
      refine J_getR (b := (v0 + 2)) hX dX2_deal_60 lf_X2_18 h0 rfl (by decide) rfl ?_
      refine J_iload 4 hX dX2_deal_63 rfl ?_
      refine J_iald hX dX2_deal_65 (tp_1_1 h0) (tl_1_1 h0) ?_
      refine J_aload_n 1 hX dX2_deal_66 fz0 rfl ?_
      refine J_getR (b := (v0 + 1)) hX dX2_deal_67 lf_X2_12 h0 rfl (by decide) rfl ?_
      refine J_iload 0 hX dX2_deal_70 rfl ?_
      refine J_callVI (As := [.int r46]) (st := [.int (gI G46 (v0 + 2) v4.toNatClampNeg), .int (gI G46 v1 1), .ref (AD Y (v1 + 6))]) (b := (v0 + 1)) hX mv_X2_41 (tp_1_0 h0) rfl rfl rfl (Nat.le_of_ble_eq_true rfl) (Nat.le_of_ble_eq_true rfl) (Nat.le_of_ble_eq_true rfl) dX2_deal_72 (fun r G1 h => ok_X3_below (tp_1_0 h0) h) fun r72 G72 => ?_
      refine J_aload_n 1 hX dX2_deal_75 fz0 rfl ?_
      refine J_getR (b := (v0 + 3)) hX dX2_deal_76 lf_X2_22 h0 rfl (by decide) rfl ?_
      refine J_iload 4 hX dX2_deal_79 rfl ?_
      refine J_aload_n 2 hX dX2_deal_81 fz1 rfl ?_
      refine J_getI hX dX2_deal_82 lf_X2_72 h1 rfl ?_
      refine J_imul hX dX2_deal_85 ?_
      refine J_callVV (As := [.int (gI G46 v1 1), .int (gI G46 (v0 + 2) v4.toNatClampNeg), .int r72, .ref (AD Y (v0 + 3)), .int (v4 * (gI G72 v1 1))]) (st := []) (b := (v1 + 6)) hX mv_X2_79 (tp_3_11 h1) rfl rfl rfl (Nat.le_of_ble_eq_true rfl) (Nat.le_of_ble_eq_true rfl) (Nat.le_of_ble_eq_true rfl) dX2_deal_86 (fun G1 h => ok_X6_pick (tp_3_11 h1) (tp_1_2 h0) h) fun G86 => ?_
      refine J_iinc (lv' := [(4, .int (v4 + (1 : Int32))), (5, .int r46), (0, .ref (AD Y v0)), (1, .ref (AD Y v1)), (3, .ref (AD Y v3))]) 4 hX dX2_deal_89 rfl ci_1 (Nat.le_of_ble_eq_true rfl) rfl ?_
      refine J_goto (tgt := 22) hX dX2_deal_92 rfl ?_
      refine J_sub (lv' := [(0, .ref (AD Y v0)), (1, .ref (AD Y v1)), (3, .ref (AD Y v3)), (4, .int (v4 + (1 : Int32)))]) [2, 3, 4, 0] rfl ?_
      exact hk22 (v4 + (1 : Int32)) G86
  unfold f_X2_deal
  refine J_aload_n 3 hX dX2_deal_0 fz3 rfl ?_
  refine J_iconst hX dX2_deal_1 ci_0 ?_
  refine J_callSV (As := [.ref (AD Y v3), .int (0 : Int32)]) (st := []) hX ms_X2_55 rfl rfl (Nat.le_of_ble_eq_true rfl) (Nat.le_of_ble_eq_true rfl) (Nat.le_of_ble_eq_true rfl) dX2_deal_2 (fun G1 h => ok_J7_fill_53178 h3 h) fun G2 => ?_
  refine J_aload_n 1 hX dX2_deal_5 fz1 rfl ?_
  refine J_aload_n 0 hX dX2_deal_6 fz0 rfl ?_
  refine J_aload_n 1 hX dX2_deal_7 fz1 rfl ?_
  refine J_iload_n 2 hX dX2_deal_8 fz2 rfl ?_
  refine J_callVI (As := [.ref (AD Y v1), .int v2]) (st := [.ref (AD Y v1)]) (b := v0) hX mv_X2_61 h0 rfl rfl rfl (Nat.le_of_ble_eq_true rfl) (Nat.le_of_ble_eq_true rfl) (Nat.le_of_ble_eq_true rfl) dX2_deal_9 (fun r G1 h => ok_X2_drawnPlan h0 h1 h) fun r9 G9 => ?_
  refine J_aload_n 0 hX dX2_deal_12 fz0 rfl ?_
  refine J_getR (b := (v0 + 2)) hX dX2_deal_13 lf_X2_18 h0 rfl (by decide) rfl ?_
  refine J_callVV (As := [.int r9, .ref (AD Y (v0 + 2))]) (st := []) (b := v1) hX mv_X2_45 h1 rfl rfl rfl (Nat.le_of_ble_eq_true rfl) (Nat.le_of_ble_eq_true rfl) (Nat.le_of_ble_eq_true rfl) dX2_deal_16 (fun G1 h => ok_X4_putPlan h1 (tp_1_1 h0) h) fun G16 => ?_
  refine J_iconst hX dX2_deal_19 ci_0 ?_
  refine J_istore (lv' := [(4, .int (0 : Int32)), (0, .ref (AD Y v0)), (1, .ref (AD Y v1)), (2, .int v2), (3, .ref (AD Y v3))]) hX dX2_deal_20 (Nat.le_of_ble_eq_true rfl) rfl ?_
  refine J_sub (lv' := [(0, .ref (AD Y v0)), (1, .ref (AD Y v1)), (3, .ref (AD Y v3)), (4, .int (0 : Int32))]) [1, 2, 4, 0] rfl ?_
  exact K22  FU (0 : Int32) G16
set_option maxHeartbeats 4000000 in
set_option maxRecDepth 100000 in
theorem ok_X5_addSold {Y : DX} {v0 : Nat} {v1 : Int32} {v2 : Nat} (h0 : SHk v0 = 4) (h2 : SHk v2 = 10) {G : GM} {G' : GM} (hf : f_X5_addSold v0 v1 v2 G = some G') : OkV Y 2 M_X5_addSold [.ref (AD Y v0), .int v1, .ref (AD Y v2)] G G' := by
  refine okV_of (lv0 := [(0, .ref (AD Y v0)), (1, .int v1), (2, .ref (AD Y v2))]) (by decide +kernel) rfl (Nat.le_of_ble_eq_true rfl) ?_
  intro X Q hX hR
  have hX : CXok X Y RX5 cX5_addSold 3 _ := hX
  revert hf
  show J X Y 3 Q 0 [(0, .ref (AD Y v0)), (1, .int v1), (2, .ref (AD Y v2))] [] G (f_X5_addSold v0 v1 v2 G = some G')
  unfold f_X5_addSold
  refine J_aload_n 0 hX dX5_addSold_0 fz0 rfl ?_
  refine J_getI hX dX5_addSold_1 lf_X5_32 h0 rfl ?_
  refine J_bipush hX dX5_addSold_4 cb_8 ?_
  refine J_icmp_ge (tgt := 46) hX dX5_addSold_6 rfl ?_ ?_
  · exact J_retV hR dX5_addSold_46
  · refine J_aload_n 0 hX dX5_addSold_9 fz0 rfl ?_
    refine J_getR (b := (v0 + 10)) hX dX5_addSold_10 lf_X5_35 h0 rfl (by decide) rfl ?_
    refine J_aload_n 0 hX dX5_addSold_13 fz0 rfl ?_
    refine J_getI hX dX5_addSold_14 lf_X5_32 h0 rfl ?_
    refine J_iload_n 1 hX dX5_addSold_17 fz1 rfl ?_
    refine J_iast hX dX5_addSold_18 (tp_4_6 h0) (tl_4_6 h0) fun G18 => ?_
    refine J_aload_n 2 hX dX5_addSold_19 fz2 rfl ?_
    refine J_iconst hX dX5_addSold_20 ci_0 ?_
    refine J_aload_n 0 hX dX5_addSold_21 fz0 rfl ?_
    refine J_getR (b := (v0 + 11)) hX dX5_addSold_22 lf_X5_40 h0 rfl (by decide) rfl ?_
    refine J_aload_n 0 hX dX5_addSold_25 fz0 rfl ?_
    refine J_getI hX dX5_addSold_26 lf_X5_32 h0 rfl ?_
    refine J_aald (b := (v0 + 12 + (gI G18 v0 5).toNatClampNeg)) hX dX5_addSold_29 (tp_4_7 h0) (by decide) (tl_4_7 h0) (p0_14 (tp_4_7 h0)) fun hi29 => ?_
    refine J_iconst hX dX5_addSold_30 ci_0 ?_
    refine J_bipush hX dX5_addSold_31 cb_45 ?_
    refine J_cpI hX dX5_addSold_33 la_X5_62 (Nat.le_of_ble_eq_true rfl) (Nat.le_of_ble_eq_true rfl) h2 (st_el h0 hi29).1 rfl (st_el h0 hi29).2 fun G33 => ?_
    refine J_aload_n 0 hX dX5_addSold_36 fz0 rfl ?_
    refine J_dup hX dX5_addSold_37 rfl ?_
    refine J_getI hX dX5_addSold_38 lf_X5_32 h0 rfl ?_
    refine J_iconst hX dX5_addSold_41 ci_1 ?_
    refine J_iadd hX dX5_addSold_42 ?_
    refine J_putI hX dX5_addSold_43 lf_X5_32 lpt_4_5 h0 rfl fun G43 => ?_
    exact J_retV hR dX5_addSold_46
set_option maxHeartbeats 4000000 in
set_option maxRecDepth 100000 in
theorem ok_X9_areSame {Y : DX} {v0 : Nat} {v1 : Nat} (h0 : SHk v0 = 10) (h1 : SHk v1 = 10) {G : GM} {r : Int32} {G' : GM} (hf : f_X9_areSame v0 v1 G = some (r, G')) : OkI Y 1 M_X9_areSame [.ref (AD Y v0), .ref (AD Y v1)] G r G' := by
  refine okZ_of (lv0 := [(0, .ref (AD Y v0)), (1, .ref (AD Y v1))]) (by decide +kernel) rfl (Nat.le_of_ble_eq_true rfl) ?_
  intro X Q hX hR
  have hX : CXok X Y RX9 cX9_areSame 3 _ := hX
  revert hf
  show J X Y 3 Q 0 [(0, .ref (AD Y v0)), (1, .ref (AD Y v1))] [] G (f_X9_areSame v0 v1 G = some (r, G'))
  have K2 : ∀  (n : Nat) (v2 : Int32) (G : GM), J X Y 3 Q 2 [(0, .ref (AD Y v0)), (1, .ref (AD Y v1)), (2, .int v2)] [] G (wl1 n (lp_X9_areSame_2 v0 v1) v2 G = some (r, G')) := by
    refine wl1_ind (R := fun v2 G φ => J X Y 3 Q 2 [(0, .ref (AD Y v0)), (1, .ref (AD Y v1)), (2, .int v2)] [] G φ) (fun _ G φ h => J_no h) ?_
    intro kc2 hk2 v2 G
    unfold lp_X9_areSame_2
    refine J_iload_n 2 hX dX9_areSame_2 fz2 rfl ?_
    refine J_bipush hX dX9_areSame_3 cb_45 ?_
    refine J_icmp_ge (tgt := 25) hX dX9_areSame_5 rfl ?_ ?_
    · refine J_iconst hX dX9_areSame_25 ci_1 ?_
      exact J_retZ hR (by decide) dX9_areSame_26
    · refine J_aload_n 0 hX dX9_areSame_8 fz0 rfl ?_
      refine J_iload_n 2 hX dX9_areSame_9 fz2 rfl ?_
      refine J_iald hX dX9_areSame_10 h0 rfl ?_
      refine J_aload_n 1 hX dX9_areSame_11 fz1 rfl ?_
      refine J_iload_n 2 hX dX9_areSame_12 fz2 rfl ?_
      refine J_iald hX dX9_areSame_13 h1 rfl ?_
      refine J_icmp_eq (tgt := 19) hX dX9_areSame_14 rfl ?_ ?_
      · refine J_iinc (lv' := [(2, .int (v2 + (1 : Int32))), (0, .ref (AD Y v0)), (1, .ref (AD Y v1))]) 2 hX dX9_areSame_19 rfl ci_1 (Nat.le_of_ble_eq_true rfl) rfl ?_
        refine J_goto (tgt := 2) hX dX9_areSame_22 rfl ?_
        refine J_sub (lv' := [(0, .ref (AD Y v0)), (1, .ref (AD Y v1)), (2, .int (v2 + (1 : Int32)))]) [1, 2, 0] rfl ?_
        exact hk2 (v2 + (1 : Int32)) G
      · refine J_iconst hX dX9_areSame_17 ci_0 ?_
        exact J_retZ hR (by decide) dX9_areSame_18
  unfold f_X9_areSame
  refine J_iconst hX dX9_areSame_0 ci_0 ?_
  refine J_istore_n (lv' := [(2, .int (0 : Int32)), (0, .ref (AD Y v0)), (1, .ref (AD Y v1))]) hX dX9_areSame_1 fz2 (Nat.le_of_ble_eq_true rfl) rfl ?_
  refine J_sub (lv' := [(0, .ref (AD Y v0)), (1, .ref (AD Y v1)), (2, .int (0 : Int32))]) [1, 2, 0] rfl ?_
  exact K2  FU (0 : Int32) G
set_option maxHeartbeats 4000000 in
set_option maxRecDepth 100000 in
theorem ok_X5_hasSold {Y : DX} {v0 : Nat} {v1 : Nat} (h0 : SHk v0 = 4) (h1 : SHk v1 = 10) {G : GM} {r : Int32} {G' : GM} (hf : f_X5_hasSold v0 v1 G = some (r, G')) : OkI Y 2 M_X5_hasSold [.ref (AD Y v0), .ref (AD Y v1)] G r G' := by
  refine okZ_of (lv0 := [(0, .ref (AD Y v0)), (1, .ref (AD Y v1))]) (by decide +kernel) rfl (Nat.le_of_ble_eq_true rfl) ?_
  intro X Q hX hR
  have hX : CXok X Y RX5 cX5_hasSold 3 _ := hX
  revert hf
  show J X Y 3 Q 0 [(0, .ref (AD Y v0)), (1, .ref (AD Y v1))] [] G (f_X5_hasSold v0 v1 G = some (r, G'))
  have K2 : ∀  (n : Nat) (v2 : Int32) (G : GM), J X Y 3 Q 2 [(0, .ref (AD Y v0)), (1, .ref (AD Y v1)), (2, .int v2)] [] G (wl1 n (lp_X5_hasSold_2 v0 v1) v2 G = some (r, G')) := by
    refine wl1_ind (R := fun v2 G φ => J X Y 3 Q 2 [(0, .ref (AD Y v0)), (1, .ref (AD Y v1)), (2, .int v2)] [] G φ) (fun _ G φ h => J_no h) ?_
    intro kc2 hk2 v2 G
    unfold lp_X5_hasSold_2
    refine J_iload_n 2 hX dX5_hasSold_2 fz2 rfl ?_
    refine J_aload_n 0 hX dX5_hasSold_3 fz0 rfl ?_
    refine J_getI hX dX5_hasSold_4 lf_X5_32 h0 rfl ?_
    refine J_icmp_ge (tgt := 31) hX dX5_hasSold_7 rfl ?_ ?_
    · refine J_iconst hX dX5_hasSold_31 ci_0 ?_
      exact J_retZ hR (by decide) dX5_hasSold_32
    · refine J_aload_n 0 hX dX5_hasSold_10 fz0 rfl ?_
      refine J_getR (b := (v0 + 11)) hX dX5_hasSold_11 lf_X5_40 h0 rfl (by decide) rfl ?_
      refine J_iload_n 2 hX dX5_hasSold_14 fz2 rfl ?_
      refine J_aald (b := (v0 + 12 + v2.toNatClampNeg)) hX dX5_hasSold_15 (tp_4_7 h0) (by decide) (tl_4_7 h0) (p0_14 (tp_4_7 h0)) fun hi15 => ?_
      refine J_aload_n 1 hX dX5_hasSold_16 fz1 rfl ?_
      refine J_callSI (As := [.ref (AD Y (v0 + 12 + v2.toNatClampNeg)), .ref (AD Y v1)]) (st := []) hX ms_X5_68 rfl rfl (Nat.le_of_ble_eq_true rfl) (Nat.le_of_ble_eq_true rfl) (Nat.le_of_ble_eq_true rfl) dX5_hasSold_17 (fun r G1 h => ok_X9_areSame (st_el h0 hi15).1 h1 h) fun r17 G17 => ?_
      refine J_if_eq (tgt := 25) hX dX5_hasSold_20 rfl ?_ ?_
      · refine J_iinc (lv' := [(2, .int (v2 + (1 : Int32))), (0, .ref (AD Y v0)), (1, .ref (AD Y v1))]) 2 hX dX5_hasSold_25 rfl ci_1 (Nat.le_of_ble_eq_true rfl) rfl ?_
        refine J_goto (tgt := 2) hX dX5_hasSold_28 rfl ?_
        refine J_sub (lv' := [(0, .ref (AD Y v0)), (1, .ref (AD Y v1)), (2, .int (v2 + (1 : Int32)))]) [1, 2, 0] rfl ?_
        exact hk2 (v2 + (1 : Int32)) G17
      · refine J_iconst hX dX5_hasSold_23 ci_1 ?_
        exact J_retZ hR (by decide) dX5_hasSold_24
  unfold f_X5_hasSold
  refine J_iconst hX dX5_hasSold_0 ci_0 ?_
  refine J_istore_n (lv' := [(2, .int (0 : Int32)), (0, .ref (AD Y v0)), (1, .ref (AD Y v1))]) hX dX5_hasSold_1 fz2 (Nat.le_of_ble_eq_true rfl) rfl ?_
  refine J_sub (lv' := [(0, .ref (AD Y v0)), (1, .ref (AD Y v1)), (2, .int (0 : Int32))]) [1, 2, 0] rfl ?_
  exact K2  FU (0 : Int32) G
set_option maxHeartbeats 4000000 in
set_option maxRecDepth 100000 in
theorem ok_X7_readSold {Y : DX} {v1 : Nat} (h1 : SHk v1 = 4) {G : GM} {G' : GM} (hf : f_X7_readSold v1 G = some G') : OkV Y 23 M_X7_readSold [.ref (AD Y 53), .ref (AD Y v1)] G G' := by
  refine okV_of (lv0 := [(0, .ref (AD Y 53)), (1, .ref (AD Y v1))]) (by decide +kernel) rfl (Nat.le_of_ble_eq_true rfl) ?_
  intro X Q hX hR
  have hX : CXok X Y RX7 cX7_readSold 3 _ := hX
  revert hf
  show J X Y 3 Q 0 [(0, .ref (AD Y 53)), (1, .ref (AD Y v1))] [] G (f_X7_readSold v1 G = some G')
  have K73 : ∀ (G : GM), J X Y 3 Q 73 [(0, .ref (AD Y 53)), (1, .ref (AD Y v1))] [] G (k_X7_readSold_73 v1 G = some G') := by
    intro G
    unfold k_X7_readSold_73
    refine J_aload_n 0 hX dX7_readSold_73 fz0 rfl ?_
    refine J_iconst hX dX7_readSold_74 ci_0 ?_
    refine J_sipush hX dX7_readSold_75 cs_9999 ?_
    refine J_callVI (As := [.int (0 : Int32), .int (9999 : Int32)]) (st := []) (b := 53) hX mv_X7_103 sk_53 rfl rfl rfl (Nat.le_of_ble_eq_true rfl) (Nat.le_of_ble_eq_true rfl) (Nat.le_of_ble_eq_true rfl) dX7_readSold_78 (fun r G1 h => ok_X7_takeNumber  h) fun r78 G78 => ?_
    refine J_istore_n (lv' := [(2, .int r78), (0, .ref (AD Y 53)), (1, .ref (AD Y v1))]) hX dX7_readSold_81 fz2 (Nat.le_of_ble_eq_true rfl) rfl ?_
    refine J_aload_n 1 hX dX7_readSold_82 fz0 rfl ?_
    refine J_getI hX dX7_readSold_83 lf_X7_45 sk_53 rfl ?_
    refine J_if_ne (tgt := 98) hX dX7_readSold_86 rfl ?_ ?_
    · exact J_retV hR dX7_readSold_98
    · refine J_aload_n 2 hX dX7_readSold_89 fz1 rfl ?_
      refine J_iload_n 0 hX dX7_readSold_90 fz2 rfl ?_
      refine J_aload_n 1 hX dX7_readSold_91 fz0 rfl ?_
      refine J_getR (b := 61) hX dX7_readSold_92 lf_X7_26 sk_53 rfl (by decide) rfl ?_
      refine J_callVV (As := [.int r78, .ref (AD Y 61)]) (st := []) (b := v1) hX mv_X7_175 h1 rfl rfl rfl (Nat.le_of_ble_eq_true rfl) (Nat.le_of_ble_eq_true rfl) (Nat.le_of_ble_eq_true rfl) dX7_readSold_95 (fun G1 h => ok_X5_addSold h1 sk_61 h) fun G95 => ?_
      exact J_retV hR dX7_readSold_98
  have K14 : ∀ (G : GM), J X Y 3 Q 14 [(0, .ref (AD Y 53)), (1, .ref (AD Y v1))] [] G (k_X7_readSold_14 v1 G = some G') := by
    intro G
    unfold k_X7_readSold_14
    refine J_aload_n 0 hX dX7_readSold_14 fz0 rfl ?_
    refine J_ldcS 11 hX dX7_readSold_15 rfl ?_
    refine J_callVV (As := [.ref (yk Y 11)]) (st := []) (b := 53) hX mv_X7_98 sk_53 rfl rfl rfl (Nat.le_of_ble_eq_true rfl) (Nat.le_of_ble_eq_true rfl) (Nat.le_of_ble_eq_true rfl) dX7_readSold_17 (fun G1 h => ok_X7_takeWord (by decide) h) fun G17 => ?_
    refine J_aload_n 0 hX dX7_readSold_20 fz0 rfl ?_
    refine J_iconst hX dX7_readSold_21 ci_0 ?_
    refine J_sipush hX dX7_readSold_22 cs_9999 ?_
    refine J_callVI (As := [.int (0 : Int32), .int (9999 : Int32)]) (st := []) (b := 53) hX mv_X7_141 sk_53 rfl rfl rfl (Nat.le_of_ble_eq_true rfl) (Nat.le_of_ble_eq_true rfl) (Nat.le_of_ble_eq_true rfl) dX7_readSold_25 (fun r G1 h => ok_X7_isNumberOf  h) fun r25 G25 => ?_
    refine J_if_eq (tgt := 73) hX dX7_readSold_28 rfl ?_ ?_
    · exact K73 G25
    · refine J_aload_n 0 hX dX7_readSold_31 fz0 rfl ?_
      refine J_getI hX dX7_readSold_32 lf_X7_45 sk_53 rfl ?_
      refine J_if_ne (tgt := 73) hX dX7_readSold_35 rfl ?_ ?_
      · exact K73 G25
      · refine J_aload_n 0 hX dX7_readSold_38 fz0 rfl ?_
        refine J_getR (b := 55) hX dX7_readSold_39 lf_X7_22 sk_53 rfl (by decide) rfl ?_
        refine J_aload_n 1 hX dX7_readSold_42 fz1 rfl ?_
        refine J_getR (b := (v1 + 1)) hX dX7_readSold_43 lf_X7_72 h1 rfl (by decide) rfl ?_
        refine J_aload_n 0 hX dX7_readSold_46 fz0 rfl ?_
        refine J_getI hX dX7_readSold_47 lf_X7_39 sk_53 rfl ?_
        refine J_aload_n 0 hX dX7_readSold_50 fz0 rfl ?_
        refine J_getR (b := 61) hX dX7_readSold_51 lf_X7_26 sk_53 rfl (by decide) rfl ?_
        refine J_callVV (As := [.ref (AD Y (v1 + 1)), .int (gI G25 53 7), .ref (AD Y 61)]) (st := []) (b := 55) hX mv_X7_167 sk_55 rfl rfl rfl (Nat.le_of_ble_eq_true rfl) (Nat.le_of_ble_eq_true rfl) (Nat.le_of_ble_eq_true rfl) dX7_readSold_54 (fun G1 h => ok_X2_deal sk_55 (tp_4_0 h1) sk_61 h) fun G54 => ?_
        refine J_aload_n 1 hX dX7_readSold_57 fz1 rfl ?_
        refine J_aload_n 0 hX dX7_readSold_58 fz0 rfl ?_
        refine J_getR (b := 61) hX dX7_readSold_59 lf_X7_26 sk_53 rfl (by decide) rfl ?_
        refine J_callVI (As := [.ref (AD Y 61)]) (st := []) (b := v1) hX mv_X7_171 h1 rfl rfl rfl (Nat.le_of_ble_eq_true rfl) (Nat.le_of_ble_eq_true rfl) (Nat.le_of_ble_eq_true rfl) dX7_readSold_62 (fun r G1 h => ok_X5_hasSold h1 sk_61 h) fun r62 G62 => ?_
        refine J_if_eq (tgt := 73) hX dX7_readSold_65 rfl ?_ ?_
        · exact K73 G62
        · refine J_aload_n 0 hX dX7_readSold_68 fz0 rfl ?_
          refine J_iconst hX dX7_readSold_69 ci_2 ?_
          refine J_callVV (As := [.int (2 : Int32)]) (st := []) (b := 53) hX mv_X7_68 sk_53 rfl rfl rfl (Nat.le_of_ble_eq_true rfl) (Nat.le_of_ble_eq_true rfl) (Nat.le_of_ble_eq_true rfl) dX7_readSold_70 (fun G1 h => ok_X7_fail  h) fun G70 => ?_
          exact K73 G70
  unfold f_X7_readSold
  refine J_aload_n 1 hX dX7_readSold_0 fz1 rfl ?_
  refine J_getI hX dX7_readSold_1 lf_X7_164 h1 rfl ?_
  refine J_bipush hX dX7_readSold_4 cb_8 ?_
  refine J_icmp_lt (tgt := 14) hX dX7_readSold_6 rfl ?_ ?_
  · exact K14 G
  · refine J_aload_n 0 hX dX7_readSold_9 fz0 rfl ?_
    refine J_iconst hX dX7_readSold_10 ci_3 ?_
    refine J_callVV (As := [.int (3 : Int32)]) (st := []) (b := 53) hX mv_X7_68 sk_53 rfl rfl rfl (Nat.le_of_ble_eq_true rfl) (Nat.le_of_ble_eq_true rfl) (Nat.le_of_ble_eq_true rfl) dX7_readSold_11 (fun G1 h => ok_X7_fail  h) fun G11 => ?_
    exact K14 G11
set_option maxHeartbeats 4000000 in
set_option maxRecDepth 100000 in
theorem ok_X7_takeSign {Y : DX}   {G : GM} {G' : GM} (hf : f_X7_takeSign  G = some G') : OkV Y 3 M_X7_takeSign [.ref (AD Y 53)] G G' := by
  refine okV_of (lv0 := [(0, .ref (AD Y 53))]) (by decide +kernel) rfl (Nat.le_of_ble_eq_true rfl) ?_
  intro X Q hX hR
  have hX : CXok X Y RX7 cX7_takeSign 1 _ := hX
  revert hf
  show J X Y 1 Q 0 [(0, .ref (AD Y 53))] [] G (f_X7_takeSign  G = some G')
  have K13 : ∀ (G : GM), J X Y 1 Q 13 [(0, .ref (AD Y 53))] [] G (k_X7_takeSign_13  G = some G') := by
    intro G
    unfold k_X7_takeSign_13
    refine J_aload_n 0 hX dX7_takeSign_13 fz0 rfl ?_
    refine J_callVV (As := []) (st := []) (b := 53) hX mv_X7_56 sk_53 rfl rfl rfl (Nat.le_of_ble_eq_true rfl) (Nat.le_of_ble_eq_true rfl) (Nat.le_of_ble_eq_true rfl) dX7_takeSign_14 (fun G1 h => ok_X7_takeToken  h) fun G14 => ?_
    exact J_retV hR dX7_takeSign_17
  unfold f_X7_takeSign
  refine J_aload_n 0 hX dX7_takeSign_0 fz0 rfl ?_
  refine J_getI hX dX7_takeSign_1 lf_X7_33 sk_53 rfl ?_
  refine J_iconst hX dX7_takeSign_4 ci_3 ?_
  refine J_icmp_eq (tgt := 13) hX dX7_takeSign_5 rfl ?_ ?_
  · exact K13 G
  · refine J_aload_n 0 hX dX7_takeSign_8 fz0 rfl ?_
    refine J_iconst hX dX7_takeSign_9 ci_1 ?_
    refine J_callVV (As := [.int (1 : Int32)]) (st := []) (b := 53) hX mv_X7_68 sk_53 rfl rfl rfl (Nat.le_of_ble_eq_true rfl) (Nat.le_of_ble_eq_true rfl) (Nat.le_of_ble_eq_true rfl) dX7_takeSign_10 (fun G1 h => ok_X7_fail  h) fun G10 => ?_
    exact K13 G10
set_option maxHeartbeats 4000000 in
set_option maxRecDepth 100000 in
theorem ok_X7_readLine {Y : DX} {v1 : Nat} (h1 : SHk v1 = 4) {G : GM} {G' : GM} (hf : f_X7_readLine v1 G = some G') : OkV Y 24 M_X7_readLine [.ref (AD Y 53), .ref (AD Y v1)] G G' := by
  refine okV_of (lv0 := [(0, .ref (AD Y 53)), (1, .ref (AD Y v1))]) (by decide +kernel) rfl (Nat.le_of_ble_eq_true rfl) ?_
  intro X Q hX hR
  have hX : CXok X Y RX7 cX7_readLine 2 _ := hX
  revert hf
  show J X Y 2 Q 0 [(0, .ref (AD Y 53)), (1, .ref (AD Y v1))] [] G (f_X7_readLine v1 G = some G')
  have K117 : ∀ (G : GM), J X Y 2 Q 117 [(0, .ref (AD Y 53)), (1, .ref (AD Y v1))] [] G (k_X7_readLine_117 v1 G = some G') := by
    intro G
    unfold k_X7_readLine_117
    refine J_aload_n 0 hX dX7_readLine_117 fz0 rfl ?_
    refine J_callVV (As := []) (st := []) (b := 53) hX mv_X7_107 sk_53 rfl rfl rfl (Nat.le_of_ble_eq_true rfl) (Nat.le_of_ble_eq_true rfl) (Nat.le_of_ble_eq_true rfl) dX7_readLine_118 (fun G1 h => ok_X7_takeSign  h) fun G118 => ?_
    refine J_aload_n 1 hX dX7_readLine_121 fz1 rfl ?_
    refine J_dup hX dX7_readLine_122 rfl ?_
    refine J_getI hX dX7_readLine_123 lf_X7_65 h1 rfl ?_
    refine J_iconst hX dX7_readLine_126 ci_1 ?_
    refine J_iadd hX dX7_readLine_127 ?_
    refine J_putI hX dX7_readLine_128 lf_X7_65 lpt_4_1 h1 rfl fun G128 => ?_
    exact J_retV hR dX7_readLine_131
  have K18 : ∀ (s0 : Int32) (s1 : Int32) (G : GM), J X Y 2 Q 18 [(0, .ref (AD Y 53)), (1, .ref (AD Y v1))] [.int s0, .int s1] G (k_X7_readLine_18 v1 s0 s1 G = some G') := by
    intro s0 s1 G
    unfold k_X7_readLine_18
    refine J_icmp_eq (tgt := 29) hX dX7_readLine_18 rfl ?_ ?_
    · refine J_aload_n 0 hX dX7_readLine_29 fz0 rfl ?_
      refine J_ldcS 0 hX dX7_readLine_30 rfl ?_
      refine J_callVI (As := [.ref (yk Y 0)]) (st := []) (b := 53) hX mv_X7_61 sk_53 rfl rfl rfl (Nat.le_of_ble_eq_true rfl) (Nat.le_of_ble_eq_true rfl) (Nat.le_of_ble_eq_true rfl) dX7_readLine_32 (fun r G1 h => ok_X7_isWord (by decide) h) fun r32 G32 => ?_
      refine J_if_eq (tgt := 49) hX dX7_readLine_35 rfl ?_ ?_
      · refine J_aload_n 0 hX dX7_readLine_49 fz0 rfl ?_
        refine J_ldcS 5 hX dX7_readLine_50 rfl ?_
        refine J_callVI (As := [.ref (yk Y 5)]) (st := []) (b := 53) hX mv_X7_61 sk_53 rfl rfl rfl (Nat.le_of_ble_eq_true rfl) (Nat.le_of_ble_eq_true rfl) (Nat.le_of_ble_eq_true rfl) dX7_readLine_52 (fun r G1 h => ok_X7_isWord (by decide) h) fun r52 G52 => ?_
        refine J_if_eq (tgt := 66) hX dX7_readLine_55 rfl ?_ ?_
        · refine J_aload_n 0 hX dX7_readLine_66 fz0 rfl ?_
          refine J_ldcS 9 hX dX7_readLine_67 rfl ?_
          refine J_callVI (As := [.ref (yk Y 9)]) (st := []) (b := 53) hX mv_X7_61 sk_53 rfl rfl rfl (Nat.le_of_ble_eq_true rfl) (Nat.le_of_ble_eq_true rfl) (Nat.le_of_ble_eq_true rfl) dX7_readLine_69 (fun r G1 h => ok_X7_isWord (by decide) h) fun r69 G69 => ?_
          refine J_if_eq (tgt := 83) hX dX7_readLine_72 rfl ?_ ?_
          · refine J_aload_n 0 hX dX7_readLine_83 fz0 rfl ?_
            refine J_ldcS 11 hX dX7_readLine_84 rfl ?_
            refine J_callVI (As := [.ref (yk Y 11)]) (st := []) (b := 53) hX mv_X7_61 sk_53 rfl rfl rfl (Nat.le_of_ble_eq_true rfl) (Nat.le_of_ble_eq_true rfl) (Nat.le_of_ble_eq_true rfl) dX7_readLine_86 (fun r G1 h => ok_X7_isWord (by decide) h) fun r86 G86 => ?_
            refine J_if_eq (tgt := 100) hX dX7_readLine_89 rfl ?_ ?_
            · refine J_aload_n 0 hX dX7_readLine_100 fz0 rfl ?_
              refine J_ldcS 12 hX dX7_readLine_101 rfl ?_
              refine J_callVV (As := [.ref (yk Y 12)]) (st := []) (b := 53) hX mv_X7_98 sk_53 rfl rfl rfl (Nat.le_of_ble_eq_true rfl) (Nat.le_of_ble_eq_true rfl) (Nat.le_of_ble_eq_true rfl) dX7_readLine_103 (fun G1 h => ok_X7_takeWord (by decide) h) fun G103 => ?_
              refine J_aload_n 0 hX dX7_readLine_106 fz0 rfl ?_
              refine J_aload_n 0 hX dX7_readLine_107 fz0 rfl ?_
              refine J_iconst hX dX7_readLine_108 ci_0 ?_
              refine J_ldc hX dX7_readLine_109 lc_X7_102 ?_
              refine J_callVI (As := [.int (0 : Int32), .int (99999 : Int32)]) (st := [.ref (AD Y 53)]) (b := 53) hX mv_X7_103 sk_53 rfl rfl rfl (Nat.le_of_ble_eq_true rfl) (Nat.le_of_ble_eq_true rfl) (Nat.le_of_ble_eq_true rfl) dX7_readLine_111 (fun r G1 h => ok_X7_takeNumber  h) fun r111 G111 => ?_
              refine J_putI hX dX7_readLine_114 lf_X7_42 lpt_6_8 sk_53 rfl fun G114 => ?_
              exact K117 G114
            · refine J_aload_n 0 hX dX7_readLine_92 fz0 rfl ?_
              refine J_aload_n 1 hX dX7_readLine_93 fz1 rfl ?_
              refine J_callVV (As := [.ref (AD Y v1)]) (st := []) (b := 53) hX mv_X7_93 sk_53 rfl rfl rfl (Nat.le_of_ble_eq_true rfl) (Nat.le_of_ble_eq_true rfl) (Nat.le_of_ble_eq_true rfl) dX7_readLine_94 (fun G1 h => ok_X7_readSold h1 h) fun G94 => ?_
              refine J_goto (tgt := 117) hX dX7_readLine_97 rfl ?_
              exact K117 G94
          · refine J_aload_n 0 hX dX7_readLine_75 fz0 rfl ?_
            refine J_aload_n 1 hX dX7_readLine_76 fz1 rfl ?_
            refine J_callVV (As := [.ref (AD Y v1)]) (st := []) (b := 53) hX mv_X7_88 sk_53 rfl rfl rfl (Nat.le_of_ble_eq_true rfl) (Nat.le_of_ble_eq_true rfl) (Nat.le_of_ble_eq_true rfl) dX7_readLine_77 (fun G1 h => ok_X7_readJackpot h1 h) fun G77 => ?_
            refine J_goto (tgt := 117) hX dX7_readLine_80 rfl ?_
            exact K117 G77
        · refine J_aload_n 0 hX dX7_readLine_58 fz0 rfl ?_
          refine J_aload_n 1 hX dX7_readLine_59 fz1 rfl ?_
          refine J_callVV (As := [.ref (AD Y v1)]) (st := []) (b := 53) hX mv_X7_82 sk_53 rfl rfl rfl (Nat.le_of_ble_eq_true rfl) (Nat.le_of_ble_eq_true rfl) (Nat.le_of_ble_eq_true rfl) dX7_readLine_60 (fun G1 h => ok_X7_readPrize h1 h) fun G60 => ?_
          refine J_goto (tgt := 117) hX dX7_readLine_63 rfl ?_
          exact K117 G60
      · refine J_aload_n 0 hX dX7_readLine_38 fz0 rfl ?_
        refine J_aload_n 1 hX dX7_readLine_39 fz1 rfl ?_
        refine J_getR (b := (v1 + 1)) hX dX7_readLine_40 lf_X7_72 h1 rfl (by decide) rfl ?_
        refine J_callVV (As := [.ref (AD Y (v1 + 1))]) (st := []) (b := 53) hX mv_X7_76 sk_53 rfl rfl rfl (Nat.le_of_ble_eq_true rfl) (Nat.le_of_ble_eq_true rfl) (Nat.le_of_ble_eq_true rfl) dX7_readLine_43 (fun G1 h => ok_X7_readForm (tp_4_0 h1) h) fun G43 => ?_
        refine J_goto (tgt := 117) hX dX7_readLine_46 rfl ?_
        exact K117 G43
    · refine J_aload_n 0 hX dX7_readLine_21 fz0 rfl ?_
      refine J_iconst hX dX7_readLine_22 ci_1 ?_
      refine J_callVV (As := [.int (1 : Int32)]) (st := []) (b := 53) hX mv_X7_68 sk_53 rfl rfl rfl (Nat.le_of_ble_eq_true rfl) (Nat.le_of_ble_eq_true rfl) (Nat.le_of_ble_eq_true rfl) dX7_readLine_23 (fun G1 h => ok_X7_fail  h) fun G23 => ?_
      refine J_goto (tgt := 117) hX dX7_readLine_26 rfl ?_
      exact K117 G23
  unfold f_X7_readLine
  refine J_aload_n 0 hX dX7_readLine_0 fz0 rfl ?_
  refine J_ldcS 0 hX dX7_readLine_1 rfl ?_
  refine J_callVI (As := [.ref (yk Y 0)]) (st := []) (b := 53) hX mv_X7_61 sk_53 rfl rfl rfl (Nat.le_of_ble_eq_true rfl) (Nat.le_of_ble_eq_true rfl) (Nat.le_of_ble_eq_true rfl) dX7_readLine_3 (fun r G1 h => ok_X7_isWord (by decide) h) fun r3 G3 => ?_
  refine J_aload_n 1 hX dX7_readLine_6 fz1 rfl ?_
  refine J_getI hX dX7_readLine_7 lf_X7_65 h1 rfl ?_
  refine J_if_ne (tgt := 17) hX dX7_readLine_10 rfl ?_ ?_
  · refine J_iconst hX dX7_readLine_17 ci_0 ?_
    exact K18 (0 : Int32) r3 G3
  · refine J_iconst hX dX7_readLine_13 ci_1 ?_
    refine J_goto (tgt := 18) hX dX7_readLine_14 rfl ?_
    exact K18 (1 : Int32) r3 G3
set_option maxHeartbeats 4000000 in
set_option maxRecDepth 100000 in
theorem ok_X2_planned {Y : DX} {v0 : Nat} {v1 : Nat} {v2 : Int32} {v3 : Int32} {v4 : Int32} (h0 : SHk v0 = 1) (h1 : SHk v1 = 3) {G : GM} {r : Int32} {G' : GM} (hf : f_X2_planned v0 v1 v2 v3 v4 G = some (r, G')) : OkI Y 9 M_X2_planned [.ref (AD Y v0), .ref (AD Y v1), .int v2, .int v3, .int v4] G r G' := by
  refine okI_of (lv0 := [(0, .ref (AD Y v0)), (1, .ref (AD Y v1)), (2, .int v2), (3, .int v3), (4, .int v4)]) (by decide +kernel) rfl (Nat.le_of_ble_eq_true rfl) ?_
  intro X Q hX hR
  have hX : CXok X Y RX2 cX2_planned 5 _ := hX
  revert hf
  show J X Y 5 Q 0 [(0, .ref (AD Y v0)), (1, .ref (AD Y v1)), (2, .int v2), (3, .int v3), (4, .int v4)] [] G (f_X2_planned v0 v1 v2 v3 v4 G = some (r, G'))
  unfold f_X2_planned
  refine J_aload_n 1 hX dX2_planned_0 fz1 rfl ?_
  refine J_iload_n 2 hX dX2_planned_1 fz2 rfl ?_
  refine J_aload_n 0 hX dX2_planned_2 fz0 rfl ?_
  refine J_getR (b := (v0 + 2)) hX dX2_planned_3 lf_X2_18 h0 rfl (by decide) rfl ?_
  refine J_callVV (As := [.int v2, .ref (AD Y (v0 + 2))]) (st := []) (b := v1) hX mv_X2_45 h1 rfl rfl rfl (Nat.le_of_ble_eq_true rfl) (Nat.le_of_ble_eq_true rfl) (Nat.le_of_ble_eq_true rfl) dX2_planned_6 (fun G1 h => ok_X4_putPlan h1 (tp_1_1 h0) h) fun G6 => ?_
  refine J_iload_n 3 hX dX2_planned_9 fz3 rfl ?_
  refine J_if_lt (tgt := 18) hX dX2_planned_10 rfl ?_ ?_
  · refine J_iconst hX dX2_planned_18 ci_0 ?_
    refine J_goto (tgt := 33) hX dX2_planned_19 rfl ?_
    exact J_retI hR dX2_planned_33
  · refine J_iload_n 3 hX dX2_planned_13 fz3 rfl ?_
    refine J_iconst hX dX2_planned_14 ci_3 ?_
    refine J_icmp_lt (tgt := 22) hX dX2_planned_15 rfl ?_ ?_
    · refine J_aload_n 0 hX dX2_planned_22 fz0 rfl ?_
      refine J_getR (b := (v0 + 2)) hX dX2_planned_23 lf_X2_18 h0 rfl (by decide) rfl ?_
      refine J_iload_n 3 hX dX2_planned_26 fz3 rfl ?_
      refine J_iald hX dX2_planned_27 (tp_1_1 h0) (tl_1_1 h0) ?_
      refine J_iload 4 hX dX2_planned_28 rfl ?_
      refine J_callSI (As := [.int (gI G6 (v0 + 2) v3.toNatClampNeg), .int v4]) (st := []) hX ms_X2_49 rfl rfl (Nat.le_of_ble_eq_true rfl) (Nat.le_of_ble_eq_true rfl) (Nat.le_of_ble_eq_true rfl) dX2_planned_30 (fun r G1 h => ok_X6_digit  h) fun r30 G30 => ?_
      exact J_retI hR dX2_planned_33
    · refine J_iconst hX dX2_planned_18 ci_0 ?_
      refine J_goto (tgt := 33) hX dX2_planned_19 rfl ?_
      exact J_retI hR dX2_planned_33
set_option maxHeartbeats 4000000 in
set_option maxRecDepth 100000 in
theorem ok_X8_isSlot {Y : DX} {v1 : Int32}  {G : GM} {r : Int32} {G' : GM} (hf : f_X8_isSlot v1 G = some (r, G')) : OkI Y 1 M_X8_isSlot [.ref (AD Y 62), .int v1] G r G' := by
  refine okZ_of (lv0 := [(0, .ref (AD Y 62)), (1, .int v1)]) (by decide +kernel) rfl (Nat.le_of_ble_eq_true rfl) ?_
  intro X Q hX hR
  have hX : CXok X Y RX8 cX8_isSlot 2 _ := hX
  revert hf
  show J X Y 2 Q 0 [(0, .ref (AD Y 62)), (1, .int v1)] [] G (f_X8_isSlot v1 G = some (r, G'))
  unfold f_X8_isSlot
  refine J_iload_n 1 hX dX8_isSlot_0 fz1 rfl ?_
  refine J_if_lt (tgt := 13) hX dX8_isSlot_1 rfl ?_ ?_
  · refine J_iconst hX dX8_isSlot_13 ci_0 ?_
    exact J_retZ hR (by decide) dX8_isSlot_14
  · refine J_iload_n 1 hX dX8_isSlot_4 fz1 rfl ?_
    refine J_iconst hX dX8_isSlot_5 ci_4 ?_
    refine J_icmp_ge (tgt := 13) hX dX8_isSlot_6 rfl ?_ ?_
    · refine J_iconst hX dX8_isSlot_13 ci_0 ?_
      exact J_retZ hR (by decide) dX8_isSlot_14
    · refine J_iconst hX dX8_isSlot_9 ci_1 ?_
      refine J_goto (tgt := 14) hX dX8_isSlot_10 rfl ?_
      exact J_retZ hR (by decide) dX8_isSlot_14
set_option maxHeartbeats 4000000 in
set_option maxRecDepth 100000 in
theorem ok_X8_hasRow {Y : DX} {v1 : Int32}  {G : GM} {r : Int32} {G' : GM} (hf : f_X8_hasRow v1 G = some (r, G')) : OkI Y 2 M_X8_hasRow [.ref (AD Y 62), .int v1] G r G' := by
  refine okZ_of (lv0 := [(0, .ref (AD Y 62)), (1, .int v1)]) (by decide +kernel) rfl (Nat.le_of_ble_eq_true rfl) ?_
  intro X Q hX hR
  have hX : CXok X Y RX8 cX8_hasRow 2 _ := hX
  revert hf
  show J X Y 2 Q 0 [(0, .ref (AD Y 62)), (1, .int v1)] [] G (f_X8_hasRow v1 G = some (r, G'))
  unfold f_X8_hasRow
  refine J_aload_n 0 hX dX8_hasRow_0 fz0 rfl ?_
  refine J_iload_n 1 hX dX8_hasRow_1 fz1 rfl ?_
  refine J_callVI (As := [.int v1]) (st := []) (b := 62) hX mv_X8_27 sk_62 rfl rfl rfl (Nat.le_of_ble_eq_true rfl) (Nat.le_of_ble_eq_true rfl) (Nat.le_of_ble_eq_true rfl) dX8_hasRow_2 (fun r G1 h => ok_X8_isSlot  h) fun r2 G2 => ?_
  refine J_if_eq (tgt := 21) hX dX8_hasRow_5 rfl ?_ ?_
  · refine J_iconst hX dX8_hasRow_21 ci_0 ?_
    exact J_retZ hR (by decide) dX8_hasRow_22
  · refine J_aload_n 0 hX dX8_hasRow_8 fz0 rfl ?_
    refine J_getR (b := 70) hX dX8_hasRow_9 lf_X8_23 sk_62 rfl (by decide) rfl ?_
    refine J_iload_n 1 hX dX8_hasRow_12 fz1 rfl ?_
    refine J_zald hX dX8_hasRow_13 sk_70 ln_70 ?_
    refine J_if_eq (tgt := 21) hX dX8_hasRow_14 rfl ?_ ?_
    · refine J_iconst hX dX8_hasRow_21 ci_0 ?_
      exact J_retZ hR (by decide) dX8_hasRow_22
    · refine J_iconst hX dX8_hasRow_17 ci_1 ?_
      refine J_goto (tgt := 22) hX dX8_hasRow_18 rfl ?_
      exact J_retZ hR (by decide) dX8_hasRow_22
set_option maxHeartbeats 4000000 in
set_option maxRecDepth 100000 in
theorem ok_X8_lengthOf {Y : DX} {v1 : Int32}  {G : GM} {r : Int32} {G' : GM} (hf : f_X8_lengthOf v1 G = some (r, G')) : OkI Y 3 M_X8_lengthOf [.ref (AD Y 62), .int v1] G r G' := by
  refine okI_of (lv0 := [(0, .ref (AD Y 62)), (1, .int v1)]) (by decide +kernel) rfl (Nat.le_of_ble_eq_true rfl) ?_
  intro X Q hX hR
  have hX : CXok X Y RX8 cX8_lengthOf 2 _ := hX
  revert hf
  show J X Y 2 Q 0 [(0, .ref (AD Y 62)), (1, .int v1)] [] G (f_X8_lengthOf v1 G = some (r, G'))
  unfold f_X8_lengthOf
  refine J_aload_n 0 hX dX8_lengthOf_0 fz0 rfl ?_
  refine J_iload_n 1 hX dX8_lengthOf_1 fz1 rfl ?_
  refine J_callVI (As := [.int v1]) (st := []) (b := 62) hX mv_X8_31 sk_62 rfl rfl rfl (Nat.le_of_ble_eq_true rfl) (Nat.le_of_ble_eq_true rfl) (Nat.le_of_ble_eq_true rfl) dX8_lengthOf_2 (fun r G1 h => ok_X8_hasRow  h) fun r2 G2 => ?_
  refine J_if_eq (tgt := 17) hX dX8_lengthOf_5 rfl ?_ ?_
  · refine J_iconst hX dX8_lengthOf_17 ci_0 ?_
    exact J_retI hR dX8_lengthOf_18
  · refine J_aload_n 0 hX dX8_lengthOf_8 fz0 rfl ?_
    refine J_getR (b := 68) hX dX8_lengthOf_9 lf_X8_16 sk_62 rfl (by decide) rfl ?_
    refine J_iload_n 1 hX dX8_lengthOf_12 fz1 rfl ?_
    refine J_iald hX dX8_lengthOf_13 sk_68 ln_68 ?_
    refine J_goto (tgt := 18) hX dX8_lengthOf_14 rfl ?_
    exact J_retI hR dX8_lengthOf_18
set_option maxHeartbeats 4000000 in
set_option maxRecDepth 100000 in
theorem ok_X8_holds {Y : DX} {v1 : Int32} {v2 : Int32} {v3 : Int32}  {G : GM} {r : Int32} {G' : GM} (hf : f_X8_holds v1 v2 v3 G = some (r, G')) : OkI Y 4 M_X8_holds [.ref (AD Y 62), .int v1, .int v2, .int v3] G r G' := by
  refine okZ_of (lv0 := [(0, .ref (AD Y 62)), (1, .int v1), (2, .int v2), (3, .int v3)]) (by decide +kernel) rfl (Nat.le_of_ble_eq_true rfl) ?_
  intro X Q hX hR
  have hX : CXok X Y RX8 cX8_holds 4 _ := hX
  revert hf
  show J X Y 4 Q 0 [(0, .ref (AD Y 62)), (1, .int v1), (2, .int v2), (3, .int v3)] [] G (f_X8_holds v1 v2 v3 G = some (r, G'))
  unfold f_X8_holds
  refine J_iload_n 2 hX dX8_holds_0 fz2 rfl ?_
  refine J_if_lt (tgt := 27) hX dX8_holds_1 rfl ?_ ?_
  · refine J_iconst hX dX8_holds_27 ci_0 ?_
    exact J_retZ hR (by decide) dX8_holds_28
  · refine J_iload_n 3 hX dX8_holds_4 fz3 rfl ?_
    refine J_if_lt (tgt := 27) hX dX8_holds_5 rfl ?_ ?_
    · refine J_iconst hX dX8_holds_27 ci_0 ?_
      exact J_retZ hR (by decide) dX8_holds_28
    · refine J_iload_n 2 hX dX8_holds_8 fz2 rfl ?_
      refine J_i2l hX dX8_holds_9 ?_
      refine J_iload_n 3 hX dX8_holds_10 fz3 rfl ?_
      refine J_i2l hX dX8_holds_11 ?_
      refine J_ladd hX dX8_holds_12 ?_
      refine J_aload_n 0 hX dX8_holds_13 fz0 rfl ?_
      refine J_iload_n 1 hX dX8_holds_14 fz1 rfl ?_
      refine J_callVI (As := [.int v1]) (st := [.long ((v2.toInt64) + (v3.toInt64))]) (b := 62) hX mv_X8_34 sk_62 rfl rfl rfl (Nat.le_of_ble_eq_true rfl) (Nat.le_of_ble_eq_true rfl) (Nat.le_of_ble_eq_true rfl) dX8_holds_15 (fun r G1 h => ok_X8_lengthOf  h) fun r15 G15 => ?_
      refine J_i2l hX dX8_holds_18 ?_
      refine J_lcmp hX dX8_holds_19 ?_
      refine J_if_gt (tgt := 27) hX dX8_holds_20 rfl ?_ ?_
      · refine J_iconst hX dX8_holds_27 ci_0 ?_
        exact J_retZ hR (by decide) dX8_holds_28
      · refine J_iconst hX dX8_holds_23 ci_1 ?_
        refine J_goto (tgt := 28) hX dX8_holds_24 rfl ?_
        exact J_retZ hR (by decide) dX8_holds_28
set_option maxHeartbeats 4000000 in
set_option maxRecDepth 100000 in
theorem ok_X8_valueAt {Y : DX} {v1 : Int32} {v2 : Int32}  {G : GM} {r : Int64} {G' : GM} (hf : f_X8_valueAt v1 v2 G = some (r, G')) : OkJ Y 5 M_X8_valueAt [.ref (AD Y 62), .int v1, .int v2] G r G' := by
  refine okJ_of (lv0 := [(0, .ref (AD Y 62)), (1, .int v1), (2, .int v2)]) (by decide +kernel) rfl (Nat.le_of_ble_eq_true rfl) ?_
  intro X Q hX hR
  have hX : CXok X Y RX8 cX8_valueAt 3 _ := hX
  revert hf
  show J X Y 3 Q 0 [(0, .ref (AD Y 62)), (1, .int v1), (2, .int v2)] [] G (f_X8_valueAt v1 v2 G = some (r, G'))
  unfold f_X8_valueAt
  refine J_aload_n 0 hX dX8_valueAt_0 fz0 rfl ?_
  refine J_iload_n 1 hX dX8_valueAt_1 fz1 rfl ?_
  refine J_iload_n 2 hX dX8_valueAt_2 fz2 rfl ?_
  refine J_iconst hX dX8_valueAt_3 ci_1 ?_
  refine J_callVI (As := [.int v1, .int v2, .int (1 : Int32)]) (st := []) (b := 62) hX mv_X8_38 sk_62 rfl rfl rfl (Nat.le_of_ble_eq_true rfl) (Nat.le_of_ble_eq_true rfl) (Nat.le_of_ble_eq_true rfl) dX8_valueAt_4 (fun r G1 h => ok_X8_holds  h) fun r4 G4 => ?_
  refine J_if_eq (tgt := 21) hX dX8_valueAt_7 rfl ?_ ?_
  · refine J_lconst hX dX8_valueAt_21 fy0 ?_
    exact J_retJ hR dX8_valueAt_22
  · refine J_aload_n 0 hX dX8_valueAt_10 fz0 rfl ?_
    refine J_getR (b := 63) hX dX8_valueAt_11 lf_X8_13 sk_62 rfl (by decide) rfl ?_
    refine J_iload_n 1 hX dX8_valueAt_14 fz1 rfl ?_
    refine J_aald (b := (64 + v1.toNatClampNeg)) hX dX8_valueAt_15 sk_63 (by decide) ln_63 (p0_15 sk_63) fun hi15 => ?_
    refine J_iload_n 2 hX dX8_valueAt_16 fz2 rfl ?_
    refine J_lald hX dX8_valueAt_17 (row_el hi15).1 (row_el hi15).2 ?_
    refine J_goto (tgt := 22) hX dX8_valueAt_18 rfl ?_
    exact J_retJ hR dX8_valueAt_22
set_option maxHeartbeats 4000000 in
set_option maxRecDepth 100000 in
theorem ok_J13_bitCount_95d88 {Y : DX} {v0 : Int64}  {G : GM} {r : Int32} {G' : GM} (hf : f_J13_bitCount_95d88 v0 G = some (r, G')) : OkI Y 1 M_J13_bitCount_95d88 [.long v0] G r G' := by
  refine okI_of (lv0 := [(0, .long v0)]) (by decide +kernel) rfl (Nat.le_of_ble_eq_true rfl) ?_
  intro X Q hX hR
  have hX : CXok X Y RJ13 cJ13_bitCount_95d88 2 _ := hX
  revert hf
  show J X Y 2 Q 0 [(0, .long v0)] [] G (f_J13_bitCount_95d88 v0 G = some (r, G'))
  unfold f_J13_bitCount_95d88
  refine J_lload_n 0 hX dJ13_bitCount_95d88_0 fz0 rfl ?_
  refine J_lload_n 0 hX dJ13_bitCount_95d88_1 fz0 rfl ?_
  refine J_iconst hX dJ13_bitCount_95d88_2 ci_1 ?_
  refine J_lushr hX dJ13_bitCount_95d88_3 rfl ?_
  refine J_ldc2 hX dJ13_bitCount_95d88_4 ll_J13_314 ?_
  refine J_land hX dJ13_bitCount_95d88_7 ?_
  refine J_lsub hX dJ13_bitCount_95d88_8 ?_
  refine J_lt (mk := Value.long) fun x9 => ?_
  refine J_lstore_n (lv' := [(0, .long x9)]) hX dJ13_bitCount_95d88_9 fz0 (Nat.le_of_ble_eq_true rfl) rfl ?_
  refine J_lload_n 0 hX dJ13_bitCount_95d88_10 fz0 rfl ?_
  refine J_ldc2 hX dJ13_bitCount_95d88_11 ll_J13_316 ?_
  refine J_land hX dJ13_bitCount_95d88_14 ?_
  refine J_lload_n 0 hX dJ13_bitCount_95d88_15 fz0 rfl ?_
  refine J_iconst hX dJ13_bitCount_95d88_16 ci_2 ?_
  refine J_lushr hX dJ13_bitCount_95d88_17 rfl ?_
  refine J_ldc2 hX dJ13_bitCount_95d88_18 ll_J13_316 ?_
  refine J_land hX dJ13_bitCount_95d88_21 ?_
  refine J_ladd hX dJ13_bitCount_95d88_22 ?_
  refine J_lt (mk := Value.long) fun x23 => ?_
  refine J_lstore_n (lv' := [(0, .long x23)]) hX dJ13_bitCount_95d88_23 fz0 (Nat.le_of_ble_eq_true rfl) rfl ?_
  refine J_lload_n 0 hX dJ13_bitCount_95d88_24 fz0 rfl ?_
  refine J_lload_n 0 hX dJ13_bitCount_95d88_25 fz0 rfl ?_
  refine J_iconst hX dJ13_bitCount_95d88_26 ci_4 ?_
  refine J_lushr hX dJ13_bitCount_95d88_27 rfl ?_
  refine J_ladd hX dJ13_bitCount_95d88_28 ?_
  refine J_ldc2 hX dJ13_bitCount_95d88_29 ll_J13_318 ?_
  refine J_land hX dJ13_bitCount_95d88_32 ?_
  refine J_lt (mk := Value.long) fun x33 => ?_
  refine J_lstore_n (lv' := [(0, .long x33)]) hX dJ13_bitCount_95d88_33 fz0 (Nat.le_of_ble_eq_true rfl) rfl ?_
  refine J_lload_n 0 hX dJ13_bitCount_95d88_34 fz0 rfl ?_
  refine J_lload_n 0 hX dJ13_bitCount_95d88_35 fz0 rfl ?_
  refine J_bipush hX dJ13_bitCount_95d88_36 cb_8 ?_
  refine J_lushr hX dJ13_bitCount_95d88_38 rfl ?_
  refine J_ladd hX dJ13_bitCount_95d88_39 ?_
  refine J_lt (mk := Value.long) fun x40 => ?_
  refine J_lstore_n (lv' := [(0, .long x40)]) hX dJ13_bitCount_95d88_40 fz0 (Nat.le_of_ble_eq_true rfl) rfl ?_
  refine J_lload_n 0 hX dJ13_bitCount_95d88_41 fz0 rfl ?_
  refine J_lload_n 0 hX dJ13_bitCount_95d88_42 fz0 rfl ?_
  refine J_bipush hX dJ13_bitCount_95d88_43 cb_16 ?_
  refine J_lushr hX dJ13_bitCount_95d88_45 rfl ?_
  refine J_ladd hX dJ13_bitCount_95d88_46 ?_
  refine J_lt (mk := Value.long) fun x47 => ?_
  refine J_lstore_n (lv' := [(0, .long x47)]) hX dJ13_bitCount_95d88_47 fz0 (Nat.le_of_ble_eq_true rfl) rfl ?_
  refine J_lload_n 0 hX dJ13_bitCount_95d88_48 fz0 rfl ?_
  refine J_lload_n 0 hX dJ13_bitCount_95d88_49 fz0 rfl ?_
  refine J_bipush hX dJ13_bitCount_95d88_50 cb_32 ?_
  refine J_lushr hX dJ13_bitCount_95d88_52 rfl ?_
  refine J_ladd hX dJ13_bitCount_95d88_53 ?_
  refine J_lt (mk := Value.long) fun x54 => ?_
  refine J_lstore_n (lv' := [(0, .long x54)]) hX dJ13_bitCount_95d88_54 fz0 (Nat.le_of_ble_eq_true rfl) rfl ?_
  refine J_lload_n 0 hX dJ13_bitCount_95d88_55 fz0 rfl ?_
  refine J_l2i hX dJ13_bitCount_95d88_56 ?_
  refine J_bipush hX dJ13_bitCount_95d88_57 cb_127 ?_
  refine J_iand hX dJ13_bitCount_95d88_59 ?_
  exact J_retI hR dJ13_bitCount_95d88_60
set_option maxHeartbeats 4000000 in
set_option maxRecDepth 100000 in
theorem ok_X4_numbersOf {Y : DX} {v0 : Nat} {v1 : Nat} {v2 : Int32} (h0 : SHk v0 = 3) (h1 : SHk v1 = 10) {G : GM} {r : Int64} {G' : GM} (hf : f_X4_numbersOf v0 v1 v2 G = some (r, G')) : OkJ Y 2 M_X4_numbersOf [.ref (AD Y v0), .ref (AD Y v1), .int v2] G r G' := by
  refine okJ_of (lv0 := [(0, .ref (AD Y v0)), (1, .ref (AD Y v1)), (2, .int v2)]) (by decide +kernel) rfl (Nat.le_of_ble_eq_true rfl) ?_
  intro X Q hX hR
  have hX : CXok X Y RX4 cX4_numbersOf 8 _ := hX
  revert hf
  show J X Y 8 Q 0 [(0, .ref (AD Y v0)), (1, .ref (AD Y v1)), (2, .int v2)] [] G (f_X4_numbersOf v0 v1 v2 G = some (r, G'))
  have K5 : ∀  (n : Nat) (v3 : Int64) (v5 : Int32) (G : GM), J X Y 8 Q 5 [(0, .ref (AD Y v0)), (1, .ref (AD Y v1)), (2, .int v2), (3, .long v3), (5, .int v5)] [] G (wl2 n (lp_X4_numbersOf_5 v0 v1 v2) v3 v5 G = some (r, G')) := by
    refine wl2_ind (R := fun v3 v5 G φ => J X Y 8 Q 5 [(0, .ref (AD Y v0)), (1, .ref (AD Y v1)), (2, .int v2), (3, .long v3), (5, .int v5)] [] G φ) (fun _ _ G φ h => J_no h) ?_
    intro kc5 hk5 v3 v5 G
    unfold lp_X4_numbersOf_5
    have K17 : ∀ (v5 : Int32) (n : Nat) (v3 : Int64) (v6 : Int32) (G : GM), J X Y 8 Q 17 [(0, .ref (AD Y v0)), (1, .ref (AD Y v1)), (2, .int v2), (3, .long v3), (5, .int v5), (6, .int v6)] [] G (wl2 n (lp_X4_numbersOf_17 v0 v1 v2 v5 kc5) v3 v6 G = some (r, G')) := by
      intro v5
      refine wl2_ind (R := fun v3 v6 G φ => J X Y 8 Q 17 [(0, .ref (AD Y v0)), (1, .ref (AD Y v1)), (2, .int v2), (3, .long v3), (5, .int v5), (6, .int v6)] [] G φ) (fun _ _ G φ h => J_no h) ?_
      intro kc17 hk17 v3 v6 G
      unfold lp_X4_numbersOf_17
      have K53 : ∀ (v6 : Int32) (s0 : Int64) (s1 : Int64) (G : GM), J X Y 8 Q 53 [(0, .ref (AD Y v0)), (1, .ref (AD Y v1)), (2, .int v2), (5, .int v5), (6, .int v6)] [.long s0, .long s1] G (k_X4_numbersOf_53 v0 v1 v2 v5 v6 s0 s1 kc5 kc17 G = some (r, G')) := by
        intro v6 s0 s1 G
        unfold k_X4_numbersOf_53
        refine J_lor hX dX4_numbersOf_53 ?_
        refine J_lt (mk := Value.long) fun x54 => ?_
        refine J_lstore_n (lv' := [(3, .long x54), (0, .ref (AD Y v0)), (1, .ref (AD Y v1)), (2, .int v2), (5, .int v5), (6, .int v6)]) hX dX4_numbersOf_54 fz3 (Nat.le_of_ble_eq_true rfl) rfl ?_
        refine J_iinc (lv' := [(6, .int (v6 + (1 : Int32))), (3, .long x54), (0, .ref (AD Y v0)), (1, .ref (AD Y v1)), (2, .int v2), (5, .int v5)]) 5 hX dX4_numbersOf_55 rfl ci_1 (Nat.le_of_ble_eq_true rfl) rfl ?_
        refine J_goto (tgt := 17) hX dX4_numbersOf_58 rfl ?_
        refine J_sub (lv' := [(0, .ref (AD Y v0)), (1, .ref (AD Y v1)), (2, .int v2), (3, .long x54), (5, .int v5), (6, .int (v6 + (1 : Int32)))]) [2, 3, 4, 1, 5, 0] rfl ?_
        exact hk17 x54 (v6 + (1 : Int32)) G
      refine J_iload 5 hX dX4_numbersOf_17 rfl ?_
      refine J_aload_n 0 hX dX4_numbersOf_19 fz0 rfl ?_
      refine J_getI hX dX4_numbersOf_20 lf_X4_21 h0 rfl ?_
      refine J_icmp_ge (tgt := 61) hX dX4_numbersOf_23 rfl ?_ ?_
      · refine J_iinc (lv' := [(5, .int (v5 + (1 : Int32))), (0, .ref (AD Y v0)), (1, .ref (AD Y v1)), (2, .int v2), (3, .long v3), (6, .int v6)]) 4 hX dX4_numbersOf_61 rfl ci_1 (Nat.le_of_ble_eq_true rfl) rfl ?_
        refine J_goto (tgt := 5) hX dX4_numbersOf_64 rfl ?_
        refine J_sub (lv' := [(0, .ref (AD Y v0)), (1, .ref (AD Y v1)), (2, .int v2), (3, .long v3), (5, .int (v5 + (1 : Int32)))]) [1, 2, 3, 4, 0] rfl ?_
        exact hk5 v3 (v5 + (1 : Int32)) G
      · refine J_aload_n 1 hX dX4_numbersOf_26 fz1 rfl ?_
        refine J_aload_n 0 hX dX4_numbersOf_27 fz0 rfl ?_
        refine J_iload_n 2 hX dX4_numbersOf_28 fz2 rfl ?_
        refine J_iload 4 hX dX4_numbersOf_29 rfl ?_
        refine J_iload 5 hX dX4_numbersOf_31 rfl ?_
        refine J_callVI (As := [.int v2, .int v5, .int v6]) (st := [.ref (AD Y v1)]) (b := v0) hX mv_X4_92 h0 rfl rfl rfl (Nat.le_of_ble_eq_true rfl) (Nat.le_of_ble_eq_true rfl) (Nat.le_of_ble_eq_true rfl) dX4_numbersOf_33 (fun r G1 h => ok_X4_placeOf h0 h) fun r33 G33 => ?_
        refine J_iald hX dX4_numbersOf_36 h1 rfl ?_
        refine J_lt (mk := Value.int) fun x37 => ?_
        refine J_istore (lv' := [(7, .int x37), (0, .ref (AD Y v0)), (1, .ref (AD Y v1)), (2, .int v2), (3, .long v3), (5, .int v5), (6, .int v6)]) hX dX4_numbersOf_37 (Nat.le_of_ble_eq_true rfl) rfl ?_
        refine J_lload_n 4 hX dX4_numbersOf_39 fz3 rfl ?_
        refine J_iload 0 hX dX4_numbersOf_40 rfl ?_
        refine J_if_ne (tgt := 49) hX dX4_numbersOf_42 rfl ?_ ?_
        · refine J_lconst hX dX4_numbersOf_49 fy1 ?_
          refine J_iload 0 hX dX4_numbersOf_50 rfl ?_
          refine J_lshl hX dX4_numbersOf_52 ?_
          refine J_sub (lv' := [(0, .ref (AD Y v0)), (1, .ref (AD Y v1)), (2, .int v2), (5, .int v5), (6, .int v6)]) [1, 2, 3, 5, 6] rfl ?_
          exact K53 v6 ((1 : Int64) <<< (x37.toInt64 &&& 63)) v3 G33
        · refine J_lconst hX dX4_numbersOf_45 fy0 ?_
          refine J_goto (tgt := 53) hX dX4_numbersOf_46 rfl ?_
          refine J_sub (lv' := [(0, .ref (AD Y v0)), (1, .ref (AD Y v1)), (2, .int v2), (5, .int v5), (6, .int v6)]) [1, 2, 3, 5, 6] rfl ?_
          exact K53 v6 (0 : Int64) v3 G33
    refine J_iload 4 hX dX4_numbersOf_5 rfl ?_
    refine J_aload_n 0 hX dX4_numbersOf_7 fz0 rfl ?_
    refine J_getI hX dX4_numbersOf_8 lf_X4_15 h0 rfl ?_
    refine J_icmp_ge (tgt := 67) hX dX4_numbersOf_11 rfl ?_ ?_
    · refine J_lload_n 3 hX dX4_numbersOf_67 fz3 rfl ?_
      exact J_retJ hR dX4_numbersOf_68
    · refine J_iconst hX dX4_numbersOf_14 ci_0 ?_
      refine J_istore (lv' := [(6, .int (0 : Int32)), (0, .ref (AD Y v0)), (1, .ref (AD Y v1)), (2, .int v2), (3, .long v3), (5, .int v5)]) hX dX4_numbersOf_15 (Nat.le_of_ble_eq_true rfl) rfl ?_
      refine J_sub (lv' := [(0, .ref (AD Y v0)), (1, .ref (AD Y v1)), (2, .int v2), (3, .long v3), (5, .int v5), (6, .int (0 : Int32))]) [1, 2, 3, 4, 5, 0] rfl ?_
      exact K17 v5 FU v3 (0 : Int32) G
  unfold f_X4_numbersOf
  refine J_lconst hX dX4_numbersOf_0 fy0 ?_
  refine J_lstore_n (lv' := [(3, .long (0 : Int64)), (0, .ref (AD Y v0)), (1, .ref (AD Y v1)), (2, .int v2)]) hX dX4_numbersOf_1 fz3 (Nat.le_of_ble_eq_true rfl) rfl ?_
  refine J_iconst hX dX4_numbersOf_2 ci_0 ?_
  refine J_istore (lv' := [(5, .int (0 : Int32)), (3, .long (0 : Int64)), (0, .ref (AD Y v0)), (1, .ref (AD Y v1)), (2, .int v2)]) hX dX4_numbersOf_3 (Nat.le_of_ble_eq_true rfl) rfl ?_
  refine J_sub (lv' := [(0, .ref (AD Y v0)), (1, .ref (AD Y v1)), (2, .int v2), (3, .long (0 : Int64)), (5, .int (0 : Int32))]) [2, 3, 4, 1, 0] rfl ?_
  exact K5  FU (0 : Int64) (0 : Int32) G
set_option maxHeartbeats 4000000 in
set_option maxRecDepth 100000 in
theorem ok_X0_turnAt {Y : DX} {v1 : Int32} {v2 : Int32}  {G : GM} {r : Int32} {G' : GM} (hf : f_X0_turnAt v1 v2 G = some (r, G')) : OkI Y 1 M_X0_turnAt [.ref (AD Y 71), .int v1, .int v2] G r G' := by
  refine okI_of (lv0 := [(0, .ref (AD Y 71)), (1, .int v1), (2, .int v2)]) (by decide +kernel) rfl (Nat.le_of_ble_eq_true rfl) ?_
  intro X Q hX hR
  have hX : CXok X Y RX0 cX0_turnAt 4 _ := hX
  revert hf
  show J X Y 4 Q 0 [(0, .ref (AD Y 71)), (1, .int v1), (2, .int v2)] [] G (f_X0_turnAt v1 v2 G = some (r, G'))
  unfold f_X0_turnAt
  refine J_iload_n 1 hX dX0_turnAt_0 fz1 rfl ?_
  refine J_aload_n 0 hX dX0_turnAt_1 fz0 rfl ?_
  refine J_getI hX dX0_turnAt_2 lf_X0_15 sk_71 rfl ?_
  refine J_imul hX dX0_turnAt_5 ?_
  refine J_iload_n 2 hX dX0_turnAt_6 fz2 rfl ?_
  refine J_iadd hX dX0_turnAt_7 ?_
  refine J_lt (mk := Value.int) fun x8 => ?_
  refine J_istore_n (lv' := [(3, .int x8), (0, .ref (AD Y 71)), (1, .int v1), (2, .int v2)]) hX dX0_turnAt_8 fz3 (Nat.le_of_ble_eq_true rfl) rfl ?_
  refine J_iload_n 0 hX dX0_turnAt_9 fz3 rfl ?_
  refine J_if_lt (tgt := 22) hX dX0_turnAt_10 rfl ?_ ?_
  · refine J_iconst hX dX0_turnAt_22 ci_0 ?_
    refine J_goto (tgt := 32) hX dX0_turnAt_23 rfl ?_
    exact J_retI hR dX0_turnAt_32
  · refine J_iload_n 0 hX dX0_turnAt_13 fz3 rfl ?_
    refine J_aload_n 1 hX dX0_turnAt_14 fz0 rfl ?_
    refine J_getR (b := 72) hX dX0_turnAt_15 lf_X0_21 sk_71 rfl (by decide) rfl ?_
    refine J_alen hX dX0_turnAt_18 sk_72 (by decide) ln_72 ?_
    refine J_icmp_lt (tgt := 26) hX dX0_turnAt_19 rfl ?_ ?_
    · refine J_aload_n 1 hX dX0_turnAt_26 fz0 rfl ?_
      refine J_getR (b := 72) hX dX0_turnAt_27 lf_X0_21 sk_71 rfl (by decide) rfl ?_
      refine J_iload_n 0 hX dX0_turnAt_30 fz3 rfl ?_
      refine J_iald hX dX0_turnAt_31 sk_72 ln_72 ?_
      exact J_retI hR dX0_turnAt_32
    · refine J_iconst hX dX0_turnAt_22 ci_0 ?_
      refine J_goto (tgt := 32) hX dX0_turnAt_23 rfl ?_
      exact J_retI hR dX0_turnAt_32
set_option maxHeartbeats 4000000 in
set_option maxRecDepth 100000 in
theorem ok_X0_rowLack {Y : DX} {v1 : Int32} {v2 : Int32}  {G : GM} {r : Int32} {G' : GM} (hf : f_X0_rowLack v1 v2 G = some (r, G')) : OkI Y 2 M_X0_rowLack [.ref (AD Y 71), .int v1, .int v2] G r G' := by
  refine okI_of (lv0 := [(0, .ref (AD Y 71)), (1, .int v1), (2, .int v2)]) (by decide +kernel) rfl (Nat.le_of_ble_eq_true rfl) ?_
  intro X Q hX hR
  have hX : CXok X Y RX0 cX0_rowLack 5 _ := hX
  revert hf
  show J X Y 5 Q 0 [(0, .ref (AD Y 71)), (1, .int v1), (2, .int v2)] [] G (f_X0_rowLack v1 v2 G = some (r, G'))
  have K5 : ∀  (n : Nat) (v3 : Int32) (v4 : Int32) (G : GM), J X Y 5 Q 5 [(0, .ref (AD Y 71)), (1, .int v1), (2, .int v2), (3, .int v3), (4, .int v4)] [] G (wl2 n (lp_X0_rowLack_5 v1 v2) v3 v4 G = some (r, G')) := by
    refine wl2_ind (R := fun v3 v4 G φ => J X Y 5 Q 5 [(0, .ref (AD Y 71)), (1, .int v1), (2, .int v2), (3, .int v3), (4, .int v4)] [] G φ) (fun _ _ G φ h => J_no h) ?_
    intro kc5 hk5 v3 v4 G
    unfold lp_X0_rowLack_5
    refine J_iload 4 hX dX0_rowLack_5 rfl ?_
    refine J_aload_n 0 hX dX0_rowLack_7 fz0 rfl ?_
    refine J_getI hX dX0_rowLack_8 lf_X0_15 sk_71 rfl ?_
    refine J_icmp_ge (tgt := 34) hX dX0_rowLack_11 rfl ?_ ?_
    · refine J_iload_n 3 hX dX0_rowLack_34 fz3 rfl ?_
      exact J_retI hR dX0_rowLack_35
    · refine J_aload_n 0 hX dX0_rowLack_14 fz0 rfl ?_
      refine J_iload_n 1 hX dX0_rowLack_15 fz1 rfl ?_
      refine J_iload 4 hX dX0_rowLack_16 rfl ?_
      refine J_callVI (As := [.int v1, .int v4]) (st := []) (b := 71) hX mv_X0_37 sk_71 rfl rfl rfl (Nat.le_of_ble_eq_true rfl) (Nat.le_of_ble_eq_true rfl) (Nat.le_of_ble_eq_true rfl) dX0_rowLack_18 (fun r G1 h => ok_X0_turnAt  h) fun r18 G18 => ?_
      refine J_iload_n 2 hX dX0_rowLack_21 fz2 rfl ?_
      refine J_icmp_le (tgt := 28) hX dX0_rowLack_22 rfl ?_ ?_
      · refine J_iinc (lv' := [(4, .int (v4 + (1 : Int32))), (0, .ref (AD Y 71)), (1, .int v1), (2, .int v2), (3, .int v3)]) 4 hX dX0_rowLack_28 rfl ci_1 (Nat.le_of_ble_eq_true rfl) rfl ?_
        refine J_goto (tgt := 5) hX dX0_rowLack_31 rfl ?_
        refine J_sub (lv' := [(0, .ref (AD Y 71)), (1, .int v1), (2, .int v2), (3, .int v3), (4, .int (v4 + (1 : Int32)))]) [1, 2, 3, 4, 0] rfl ?_
        exact hk5 v3 (v4 + (1 : Int32)) G18
      · refine J_iinc (lv' := [(3, .int (v3 + (1 : Int32))), (0, .ref (AD Y 71)), (1, .int v1), (2, .int v2), (4, .int v4)]) 3 hX dX0_rowLack_25 rfl ci_1 (Nat.le_of_ble_eq_true rfl) rfl ?_
        refine J_iinc (lv' := [(4, .int (v4 + (1 : Int32))), (3, .int (v3 + (1 : Int32))), (0, .ref (AD Y 71)), (1, .int v1), (2, .int v2)]) 4 hX dX0_rowLack_28 rfl ci_1 (Nat.le_of_ble_eq_true rfl) rfl ?_
        refine J_goto (tgt := 5) hX dX0_rowLack_31 rfl ?_
        refine J_sub (lv' := [(0, .ref (AD Y 71)), (1, .int v1), (2, .int v2), (3, .int (v3 + (1 : Int32))), (4, .int (v4 + (1 : Int32)))]) [2, 3, 4, 1, 0] rfl ?_
        exact hk5 (v3 + (1 : Int32)) (v4 + (1 : Int32)) G18
  unfold f_X0_rowLack
  refine J_iconst hX dX0_rowLack_0 ci_0 ?_
  refine J_istore_n (lv' := [(3, .int (0 : Int32)), (0, .ref (AD Y 71)), (1, .int v1), (2, .int v2)]) hX dX0_rowLack_1 fz3 (Nat.le_of_ble_eq_true rfl) rfl ?_
  refine J_iconst hX dX0_rowLack_2 ci_0 ?_
  refine J_istore (lv' := [(4, .int (0 : Int32)), (3, .int (0 : Int32)), (0, .ref (AD Y 71)), (1, .int v1), (2, .int v2)]) hX dX0_rowLack_3 (Nat.le_of_ble_eq_true rfl) rfl ?_
  refine J_sub (lv' := [(0, .ref (AD Y 71)), (1, .int v1), (2, .int v2), (3, .int (0 : Int32)), (4, .int (0 : Int32))]) [2, 3, 4, 1, 0] rfl ?_
  exact K5  FU (0 : Int32) (0 : Int32) G
set_option maxHeartbeats 4000000 in
set_option maxRecDepth 100000 in
theorem ok_X0_daubedBy {Y : DX} {v1 : Int32}  {G : GM} {r : Int32} {G' : GM} (hf : f_X0_daubedBy v1 G = some (r, G')) : OkI Y 3 M_X0_daubedBy [.ref (AD Y 71), .int v1] G r G' := by
  refine okI_of (lv0 := [(0, .ref (AD Y 71)), (1, .int v1)]) (by decide +kernel) rfl (Nat.le_of_ble_eq_true rfl) ?_
  intro X Q hX hR
  have hX : CXok X Y RX0 cX0_daubedBy 4 _ := hX
  revert hf
  show J X Y 4 Q 0 [(0, .ref (AD Y 71)), (1, .int v1)] [] G (f_X0_daubedBy v1 G = some (r, G'))
  have K12 : ∀  (n : Nat) (v2 : Int32) (v3 : Int32) (G : GM), J X Y 4 Q 12 [(0, .ref (AD Y 71)), (1, .int v1), (2, .int v2), (3, .int v3)] [] G (wl2 n (lp_X0_daubedBy_12 v1) v2 v3 G = some (r, G')) := by
    refine wl2_ind (R := fun v2 v3 G φ => J X Y 4 Q 12 [(0, .ref (AD Y 71)), (1, .int v1), (2, .int v2), (3, .int v3)] [] G φ) (fun _ _ G φ h => J_no h) ?_
    intro kc12 hk12 v2 v3 G
    unfold lp_X0_daubedBy_12
    refine J_iload_n 3 hX dX0_daubedBy_12 fz3 rfl ?_
    refine J_aload_n 0 hX dX0_daubedBy_13 fz0 rfl ?_
    refine J_getI hX dX0_daubedBy_14 lf_X0_9 sk_71 rfl ?_
    refine J_icmp_ge (tgt := 35) hX dX0_daubedBy_17 rfl ?_ ?_
    · refine J_iload_n 2 hX dX0_daubedBy_35 fz2 rfl ?_
      exact J_retI hR dX0_daubedBy_36
    · refine J_iload_n 2 hX dX0_daubedBy_20 fz2 rfl ?_
      refine J_aload_n 0 hX dX0_daubedBy_21 fz0 rfl ?_
      refine J_iload_n 3 hX dX0_daubedBy_22 fz3 rfl ?_
      refine J_iload_n 1 hX dX0_daubedBy_23 fz1 rfl ?_
      refine J_callVI (As := [.int v3, .int v1]) (st := [.int v2]) (b := 71) hX mv_X0_58 sk_71 rfl rfl rfl (Nat.le_of_ble_eq_true rfl) (Nat.le_of_ble_eq_true rfl) (Nat.le_of_ble_eq_true rfl) dX0_daubedBy_24 (fun r G1 h => ok_X0_rowLack  h) fun r24 G24 => ?_
      refine J_isub hX dX0_daubedBy_27 ?_
      refine J_lt (mk := Value.int) fun x28 => ?_
      refine J_istore_n (lv' := [(2, .int x28), (0, .ref (AD Y 71)), (1, .int v1), (3, .int v3)]) hX dX0_daubedBy_28 fz2 (Nat.le_of_ble_eq_true rfl) rfl ?_
      refine J_iinc (lv' := [(3, .int (v3 + (1 : Int32))), (2, .int x28), (0, .ref (AD Y 71)), (1, .int v1)]) 3 hX dX0_daubedBy_29 rfl ci_1 (Nat.le_of_ble_eq_true rfl) rfl ?_
      refine J_goto (tgt := 12) hX dX0_daubedBy_32 rfl ?_
      refine J_sub (lv' := [(0, .ref (AD Y 71)), (1, .int v1), (2, .int x28), (3, .int (v3 + (1 : Int32)))]) [2, 3, 1, 0] rfl ?_
      exact hk12 x28 (v3 + (1 : Int32)) G24
  unfold f_X0_daubedBy
  refine J_aload_n 0 hX dX0_daubedBy_0 fz0 rfl ?_
  refine J_getI hX dX0_daubedBy_1 lf_X0_9 sk_71 rfl ?_
  refine J_aload_n 0 hX dX0_daubedBy_4 fz0 rfl ?_
  refine J_getI hX dX0_daubedBy_5 lf_X0_18 sk_71 rfl ?_
  refine J_imul hX dX0_daubedBy_8 ?_
  refine J_lt (mk := Value.int) fun x9 => ?_
  refine J_istore_n (lv' := [(2, .int x9), (0, .ref (AD Y 71)), (1, .int v1)]) hX dX0_daubedBy_9 fz2 (Nat.le_of_ble_eq_true rfl) rfl ?_
  refine J_iconst hX dX0_daubedBy_10 ci_0 ?_
  refine J_istore_n (lv' := [(3, .int (0 : Int32)), (2, .int x9), (0, .ref (AD Y 71)), (1, .int v1)]) hX dX0_daubedBy_11 fz3 (Nat.le_of_ble_eq_true rfl) rfl ?_
  refine J_sub (lv' := [(0, .ref (AD Y 71)), (1, .int v1), (2, .int x9), (3, .int (0 : Int32))]) [2, 3, 1, 0] rfl ?_
  exact K12  FU x9 (0 : Int32) G
set_option maxHeartbeats 4000000 in
set_option maxRecDepth 100000 in
theorem ok_X0_look {Y : DX} {v1 : Nat} {v2 : Nat} {v3 : Int32} {v4 : Nat} (h1 : SHk v1 = 3) (h2 : SHk v2 = 10) (h4 : SHk v4 = 10) {G : GM} {G' : GM} (hf : f_X0_look v1 v2 v3 v4 G = some G') : OkV Y 2 M_X0_look [.ref (AD Y 71), .ref (AD Y v1), .ref (AD Y v2), .int v3, .ref (AD Y v4)] G G' := by
  refine okV_of (lv0 := [(0, .ref (AD Y 71)), (1, .ref (AD Y v1)), (2, .ref (AD Y v2)), (3, .int v3), (4, .ref (AD Y v4))]) (by decide +kernel) rfl (Nat.le_of_ble_eq_true rfl) ?_
  intro X Q hX hR
  have hX : CXok X Y RX0 cX0_look 9 _ := hX
  revert hf
  show J X Y 9 Q 0 [(0, .ref (AD Y 71)), (1, .ref (AD Y v1)), (2, .ref (AD Y v2)), (3, .int v3), (4, .ref (AD Y v4))] [] G (f_X0_look v1 v2 v3 v4 G = some G')
  have K27 : ∀  (n : Nat) (v5 : Int32) (G : GM), J X Y 9 Q 27 [(0, .ref (AD Y 71)), (1, .ref (AD Y v1)), (2, .ref (AD Y v2)), (3, .int v3), (4, .ref (AD Y v4)), (5, .int v5)] [] G (wl1 n (lp_X0_look_27 v1 v2 v3 v4) v5 G = some G') := by
    refine wl1_ind (R := fun v5 G φ => J X Y 9 Q 27 [(0, .ref (AD Y 71)), (1, .ref (AD Y v1)), (2, .ref (AD Y v2)), (3, .int v3), (4, .ref (AD Y v4)), (5, .int v5)] [] G φ) (fun _ G φ h => J_no h) ?_
    intro kc27 hk27 v5 G
    unfold lp_X0_look_27
    have K39 : ∀ (v5 : Int32) (n : Nat) (v6 : Int32) (G : GM), J X Y 9 Q 39 [(0, .ref (AD Y 71)), (1, .ref (AD Y v1)), (2, .ref (AD Y v2)), (3, .int v3), (4, .ref (AD Y v4)), (5, .int v5), (6, .int v6)] [] G (wl1 n (lp_X0_look_39 v1 v2 v3 v4 v5 kc27) v6 G = some G') := by
      intro v5
      refine wl1_ind (R := fun v6 G φ => J X Y 9 Q 39 [(0, .ref (AD Y 71)), (1, .ref (AD Y v1)), (2, .ref (AD Y v2)), (3, .int v3), (4, .ref (AD Y v4)), (5, .int v5), (6, .int v6)] [] G φ) (fun _ G φ h => J_no h) ?_
      intro kc39 hk39 v6 G
      unfold lp_X0_look_39
      have K109 : ∀ (v6 : Int32) (s0 : Int32) (s1 : Int32) (G : GM), J X Y 9 Q 109 [(0, .ref (AD Y 71)), (1, .ref (AD Y v1)), (2, .ref (AD Y v2)), (3, .int v3), (4, .ref (AD Y v4)), (5, .int v5), (6, .int v6)] [.int s0, .int s1, .ref (AD Y 72)] G (k_X0_look_109 v1 v2 v3 v4 v5 v6 s0 s1 kc27 kc39 G = some G') := by
        intro v6 s0 s1 G
        unfold k_X0_look_109
        refine J_iast hX dX0_look_109 sk_72 ln_72 fun G109 => ?_
        refine J_iinc (lv' := [(6, .int (v6 + (1 : Int32))), (0, .ref (AD Y 71)), (1, .ref (AD Y v1)), (2, .ref (AD Y v2)), (3, .int v3), (4, .ref (AD Y v4)), (5, .int v5)]) 6 hX dX0_look_110 rfl ci_1 (Nat.le_of_ble_eq_true rfl) rfl ?_
        refine J_goto (tgt := 39) hX dX0_look_113 rfl ?_
        refine J_sub (lv' := [(0, .ref (AD Y 71)), (1, .ref (AD Y v1)), (2, .ref (AD Y v2)), (3, .int v3), (4, .ref (AD Y v4)), (5, .int v5), (6, .int (v6 + (1 : Int32)))]) [1, 2, 3, 4, 5, 6, 0] rfl ?_
        exact hk39 (v6 + (1 : Int32)) G109
      have K79 : ∀ (v6 : Int32) (v7 : Int32) (s0 : Int32) (G : GM), J X Y 9 Q 79 [(0, .ref (AD Y 71)), (1, .ref (AD Y v1)), (2, .ref (AD Y v2)), (3, .int v3), (4, .ref (AD Y v4)), (5, .int v5), (6, .int v6), (7, .int v7)] [.int s0] G (k_X0_look_79 v1 v2 v3 v4 v5 v6 v7 s0 kc27 kc39 G = some G') := by
        intro v6 v7 s0 G
        unfold k_X0_look_79
        refine J_istore (lv' := [(8, .int s0), (0, .ref (AD Y 71)), (1, .ref (AD Y v1)), (2, .ref (AD Y v2)), (3, .int v3), (4, .ref (AD Y v4)), (5, .int v5), (6, .int v6), (7, .int v7)]) hX dX0_look_79 (Nat.le_of_ble_eq_true rfl) rfl ?_
        refine J_aload_n 1 hX dX0_look_81 fz0 rfl ?_
        refine J_getR (b := 72) hX dX0_look_82 lf_X0_21 sk_71 rfl (by decide) rfl ?_
        refine J_iload 6 hX dX0_look_85 rfl ?_
        refine J_aload_n 1 hX dX0_look_87 fz0 rfl ?_
        refine J_getI hX dX0_look_88 lf_X0_15 sk_71 rfl ?_
        refine J_imul hX dX0_look_91 ?_
        refine J_iload 7 hX dX0_look_92 rfl ?_
        refine J_iadd hX dX0_look_94 ?_
        refine J_iload 0 hX dX0_look_95 rfl ?_
        refine J_if_eq (tgt := 108) hX dX0_look_97 rfl ?_ ?_
        · refine J_iconst hX dX0_look_108 ci_0 ?_
          refine J_sub (lv' := [(0, .ref (AD Y 71)), (1, .ref (AD Y v1)), (2, .ref (AD Y v2)), (3, .int v3), (4, .ref (AD Y v4)), (5, .int v5), (6, .int v6)]) [1, 2, 3, 4, 5, 6, 7] rfl ?_
          exact K109 v6 (0 : Int32) ((v5 * (gI G 71 1)) + v6) G
        · refine J_aload 5 hX dX0_look_100 rfl ?_
          refine J_iload 8 hX dX0_look_102 rfl ?_
          refine J_iald hX dX0_look_104 h4 rfl ?_
          refine J_goto (tgt := 109) hX dX0_look_105 rfl ?_
          refine J_sub (lv' := [(0, .ref (AD Y 71)), (1, .ref (AD Y v1)), (2, .ref (AD Y v2)), (3, .int v3), (4, .ref (AD Y v4)), (5, .int v5), (6, .int v6)]) [1, 2, 3, 4, 5, 6, 7] rfl ?_
          exact K109 v6 (gI G v4 v7.toNatClampNeg) ((v5 * (gI G 71 1)) + v6) G
      have K78 : ∀ (v6 : Int32) (v7 : Int32) (G : GM), J X Y 9 Q 78 [(0, .ref (AD Y 71)), (1, .ref (AD Y v1)), (2, .ref (AD Y v2)), (3, .int v3), (4, .ref (AD Y v4)), (5, .int v5), (6, .int v6), (7, .int v7)] [] G (k_X0_look_78 v1 v2 v3 v4 v5 v6 v7 kc27 kc39 G = some G') := by
        intro v6 v7 G
        unfold k_X0_look_78
        refine J_iconst hX dX0_look_78 ci_0 ?_
        exact K79 v6 v7 (0 : Int32) G
      refine J_iload 6 hX dX0_look_39 rfl ?_
      refine J_aload_n 0 hX dX0_look_41 fz0 rfl ?_
      refine J_getI hX dX0_look_42 lf_X0_15 sk_71 rfl ?_
      refine J_icmp_ge (tgt := 116) hX dX0_look_45 rfl ?_ ?_
      · refine J_iinc (lv' := [(5, .int (v5 + (1 : Int32))), (0, .ref (AD Y 71)), (1, .ref (AD Y v1)), (2, .ref (AD Y v2)), (3, .int v3), (4, .ref (AD Y v4)), (6, .int v6)]) 5 hX dX0_look_116 rfl ci_1 (Nat.le_of_ble_eq_true rfl) rfl ?_
        refine J_goto (tgt := 27) hX dX0_look_119 rfl ?_
        refine J_sub (lv' := [(0, .ref (AD Y 71)), (1, .ref (AD Y v1)), (2, .ref (AD Y v2)), (3, .int v3), (4, .ref (AD Y v4)), (5, .int (v5 + (1 : Int32)))]) [1, 2, 3, 4, 5, 0] rfl ?_
        exact hk27 (v5 + (1 : Int32)) G
      · refine J_aload_n 2 hX dX0_look_48 fz2 rfl ?_
        refine J_aload_n 1 hX dX0_look_49 fz1 rfl ?_
        refine J_iload_n 3 hX dX0_look_50 fz3 rfl ?_
        refine J_iload 5 hX dX0_look_51 rfl ?_
        refine J_iload 6 hX dX0_look_53 rfl ?_
        refine J_callVI (As := [.int v3, .int v5, .int v6]) (st := [.ref (AD Y v2)]) (b := v1) hX mv_X0_33 h1 rfl rfl rfl (Nat.le_of_ble_eq_true rfl) (Nat.le_of_ble_eq_true rfl) (Nat.le_of_ble_eq_true rfl) dX0_look_55 (fun r G1 h => ok_X4_placeOf h1 h) fun r55 G55 => ?_
        refine J_iald hX dX0_look_58 h2 rfl ?_
        refine J_lt (mk := Value.int) fun x59 => ?_
        refine J_istore (lv' := [(7, .int x59), (0, .ref (AD Y 71)), (1, .ref (AD Y v1)), (2, .ref (AD Y v2)), (3, .int v3), (4, .ref (AD Y v4)), (5, .int v5), (6, .int v6)]) hX dX0_look_59 (Nat.le_of_ble_eq_true rfl) rfl ?_
        refine J_iload 0 hX dX0_look_61 rfl ?_
        refine J_if_le (tgt := 78) hX dX0_look_63 rfl ?_ ?_
        · refine J_sub (lv' := [(0, .ref (AD Y 71)), (1, .ref (AD Y v1)), (2, .ref (AD Y v2)), (3, .int v3), (4, .ref (AD Y v4)), (5, .int v5), (6, .int v6), (7, .int x59)]) [1, 2, 3, 4, 5, 6, 7, 0] rfl ?_
          exact K78 v6 x59 G55
        · refine J_iload 0 hX dX0_look_66 rfl ?_
          refine J_aload 5 hX dX0_look_68 rfl ?_
          refine J_alen hX dX0_look_70 h4 (by decide) rfl ?_
          refine J_icmp_ge (tgt := 78) hX dX0_look_71 rfl ?_ ?_
          · refine J_sub (lv' := [(0, .ref (AD Y 71)), (1, .ref (AD Y v1)), (2, .ref (AD Y v2)), (3, .int v3), (4, .ref (AD Y v4)), (5, .int v5), (6, .int v6), (7, .int x59)]) [1, 2, 3, 4, 5, 6, 7, 0] rfl ?_
            exact K78 v6 x59 G55
          · refine J_iconst hX dX0_look_74 ci_1 ?_
            refine J_goto (tgt := 79) hX dX0_look_75 rfl ?_
            refine J_sub (lv' := [(0, .ref (AD Y 71)), (1, .ref (AD Y v1)), (2, .ref (AD Y v2)), (3, .int v3), (4, .ref (AD Y v4)), (5, .int v5), (6, .int v6), (7, .int x59)]) [1, 2, 3, 4, 5, 6, 7, 0] rfl ?_
            exact K79 v6 x59 (1 : Int32) G55
    refine J_iload 5 hX dX0_look_27 rfl ?_
    refine J_aload_n 0 hX dX0_look_29 fz0 rfl ?_
    refine J_getI hX dX0_look_30 lf_X0_9 sk_71 rfl ?_
    refine J_icmp_ge (tgt := 122) hX dX0_look_33 rfl ?_ ?_
    · exact J_retV hR dX0_look_122
    · refine J_iconst hX dX0_look_36 ci_0 ?_
      refine J_istore (lv' := [(6, .int (0 : Int32)), (0, .ref (AD Y 71)), (1, .ref (AD Y v1)), (2, .ref (AD Y v2)), (3, .int v3), (4, .ref (AD Y v4)), (5, .int v5)]) hX dX0_look_37 (Nat.le_of_ble_eq_true rfl) rfl ?_
      refine J_sub (lv' := [(0, .ref (AD Y 71)), (1, .ref (AD Y v1)), (2, .ref (AD Y v2)), (3, .int v3), (4, .ref (AD Y v4)), (5, .int v5), (6, .int (0 : Int32))]) [1, 2, 3, 4, 5, 6, 0] rfl ?_
      exact K39 v5 FU (0 : Int32) G
  unfold f_X0_look
  refine J_aload_n 0 hX dX0_look_0 fz0 rfl ?_
  refine J_aload_n 1 hX dX0_look_1 fz1 rfl ?_
  refine J_getI hX dX0_look_2 lf_X0_28 h1 rfl ?_
  refine J_putI hX dX0_look_5 lf_X0_9 lpt_0_0 sk_71 rfl fun G5 => ?_
  refine J_aload_n 0 hX dX0_look_8 fz0 rfl ?_
  refine J_aload_n 1 hX dX0_look_9 fz1 rfl ?_
  refine J_getI hX dX0_look_10 lf_X0_31 h1 rfl ?_
  refine J_putI hX dX0_look_13 lf_X0_15 lpt_0_1 sk_71 rfl fun G13 => ?_
  refine J_aload_n 0 hX dX0_look_16 fz0 rfl ?_
  refine J_aload_n 1 hX dX0_look_17 fz1 rfl ?_
  refine J_getI hX dX0_look_18 lf_X0_32 h1 rfl ?_
  refine J_putI hX dX0_look_21 lf_X0_18 lpt_0_2 sk_71 rfl fun G21 => ?_
  refine J_iconst hX dX0_look_24 ci_0 ?_
  refine J_istore (lv' := [(5, .int (0 : Int32)), (0, .ref (AD Y 71)), (1, .ref (AD Y v1)), (2, .ref (AD Y v2)), (3, .int v3), (4, .ref (AD Y v4))]) hX dX0_look_25 (Nat.le_of_ble_eq_true rfl) rfl ?_
  refine J_sub (lv' := [(0, .ref (AD Y 71)), (1, .ref (AD Y v1)), (2, .ref (AD Y v2)), (3, .int v3), (4, .ref (AD Y v4)), (5, .int (0 : Int32))]) [1, 2, 3, 4, 5, 0] rfl ?_
  exact K27  FU (0 : Int32) G21
set_option maxHeartbeats 4000000 in
set_option maxRecDepth 100000 in
theorem ok_X0_fullRowsBy {Y : DX} {v1 : Int32}  {G : GM} {r : Int32} {G' : GM} (hf : f_X0_fullRowsBy v1 G = some (r, G')) : OkI Y 3 M_X0_fullRowsBy [.ref (AD Y 71), .int v1] G r G' := by
  refine okI_of (lv0 := [(0, .ref (AD Y 71)), (1, .int v1)]) (by decide +kernel) rfl (Nat.le_of_ble_eq_true rfl) ?_
  intro X Q hX hR
  have hX : CXok X Y RX0 cX0_fullRowsBy 4 _ := hX
  revert hf
  show J X Y 4 Q 0 [(0, .ref (AD Y 71)), (1, .int v1)] [] G (f_X0_fullRowsBy v1 G = some (r, G'))
  have K4 : ∀  (n : Nat) (v2 : Int32) (v3 : Int32) (G : GM), J X Y 4 Q 4 [(0, .ref (AD Y 71)), (1, .int v1), (2, .int v2), (3, .int v3)] [] G (wl2 n (lp_X0_fullRowsBy_4 v1) v2 v3 G = some (r, G')) := by
    refine wl2_ind (R := fun v2 v3 G φ => J X Y 4 Q 4 [(0, .ref (AD Y 71)), (1, .int v1), (2, .int v2), (3, .int v3)] [] G φ) (fun _ _ G φ h => J_no h) ?_
    intro kc4 hk4 v2 v3 G
    unfold lp_X0_fullRowsBy_4
    refine J_iload_n 3 hX dX0_fullRowsBy_4 fz3 rfl ?_
    refine J_aload_n 0 hX dX0_fullRowsBy_5 fz0 rfl ?_
    refine J_getI hX dX0_fullRowsBy_6 lf_X0_9 sk_71 rfl ?_
    refine J_icmp_ge (tgt := 30) hX dX0_fullRowsBy_9 rfl ?_ ?_
    · refine J_iload_n 2 hX dX0_fullRowsBy_30 fz2 rfl ?_
      exact J_retI hR dX0_fullRowsBy_31
    · refine J_aload_n 0 hX dX0_fullRowsBy_12 fz0 rfl ?_
      refine J_iload_n 3 hX dX0_fullRowsBy_13 fz3 rfl ?_
      refine J_iload_n 1 hX dX0_fullRowsBy_14 fz1 rfl ?_
      refine J_callVI (As := [.int v3, .int v1]) (st := []) (b := 71) hX mv_X0_58 sk_71 rfl rfl rfl (Nat.le_of_ble_eq_true rfl) (Nat.le_of_ble_eq_true rfl) (Nat.le_of_ble_eq_true rfl) dX0_fullRowsBy_15 (fun r G1 h => ok_X0_rowLack  h) fun r15 G15 => ?_
      refine J_if_ne (tgt := 24) hX dX0_fullRowsBy_18 rfl ?_ ?_
      · refine J_iinc (lv' := [(3, .int (v3 + (1 : Int32))), (0, .ref (AD Y 71)), (1, .int v1), (2, .int v2)]) 3 hX dX0_fullRowsBy_24 rfl ci_1 (Nat.le_of_ble_eq_true rfl) rfl ?_
        refine J_goto (tgt := 4) hX dX0_fullRowsBy_27 rfl ?_
        refine J_sub (lv' := [(0, .ref (AD Y 71)), (1, .int v1), (2, .int v2), (3, .int (v3 + (1 : Int32)))]) [1, 2, 3, 0] rfl ?_
        exact hk4 v2 (v3 + (1 : Int32)) G15
      · refine J_iinc (lv' := [(2, .int (v2 + (1 : Int32))), (0, .ref (AD Y 71)), (1, .int v1), (3, .int v3)]) 2 hX dX0_fullRowsBy_21 rfl ci_1 (Nat.le_of_ble_eq_true rfl) rfl ?_
        refine J_iinc (lv' := [(3, .int (v3 + (1 : Int32))), (2, .int (v2 + (1 : Int32))), (0, .ref (AD Y 71)), (1, .int v1)]) 3 hX dX0_fullRowsBy_24 rfl ci_1 (Nat.le_of_ble_eq_true rfl) rfl ?_
        refine J_goto (tgt := 4) hX dX0_fullRowsBy_27 rfl ?_
        refine J_sub (lv' := [(0, .ref (AD Y 71)), (1, .int v1), (2, .int (v2 + (1 : Int32))), (3, .int (v3 + (1 : Int32)))]) [2, 3, 1, 0] rfl ?_
        exact hk4 (v2 + (1 : Int32)) (v3 + (1 : Int32)) G15
  unfold f_X0_fullRowsBy
  refine J_iconst hX dX0_fullRowsBy_0 ci_0 ?_
  refine J_istore_n (lv' := [(2, .int (0 : Int32)), (0, .ref (AD Y 71)), (1, .int v1)]) hX dX0_fullRowsBy_1 fz2 (Nat.le_of_ble_eq_true rfl) rfl ?_
  refine J_iconst hX dX0_fullRowsBy_2 ci_0 ?_
  refine J_istore_n (lv' := [(3, .int (0 : Int32)), (2, .int (0 : Int32)), (0, .ref (AD Y 71)), (1, .int v1)]) hX dX0_fullRowsBy_3 fz3 (Nat.le_of_ble_eq_true rfl) rfl ?_
  refine J_sub (lv' := [(0, .ref (AD Y 71)), (1, .int v1), (2, .int (0 : Int32)), (3, .int (0 : Int32))]) [2, 3, 1, 0] rfl ?_
  exact K4  FU (0 : Int32) (0 : Int32) G
set_option maxHeartbeats 4000000 in
set_option maxRecDepth 100000 in
theorem ok_X0_canHave {Y : DX} {v1 : Int32}  {G : GM} {r : Int32} {G' : GM} (hf : f_X0_canHave v1 G = some (r, G')) : OkI Y 1 M_X0_canHave [.ref (AD Y 71), .int v1] G r G' := by
  refine okZ_of (lv0 := [(0, .ref (AD Y 71)), (1, .int v1)]) (by decide +kernel) rfl (Nat.le_of_ble_eq_true rfl) ?_
  intro X Q hX hR
  have hX : CXok X Y RX0 cX0_canHave 2 _ := hX
  revert hf
  show J X Y 2 Q 0 [(0, .ref (AD Y 71)), (1, .int v1)] [] G (f_X0_canHave v1 G = some (r, G'))
  have K14 : ∀ (s0 : Int32) (s1 : Int32) (G : GM), J X Y 2 Q 14 [] [.int s0, .int s1] G (k_X0_canHave_14 v1 s0 s1 G = some (r, G')) := by
    intro s0 s1 G
    unfold k_X0_canHave_14
    refine J_icmp_le (tgt := 21) hX dX0_canHave_14 rfl ?_ ?_
    · refine J_iconst hX dX0_canHave_21 ci_0 ?_
      exact J_retZ hR (by decide) dX0_canHave_22
    · refine J_iconst hX dX0_canHave_17 ci_1 ?_
      refine J_goto (tgt := 22) hX dX0_canHave_18 rfl ?_
      exact J_retZ hR (by decide) dX0_canHave_22
  unfold f_X0_canHave
  refine J_aload_n 0 hX dX0_canHave_0 fz0 rfl ?_
  refine J_getI hX dX0_canHave_1 lf_X0_9 sk_71 rfl ?_
  refine J_iload_n 1 hX dX0_canHave_4 fz1 rfl ?_
  refine J_iconst hX dX0_canHave_5 ci_1 ?_
  refine J_icmp_ne (tgt := 13) hX dX0_canHave_6 rfl ?_ ?_
  · refine J_iconst hX dX0_canHave_13 ci_0 ?_
    refine J_sub (lv' := []) [] rfl ?_
    exact K14 (0 : Int32) (gI G 71 0) G
  · refine J_iconst hX dX0_canHave_9 ci_1 ?_
    refine J_goto (tgt := 14) hX dX0_canHave_10 rfl ?_
    refine J_sub (lv' := []) [] rfl ?_
    exact K14 (1 : Int32) (gI G 71 0) G
set_option maxHeartbeats 4000000 in
set_option maxRecDepth 100000 in
theorem ok_X0_lackOf {Y : DX} {v1 : Int32} {v2 : Int32}  {G : GM} {r : Int32} {G' : GM} (hf : f_X0_lackOf v1 v2 G = some (r, G')) : OkI Y 3 M_X0_lackOf [.ref (AD Y 71), .int v1, .int v2] G r G' := by
  refine okI_of (lv0 := [(0, .ref (AD Y 71)), (1, .int v1), (2, .int v2)]) (by decide +kernel) rfl (Nat.le_of_ble_eq_true rfl) ?_
  intro X Q hX hR
  have hX : CXok X Y RX0 cX0_lackOf 6 _ := hX
  revert hf
  show J X Y 6 Q 0 [(0, .ref (AD Y 71)), (1, .int v1), (2, .int v2)] [] G (f_X0_lackOf v1 v2 G = some (r, G'))
  have K71 : ∀ (v3 : Int32) (n : Nat) (v4 : Int32) (v5 : Int32) (G : GM), J X Y 6 Q 71 [(0, .ref (AD Y 71)), (3, .int v3), (4, .int v4), (5, .int v5)] [] G (wl2 n (lp_X0_lackOf_71 v1 v2 v3) v4 v5 G = some (r, G')) := by
    intro v3
    refine wl2_ind (R := fun v4 v5 G φ => J X Y 6 Q 71 [(0, .ref (AD Y 71)), (3, .int v3), (4, .int v4), (5, .int v5)] [] G φ) (fun _ _ G φ h => J_no h) ?_
    intro kc71 hk71 v4 v5 G
    unfold lp_X0_lackOf_71
    refine J_iload 3 hX dX0_lackOf_71 rfl ?_
    refine J_iload_n 1 hX dX0_lackOf_73 fz3 rfl ?_
    refine J_icmp_ge (tgt := 95) hX dX0_lackOf_74 rfl ?_ ?_
    · refine J_iload 2 hX dX0_lackOf_95 rfl ?_
      exact J_retI hR dX0_lackOf_97
    · refine J_iload 2 hX dX0_lackOf_77 rfl ?_
      refine J_aload_n 0 hX dX0_lackOf_79 fz0 rfl ?_
      refine J_getR (b := 73) hX dX0_lackOf_80 lf_X0_25 sk_71 rfl (by decide) rfl ?_
      refine J_iload 3 hX dX0_lackOf_83 rfl ?_
      refine J_iald hX dX0_lackOf_85 sk_73 ln_73 ?_
      refine J_iadd hX dX0_lackOf_86 ?_
      refine J_lt (mk := Value.int) fun x87 => ?_
      refine J_istore (lv' := [(4, .int x87), (0, .ref (AD Y 71)), (3, .int v3), (5, .int v5)]) hX dX0_lackOf_87 (Nat.le_of_ble_eq_true rfl) rfl ?_
      refine J_iinc (lv' := [(5, .int (v5 + (1 : Int32))), (4, .int x87), (0, .ref (AD Y 71)), (3, .int v3)]) 3 hX dX0_lackOf_89 rfl ci_1 (Nat.le_of_ble_eq_true rfl) rfl ?_
      refine J_goto (tgt := 71) hX dX0_lackOf_92 rfl ?_
      refine J_sub (lv' := [(0, .ref (AD Y 71)), (3, .int v3), (4, .int x87), (5, .int (v5 + (1 : Int32)))]) [2, 3, 1, 0] rfl ?_
      exact hk71 x87 (v5 + (1 : Int32)) G
  have K64 : ∀ (s0 : Int32) (G : GM), J X Y 6 Q 64 [(0, .ref (AD Y 71))] [.int s0] G (k_X0_lackOf_64 v1 v2 s0 G = some (r, G')) := by
    intro s0 G
    unfold k_X0_lackOf_64
    refine J_istore_n (lv' := [(3, .int s0), (0, .ref (AD Y 71))]) hX dX0_lackOf_64 fz3 (Nat.le_of_ble_eq_true rfl) rfl ?_
    refine J_iconst hX dX0_lackOf_65 ci_0 ?_
    refine J_istore (lv' := [(4, .int (0 : Int32)), (3, .int s0), (0, .ref (AD Y 71))]) hX dX0_lackOf_66 (Nat.le_of_ble_eq_true rfl) rfl ?_
    refine J_iconst hX dX0_lackOf_68 ci_0 ?_
    refine J_istore (lv' := [(5, .int (0 : Int32)), (4, .int (0 : Int32)), (3, .int s0), (0, .ref (AD Y 71))]) hX dX0_lackOf_69 (Nat.le_of_ble_eq_true rfl) rfl ?_
    refine J_sub (lv' := [(0, .ref (AD Y 71)), (3, .int s0), (4, .int (0 : Int32)), (5, .int (0 : Int32))]) [3, 2, 1, 0] rfl ?_
    exact K71 s0 FU (0 : Int32) (0 : Int32) G
  have K12 : ∀  (n : Nat) (v3 : Int32) (G : GM), J X Y 6 Q 12 [(0, .ref (AD Y 71)), (1, .int v1), (2, .int v2), (3, .int v3)] [] G (wl1 n (lp_X0_lackOf_12 v1 v2) v3 G = some (r, G')) := by
    refine wl1_ind (R := fun v3 G φ => J X Y 6 Q 12 [(0, .ref (AD Y 71)), (1, .int v1), (2, .int v2), (3, .int v3)] [] G φ) (fun _ G φ h => J_no h) ?_
    intro kc12 hk12 v3 G
    unfold lp_X0_lackOf_12
    refine J_iload_n 3 hX dX0_lackOf_12 fz3 rfl ?_
    refine J_aload_n 0 hX dX0_lackOf_13 fz0 rfl ?_
    refine J_getI hX dX0_lackOf_14 lf_X0_9 sk_71 rfl ?_
    refine J_icmp_ge (tgt := 38) hX dX0_lackOf_17 rfl ?_ ?_
    · refine J_aload_n 0 hX dX0_lackOf_38 fz0 rfl ?_
      refine J_getR (b := 73) hX dX0_lackOf_39 lf_X0_25 sk_71 rfl (by decide) rfl ?_
      refine J_aload_n 0 hX dX0_lackOf_42 fz0 rfl ?_
      refine J_getI hX dX0_lackOf_43 lf_X0_9 sk_71 rfl ?_
      refine J_callSV (As := [.ref (AD Y 73), .int (gI G 71 0)]) (st := []) hX ms_X0_54 rfl rfl (Nat.le_of_ble_eq_true rfl) (Nat.le_of_ble_eq_true rfl) (Nat.le_of_ble_eq_true rfl) dX0_lackOf_46 (fun G1 h => ok_X9_sortRising sk_73 h) fun G46 => ?_
      refine J_iload_n 1 hX dX0_lackOf_49 fz1 rfl ?_
      refine J_iconst hX dX0_lackOf_50 ci_2 ?_
      refine J_icmp_ne (tgt := 61) hX dX0_lackOf_51 rfl ?_ ?_
      · refine J_iload_n 1 hX dX0_lackOf_61 fz1 rfl ?_
        refine J_iconst hX dX0_lackOf_62 ci_1 ?_
        refine J_iadd hX dX0_lackOf_63 ?_
        refine J_sub (lv' := [(0, .ref (AD Y 71))]) [0] rfl ?_
        exact K64 (v1 + (1 : Int32)) G46
      · refine J_aload_n 0 hX dX0_lackOf_54 fz0 rfl ?_
        refine J_getI hX dX0_lackOf_55 lf_X0_9 sk_71 rfl ?_
        refine J_goto (tgt := 64) hX dX0_lackOf_58 rfl ?_
        refine J_sub (lv' := [(0, .ref (AD Y 71))]) [0] rfl ?_
        exact K64 (gI G46 71 0) G46
    · refine J_aload_n 0 hX dX0_lackOf_20 fz0 rfl ?_
      refine J_getR (b := 73) hX dX0_lackOf_21 lf_X0_25 sk_71 rfl (by decide) rfl ?_
      refine J_iload_n 3 hX dX0_lackOf_24 fz3 rfl ?_
      refine J_aload_n 0 hX dX0_lackOf_25 fz0 rfl ?_
      refine J_iload_n 3 hX dX0_lackOf_26 fz3 rfl ?_
      refine J_iload_n 2 hX dX0_lackOf_27 fz2 rfl ?_
      refine J_callVI (As := [.int v3, .int v2]) (st := [.int v3, .ref (AD Y 73)]) (b := 71) hX mv_X0_58 sk_71 rfl rfl rfl (Nat.le_of_ble_eq_true rfl) (Nat.le_of_ble_eq_true rfl) (Nat.le_of_ble_eq_true rfl) dX0_lackOf_28 (fun r G1 h => ok_X0_rowLack  h) fun r28 G28 => ?_
      refine J_iast hX dX0_lackOf_31 sk_73 ln_73 fun G31 => ?_
      refine J_iinc (lv' := [(3, .int (v3 + (1 : Int32))), (0, .ref (AD Y 71)), (1, .int v1), (2, .int v2)]) 3 hX dX0_lackOf_32 rfl ci_1 (Nat.le_of_ble_eq_true rfl) rfl ?_
      refine J_goto (tgt := 12) hX dX0_lackOf_35 rfl ?_
      refine J_sub (lv' := [(0, .ref (AD Y 71)), (1, .int v1), (2, .int v2), (3, .int (v3 + (1 : Int32)))]) [1, 2, 3, 0] rfl ?_
      exact hk12 (v3 + (1 : Int32)) G31
  unfold f_X0_lackOf
  refine J_aload_n 0 hX dX0_lackOf_0 fz0 rfl ?_
  refine J_iload_n 1 hX dX0_lackOf_1 fz1 rfl ?_
  refine J_callVI (As := [.int v1]) (st := []) (b := 71) hX mv_X0_46 sk_71 rfl rfl rfl (Nat.le_of_ble_eq_true rfl) (Nat.le_of_ble_eq_true rfl) (Nat.le_of_ble_eq_true rfl) dX0_lackOf_2 (fun r G1 h => ok_X0_canHave  h) fun r2 G2 => ?_
  refine J_if_ne (tgt := 10) hX dX0_lackOf_5 rfl ?_ ?_
  · refine J_iconst hX dX0_lackOf_10 ci_0 ?_
    refine J_istore_n (lv' := [(3, .int (0 : Int32)), (0, .ref (AD Y 71)), (1, .int v1), (2, .int v2)]) hX dX0_lackOf_11 fz3 (Nat.le_of_ble_eq_true rfl) rfl ?_
    refine J_sub (lv' := [(0, .ref (AD Y 71)), (1, .int v1), (2, .int v2), (3, .int (0 : Int32))]) [1, 2, 3, 0] rfl ?_
    exact K12  FU (0 : Int32) G2
  · refine J_iconst hX dX0_lackOf_8 cim_1 ?_
    exact J_retI hR dX0_lackOf_9
set_option maxHeartbeats 4000000 in
set_option maxRecDepth 100000 in
theorem ok_X0_rowTurn {Y : DX} {v1 : Int32}  {G : GM} {r : Int32} {G' : GM} (hf : f_X0_rowTurn v1 G = some (r, G')) : OkI Y 2 M_X0_rowTurn [.ref (AD Y 71), .int v1] G r G' := by
  refine okI_of (lv0 := [(0, .ref (AD Y 71)), (1, .int v1)]) (by decide +kernel) rfl (Nat.le_of_ble_eq_true rfl) ?_
  intro X Q hX hR
  have hX : CXok X Y RX0 cX0_rowTurn 4 _ := hX
  revert hf
  show J X Y 4 Q 0 [(0, .ref (AD Y 71)), (1, .int v1)] [] G (f_X0_rowTurn v1 G = some (r, G'))
  have K4 : ∀  (n : Nat) (v2 : Int32) (v3 : Int32) (G : GM), J X Y 4 Q 4 [(0, .ref (AD Y 71)), (1, .int v1), (2, .int v2), (3, .int v3)] [] G (wl2 n (lp_X0_rowTurn_4 v1) v2 v3 G = some (r, G')) := by
    refine wl2_ind (R := fun v2 v3 G φ => J X Y 4 Q 4 [(0, .ref (AD Y 71)), (1, .int v1), (2, .int v2), (3, .int v3)] [] G φ) (fun _ _ G φ h => J_no h) ?_
    intro kc4 hk4 v2 v3 G
    unfold lp_X0_rowTurn_4
    refine J_iload_n 3 hX dX0_rowTurn_4 fz3 rfl ?_
    refine J_aload_n 0 hX dX0_rowTurn_5 fz0 rfl ?_
    refine J_getI hX dX0_rowTurn_6 lf_X0_15 sk_71 rfl ?_
    refine J_icmp_ge (tgt := 29) hX dX0_rowTurn_9 rfl ?_ ?_
    · refine J_iload_n 2 hX dX0_rowTurn_29 fz2 rfl ?_
      exact J_retI hR dX0_rowTurn_30
    · refine J_iload_n 2 hX dX0_rowTurn_12 fz2 rfl ?_
      refine J_aload_n 0 hX dX0_rowTurn_13 fz0 rfl ?_
      refine J_iload_n 1 hX dX0_rowTurn_14 fz1 rfl ?_
      refine J_iload_n 3 hX dX0_rowTurn_15 fz3 rfl ?_
      refine J_callVI (As := [.int v1, .int v3]) (st := [.int v2]) (b := 71) hX mv_X0_37 sk_71 rfl rfl rfl (Nat.le_of_ble_eq_true rfl) (Nat.le_of_ble_eq_true rfl) (Nat.le_of_ble_eq_true rfl) dX0_rowTurn_16 (fun r G1 h => ok_X0_turnAt  h) fun r16 G16 => ?_
      refine J_mmax hX dX0_rowTurn_19 lm_X0_41 (Nat.le_of_ble_eq_true rfl) (Nat.le_of_ble_eq_true rfl) ?_
      refine J_lt (mk := Value.int) fun x22 => ?_
      refine J_istore_n (lv' := [(2, .int x22), (0, .ref (AD Y 71)), (1, .int v1), (3, .int v3)]) hX dX0_rowTurn_22 fz2 (Nat.le_of_ble_eq_true rfl) rfl ?_
      refine J_iinc (lv' := [(3, .int (v3 + (1 : Int32))), (2, .int x22), (0, .ref (AD Y 71)), (1, .int v1)]) 3 hX dX0_rowTurn_23 rfl ci_1 (Nat.le_of_ble_eq_true rfl) rfl ?_
      refine J_goto (tgt := 4) hX dX0_rowTurn_26 rfl ?_
      refine J_sub (lv' := [(0, .ref (AD Y 71)), (1, .int v1), (2, .int x22), (3, .int (v3 + (1 : Int32)))]) [2, 3, 1, 0] rfl ?_
      exact hk4 x22 (v3 + (1 : Int32)) G16
  unfold f_X0_rowTurn
  refine J_iconst hX dX0_rowTurn_0 ci_0 ?_
  refine J_istore_n (lv' := [(2, .int (0 : Int32)), (0, .ref (AD Y 71)), (1, .int v1)]) hX dX0_rowTurn_1 fz2 (Nat.le_of_ble_eq_true rfl) rfl ?_
  refine J_iconst hX dX0_rowTurn_2 ci_0 ?_
  refine J_istore_n (lv' := [(3, .int (0 : Int32)), (2, .int (0 : Int32)), (0, .ref (AD Y 71)), (1, .int v1)]) hX dX0_rowTurn_3 fz3 (Nat.le_of_ble_eq_true rfl) rfl ?_
  refine J_sub (lv' := [(0, .ref (AD Y 71)), (1, .int v1), (2, .int (0 : Int32)), (3, .int (0 : Int32))]) [2, 3, 1, 0] rfl ?_
  exact K4  FU (0 : Int32) (0 : Int32) G
set_option maxHeartbeats 4000000 in
set_option maxRecDepth 100000 in
theorem ok_X0_turnOf {Y : DX} {v1 : Int32}  {G : GM} {r : Int32} {G' : GM} (hf : f_X0_turnOf v1 G = some (r, G')) : OkI Y 3 M_X0_turnOf [.ref (AD Y 71), .int v1] G r G' := by
  refine okI_of (lv0 := [(0, .ref (AD Y 71)), (1, .int v1)]) (by decide +kernel) rfl (Nat.le_of_ble_eq_true rfl) ?_
  intro X Q hX hR
  have hX : CXok X Y RX0 cX0_turnOf 3 _ := hX
  revert hf
  show J X Y 3 Q 0 [(0, .ref (AD Y 71)), (1, .int v1)] [] G (f_X0_turnOf v1 G = some (r, G'))
  have K12 : ∀  (n : Nat) (v2 : Int32) (G : GM), J X Y 3 Q 12 [(0, .ref (AD Y 71)), (1, .int v1), (2, .int v2)] [] G (wl1 n (lp_X0_turnOf_12 v1) v2 G = some (r, G')) := by
    refine wl1_ind (R := fun v2 G φ => J X Y 3 Q 12 [(0, .ref (AD Y 71)), (1, .int v1), (2, .int v2)] [] G φ) (fun _ G φ h => J_no h) ?_
    intro kc12 hk12 v2 G
    unfold lp_X0_turnOf_12
    refine J_iload_n 2 hX dX0_turnOf_12 fz2 rfl ?_
    refine J_aload_n 0 hX dX0_turnOf_13 fz0 rfl ?_
    refine J_getI hX dX0_turnOf_14 lf_X0_9 sk_71 rfl ?_
    refine J_icmp_ge (tgt := 37) hX dX0_turnOf_17 rfl ?_ ?_
    · refine J_aload_n 0 hX dX0_turnOf_37 fz0 rfl ?_
      refine J_getR (b := 73) hX dX0_turnOf_38 lf_X0_25 sk_71 rfl (by decide) rfl ?_
      refine J_aload_n 0 hX dX0_turnOf_41 fz0 rfl ?_
      refine J_getI hX dX0_turnOf_42 lf_X0_9 sk_71 rfl ?_
      refine J_callSV (As := [.ref (AD Y 73), .int (gI G 71 0)]) (st := []) hX ms_X0_54 rfl rfl (Nat.le_of_ble_eq_true rfl) (Nat.le_of_ble_eq_true rfl) (Nat.le_of_ble_eq_true rfl) dX0_turnOf_45 (fun G1 h => ok_X9_sortRising sk_73 h) fun G45 => ?_
      refine J_iload_n 1 hX dX0_turnOf_48 fz1 rfl ?_
      refine J_iconst hX dX0_turnOf_49 ci_2 ?_
      refine J_icmp_ne (tgt := 65) hX dX0_turnOf_50 rfl ?_ ?_
      · refine J_iload_n 1 hX dX0_turnOf_65 fz1 rfl ?_
        refine J_iconst hX dX0_turnOf_66 ci_1 ?_
        refine J_icmp_ne (tgt := 79) hX dX0_turnOf_67 rfl ?_ ?_
        · refine J_aload_n 0 hX dX0_turnOf_79 fz0 rfl ?_
          refine J_getR (b := 73) hX dX0_turnOf_80 lf_X0_25 sk_71 rfl (by decide) rfl ?_
          refine J_iconst hX dX0_turnOf_83 ci_0 ?_
          refine J_iald hX dX0_turnOf_84 sk_73 ln_73 ?_
          exact J_retI hR dX0_turnOf_85
        · refine J_aload_n 0 hX dX0_turnOf_70 fz0 rfl ?_
          refine J_getR (b := 73) hX dX0_turnOf_71 lf_X0_25 sk_71 rfl (by decide) rfl ?_
          refine J_iconst hX dX0_turnOf_74 ci_1 ?_
          refine J_iald hX dX0_turnOf_75 sk_73 ln_73 ?_
          refine J_goto (tgt := 85) hX dX0_turnOf_76 rfl ?_
          exact J_retI hR dX0_turnOf_85
      · refine J_aload_n 0 hX dX0_turnOf_53 fz0 rfl ?_
        refine J_getR (b := 73) hX dX0_turnOf_54 lf_X0_25 sk_71 rfl (by decide) rfl ?_
        refine J_aload_n 0 hX dX0_turnOf_57 fz0 rfl ?_
        refine J_getI hX dX0_turnOf_58 lf_X0_9 sk_71 rfl ?_
        refine J_iconst hX dX0_turnOf_61 ci_1 ?_
        refine J_isub hX dX0_turnOf_62 ?_
        refine J_iald hX dX0_turnOf_63 sk_73 ln_73 ?_
        exact J_retI hR dX0_turnOf_64
    · refine J_aload_n 0 hX dX0_turnOf_20 fz0 rfl ?_
      refine J_getR (b := 73) hX dX0_turnOf_21 lf_X0_25 sk_71 rfl (by decide) rfl ?_
      refine J_iload_n 2 hX dX0_turnOf_24 fz2 rfl ?_
      refine J_aload_n 0 hX dX0_turnOf_25 fz0 rfl ?_
      refine J_iload_n 2 hX dX0_turnOf_26 fz2 rfl ?_
      refine J_callVI (As := [.int v2]) (st := [.int v2, .ref (AD Y 73)]) (b := 71) hX mv_X0_50 sk_71 rfl rfl rfl (Nat.le_of_ble_eq_true rfl) (Nat.le_of_ble_eq_true rfl) (Nat.le_of_ble_eq_true rfl) dX0_turnOf_27 (fun r G1 h => ok_X0_rowTurn  h) fun r27 G27 => ?_
      refine J_iast hX dX0_turnOf_30 sk_73 ln_73 fun G30 => ?_
      refine J_iinc (lv' := [(2, .int (v2 + (1 : Int32))), (0, .ref (AD Y 71)), (1, .int v1)]) 2 hX dX0_turnOf_31 rfl ci_1 (Nat.le_of_ble_eq_true rfl) rfl ?_
      refine J_goto (tgt := 12) hX dX0_turnOf_34 rfl ?_
      refine J_sub (lv' := [(0, .ref (AD Y 71)), (1, .int v1), (2, .int (v2 + (1 : Int32)))]) [1, 2, 0] rfl ?_
      exact hk12 (v2 + (1 : Int32)) G30
  unfold f_X0_turnOf
  refine J_aload_n 0 hX dX0_turnOf_0 fz0 rfl ?_
  refine J_iload_n 1 hX dX0_turnOf_1 fz1 rfl ?_
  refine J_callVI (As := [.int v1]) (st := []) (b := 71) hX mv_X0_46 sk_71 rfl rfl rfl (Nat.le_of_ble_eq_true rfl) (Nat.le_of_ble_eq_true rfl) (Nat.le_of_ble_eq_true rfl) dX0_turnOf_2 (fun r G1 h => ok_X0_canHave  h) fun r2 G2 => ?_
  refine J_if_ne (tgt := 10) hX dX0_turnOf_5 rfl ?_ ?_
  · refine J_iconst hX dX0_turnOf_10 ci_0 ?_
    refine J_istore_n (lv' := [(2, .int (0 : Int32)), (0, .ref (AD Y 71)), (1, .int v1)]) hX dX0_turnOf_11 fz2 (Nat.le_of_ble_eq_true rfl) rfl ?_
    refine J_sub (lv' := [(0, .ref (AD Y 71)), (1, .int v1), (2, .int (0 : Int32))]) [1, 2, 0] rfl ?_
    exact K12  FU (0 : Int32) G2
  · refine J_iconst hX dX0_turnOf_8 cim_1 ?_
    exact J_retI hR dX0_turnOf_9
set_option maxHeartbeats 4000000 in
set_option maxRecDepth 100000 in
theorem ok_X0_endsTurn {Y : DX} {v1 : Int32}  {G : GM} {r : Int32} {G' : GM} (hf : f_X0_endsTurn v1 G = some (r, G')) : OkI Y 2 M_X0_endsTurn [.ref (AD Y 71), .int v1] G r G' := by
  refine okI_of (lv0 := [(0, .ref (AD Y 71)), (1, .int v1)]) (by decide +kernel) rfl (Nat.le_of_ble_eq_true rfl) ?_
  intro X Q hX hR
  have hX : CXok X Y RX0 cX0_endsTurn 6 _ := hX
  revert hf
  show J X Y 6 Q 0 [(0, .ref (AD Y 71)), (1, .int v1)] [] G (f_X0_endsTurn v1 G = some (r, G'))
  have K7 : ∀  (n : Nat) (v2 : Int32) (v3 : Int32) (v4 : Int32) (G : GM), J X Y 6 Q 7 [(0, .ref (AD Y 71)), (1, .int v1), (2, .int v2), (3, .int v3), (4, .int v4)] [] G (wl3 n (lp_X0_endsTurn_7 v1) v2 v3 v4 G = some (r, G')) := by
    refine wl3_ind (R := fun v2 v3 v4 G φ => J X Y 6 Q 7 [(0, .ref (AD Y 71)), (1, .int v1), (2, .int v2), (3, .int v3), (4, .int v4)] [] G φ) (fun _ _ _ G φ h => J_no h) ?_
    intro kc7 hk7 v2 v3 v4 G
    unfold lp_X0_endsTurn_7
    have K40 : ∀ (v4 : Int32) (v5 : Int32) (s0 : Int32) (G : GM), J X Y 6 Q 40 [(0, .ref (AD Y 71)), (1, .int v1), (4, .int v4), (5, .int v5)] [.int s0] G (k_X0_endsTurn_40 v1 v4 v5 s0 kc7 G = some (r, G')) := by
      intro v4 v5 s0 G
      unfold k_X0_endsTurn_40
      refine J_istore_n (lv' := [(2, .int s0), (0, .ref (AD Y 71)), (1, .int v1), (4, .int v4), (5, .int v5)]) hX dX0_endsTurn_40 fz2 (Nat.le_of_ble_eq_true rfl) rfl ?_
      refine J_iload 4 hX dX0_endsTurn_41 rfl ?_
      refine J_istore_n (lv' := [(3, .int v5), (2, .int s0), (0, .ref (AD Y 71)), (1, .int v1), (4, .int v4), (5, .int v5)]) hX dX0_endsTurn_43 fz3 (Nat.le_of_ble_eq_true rfl) rfl ?_
      refine J_iinc (lv' := [(4, .int (v4 + (1 : Int32))), (3, .int v5), (2, .int s0), (0, .ref (AD Y 71)), (1, .int v1), (5, .int v5)]) 4 hX dX0_endsTurn_44 rfl ci_1 (Nat.le_of_ble_eq_true rfl) rfl ?_
      refine J_goto (tgt := 7) hX dX0_endsTurn_47 rfl ?_
      refine J_sub (lv' := [(0, .ref (AD Y 71)), (1, .int v1), (2, .int s0), (3, .int v5), (4, .int (v4 + (1 : Int32)))]) [3, 4, 2, 1, 0] rfl ?_
      exact hk7 s0 v5 (v4 + (1 : Int32)) G
    refine J_iload 4 hX dX0_endsTurn_7 rfl ?_
    refine J_aload_n 0 hX dX0_endsTurn_9 fz0 rfl ?_
    refine J_getI hX dX0_endsTurn_10 lf_X0_15 sk_71 rfl ?_
    refine J_icmp_ge (tgt := 50) hX dX0_endsTurn_13 rfl ?_ ?_
    · refine J_iload_n 2 hX dX0_endsTurn_50 fz2 rfl ?_
      refine J_iload_n 3 hX dX0_endsTurn_51 fz3 rfl ?_
      refine J_mmax hX dX0_endsTurn_52 lm_X0_41 (Nat.le_of_ble_eq_true rfl) (Nat.le_of_ble_eq_true rfl) ?_
      exact J_retI hR dX0_endsTurn_55
    · refine J_aload_n 0 hX dX0_endsTurn_16 fz0 rfl ?_
      refine J_iload_n 1 hX dX0_endsTurn_17 fz1 rfl ?_
      refine J_iload 4 hX dX0_endsTurn_18 rfl ?_
      refine J_callVI (As := [.int v1, .int v4]) (st := []) (b := 71) hX mv_X0_37 sk_71 rfl rfl rfl (Nat.le_of_ble_eq_true rfl) (Nat.le_of_ble_eq_true rfl) (Nat.le_of_ble_eq_true rfl) dX0_endsTurn_20 (fun r G1 h => ok_X0_turnAt  h) fun r20 G20 => ?_
      refine J_istore (lv' := [(5, .int r20), (0, .ref (AD Y 71)), (1, .int v1), (2, .int v2), (3, .int v3), (4, .int v4)]) hX dX0_endsTurn_23 (Nat.le_of_ble_eq_true rfl) rfl ?_
      refine J_iload 0 hX dX0_endsTurn_25 rfl ?_
      refine J_if_le (tgt := 44) hX dX0_endsTurn_27 rfl ?_ ?_
      · refine J_iinc (lv' := [(4, .int (v4 + (1 : Int32))), (5, .int r20), (0, .ref (AD Y 71)), (1, .int v1), (2, .int v2), (3, .int v3)]) 5 hX dX0_endsTurn_44 rfl ci_1 (Nat.le_of_ble_eq_true rfl) rfl ?_
        refine J_goto (tgt := 7) hX dX0_endsTurn_47 rfl ?_
        refine J_sub (lv' := [(0, .ref (AD Y 71)), (1, .int v1), (2, .int v2), (3, .int v3), (4, .int (v4 + (1 : Int32)))]) [2, 3, 4, 5, 0] rfl ?_
        exact hk7 v2 v3 (v4 + (1 : Int32)) G20
      · refine J_iload_n 3 hX dX0_endsTurn_30 fz2 rfl ?_
        refine J_if_ne (tgt := 39) hX dX0_endsTurn_31 rfl ?_ ?_
        · refine J_iload_n 3 hX dX0_endsTurn_39 fz2 rfl ?_
          refine J_sub (lv' := [(0, .ref (AD Y 71)), (1, .int v1), (4, .int v4), (5, .int r20)]) [1, 2, 5, 0] rfl ?_
          exact K40 v4 r20 v2 G20
        · refine J_iload 0 hX dX0_endsTurn_34 rfl ?_
          refine J_goto (tgt := 40) hX dX0_endsTurn_36 rfl ?_
          refine J_sub (lv' := [(0, .ref (AD Y 71)), (1, .int v1), (4, .int v4), (5, .int r20)]) [1, 2, 5, 0] rfl ?_
          exact K40 v4 r20 r20 G20
  unfold f_X0_endsTurn
  refine J_iconst hX dX0_endsTurn_0 ci_0 ?_
  refine J_istore_n (lv' := [(2, .int (0 : Int32)), (0, .ref (AD Y 71)), (1, .int v1)]) hX dX0_endsTurn_1 fz2 (Nat.le_of_ble_eq_true rfl) rfl ?_
  refine J_iconst hX dX0_endsTurn_2 ci_0 ?_
  refine J_istore_n (lv' := [(3, .int (0 : Int32)), (2, .int (0 : Int32)), (0, .ref (AD Y 71)), (1, .int v1)]) hX dX0_endsTurn_3 fz3 (Nat.le_of_ble_eq_true rfl) rfl ?_
  refine J_iconst hX dX0_endsTurn_4 ci_0 ?_
  refine J_istore (lv' := [(4, .int (0 : Int32)), (3, .int (0 : Int32)), (2, .int (0 : Int32)), (0, .ref (AD Y 71)), (1, .int v1)]) hX dX0_endsTurn_5 (Nat.le_of_ble_eq_true rfl) rfl ?_
  refine J_sub (lv' := [(0, .ref (AD Y 71)), (1, .int v1), (2, .int (0 : Int32)), (3, .int (0 : Int32)), (4, .int (0 : Int32))]) [3, 4, 2, 1, 0] rfl ?_
  exact K7  FU (0 : Int32) (0 : Int32) (0 : Int32) G
set_option maxHeartbeats 4000000 in
set_option maxRecDepth 100000 in
theorem ok_X1_choose {Y : DX} {v0 : Int32} {v1 : Int32}  {G : GM} {r : Int64} {G' : GM} (hf : f_X1_choose v0 v1 G = some (r, G')) : OkJ Y 1 M_X1_choose [.int v0, .int v1] G r G' := by
  refine okJ_of (lv0 := [(0, .int v0), (1, .int v1)]) (by decide +kernel) rfl (Nat.le_of_ble_eq_true rfl) ?_
  intro X Q hX hR
  have hX : CXok X Y RX1 cX1_choose 5 _ := hX
  revert hf
  show J X Y 5 Q 0 [(0, .int v0), (1, .int v1)] [] G (f_X1_choose v0 v1 G = some (r, G'))
  have K16 : ∀  (n : Nat) (v2 : Int64) (v4 : Int32) (G : GM), J X Y 5 Q 16 [(0, .int v0), (1, .int v1), (2, .long v2), (4, .int v4)] [] G (wl2 n (lp_X1_choose_16 v0 v1) v2 v4 G = some (r, G')) := by
    refine wl2_ind (R := fun v2 v4 G φ => J X Y 5 Q 16 [(0, .int v0), (1, .int v1), (2, .long v2), (4, .int v4)] [] G φ) (fun _ _ G φ h => J_no h) ?_
    intro kc16 hk16 v2 v4 G
    unfold lp_X1_choose_16
    refine J_iload 3 hX dX1_choose_16 rfl ?_
    refine J_iload_n 1 hX dX1_choose_18 fz1 rfl ?_
    refine J_icmp_ge (tgt := 42) hX dX1_choose_19 rfl ?_ ?_
    · refine J_lload_n 2 hX dX1_choose_42 fz2 rfl ?_
      exact J_retJ hR dX1_choose_43
    · refine J_lload_n 2 hX dX1_choose_22 fz2 rfl ?_
      refine J_iload_n 0 hX dX1_choose_23 fz0 rfl ?_
      refine J_iload 3 hX dX1_choose_24 rfl ?_
      refine J_isub hX dX1_choose_26 ?_
      refine J_i2l hX dX1_choose_27 ?_
      refine J_lmul hX dX1_choose_28 ?_
      refine J_iload 3 hX dX1_choose_29 rfl ?_
      refine J_iconst hX dX1_choose_31 ci_1 ?_
      refine J_iadd hX dX1_choose_32 ?_
      refine J_i2l hX dX1_choose_33 ?_
      refine J_ldiv hX dX1_choose_34 ?_
      refine J_lt (mk := Value.long) fun x35 => ?_
      refine J_lstore_n (lv' := [(2, .long x35), (0, .int v0), (1, .int v1), (4, .int v4)]) hX dX1_choose_35 fz2 (Nat.le_of_ble_eq_true rfl) rfl ?_
      refine J_iinc (lv' := [(4, .int (v4 + (1 : Int32))), (2, .long x35), (0, .int v0), (1, .int v1)]) 3 hX dX1_choose_36 rfl ci_1 (Nat.le_of_ble_eq_true rfl) rfl ?_
      refine J_goto (tgt := 16) hX dX1_choose_39 rfl ?_
      refine J_sub (lv' := [(0, .int v0), (1, .int v1), (2, .long x35), (4, .int (v4 + (1 : Int32)))]) [2, 3, 1, 0] rfl ?_
      exact hk16 x35 (v4 + (1 : Int32)) G
  unfold f_X1_choose
  refine J_iload_n 1 hX dX1_choose_0 fz1 rfl ?_
  refine J_if_lt (tgt := 9) hX dX1_choose_1 rfl ?_ ?_
  · refine J_lconst hX dX1_choose_9 fy0 ?_
    exact J_retJ hR dX1_choose_10
  · refine J_iload_n 1 hX dX1_choose_4 fz1 rfl ?_
    refine J_iload_n 0 hX dX1_choose_5 fz0 rfl ?_
    refine J_icmp_le (tgt := 11) hX dX1_choose_6 rfl ?_ ?_
    · refine J_lconst hX dX1_choose_11 fy1 ?_
      refine J_lstore_n (lv' := [(2, .long (1 : Int64)), (0, .int v0), (1, .int v1)]) hX dX1_choose_12 fz2 (Nat.le_of_ble_eq_true rfl) rfl ?_
      refine J_iconst hX dX1_choose_13 ci_0 ?_
      refine J_istore (lv' := [(4, .int (0 : Int32)), (2, .long (1 : Int64)), (0, .int v0), (1, .int v1)]) hX dX1_choose_14 (Nat.le_of_ble_eq_true rfl) rfl ?_
      refine J_sub (lv' := [(0, .int v0), (1, .int v1), (2, .long (1 : Int64)), (4, .int (0 : Int32))]) [2, 3, 1, 0] rfl ?_
      exact K16  FU (1 : Int64) (0 : Int32) G
    · refine J_lconst hX dX1_choose_9 fy0 ?_
      exact J_retJ hR dX1_choose_10
set_option maxHeartbeats 4000000 in
set_option maxRecDepth 100000 in
theorem ok_X1_drawsWith {Y : DX} {v0 : Int32} {v1 : Int32} {v2 : Int32} {v3 : Int32} {v4 : Int32}  {G : GM} {r : Int64} {G' : GM} (hf : f_X1_drawsWith v0 v1 v2 v3 v4 G = some (r, G')) : OkJ Y 2 M_X1_drawsWith [.int v0, .int v1, .int v2, .int v3, .int v4] G r G' := by
  refine okJ_of (lv0 := [(0, .int v0), (1, .int v1), (2, .int v2), (3, .int v3), (4, .int v4)]) (by decide +kernel) rfl (Nat.le_of_ble_eq_true rfl) ?_
  intro X Q hX hR
  have hX : CXok X Y RX1 cX1_drawsWith 12 _ := hX
  revert hf
  show J X Y 12 Q 0 [(0, .int v0), (1, .int v1), (2, .int v2), (3, .int v3), (4, .int v4)] [] G (f_X1_drawsWith v0 v1 v2 v3 v4 G = some (r, G'))
  have K7 : ∀  (n : Nat) (v5 : Int64) (v7 : Int32) (G : GM), J X Y 12 Q 7 [(0, .int v0), (1, .int v1), (2, .int v2), (3, .int v3), (4, .int v4), (5, .long v5), (7, .int v7)] [] G (wl2 n (lp_X1_drawsWith_7 v0 v1 v2 v3 v4) v5 v7 G = some (r, G')) := by
    refine wl2_ind (R := fun v5 v7 G φ => J X Y 12 Q 7 [(0, .int v0), (1, .int v1), (2, .int v2), (3, .int v3), (4, .int v4), (5, .long v5), (7, .int v7)] [] G φ) (fun _ _ G φ h => J_no h) ?_
    intro kc7 hk7 v5 v7 G
    unfold lp_X1_drawsWith_7
    have K73 : ∀ (v7 : Int32) (s0 : Int64) (s1 : Int64) (G : GM), J X Y 12 Q 73 [(0, .int v0), (1, .int v1), (2, .int v2), (3, .int v3), (4, .int v4), (7, .int v7)] [.long s0, .long s1] G (k_X1_drawsWith_73 v0 v1 v2 v3 v4 v7 s0 s1 kc7 G = some (r, G')) := by
      intro v7 s0 s1 G
      unfold k_X1_drawsWith_73
      refine J_ladd hX dX1_drawsWith_73 ?_
      refine J_lt (mk := Value.long) fun x74 => ?_
      refine J_lstore (lv' := [(5, .long x74), (0, .int v0), (1, .int v1), (2, .int v2), (3, .int v3), (4, .int v4), (7, .int v7)]) hX dX1_drawsWith_74 (Nat.le_of_ble_eq_true rfl) rfl ?_
      refine J_iinc (lv' := [(7, .int (v7 + (1 : Int32))), (5, .long x74), (0, .int v0), (1, .int v1), (2, .int v2), (3, .int v3), (4, .int v4)]) 6 hX dX1_drawsWith_76 rfl ci_1 (Nat.le_of_ble_eq_true rfl) rfl ?_
      refine J_goto (tgt := 7) hX dX1_drawsWith_79 rfl ?_
      refine J_sub (lv' := [(0, .int v0), (1, .int v1), (2, .int v2), (3, .int v3), (4, .int v4), (5, .long x74), (7, .int (v7 + (1 : Int32)))]) [2, 3, 4, 5, 6, 1, 0] rfl ?_
      exact hk7 x74 (v7 + (1 : Int32)) G
    refine J_iload 6 hX dX1_drawsWith_7 rfl ?_
    refine J_iload_n 2 hX dX1_drawsWith_9 fz2 rfl ?_
    refine J_icmp_gt (tgt := 82) hX dX1_drawsWith_10 rfl ?_ ?_
    · refine J_lload 5 hX dX1_drawsWith_82 rfl ?_
      exact J_retJ hR dX1_drawsWith_84
    · refine J_iload_n 2 hX dX1_drawsWith_13 fz2 rfl ?_
      refine J_iload 6 hX dX1_drawsWith_14 rfl ?_
      refine J_callSJ (As := [.int v2, .int v7]) (st := []) hX ms_X1_7 rfl rfl (Nat.le_of_ble_eq_true rfl) (Nat.le_of_ble_eq_true rfl) (Nat.le_of_ble_eq_true rfl) dX1_drawsWith_16 (fun r G1 h => ok_X1_choose  h) fun r16 G16 => ?_
      refine J_iload_n 0 hX dX1_drawsWith_19 fz0 rfl ?_
      refine J_iload 6 hX dX1_drawsWith_20 rfl ?_
      refine J_iload_n 3 hX dX1_drawsWith_22 fz3 rfl ?_
      refine J_imul hX dX1_drawsWith_23 ?_
      refine J_isub hX dX1_drawsWith_24 ?_
      refine J_iload_n 1 hX dX1_drawsWith_25 fz1 rfl ?_
      refine J_iload 6 hX dX1_drawsWith_26 rfl ?_
      refine J_iload_n 3 hX dX1_drawsWith_28 fz3 rfl ?_
      refine J_imul hX dX1_drawsWith_29 ?_
      refine J_isub hX dX1_drawsWith_30 ?_
      refine J_callSJ (As := [.int (v0 - (v7 * v3)), .int (v1 - (v7 * v3))]) (st := [.long r16]) hX ms_X1_7 rfl rfl (Nat.le_of_ble_eq_true rfl) (Nat.le_of_ble_eq_true rfl) (Nat.le_of_ble_eq_true rfl) dX1_drawsWith_31 (fun r G1 h => ok_X1_choose  h) fun r31 G31 => ?_
      refine J_lmul hX dX1_drawsWith_34 ?_
      refine J_lt (mk := Value.long) fun x35 => ?_
      refine J_lstore (lv' := [(8, .long x35), (0, .int v0), (1, .int v1), (2, .int v2), (3, .int v3), (4, .int v4), (5, .long v5), (7, .int v7)]) hX dX1_drawsWith_35 (Nat.le_of_ble_eq_true rfl) rfl ?_
      refine J_iload 7 hX dX1_drawsWith_37 rfl ?_
      refine J_iconst hX dX1_drawsWith_39 ci_1 ?_
      refine J_isub hX dX1_drawsWith_40 ?_
      refine J_iload 5 hX dX1_drawsWith_41 rfl ?_
      refine J_iconst hX dX1_drawsWith_43 ci_1 ?_
      refine J_isub hX dX1_drawsWith_44 ?_
      refine J_callSJ (As := [.int (v7 - (1 : Int32)), .int (v4 - (1 : Int32))]) (st := []) hX ms_X1_7 rfl rfl (Nat.le_of_ble_eq_true rfl) (Nat.le_of_ble_eq_true rfl) (Nat.le_of_ble_eq_true rfl) dX1_drawsWith_45 (fun r G1 h => ok_X1_choose  h) fun r45 G45 => ?_
      refine J_lload 0 hX dX1_drawsWith_48 rfl ?_
      refine J_lmul hX dX1_drawsWith_50 ?_
      refine J_lt (mk := Value.long) fun x51 => ?_
      refine J_lstore (lv' := [(10, .long x51), (8, .long x35), (0, .int v0), (1, .int v1), (2, .int v2), (3, .int v3), (4, .int v4), (5, .long v5), (7, .int v7)]) hX dX1_drawsWith_51 (Nat.le_of_ble_eq_true rfl) rfl ?_
      refine J_lload 7 hX dX1_drawsWith_53 rfl ?_
      refine J_iload 8 hX dX1_drawsWith_55 rfl ?_
      refine J_iload 6 hX dX1_drawsWith_57 rfl ?_
      refine J_isub hX dX1_drawsWith_59 ?_
      refine J_iconst hX dX1_drawsWith_60 ci_2 ?_
      refine J_iremc hX dX1_drawsWith_61 (by decide) ?_
      refine J_if_ne (tgt := 70) hX dX1_drawsWith_62 rfl ?_ ?_
      · refine J_lload 0 hX dX1_drawsWith_70 rfl ?_
        refine J_lneg hX dX1_drawsWith_72 ?_
        refine J_sub (lv' := [(0, .int v0), (1, .int v1), (2, .int v2), (3, .int v3), (4, .int v4), (7, .int v7)]) [2, 3, 4, 5, 6, 8] rfl ?_
        exact K73 v7 ((-x51)) v5 G45
      · refine J_lload 0 hX dX1_drawsWith_65 rfl ?_
        refine J_goto (tgt := 73) hX dX1_drawsWith_67 rfl ?_
        refine J_sub (lv' := [(0, .int v0), (1, .int v1), (2, .int v2), (3, .int v3), (4, .int v4), (7, .int v7)]) [2, 3, 4, 5, 6, 8] rfl ?_
        exact K73 v7 x51 v5 G45
  unfold f_X1_drawsWith
  refine J_lconst hX dX1_drawsWith_0 fy0 ?_
  refine J_lstore (lv' := [(5, .long (0 : Int64)), (0, .int v0), (1, .int v1), (2, .int v2), (3, .int v3), (4, .int v4)]) hX dX1_drawsWith_1 (Nat.le_of_ble_eq_true rfl) rfl ?_
  refine J_iload 5 hX dX1_drawsWith_3 rfl ?_
  refine J_istore (lv' := [(7, .int v4), (5, .long (0 : Int64)), (0, .int v0), (1, .int v1), (2, .int v2), (3, .int v3), (4, .int v4)]) hX dX1_drawsWith_5 (Nat.le_of_ble_eq_true rfl) rfl ?_
  refine J_sub (lv' := [(0, .int v0), (1, .int v1), (2, .int v2), (3, .int v3), (4, .int v4), (5, .long (0 : Int64)), (7, .int v4)]) [2, 3, 4, 5, 6, 1, 0] rfl ?_
  exact K7  FU (0 : Int64) v4 G
set_option maxHeartbeats 4000000 in
set_option maxRecDepth 100000 in
theorem ok_X1_commonDivisor {Y : DX} {v0 : Int64} {v2 : Int64}  {G : GM} {r : Int64} {G' : GM} (hf : f_X1_commonDivisor v0 v2 G = some (r, G')) : OkJ Y 1 M_X1_commonDivisor [.long v0, .long v2] G r G' := by
  refine okJ_of (lv0 := [(0, .long v0), (2, .long v2)]) (by decide +kernel) rfl (Nat.le_of_ble_eq_true rfl) ?_
  intro X Q hX hR
  have hX : CXok X Y RX1 cX1_commonDivisor 11 _ := hX
  revert hf
  show J X Y 11 Q 0 [(0, .long v0), (2, .long v2)] [] G (f_X1_commonDivisor v0 v2 G = some (r, G'))
  have K9 : ∀  (n : Nat) (v4 : Int64) (v6 : Int64) (v8 : Int32) (G : GM), J X Y 11 Q 9 [(4, .long v4), (6, .long v6), (8, .int v8)] [] G (wl3 n (lp_X1_commonDivisor_9 v0 v2) v4 v6 v8 G = some (r, G')) := by
    refine wl3_ind (R := fun v4 v6 v8 G φ => J X Y 11 Q 9 [(4, .long v4), (6, .long v6), (8, .int v8)] [] G φ) (fun _ _ _ G φ h => J_no h) ?_
    intro kc9 hk9 v4 v6 v8 G
    unfold lp_X1_commonDivisor_9
    refine J_iload 2 hX dX1_commonDivisor_9 rfl ?_
    refine J_sipush hX dX1_commonDivisor_11 cs_1000 ?_
    refine J_icmp_ge (tgt := 45) hX dX1_commonDivisor_14 rfl ?_ ?_
    · refine J_lload 0 hX dX1_commonDivisor_45 rfl ?_
      exact J_retJ hR dX1_commonDivisor_47
    · refine J_lload 1 hX dX1_commonDivisor_17 rfl ?_
      refine J_lconst hX dX1_commonDivisor_19 fy0 ?_
      refine J_lcmp hX dX1_commonDivisor_20 ?_
      refine J_if_eq (tgt := 45) hX dX1_commonDivisor_21 rfl ?_ ?_
      · refine J_lload 0 hX dX1_commonDivisor_45 rfl ?_
        exact J_retJ hR dX1_commonDivisor_47
      · refine J_lload 0 hX dX1_commonDivisor_24 rfl ?_
        refine J_lload 1 hX dX1_commonDivisor_26 rfl ?_
        refine J_lrem hX dX1_commonDivisor_28 ?_
        refine J_lt (mk := Value.long) fun x29 => ?_
        refine J_lstore (lv' := [(9, .long x29), (4, .long v4), (6, .long v6), (8, .int v8)]) hX dX1_commonDivisor_29 (Nat.le_of_ble_eq_true rfl) rfl ?_
        refine J_lload 2 hX dX1_commonDivisor_31 rfl ?_
        refine J_lstore (lv' := [(4, .long v6), (9, .long x29), (6, .long v6), (8, .int v8)]) hX dX1_commonDivisor_33 (Nat.le_of_ble_eq_true rfl) rfl ?_
        refine J_lload 1 hX dX1_commonDivisor_35 rfl ?_
        refine J_lstore (lv' := [(6, .long x29), (4, .long v6), (9, .long x29), (8, .int v8)]) hX dX1_commonDivisor_37 (Nat.le_of_ble_eq_true rfl) rfl ?_
        refine J_iinc (lv' := [(8, .int (v8 + (1 : Int32))), (6, .long x29), (4, .long v6), (9, .long x29)]) 3 hX dX1_commonDivisor_39 rfl ci_1 (Nat.le_of_ble_eq_true rfl) rfl ?_
        refine J_goto (tgt := 9) hX dX1_commonDivisor_42 rfl ?_
        refine J_sub (lv' := [(4, .long v6), (6, .long x29), (8, .int (v8 + (1 : Int32)))]) [2, 1, 0] rfl ?_
        exact hk9 v6 x29 (v8 + (1 : Int32)) G
  unfold f_X1_commonDivisor
  refine J_lload_n 0 hX dX1_commonDivisor_0 fz0 rfl ?_
  refine J_lstore (lv' := [(4, .long v0), (0, .long v0), (2, .long v2)]) hX dX1_commonDivisor_1 (Nat.le_of_ble_eq_true rfl) rfl ?_
  refine J_lload_n 2 hX dX1_commonDivisor_3 fz2 rfl ?_
  refine J_lstore (lv' := [(6, .long v2), (4, .long v0), (0, .long v0), (2, .long v2)]) hX dX1_commonDivisor_4 (Nat.le_of_ble_eq_true rfl) rfl ?_
  refine J_iconst hX dX1_commonDivisor_6 ci_0 ?_
  refine J_istore (lv' := [(8, .int (0 : Int32)), (6, .long v2), (4, .long v0), (0, .long v0), (2, .long v2)]) hX dX1_commonDivisor_7 (Nat.le_of_ble_eq_true rfl) rfl ?_
  refine J_sub (lv' := [(4, .long v0), (6, .long v2), (8, .int (0 : Int32))]) [2, 1, 0] rfl ?_
  exact K9  FU v0 v2 (0 : Int32) G
set_option maxHeartbeats 4000000 in
set_option maxRecDepth 100000 in
theorem ok_X1_told {Y : DX} {v0 : Int64} {v2 : Int64} {v4 : Int32}  {G : GM} {r : Int64} {G' : GM} (hf : f_X1_told v0 v2 v4 G = some (r, G')) : OkJ Y 2 M_X1_told [.long v0, .long v2, .int v4] G r G' := by
  refine okJ_of (lv0 := [(0, .long v0), (2, .long v2), (4, .int v4)]) (by decide +kernel) rfl (Nat.le_of_ble_eq_true rfl) ?_
  intro X Q hX hR
  have hX : CXok X Y RX1 cX1_told 7 _ := hX
  revert hf
  show J X Y 7 Q 0 [(0, .long v0), (2, .long v2), (4, .int v4)] [] G (f_X1_told v0 v2 v4 G = some (r, G'))
  unfold f_X1_told
  refine J_lload_n 0 hX dX1_told_0 fz0 rfl ?_
  refine J_lload_n 1 hX dX1_told_1 fz2 rfl ?_
  refine J_callSJ (As := [.long v0, .long v2]) (st := []) hX ms_X1_13 rfl rfl (Nat.le_of_ble_eq_true rfl) (Nat.le_of_ble_eq_true rfl) (Nat.le_of_ble_eq_true rfl) dX1_told_2 (fun r G1 h => ok_X1_commonDivisor  h) fun r2 G2 => ?_
  refine J_lstore (lv' := [(5, .long r2), (0, .long v0), (2, .long v2), (4, .int v4)]) hX dX1_told_5 (Nat.le_of_ble_eq_true rfl) rfl ?_
  refine J_lload 0 hX dX1_told_7 rfl ?_
  refine J_lconst hX dX1_told_9 fy1 ?_
  refine J_lcmp hX dX1_told_10 ?_
  refine J_if_ge (tgt := 16) hX dX1_told_11 rfl ?_ ?_
  · refine J_iload 3 hX dX1_told_16 rfl ?_
    refine J_if_ne (tgt := 28) hX dX1_told_18 rfl ?_ ?_
    · refine J_lload_n 2 hX dX1_told_28 fz2 rfl ?_
      refine J_lload 0 hX dX1_told_29 rfl ?_
      refine J_ldiv hX dX1_told_31 ?_
      exact J_retJ hR dX1_told_32
    · refine J_lload_n 1 hX dX1_told_21 fz0 rfl ?_
      refine J_lload 0 hX dX1_told_22 rfl ?_
      refine J_ldiv hX dX1_told_24 ?_
      refine J_goto (tgt := 32) hX dX1_told_25 rfl ?_
      exact J_retJ hR dX1_told_32
  · refine J_lconst hX dX1_told_14 fy0 ?_
    exact J_retJ hR dX1_told_15
set_option maxHeartbeats 4000000 in
set_option maxRecDepth 100000 in
theorem ok_X8_inUse {Y : DX}   {G : GM} {r : Int32} {G' : GM} (hf : f_X8_inUse  G = some (r, G')) : OkI Y 1 M_X8_inUse [.ref (AD Y 62)] G r G' := by
  refine okI_of (lv0 := [(0, .ref (AD Y 62))]) (by decide +kernel) rfl (Nat.le_of_ble_eq_true rfl) ?_
  intro X Q hX hR
  have hX : CXok X Y RX8 cX8_inUse 3 _ := hX
  revert hf
  show J X Y 3 Q 0 [(0, .ref (AD Y 62))] [] G (f_X8_inUse  G = some (r, G'))
  have K4 : ∀  (n : Nat) (v1 : Int32) (v2 : Int32) (G : GM), J X Y 3 Q 4 [(0, .ref (AD Y 62)), (1, .int v1), (2, .int v2)] [] G (wl2 n (lp_X8_inUse_4 ) v1 v2 G = some (r, G')) := by
    refine wl2_ind (R := fun v1 v2 G φ => J X Y 3 Q 4 [(0, .ref (AD Y 62)), (1, .int v1), (2, .int v2)] [] G φ) (fun _ _ G φ h => J_no h) ?_
    intro kc4 hk4 v1 v2 G
    unfold lp_X8_inUse_4
    refine J_iload_n 2 hX dX8_inUse_4 fz2 rfl ?_
    refine J_iconst hX dX8_inUse_5 ci_4 ?_
    refine J_icmp_ge (tgt := 27) hX dX8_inUse_6 rfl ?_ ?_
    · refine J_iload_n 1 hX dX8_inUse_27 fz1 rfl ?_
      exact J_retI hR dX8_inUse_28
    · refine J_aload_n 0 hX dX8_inUse_9 fz0 rfl ?_
      refine J_getR (b := 70) hX dX8_inUse_10 lf_X8_23 sk_62 rfl (by decide) rfl ?_
      refine J_iload_n 2 hX dX8_inUse_13 fz2 rfl ?_
      refine J_zald hX dX8_inUse_14 sk_70 ln_70 ?_
      refine J_if_eq (tgt := 21) hX dX8_inUse_15 rfl ?_ ?_
      · refine J_iinc (lv' := [(2, .int (v2 + (1 : Int32))), (0, .ref (AD Y 62)), (1, .int v1)]) 2 hX dX8_inUse_21 rfl ci_1 (Nat.le_of_ble_eq_true rfl) rfl ?_
        refine J_goto (tgt := 4) hX dX8_inUse_24 rfl ?_
        refine J_sub (lv' := [(0, .ref (AD Y 62)), (1, .int v1), (2, .int (v2 + (1 : Int32)))]) [1, 2, 0] rfl ?_
        exact hk4 v1 (v2 + (1 : Int32)) G
      · refine J_iinc (lv' := [(1, .int (v1 + (1 : Int32))), (0, .ref (AD Y 62)), (2, .int v2)]) 1 hX dX8_inUse_18 rfl ci_1 (Nat.le_of_ble_eq_true rfl) rfl ?_
        refine J_iinc (lv' := [(2, .int (v2 + (1 : Int32))), (1, .int (v1 + (1 : Int32))), (0, .ref (AD Y 62))]) 2 hX dX8_inUse_21 rfl ci_1 (Nat.le_of_ble_eq_true rfl) rfl ?_
        refine J_goto (tgt := 4) hX dX8_inUse_24 rfl ?_
        refine J_sub (lv' := [(0, .ref (AD Y 62)), (1, .int (v1 + (1 : Int32))), (2, .int (v2 + (1 : Int32)))]) [2, 1, 0] rfl ?_
        exact hk4 (v1 + (1 : Int32)) (v2 + (1 : Int32)) G
  unfold f_X8_inUse
  refine J_iconst hX dX8_inUse_0 ci_0 ?_
  refine J_istore_n (lv' := [(1, .int (0 : Int32)), (0, .ref (AD Y 62))]) hX dX8_inUse_1 fz1 (Nat.le_of_ble_eq_true rfl) rfl ?_
  refine J_iconst hX dX8_inUse_2 ci_0 ?_
  refine J_istore_n (lv' := [(2, .int (0 : Int32)), (1, .int (0 : Int32)), (0, .ref (AD Y 62))]) hX dX8_inUse_3 fz2 (Nat.le_of_ble_eq_true rfl) rfl ?_
  refine J_sub (lv' := [(0, .ref (AD Y 62)), (1, .int (0 : Int32)), (2, .int (0 : Int32))]) [2, 1, 0] rfl ?_
  exact K4  FU (0 : Int32) (0 : Int32) G
set_option maxHeartbeats 4000000 in
set_option maxRecDepth 100000 in
theorem ok_X4_copyFrom {Y : DX} {v0 : Nat} {v1 : Nat} (h0 : SHk v0 = 3) (h1 : SHk v1 = 3) {G : GM} {G' : GM} (hf : f_X4_copyFrom v0 v1 G = some G') : OkV Y 8 M_X4_copyFrom [.ref (AD Y v0), .ref (AD Y v1)] G G' := by
  refine okV_of (lv0 := [(0, .ref (AD Y v0)), (1, .ref (AD Y v1))]) (by decide +kernel) rfl (Nat.le_of_ble_eq_true rfl) ?_
  intro X Q hX hR
  have hX : CXok X Y RX4 cX4_copyFrom 2 _ := hX
  revert hf
  show J X Y 2 Q 0 [(0, .ref (AD Y v0)), (1, .ref (AD Y v1))] [] G (f_X4_copyFrom v0 v1 G = some G')
  unfold f_X4_copyFrom
  refine J_aload_n 0 hX dX4_copyFrom_0 fz0 rfl ?_
  refine J_aload_n 1 hX dX4_copyFrom_1 fz1 rfl ?_
  refine J_getI hX dX4_copyFrom_2 lf_X4_9 h1 rfl ?_
  refine J_putI hX dX4_copyFrom_5 lf_X4_9 lpt_3_0 h0 rfl fun G5 => ?_
  refine J_aload_n 0 hX dX4_copyFrom_8 fz0 rfl ?_
  refine J_aload_n 1 hX dX4_copyFrom_9 fz1 rfl ?_
  refine J_getI hX dX4_copyFrom_10 lf_X4_15 h1 rfl ?_
  refine J_putI hX dX4_copyFrom_13 lf_X4_15 lpt_3_1 h0 rfl fun G13 => ?_
  refine J_aload_n 0 hX dX4_copyFrom_16 fz0 rfl ?_
  refine J_aload_n 1 hX dX4_copyFrom_17 fz1 rfl ?_
  refine J_getI hX dX4_copyFrom_18 lf_X4_18 h1 rfl ?_
  refine J_putI hX dX4_copyFrom_21 lf_X4_18 lpt_3_2 h0 rfl fun G21 => ?_
  refine J_aload_n 0 hX dX4_copyFrom_24 fz0 rfl ?_
  refine J_aload_n 1 hX dX4_copyFrom_25 fz1 rfl ?_
  refine J_getI hX dX4_copyFrom_26 lf_X4_21 h1 rfl ?_
  refine J_putI hX dX4_copyFrom_29 lf_X4_21 lpt_3_3 h0 rfl fun G29 => ?_
  refine J_aload_n 1 hX dX4_copyFrom_32 fz1 rfl ?_
  refine J_getR (b := (v1 + 1)) hX dX4_copyFrom_33 lf_X4_24 h1 rfl (by decide) rfl ?_
  refine J_iconst hX dX4_copyFrom_36 ci_0 ?_
  refine J_aload_n 0 hX dX4_copyFrom_37 fz0 rfl ?_
  refine J_getR (b := (v0 + 1)) hX dX4_copyFrom_38 lf_X4_24 h0 rfl (by decide) rfl ?_
  refine J_iconst hX dX4_copyFrom_41 ci_0 ?_
  refine J_iconst hX dX4_copyFrom_42 ci_5 ?_
  refine J_cpI hX dX4_copyFrom_43 la_X4_56 (Nat.le_of_ble_eq_true rfl) (Nat.le_of_ble_eq_true rfl) (tp_3_4 h1) (tp_3_4 h0) (tl_3_4 h1) (tl_3_4 h0) fun G43 => ?_
  refine J_aload_n 0 hX dX4_copyFrom_46 fz0 rfl ?_
  refine J_callVV (As := []) (st := []) (b := v0) hX mv_X4_53 h0 rfl rfl rfl (Nat.le_of_ble_eq_true rfl) (Nat.le_of_ble_eq_true rfl) (Nat.le_of_ble_eq_true rfl) dX4_copyFrom_47 (fun G1 h => ok_X4_settle h0 h) fun G47 => ?_
  exact J_retV hR dX4_copyFrom_50
set_option maxHeartbeats 4000000 in
set_option maxRecDepth 100000 in
theorem ok_X5_copyFrom {Y : DX} {v0 : Nat} {v1 : Nat} (h0 : SHk v0 = 4) (h1 : SHk v1 = 4) {G : GM} {G' : GM} (hf : f_X5_copyFrom v0 v1 G = some G') : OkV Y 9 M_X5_copyFrom [.ref (AD Y v0), .ref (AD Y v1)] G G' := by
  refine okV_of (lv0 := [(0, .ref (AD Y v0)), (1, .ref (AD Y v1))]) (by decide +kernel) rfl (Nat.le_of_ble_eq_true rfl) ?_
  intro X Q hX hR
  have hX : CXok X Y RX5 cX5_copyFrom 3 _ := hX
  revert hf
  show J X Y 3 Q 0 [(0, .ref (AD Y v0)), (1, .ref (AD Y v1))] [] G (f_X5_copyFrom v0 v1 G = some G')
  have K74 : ∀  (n : Nat) (v2 : Int32) (G : GM), J X Y 3 Q 74 [(0, .ref (AD Y v0)), (1, .ref (AD Y v1)), (2, .int v2)] [] G (wl1 n (lp_X5_copyFrom_74 v0 v1) v2 G = some G') := by
    refine wl1_ind (R := fun v2 G φ => J X Y 3 Q 74 [(0, .ref (AD Y v0)), (1, .ref (AD Y v1)), (2, .int v2)] [] G φ) (fun _ G φ h => J_no h) ?_
    intro kc74 hk74 v2 G
    unfold lp_X5_copyFrom_74
    refine J_iload_n 2 hX dX5_copyFrom_74 fz2 rfl ?_
    refine J_aload_n 0 hX dX5_copyFrom_75 fz0 rfl ?_
    refine J_getI hX dX5_copyFrom_76 lf_X5_32 h0 rfl ?_
    refine J_icmp_ge (tgt := 107) hX dX5_copyFrom_79 rfl ?_ ?_
    · refine J_aload_n 1 hX dX5_copyFrom_107 fz1 rfl ?_
      refine J_getR (b := (v1 + 20)) hX dX5_copyFrom_108 lf_X5_43 h1 rfl (by decide) rfl ?_
      refine J_iconst hX dX5_copyFrom_111 ci_0 ?_
      refine J_aload_n 0 hX dX5_copyFrom_112 fz0 rfl ?_
      refine J_getR (b := (v0 + 20)) hX dX5_copyFrom_113 lf_X5_43 h0 rfl (by decide) rfl ?_
      refine J_iconst hX dX5_copyFrom_116 ci_0 ?_
      refine J_bipush hX dX5_copyFrom_117 cb_45 ?_
      refine J_cpI hX dX5_copyFrom_119 la_X5_62 (Nat.le_of_ble_eq_true rfl) (Nat.le_of_ble_eq_true rfl) (tp_4_8 h1) (tp_4_8 h0) (tl_4_8 h1) (tl_4_8 h0) fun G119 => ?_
      refine J_aload_n 1 hX dX5_copyFrom_122 fz1 rfl ?_
      refine J_getR (b := (v1 + 21)) hX dX5_copyFrom_123 lf_X5_46 h1 rfl (by decide) rfl ?_
      refine J_iconst hX dX5_copyFrom_126 ci_0 ?_
      refine J_aload_n 0 hX dX5_copyFrom_127 fz0 rfl ?_
      refine J_getR (b := (v0 + 21)) hX dX5_copyFrom_128 lf_X5_46 h0 rfl (by decide) rfl ?_
      refine J_iconst hX dX5_copyFrom_131 ci_0 ?_
      refine J_bipush hX dX5_copyFrom_132 cb_46 ?_
      refine J_cpI hX dX5_copyFrom_134 la_X5_62 (Nat.le_of_ble_eq_true rfl) (Nat.le_of_ble_eq_true rfl) (tp_4_9 h1) (tp_4_9 h0) (tl_4_9 h1) (tl_4_9 h0) fun G134 => ?_
      exact J_retV hR dX5_copyFrom_137
    · refine J_aload_n 1 hX dX5_copyFrom_82 fz1 rfl ?_
      refine J_getR (b := (v1 + 11)) hX dX5_copyFrom_83 lf_X5_40 h1 rfl (by decide) rfl ?_
      refine J_iload_n 2 hX dX5_copyFrom_86 fz2 rfl ?_
      refine J_aald (b := (v1 + 12 + v2.toNatClampNeg)) hX dX5_copyFrom_87 (tp_4_7 h1) (by decide) (tl_4_7 h1) (p0_14 (tp_4_7 h1)) fun hi87 => ?_
      refine J_iconst hX dX5_copyFrom_88 ci_0 ?_
      refine J_aload_n 0 hX dX5_copyFrom_89 fz0 rfl ?_
      refine J_getR (b := (v0 + 11)) hX dX5_copyFrom_90 lf_X5_40 h0 rfl (by decide) rfl ?_
      refine J_iload_n 2 hX dX5_copyFrom_93 fz2 rfl ?_
      refine J_aald (b := (v0 + 12 + v2.toNatClampNeg)) hX dX5_copyFrom_94 (tp_4_7 h0) (by decide) (tl_4_7 h0) (p0_14 (tp_4_7 h0)) fun hi94 => ?_
      refine J_iconst hX dX5_copyFrom_95 ci_0 ?_
      refine J_bipush hX dX5_copyFrom_96 cb_45 ?_
      refine J_cpI hX dX5_copyFrom_98 la_X5_62 (Nat.le_of_ble_eq_true rfl) (Nat.le_of_ble_eq_true rfl) (st_el h1 hi87).1 (st_el h0 hi94).1 (st_el h1 hi87).2 (st_el h0 hi94).2 fun G98 => ?_
      refine J_iinc (lv' := [(2, .int (v2 + (1 : Int32))), (0, .ref (AD Y v0)), (1, .ref (AD Y v1))]) 2 hX dX5_copyFrom_101 rfl ci_1 (Nat.le_of_ble_eq_true rfl) rfl ?_
      refine J_goto (tgt := 74) hX dX5_copyFrom_104 rfl ?_
      refine J_sub (lv' := [(0, .ref (AD Y v0)), (1, .ref (AD Y v1)), (2, .int (v2 + (1 : Int32)))]) [1, 2, 0] rfl ?_
      exact hk74 (v2 + (1 : Int32)) G98
  unfold f_X5_copyFrom
  refine J_aload_n 0 hX dX5_copyFrom_0 fz0 rfl ?_
  refine J_getR (b := (v0 + 1)) hX dX5_copyFrom_1 lf_X5_12 h0 rfl (by decide) rfl ?_
  refine J_aload_n 1 hX dX5_copyFrom_4 fz1 rfl ?_
  refine J_getR (b := (v1 + 1)) hX dX5_copyFrom_5 lf_X5_12 h1 rfl (by decide) rfl ?_
  refine J_callVV (As := [.ref (AD Y (v1 + 1))]) (st := []) (b := (v0 + 1)) hX mv_X5_58 (tp_4_0 h0) rfl rfl rfl (Nat.le_of_ble_eq_true rfl) (Nat.le_of_ble_eq_true rfl) (Nat.le_of_ble_eq_true rfl) dX5_copyFrom_8 (fun G1 h => ok_X4_copyFrom (tp_4_0 h0) (tp_4_0 h1) h) fun G8 => ?_
  refine J_aload_n 0 hX dX5_copyFrom_11 fz0 rfl ?_
  refine J_aload_n 1 hX dX5_copyFrom_12 fz1 rfl ?_
  refine J_getI hX dX5_copyFrom_13 lf_X5_18 h1 rfl ?_
  refine J_putI hX dX5_copyFrom_16 lf_X5_18 lpt_4_1 h0 rfl fun G16 => ?_
  refine J_aload_n 1 hX dX5_copyFrom_19 fz1 rfl ?_
  refine J_getR (b := (v1 + 9)) hX dX5_copyFrom_20 lf_X5_22 h1 rfl (by decide) rfl ?_
  refine J_iconst hX dX5_copyFrom_23 ci_0 ?_
  refine J_aload_n 0 hX dX5_copyFrom_24 fz0 rfl ?_
  refine J_getR (b := (v0 + 9)) hX dX5_copyFrom_25 lf_X5_22 h0 rfl (by decide) rfl ?_
  refine J_iconst hX dX5_copyFrom_28 ci_0 ?_
  refine J_iconst hX dX5_copyFrom_29 ci_3 ?_
  refine J_cpI hX dX5_copyFrom_30 la_X5_62 (Nat.le_of_ble_eq_true rfl) (Nat.le_of_ble_eq_true rfl) (tp_4_2 h1) (tp_4_2 h0) (tl_4_2 h1) (tl_4_2 h0) fun G30 => ?_
  refine J_aload_n 0 hX dX5_copyFrom_33 fz0 rfl ?_
  refine J_aload_n 1 hX dX5_copyFrom_34 fz1 rfl ?_
  refine J_getI hX dX5_copyFrom_35 lf_X5_26 h1 rfl ?_
  refine J_putI hX dX5_copyFrom_38 lf_X5_26 lpt_4_3 h0 rfl fun G38 => ?_
  refine J_aload_n 0 hX dX5_copyFrom_41 fz0 rfl ?_
  refine J_aload_n 1 hX dX5_copyFrom_42 fz1 rfl ?_
  refine J_getI hX dX5_copyFrom_43 lf_X5_29 h1 rfl ?_
  refine J_putI hX dX5_copyFrom_46 lf_X5_29 lpt_4_4 h0 rfl fun G46 => ?_
  refine J_aload_n 0 hX dX5_copyFrom_49 fz0 rfl ?_
  refine J_aload_n 1 hX dX5_copyFrom_50 fz1 rfl ?_
  refine J_getI hX dX5_copyFrom_51 lf_X5_32 h1 rfl ?_
  refine J_putI hX dX5_copyFrom_54 lf_X5_32 lpt_4_5 h0 rfl fun G54 => ?_
  refine J_aload_n 1 hX dX5_copyFrom_57 fz1 rfl ?_
  refine J_getR (b := (v1 + 10)) hX dX5_copyFrom_58 lf_X5_35 h1 rfl (by decide) rfl ?_
  refine J_iconst hX dX5_copyFrom_61 ci_0 ?_
  refine J_aload_n 0 hX dX5_copyFrom_62 fz0 rfl ?_
  refine J_getR (b := (v0 + 10)) hX dX5_copyFrom_63 lf_X5_35 h0 rfl (by decide) rfl ?_
  refine J_iconst hX dX5_copyFrom_66 ci_0 ?_
  refine J_bipush hX dX5_copyFrom_67 cb_8 ?_
  refine J_cpI hX dX5_copyFrom_69 la_X5_62 (Nat.le_of_ble_eq_true rfl) (Nat.le_of_ble_eq_true rfl) (tp_4_6 h1) (tp_4_6 h0) (tl_4_6 h1) (tl_4_6 h0) fun G69 => ?_
  refine J_iconst hX dX5_copyFrom_72 ci_0 ?_
  refine J_istore_n (lv' := [(2, .int (0 : Int32)), (0, .ref (AD Y v0)), (1, .ref (AD Y v1))]) hX dX5_copyFrom_73 fz2 (Nat.le_of_ble_eq_true rfl) rfl ?_
  refine J_sub (lv' := [(0, .ref (AD Y v0)), (1, .ref (AD Y v1)), (2, .int (0 : Int32))]) [1, 2, 0] rfl ?_
  exact K74  FU (0 : Int32) G69
set_option maxHeartbeats 4000000 in
set_option maxRecDepth 100000 in
theorem ok_J7_fill_d0a16 {Y : DX} {v0 : Nat} {v1 : Int64} (h0 : SHk v0 = 12) {G : GM} {G' : GM} (hf : f_J7_fill_d0a16 v0 v1 G = some G') : OkV Y 1 M_J7_fill_d0a16 [.ref (AD Y v0), .long v1] G G' := by
  refine okV_of (lv0 := [(0, .ref (AD Y v0)), (1, .long v1)]) (by decide +kernel) rfl (Nat.le_of_ble_eq_true rfl) ?_
  intro X Q hX hR
  have hX : CXok X Y RJ7 cJ7_fill_d0a16 5 _ := hX
  revert hf
  show J X Y 5 Q 0 [(0, .ref (AD Y v0)), (1, .long v1)] [] G (f_J7_fill_d0a16 v0 v1 G = some G')
  have K6 : ∀ (v4 : Int32) (n : Nat) (v3 : Int32) (G : GM), J X Y 5 Q 6 [(0, .ref (AD Y v0)), (1, .long v1), (3, .int v3), (4, .int v4)] [] G (wl1 n (lp_J7_fill_d0a16_6 v0 v1 v4) v3 G = some G') := by
    intro v4
    refine wl1_ind (R := fun v3 G φ => J X Y 5 Q 6 [(0, .ref (AD Y v0)), (1, .long v1), (3, .int v3), (4, .int v4)] [] G φ) (fun _ G φ h => J_no h) ?_
    intro kc6 hk6 v3 G
    unfold lp_J7_fill_d0a16_6
    refine J_iload_n 2 hX dJ7_fill_d0a16_6 fz3 rfl ?_
    refine J_iload 3 hX dJ7_fill_d0a16_7 rfl ?_
    refine J_icmp_ge (tgt := 22) hX dJ7_fill_d0a16_9 rfl ?_ ?_
    · exact J_retV hR dJ7_fill_d0a16_22
    · refine J_aload_n 0 hX dJ7_fill_d0a16_12 fz0 rfl ?_
      refine J_iload_n 2 hX dJ7_fill_d0a16_13 fz3 rfl ?_
      refine J_lload_n 1 hX dJ7_fill_d0a16_14 fz1 rfl ?_
      refine J_last hX dJ7_fill_d0a16_15 h0 rfl fun G15 => ?_
      refine J_iinc (lv' := [(3, .int (v3 + (1 : Int32))), (0, .ref (AD Y v0)), (1, .long v1), (4, .int v4)]) 2 hX dJ7_fill_d0a16_16 rfl ci_1 (Nat.le_of_ble_eq_true rfl) rfl ?_
      refine J_goto (tgt := 6) hX dJ7_fill_d0a16_19 rfl ?_
      refine J_sub (lv' := [(0, .ref (AD Y v0)), (1, .long v1), (3, .int (v3 + (1 : Int32))), (4, .int v4)]) [1, 2, 0, 3] rfl ?_
      exact hk6 (v3 + (1 : Int32)) G15
  unfold f_J7_fill_d0a16
  refine J_iconst hX dJ7_fill_d0a16_0 ci_0 ?_
  refine J_istore_n (lv' := [(3, .int (0 : Int32)), (0, .ref (AD Y v0)), (1, .long v1)]) hX dJ7_fill_d0a16_1 fz3 (Nat.le_of_ble_eq_true rfl) rfl ?_
  refine J_aload_n 1 hX dJ7_fill_d0a16_2 fz0 rfl ?_
  refine J_alen hX dJ7_fill_d0a16_3 h0 (by decide) rfl ?_
  refine J_lt (mk := Value.int) fun x4 => ?_
  refine J_istore (lv' := [(4, .int x4), (3, .int (0 : Int32)), (0, .ref (AD Y v0)), (1, .long v1)]) hX dJ7_fill_d0a16_4 (Nat.le_of_ble_eq_true rfl) rfl ?_
  refine J_sub (lv' := [(0, .ref (AD Y v0)), (1, .long v1), (3, .int (0 : Int32)), (4, .int x4)]) [2, 3, 1, 0] rfl ?_
  exact K6 x4 FU (0 : Int32) G
set_option maxHeartbeats 4000000 in
set_option maxRecDepth 100000 in
theorem ok_X8_begin {Y : DX} {v1 : Int32} {v2 : Int32} {v3 : Int32}  {G : GM} {G' : GM} (hf : f_X8_begin v1 v2 v3 G = some G') : OkV Y 2 M_X8_begin [.ref (AD Y 62), .int v1, .int v2, .int v3] G G' := by
  refine okV_of (lv0 := [(0, .ref (AD Y 62)), (1, .int v1), (2, .int v2), (3, .int v3)]) (by decide +kernel) rfl (Nat.le_of_ble_eq_true rfl) ?_
  intro X Q hX hR
  have hX : CXok X Y RX8 cX8_begin 4 _ := hX
  revert hf
  show J X Y 4 Q 0 [(0, .ref (AD Y 62)), (1, .int v1), (2, .int v2), (3, .int v3)] [] G (f_X8_begin v1 v2 v3 G = some G')
  unfold f_X8_begin
  refine J_aload_n 0 hX dX8_begin_0 fz0 rfl ?_
  refine J_iload_n 1 hX dX8_begin_1 fz1 rfl ?_
  refine J_callVI (As := [.int v1]) (st := []) (b := 62) hX mv_X8_27 sk_62 rfl rfl rfl (Nat.le_of_ble_eq_true rfl) (Nat.le_of_ble_eq_true rfl) (Nat.le_of_ble_eq_true rfl) dX8_begin_2 (fun r G1 h => ok_X8_isSlot  h) fun r2 G2 => ?_
  refine J_if_eq (tgt := 49) hX dX8_begin_5 rfl ?_ ?_
  · exact J_retV hR dX8_begin_49
  · refine J_iload_n 3 hX dX8_begin_8 fz3 rfl ?_
    refine J_if_lt (tgt := 49) hX dX8_begin_9 rfl ?_ ?_
    · exact J_retV hR dX8_begin_49
    · refine J_iload_n 3 hX dX8_begin_12 fz3 rfl ?_
      refine J_bipush hX dX8_begin_13 cb_60 ?_
      refine J_icmp_gt (tgt := 49) hX dX8_begin_15 rfl ?_ ?_
      · exact J_retV hR dX8_begin_49
      · refine J_aload_n 0 hX dX8_begin_18 fz0 rfl ?_
        refine J_getR (b := 63) hX dX8_begin_19 lf_X8_13 sk_62 rfl (by decide) rfl ?_
        refine J_iload_n 1 hX dX8_begin_22 fz1 rfl ?_
        refine J_aald (b := (64 + v1.toNatClampNeg)) hX dX8_begin_23 sk_63 (by decide) ln_63 (p0_15 sk_63) fun hi23 => ?_
        refine J_lconst hX dX8_begin_24 fy0 ?_
        refine J_callSV (As := [.ref (AD Y (64 + v1.toNatClampNeg)), .long (0 : Int64)]) (st := []) hX ms_X8_42 rfl rfl (Nat.le_of_ble_eq_true rfl) (Nat.le_of_ble_eq_true rfl) (Nat.le_of_ble_eq_true rfl) dX8_begin_25 (fun G1 h => ok_J7_fill_d0a16 (row_el hi23).1 h) fun G25 => ?_
        refine J_aload_n 0 hX dX8_begin_28 fz0 rfl ?_
        refine J_getR (b := 68) hX dX8_begin_29 lf_X8_16 sk_62 rfl (by decide) rfl ?_
        refine J_iload_n 1 hX dX8_begin_32 fz1 rfl ?_
        refine J_iload_n 3 hX dX8_begin_33 fz3 rfl ?_
        refine J_iast hX dX8_begin_34 sk_68 ln_68 fun G34 => ?_
        refine J_aload_n 0 hX dX8_begin_35 fz0 rfl ?_
        refine J_getR (b := 69) hX dX8_begin_36 lf_X8_20 sk_62 rfl (by decide) rfl ?_
        refine J_iload_n 1 hX dX8_begin_39 fz1 rfl ?_
        refine J_iload_n 2 hX dX8_begin_40 fz2 rfl ?_
        refine J_iast hX dX8_begin_41 sk_69 ln_69 fun G41 => ?_
        refine J_aload_n 0 hX dX8_begin_42 fz0 rfl ?_
        refine J_getR (b := 70) hX dX8_begin_43 lf_X8_23 sk_62 rfl (by decide) rfl ?_
        refine J_iload_n 1 hX dX8_begin_46 fz1 rfl ?_
        refine J_iconst hX dX8_begin_47 ci_1 ?_
        refine J_zast hX dX8_begin_48 sk_70 ln_70 fun G48 => ?_
        exact J_retV hR dX8_begin_49
set_option maxHeartbeats 4000000 in
set_option maxRecDepth 100000 in
theorem ok_X8_cut {Y : DX} {v0 : Int64} {v2 : Int32}  {G : GM} {r : Int64} {G' : GM} (hf : f_X8_cut v0 v2 G = some (r, G')) : OkJ Y 1 M_X8_cut [.long v0, .int v2] G r G' := by
  refine okJ_of (lv0 := [(0, .long v0), (2, .int v2)]) (by decide +kernel) rfl (Nat.le_of_ble_eq_true rfl) ?_
  intro X Q hX hR
  have hX : CXok X Y RX8 cX8_cut 3 _ := hX
  revert hf
  show J X Y 3 Q 0 [(0, .long v0), (2, .int v2)] [] G (f_X8_cut v0 v2 G = some (r, G'))
  unfold f_X8_cut
  refine J_iload_n 1 hX dX8_cut_0 fz2 rfl ?_
  refine J_case (fun ht1_0 => ?_) (fun ht1_0 => ?_)
  · refine J_tswIn (off := 27) (tgt := 28) hX dX8_cut_1 (by rw [ht1_0]; decide) (by rw [ht1_0]; decide) (by rw [ht1_0]; decide +kernel) rfl ?_
    refine J_lload_n 0 hX dX8_cut_28 fz0 rfl ?_
    refine J_l2i hX dX8_cut_29 ?_
    refine J_i2b hX dX8_cut_30 ?_
    refine J_i2l hX dX8_cut_31 ?_
    exact J_retJ hR dX8_cut_32
  · refine J_case (fun ht1_1 => ?_) (fun ht1_1 => ?_)
    · refine J_tswIn (off := 32) (tgt := 33) hX dX8_cut_1 (by rw [ht1_1]; decide) (by rw [ht1_1]; decide) (by rw [ht1_1]; decide +kernel) rfl ?_
      refine J_lload_n 0 hX dX8_cut_33 fz0 rfl ?_
      refine J_l2i hX dX8_cut_34 ?_
      refine J_i2s hX dX8_cut_35 ?_
      refine J_i2l hX dX8_cut_36 ?_
      exact J_retJ hR dX8_cut_37
    · refine J_case (fun ht1_2 => ?_) (fun ht1_2 => ?_)
      · refine J_tswIn (off := 37) (tgt := 38) hX dX8_cut_1 (by rw [ht1_2]; decide) (by rw [ht1_2]; decide) (by rw [ht1_2]; decide +kernel) rfl ?_
        refine J_lload_n 0 hX dX8_cut_38 fz0 rfl ?_
        refine J_l2i hX dX8_cut_39 ?_
        refine J_i2l hX dX8_cut_40 ?_
        exact J_retJ hR dX8_cut_41
      · refine J_tswOut (tgt := 42) hX dX8_cut_1 (by have e_ht1_0 := ne_toInt ht1_0; rw [show ((0 : Int32).toInt) = 0 from by decide] at e_ht1_0; have e_ht1_1 := ne_toInt ht1_1; rw [show ((1 : Int32).toInt) = 1 from by decide] at e_ht1_1; have e_ht1_2 := ne_toInt ht1_2; rw [show ((2 : Int32).toInt) = 2 from by decide] at e_ht1_2; omega) rfl ?_
        refine J_lload_n 0 hX dX8_cut_42 fz0 rfl ?_
        exact J_retJ hR dX8_cut_43
set_option maxHeartbeats 4000000 in
set_option maxRecDepth 100000 in
theorem ok_X8_put {Y : DX} {v1 : Int32} {v2 : Int32} {v3 : Int64}  {G : GM} {G' : GM} (hf : f_X8_put v1 v2 v3 G = some G') : OkV Y 5 M_X8_put [.ref (AD Y 62), .int v1, .int v2, .long v3] G G' := by
  refine okV_of (lv0 := [(0, .ref (AD Y 62)), (1, .int v1), (2, .int v2), (3, .long v3)]) (by decide +kernel) rfl (Nat.le_of_ble_eq_true rfl) ?_
  intro X Q hX hR
  have hX : CXok X Y RX8 cX8_put 5 _ := hX
  revert hf
  show J X Y 5 Q 0 [(0, .ref (AD Y 62)), (1, .int v1), (2, .int v2), (3, .long v3)] [] G (f_X8_put v1 v2 v3 G = some G')
  unfold f_X8_put
  refine J_aload_n 0 hX dX8_put_0 fz0 rfl ?_
  refine J_iload_n 1 hX dX8_put_1 fz1 rfl ?_
  refine J_iload_n 2 hX dX8_put_2 fz2 rfl ?_
  refine J_iconst hX dX8_put_3 ci_1 ?_
  refine J_callVI (As := [.int v1, .int v2, .int (1 : Int32)]) (st := []) (b := 62) hX mv_X8_38 sk_62 rfl rfl rfl (Nat.le_of_ble_eq_true rfl) (Nat.le_of_ble_eq_true rfl) (Nat.le_of_ble_eq_true rfl) dX8_put_4 (fun r G1 h => ok_X8_holds  h) fun r4 G4 => ?_
  refine J_if_eq (tgt := 28) hX dX8_put_7 rfl ?_ ?_
  · exact J_retV hR dX8_put_28
  · refine J_aload_n 0 hX dX8_put_10 fz0 rfl ?_
    refine J_getR (b := 63) hX dX8_put_11 lf_X8_13 sk_62 rfl (by decide) rfl ?_
    refine J_iload_n 1 hX dX8_put_14 fz1 rfl ?_
    refine J_aald (b := (64 + v1.toNatClampNeg)) hX dX8_put_15 sk_63 (by decide) ln_63 (p0_15 sk_63) fun hi15 => ?_
    refine J_iload_n 2 hX dX8_put_16 fz2 rfl ?_
    refine J_lload_n 3 hX dX8_put_17 fz3 rfl ?_
    refine J_aload_n 0 hX dX8_put_18 fz0 rfl ?_
    refine J_getR (b := 69) hX dX8_put_19 lf_X8_20 sk_62 rfl (by decide) rfl ?_
    refine J_iload_n 1 hX dX8_put_22 fz1 rfl ?_
    refine J_iald hX dX8_put_23 sk_69 ln_69 ?_
    refine J_callSJ (As := [.long v3, .int (gI G4 69 v1.toNatClampNeg)]) (st := [.int v2, .ref (AD Y (64 + v1.toNatClampNeg))]) hX ms_X8_48 rfl rfl (Nat.le_of_ble_eq_true rfl) (Nat.le_of_ble_eq_true rfl) (Nat.le_of_ble_eq_true rfl) dX8_put_24 (fun r G1 h => ok_X8_cut  h) fun r24 G24 => ?_
    refine J_last hX dX8_put_27 (row_el hi15).1 (row_el hi15).2 fun G27 => ?_
    exact J_retV hR dX8_put_28
set_option maxHeartbeats 4000000 in
set_option maxRecDepth 100000 in
theorem ok_X8_areOfOneWidth {Y : DX} {v1 : Int32} {v2 : Int32}  {G : GM} {r : Int32} {G' : GM} (hf : f_X8_areOfOneWidth v1 v2 G = some (r, G')) : OkI Y 2 M_X8_areOfOneWidth [.ref (AD Y 62), .int v1, .int v2] G r G' := by
  refine okZ_of (lv0 := [(0, .ref (AD Y 62)), (1, .int v1), (2, .int v2)]) (by decide +kernel) rfl (Nat.le_of_ble_eq_true rfl) ?_
  intro X Q hX hR
  have hX : CXok X Y RX8 cX8_areOfOneWidth 3 _ := hX
  revert hf
  show J X Y 3 Q 0 [(0, .ref (AD Y 62)), (1, .int v1), (2, .int v2)] [] G (f_X8_areOfOneWidth v1 v2 G = some (r, G'))
  unfold f_X8_areOfOneWidth
  refine J_aload_n 0 hX dX8_areOfOneWidth_0 fz0 rfl ?_
  refine J_iload_n 1 hX dX8_areOfOneWidth_1 fz1 rfl ?_
  refine J_callVI (As := [.int v1]) (st := []) (b := 62) hX mv_X8_27 sk_62 rfl rfl rfl (Nat.le_of_ble_eq_true rfl) (Nat.le_of_ble_eq_true rfl) (Nat.le_of_ble_eq_true rfl) dX8_areOfOneWidth_2 (fun r G1 h => ok_X8_isSlot  h) fun r2 G2 => ?_
  refine J_if_eq (tgt := 35) hX dX8_areOfOneWidth_5 rfl ?_ ?_
  · refine J_iconst hX dX8_areOfOneWidth_35 ci_0 ?_
    exact J_retZ hR (by decide) dX8_areOfOneWidth_36
  · refine J_aload_n 0 hX dX8_areOfOneWidth_8 fz0 rfl ?_
    refine J_iload_n 2 hX dX8_areOfOneWidth_9 fz2 rfl ?_
    refine J_callVI (As := [.int v2]) (st := []) (b := 62) hX mv_X8_27 sk_62 rfl rfl rfl (Nat.le_of_ble_eq_true rfl) (Nat.le_of_ble_eq_true rfl) (Nat.le_of_ble_eq_true rfl) dX8_areOfOneWidth_10 (fun r G1 h => ok_X8_isSlot  h) fun r10 G10 => ?_
    refine J_if_eq (tgt := 35) hX dX8_areOfOneWidth_13 rfl ?_ ?_
    · refine J_iconst hX dX8_areOfOneWidth_35 ci_0 ?_
      exact J_retZ hR (by decide) dX8_areOfOneWidth_36
    · refine J_aload_n 0 hX dX8_areOfOneWidth_16 fz0 rfl ?_
      refine J_getR (b := 69) hX dX8_areOfOneWidth_17 lf_X8_20 sk_62 rfl (by decide) rfl ?_
      refine J_iload_n 1 hX dX8_areOfOneWidth_20 fz1 rfl ?_
      refine J_iald hX dX8_areOfOneWidth_21 sk_69 ln_69 ?_
      refine J_aload_n 0 hX dX8_areOfOneWidth_22 fz0 rfl ?_
      refine J_getR (b := 69) hX dX8_areOfOneWidth_23 lf_X8_20 sk_62 rfl (by decide) rfl ?_
      refine J_iload_n 2 hX dX8_areOfOneWidth_26 fz2 rfl ?_
      refine J_iald hX dX8_areOfOneWidth_27 sk_69 ln_69 ?_
      refine J_icmp_ne (tgt := 35) hX dX8_areOfOneWidth_28 rfl ?_ ?_
      · refine J_iconst hX dX8_areOfOneWidth_35 ci_0 ?_
        exact J_retZ hR (by decide) dX8_areOfOneWidth_36
      · refine J_iconst hX dX8_areOfOneWidth_31 ci_1 ?_
        refine J_goto (tgt := 36) hX dX8_areOfOneWidth_32 rfl ?_
        exact J_retZ hR (by decide) dX8_areOfOneWidth_36
set_option maxHeartbeats 4000000 in
set_option maxRecDepth 100000 in
theorem ok_X8_move {Y : DX} {v1 : Int32} {v2 : Int32} {v3 : Int32} {v4 : Int32} {v5 : Int32}  {G : GM} {G' : GM} (hf : f_X8_move v1 v2 v3 v4 v5 G = some G') : OkV Y 5 M_X8_move [.ref (AD Y 62), .int v1, .int v2, .int v3, .int v4, .int v5] G G' := by
  refine okV_of (lv0 := [(0, .ref (AD Y 62)), (1, .int v1), (2, .int v2), (3, .int v3), (4, .int v4), (5, .int v5)]) (by decide +kernel) rfl (Nat.le_of_ble_eq_true rfl) ?_
  intro X Q hX hR
  have hX : CXok X Y RX8 cX8_move 6 _ := hX
  revert hf
  show J X Y 6 Q 0 [(0, .ref (AD Y 62)), (1, .int v1), (2, .int v2), (3, .int v3), (4, .int v4), (5, .int v5)] [] G (f_X8_move v1 v2 v3 v4 v5 G = some G')
  unfold f_X8_move
  refine J_aload_n 0 hX dX8_move_0 fz0 rfl ?_
  refine J_iload_n 1 hX dX8_move_1 fz1 rfl ?_
  refine J_iload_n 2 hX dX8_move_2 fz2 rfl ?_
  refine J_iload 5 hX dX8_move_3 rfl ?_
  refine J_callVI (As := [.int v1, .int v2, .int v5]) (st := []) (b := 62) hX mv_X8_38 sk_62 rfl rfl rfl (Nat.le_of_ble_eq_true rfl) (Nat.le_of_ble_eq_true rfl) (Nat.le_of_ble_eq_true rfl) dX8_move_5 (fun r G1 h => ok_X8_holds  h) fun r5 G5 => ?_
  refine J_if_eq (tgt := 43) hX dX8_move_8 rfl ?_ ?_
  · exact J_retV hR dX8_move_43
  · refine J_aload_n 0 hX dX8_move_11 fz0 rfl ?_
    refine J_iload_n 3 hX dX8_move_12 fz3 rfl ?_
    refine J_iload 4 hX dX8_move_13 rfl ?_
    refine J_iload 5 hX dX8_move_15 rfl ?_
    refine J_callVI (As := [.int v3, .int v4, .int v5]) (st := []) (b := 62) hX mv_X8_38 sk_62 rfl rfl rfl (Nat.le_of_ble_eq_true rfl) (Nat.le_of_ble_eq_true rfl) (Nat.le_of_ble_eq_true rfl) dX8_move_17 (fun r G1 h => ok_X8_holds  h) fun r17 G17 => ?_
    refine J_if_eq (tgt := 43) hX dX8_move_20 rfl ?_ ?_
    · exact J_retV hR dX8_move_43
    · refine J_aload_n 0 hX dX8_move_23 fz0 rfl ?_
      refine J_getR (b := 63) hX dX8_move_24 lf_X8_13 sk_62 rfl (by decide) rfl ?_
      refine J_iload_n 1 hX dX8_move_27 fz1 rfl ?_
      refine J_aald (b := (64 + v1.toNatClampNeg)) hX dX8_move_28 sk_63 (by decide) ln_63 (p0_15 sk_63) fun hi28 => ?_
      refine J_iload_n 2 hX dX8_move_29 fz2 rfl ?_
      refine J_aload_n 0 hX dX8_move_30 fz0 rfl ?_
      refine J_getR (b := 63) hX dX8_move_31 lf_X8_13 sk_62 rfl (by decide) rfl ?_
      refine J_iload_n 3 hX dX8_move_34 fz3 rfl ?_
      refine J_aald (b := (64 + v3.toNatClampNeg)) hX dX8_move_35 sk_63 (by decide) ln_63 (p0_15 sk_63) fun hi35 => ?_
      refine J_iload 4 hX dX8_move_36 rfl ?_
      refine J_iload 5 hX dX8_move_38 rfl ?_
      refine J_cpJ hX dX8_move_40 la_X8_52 (Nat.le_of_ble_eq_true rfl) (Nat.le_of_ble_eq_true rfl) (row_el hi28).1 (row_el hi35).1 (row_el hi28).2 (row_el hi35).2 fun G40 => ?_
      exact J_retV hR dX8_move_43
